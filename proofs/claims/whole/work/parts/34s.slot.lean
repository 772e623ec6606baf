/-! slot, at -/
theorem op6 (p1 p2 : Int32) (M : Mm) (K : Mm → Prop) (hV : V M) (hK : ∀ m, V m → K m) : OP6 p1 p2 M K := by
  have hF := hV.1
  have ne1 : ¬ (1 : Int32) = 0 := by decide
  have hV' := hV
  obtain ⟨h1, h2, h3, h4, h5, h6, h7, h8, h9, h10, h11, h12, h13, h14, h15, h16, h17, h18, h19⟩ := hV'
  obtain ⟨A, B, q1, q2, q3, q4, q5, q6⟩ := h15
  have hend : ∀ r, AN r K r (stI M 142 0 0) := fun r => an_ok rfl (hK _ (V_thr _ hV))
  unfold OP6 f_X10_slot
  have ref : (p1 < 0 ∨ (7 : Int32) < p1 ∨ p2 < 0 ∨ (255 : Int32) < p2) → f_X11_slot S0 142 p1 p2 M (AN (-1) K) := by
    intro hx
    unfold f_X11_slot
    simp only [forall_eq]
    refine f_in 7 rfl (fun a b => ⟨fun z => absurd z ne1, fun _ => ?_⟩) (fun _ => ⟨fun _ => hend _, fun z => absurd rfl z⟩)
    refine f_in 255 rfl (fun a2 b2 => ?_) (fun _ => ⟨fun _ => hend _, fun z => absurd rfl z⟩)
    rcases hx with h | h | h | h
    · exact absurd h a
    · exact absurd h b
    · exact absurd h a2
    · exact absurd h b2
  have l87 : ¬ p1 < 0 → ((8 : Int32) ≤ p1 ↔ (7 : Int32) < p1) := fun h => by
    obtain ⟨k, hk, rfl⟩ := nI_of h
    rw [show (8 : Int32) = nI 8 from rfl, show (7 : Int32) = nI 7 from rfl, nI_leI (by omega) hk, nI_ltI (by omega) hk]
    omega
  refine ⟨fun h => ref (Or.inl h), fun g1 => ⟨fun h => ref (Or.inr (Or.inl ((l87 g1).mp h))), fun g2 => ⟨fun h => ref (Or.inr (Or.inr (Or.inl h))), fun g3 => ⟨fun g4 => ?_, fun h => ref (Or.inr (Or.inr (Or.inr (Int32.not_le.mp h))))⟩⟩⟩⟩
  obtain ⟨k, hk, rfl⟩ := nI_of g1
  obtain ⟨v, hv, rfl⟩ := nI_of g3
  have hk8 : k < 8 := by
    rcases Nat.lt_or_ge k 8 with z | z
    · exact z
    · exact absurd (show nI 8 ≤ nI k from nI_le z hk) g2
  have hv8 : v ≤ 255 := (nI_leI hv (by omega)).mp (show nI v ≤ nI 255 from g4)
  simp only [fx_0_3 hF, ex_some, s0_113, true_and]
  unfold f_X4_slotValue
  rw [q4, rdS k q1 hk8]
  simp only [fx_0_3 hF, ex_some, s0_113, true_and]
  refine putSlot_ok hk8 q4 ?_
  have ek : (nI v).toBitVec.toNat % 256 = v := by rw [pk_tn (by omega)]; omega
  rw [ek]
  unfold f_X11_slot
  simp only [forall_eq]
  have hin : vp_in (nI k) 8 := vp_in_nI hk8 (by omega)
  have hcl : (nI k).toNatClampNeg = k := nI_clamp hk
  refine f_in 7 rfl (fun a b => ⟨fun z => absurd z ne1, fun _ => ?_⟩) (fun w => (w.elim g1 (fun w => g2 ((l87 g1).mpr w))).elim)
  refine f_in 255 rfl (fun a b => ⟨fun z => absurd z ne1, fun _ => ?_⟩) (fun w => (w.elim g3 (fun w => absurd g4 (Int32.not_le.mpr w))).elim)
  simp only [rIr, rJr, fx_142_22 hF, ex_some, shp_ne (show (153 : Nat) ≠ 100000 by decide), s0_153, ex_sh, hin, hcl, true_and]
  refine an_ok (q3.1 k hk8).symm (hK _ ?_)
  refine V_mk hV (Fr_I rfl (Fr_I rfl (Fr_J rfl (Fr_refl _ _ _)))) (V_txt_ag (M := M) rfl rfl rfl rfl h2) (V_told_ag (M := M) rfl rfl rfl rfl h7) (V_last_ag (M := M) rfl rfl rfl rfl rfl rfl rfl h8) ?_ (V_walk_ag (M := M) rfl rfl rfl rfl h17)
  refine ⟨put A (8 * k) 8 v, B, put_ltn q1 (by omega) (by omega), q2, MS_slot (by omega) q3, rfl, q5, q6⟩
/-- the law's comparing of at -/
def AT (z : Int32) (K : Mm → Prop) : Int32 → Mm → Prop := fun r' m2 => f_X11_thrown S0 142 m2 (fun (r2 : Int32) (m3 : Mm) => ((r2 = z → ((z = 0 → ∃ n : Nat, S0[191]? = some (53, n) ∧ vp_in (0 : Int32) n ∧ (((m3.2.1 191 (0 : Int32).toNatClampNeg) = r'.toInt64 → K m3) ∧ (¬ (m3.2.1 191 (0 : Int32).toNatClampNeg) = r'.toInt64 → False))) ∧ (¬ z = 0 → K m3))) ∧ (¬ r2 = z → False)))
theorem at0_ok {K : Mm → Prop} {r' : Int32} {m : Mm} (h0 : m.1 142 0 = 0) (h1 : m.2.1 191 0 = r'.toInt64) (hk : K m) : AT 0 K r' m := by
  have hin0 : vp_in (0 : Int32) 1 := by unfold vp_in; decide
  unfold AT f_X11_thrown
  exact ⟨fun _ => ⟨fun _ => ⟨1, s0_191, hin0, fun _ => hk, fun z => z h1⟩, fun z => absurd rfl z⟩, fun z => z h0⟩
theorem at1_ok {K : Mm → Prop} {r' : Int32} {m : Mm} (h0 : m.1 142 0 = 1) (hk : K m) : AT 1 K r' m := by
  unfold AT f_X11_thrown
  exact ⟨fun _ => ⟨fun z => absurd z (by decide), fun _ => hk⟩, fun z => z h0⟩
theorem op11 (p1 : Int32) (M : Mm) (K : Mm → Prop) (hV : V M) (hK : ∀ m, V m → K m) : OP11 p1 M K := by
  have hF := hV.1
  have ne1 : ¬ (1 : Int32) = 0 := by decide
  have hV' := hV
  obtain ⟨h1, h2, h3, h4, h5, h6, h7, h8, h9, h10, h11, h12, h13, h14, h15, h16, h17, h18, h19⟩ := hV'
  obtain ⟨A, B, q1, q2, q3, q4, q5, q6⟩ := h15
  obtain ⟨nt, nb, on, np, a1, a2, a3, a4, b1, b2, -⟩ := h9
  have hin0 : vp_in (0 : Int32) 1 := by unfold vp_in; decide
  show f_X10_at S0 0 p1 M (fun (r : Int32) (m1 : Mm) => ∃ n : Nat, S0[191]? = some (53, n) ∧ vp_in (0 : Int32) n ∧ ∀ m2 : Mm, m2 = stJ m1 191 (0 : Int32).toNatClampNeg r.toInt64 → f_X11_at S0 142 p1 m2 (AT 0 K)) (fun m1 => f_X11_at S0 142 p1 m1 (AT 1 K))
  unfold f_X10_at
  have ref : (p1 < 0 ∨ (23 : Int32) < p1) → f_X11_at S0 142 p1 M (AT 1 K) := by
    intro hx
    unfold f_X11_at f_X11_refuse
    simp only [forall_eq]
    refine f_in 23 rfl (fun a b => (hx.elim a b).elim) (fun _ => ⟨fun _ => at1_ok rfl (hK _ (V_thr _ (V_thr _ hV))), fun z => absurd rfl z⟩)
  refine ⟨fun h => ref (Or.inl h), fun g1 => ⟨fun g2 => ?_, fun h => ref (Or.inr (Int32.not_le.mp h))⟩⟩
  obtain ⟨k, hk, rfl⟩ := nI_of g1
  have hk2 : k ≤ 23 := (nI_leI hk (by omega)).mp (show nI k ≤ nI 23 from g2)
  have lit : ∀ n : Nat, n < 2 ^ 31 → (nI n ≤ nI k ↔ n ≤ k) := fun n hn => nI_leI hn hk
  have fin : ∀ (r : Int32), K (stI (stJ M 191 (0 : Int32).toNatClampNeg r.toInt64) 142 0 0) := fun r => hK _ (V_thr _ (V_out hV))
  have e4 : nI k - nI k / (4 : Int32) * (4 : Int32) = nI (k % 4) := by
    have := pk_rem hk (d := 4) (by omega) (by omega)
    exact this
  have hin4 : vp_in (nI (k % 4)) 4 := vp_in_nI (by omega) (by omega)
  have hcl4 : (nI (k % 4)).toNatClampNeg = k % 4 := nI_clamp (by omega)
  have hcl : (nI k).toNatClampNeg = k := nI_clamp hk
  have ans : ∀ (r r' : Int32), r = r' → AT 0 K r' (stI (stJ M 191 (0 : Int32).toNatClampNeg r.toInt64) 142 0 0) := fun r r' e => at0_ok rfl (by rw [← e]; rfl) (fin r)
  have model : ∀ r : Int32, (r = if k < 8 then nI (qS A k) else if k < 12 then (if qT B (k % 4) = 0 then nI (qA B (k % 4)) else 4) else if k < 16 then nI (qA B (k % 4)) else if k < 20 then nI (qT B (k % 4)) else if k % 4 < nt then nI (qL B (k % 4)) else -1) → f_X11_at S0 142 (nI k) (stJ M 191 (0 : Int32).toNatClampNeg r.toInt64) (AT 0 K) := by
    intro r hr
    unfold f_X11_at
    simp only [forall_eq]
    refine f_in 23 rfl (fun a b => ⟨fun z => absurd z ne1, fun _ => ?_⟩) (fun w => (w.elim g1 (fun w => absurd g2 (Int32.not_le.mpr w))).elim)
    rw [e4]
    rw [show (8 : Int32) = nI 8 from rfl, show (12 : Int32) = nI 12 from rfl, show (16 : Int32) = nI 16 from rfl, show (20 : Int32) = nI 20 from rfl, lit 8 (by omega), lit 12 (by omega), lit 16 (by omega), lit 20 (by omega)]
    simp only [rIr, rJr, fx_142_22 hF, fx_142_23 hF, fx_142_24 hF, fx_142_25 hF, ex_some, shp_ne (show (153 : Nat) ≠ 100000 by decide), shp_ne (show (154 : Nat) ≠ 100000 by decide), shp_ne (show (155 : Nat) ≠ 100000 by decide), shp_ne (show (156 : Nat) ≠ 100000 by decide), s0_153, s0_154, s0_155, s0_156, ex_sh, hin4, hcl4, hcl, true_and]
    rw [show (stI (stJ M 191 (0 : Int32).toNatClampNeg r.toInt64) 142 0 0).1 142 15 = nI nt from b2, show (stI (stJ M 191 (0 : Int32).toNatClampNeg r.toInt64) 142 0 0).1 156 (k % 4) = _ from (q3.2 (k % 4) (by omega)).2.2, show (stI (stJ M 191 (0 : Int32).toNatClampNeg r.toInt64) 142 0 0).1 155 (k % 4) = _ from (q3.2 (k % 4) (by omega)).2.1, show (stI (stJ M 191 (0 : Int32).toNatClampNeg r.toInt64) 142 0 0).1 154 (k % 4) = _ from (q3.2 (k % 4) (by omega)).1]
    have hT := qT_lt B (k % 4)
    refine ⟨fun w1 => ⟨fun w2 => ⟨fun w3 => ⟨fun w4 => ⟨fun w5 => ?_, fun w5 => ?_⟩, fun w4 => ?_⟩, fun w3 => ?_⟩, fun w2 => ⟨fun w5 => ?_, fun w5 => ?_⟩⟩, fun w1 => ?_⟩
    · refine ans r _ ?_
      rw [nI_leI (by omega) (by omega)] at w5
      rw [hr, if_neg (by omega), if_neg (by omega), if_neg (by omega), if_neg (by omega), if_neg (by omega)]
    · refine ans r _ ?_
      rw [nI_leI (by omega) (by omega)] at w5
      rw [hr, if_neg (by omega), if_neg (by omega), if_neg (by omega), if_neg (by omega), if_pos (by omega)]
    · refine ans r _ ?_
      rw [hr, if_neg (by omega), if_neg (by omega), if_neg (by omega), if_pos (by omega)]
    · refine ans r _ ?_
      rw [hr, if_neg (by omega), if_neg (by omega), if_pos (by omega)]
    · refine ans r _ ?_
      rw [show (0 : Int32) = nI 0 from rfl, nI_leI (by omega) (by omega)] at w5
      rw [hr, if_neg (by omega), if_pos (by omega), if_pos (by omega)]
    · refine ans r _ ?_
      rw [show (0 : Int32) = nI 0 from rfl, nI_leI (by omega) (by omega)] at w5
      rw [hr, if_neg (by omega), if_pos (by omega), if_neg (by omega)]
    · have hin8 : vp_in (nI k) 8 := vp_in_nI (by omega) (by omega)
      refine ⟨hin8, ans r _ ?_⟩
      rw [show (stI (stJ M 191 (0 : Int32).toNatClampNeg r.toInt64) 142 0 0).1 153 k = _ from q3.1 k (by omega), hr, if_pos (by omega)]
  simp only [fx_0_2 hF, fx_0_3 hF, ex_some, s0_11, s0_113, s0_191, ex_sh, true_and, hin0, forall_eq]
  rw [show (8 : Int32) = nI 8 from rfl, show (12 : Int32) = nI 12 from rfl, show (16 : Int32) = nI 16 from rfl, show (20 : Int32) = nI 20 from rfl, lit 8 (by omega), lit 12 (by omega), lit 16 (by omega), lit 20 (by omega), b1]
  unfold f_X4_lineOf f_X4_tenthsOf f_X4_tenthsIn f_X4_targetOf f_X4_slotValue f_X4_placeOf
  refine ⟨fun w1 => ⟨fun w2 => ⟨fun w3 => ⟨fun w4 => ?_, fun w4 => ?_⟩, fun w3 => ?_⟩, fun w2 => ?_⟩, fun w1 => ?_⟩
  · rw [pk_sub w4, q5, rdL (k - 20) (by omega) (by omega), nI_leI (by omega) (by omega)]
    refine ⟨fun w5 => model _ ?_, fun w5 => model _ ?_⟩
    · rw [if_neg (by omega), if_neg (by omega), if_neg (by omega), if_neg (by omega), if_neg (by omega)]
    · rw [if_neg (by omega), if_neg (by omega), if_neg (by omega), if_neg (by omega), if_pos (by omega), show k - 20 = k % 4 by omega]
  · rw [pk_sub w3, q5, rdT (k - 16) (by omega) (by omega)]
    refine model _ ?_
    rw [if_neg (by omega), if_neg (by omega), if_neg (by omega), if_pos (by omega), show k - 16 = k % 4 by omega]
  · have e3 := rd6 (B := B) (k - 12) 2 (by omega) (by omega) (by omega)
    rw [show nI (2 ^ 2 - 1) = (3 : Int32) from rfl] at e3
    rw [pk_sub w2, q5, e3]
    refine model _ ?_
    rw [if_neg (by omega), if_neg (by omega), if_pos (by omega), show k - 12 = k % 4 by omega]
    rfl
  · rw [pk_sub w1, q5]
    refine place_ok (K := fun r25 m23 => f_X11_at S0 142 (nI k) (stJ m23 191 (0 : Int32).toNatClampNeg r25.toInt64) (AT 0 K)) (by omega) (by omega) (model _ ?_)
    rw [show k - 8 = k % 4 by omega, if_neg (show ¬ k < 8 by omega), if_pos (show k < 12 by omega)]
  · rw [q4, rdS k q1 (by omega)]
    refine model _ ?_
    rw [if_pos (by omega)]
