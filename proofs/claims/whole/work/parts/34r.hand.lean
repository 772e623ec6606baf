/-! steps by hand: step, steps -/
/-! V of a memory that differs in what V says little of -/
/-- ints that only V_txt, V_told, V_last, V_now, V_walk may speak of -/
def DV : Nat → Nat → Bool := fun b j => b == 1 || b == 2 || b == 3 || b == 10 || b == 19 || (104 ≤ b && b ≤ 117 : Bool) || b == 120 || (b == 0 && j == 12) || (b == 142 && (j == 0 || j == 1 || (4 ≤ j && j ≤ 8 : Bool) || j == 13 || (28 ≤ j && j ≤ 32 : Bool) || j == 37 || (44 ≤ j && j ≤ 52 : Bool) || (62 ≤ j && j ≤ 66 : Bool))) || b == 143 || b == 144 || b == 149 || (153 ≤ b && b ≤ 156 : Bool) || (160 ≤ b && b ≤ 170 : Bool) || b == 172 || (174 ≤ b && b ≤ 176 : Bool) || b == 184 || b == 191
def EV : Nat → Bool := fun b => b == 10 || (104 ≤ b && b ≤ 117 : Bool) || b == 142 || b == 143 || (160 ≤ b && b ≤ 170 : Bool) || b == 174 || b == 191
theorem DV_prc {a : Nat} (ha : prc a) (j : Nat) : DV a j = false := by
  unfold prc at ha
  unfold DV
  simp only [Bool.or_eq_false_iff, Bool.and_eq_false_iff, beq_eq_false_iff_ne, decide_eq_false_iff_not]
  omega
theorem DV_rng {a : Nat} (ha : (121 ≤ a ∧ a ≤ 141) ∨ (145 ≤ a ∧ a ≤ 148) ∨ (150 ≤ a ∧ a ≤ 152) ∨ (157 ≤ a ∧ a ≤ 159) ∨ (177 ≤ a ∧ a ≤ 183) ∨ (185 ≤ a ∧ a ≤ 190)) (j : Nat) : DV a j = false := by
  unfold DV
  simp only [Bool.or_eq_false_iff, Bool.and_eq_false_iff, beq_eq_false_iff_ne, decide_eq_false_iff_not]
  omega
theorem EV_rng {a : Nat} (ha : (118 ≤ a ∧ a ≤ 141) ∨ (175 ≤ a ∧ a ≤ 190)) : EV a = false := by
  unfold EV
  simp only [Bool.or_eq_false_iff, Bool.and_eq_false_iff, beq_eq_false_iff_ne, decide_eq_false_iff_not]
  omega
theorem V_mk {M M' : Mm} (h : V M) (fr : Fr DV EV M M') (w1 : V_txt M') (w2 : V_told M') (w3 : V_last M') (w4 : V_now M') (w5 : V_walk M') : V M' := by
  obtain ⟨h1, h2, h3, h4, h5, h6, h7, h8, h9, h10, h11, h12, h13, h14, h15, h16, h17, h18, h19⟩ := h
  have ep : ∀ a, prc a → M'.1 a = M.1 a := fun a ha => Fr_row fr a (DV_prc ha)
  have rr := fr.2.2
  have R : ∀ a, (∀ j, DV a j = false) → M'.1 a = M.1 a := fun a ha => Fr_row fr a ha
  have I : ∀ a j, DV a j = false → M'.1 a j = M.1 a j := fr.1
  have rg : ∀ a, ((121 ≤ a ∧ a ≤ 141) ∨ (145 ≤ a ∧ a ≤ 148) ∨ (150 ≤ a ∧ a ≤ 152) ∨ (157 ≤ a ∧ a ≤ 159) ∨ (177 ≤ a ∧ a ≤ 183) ∨ (185 ≤ a ∧ a ≤ 190)) → M'.1 a = M.1 a := fun a ha => R a (DV_rng ha)
  have jg : ∀ a, ((118 ≤ a ∧ a ≤ 141) ∨ (175 ≤ a ∧ a ≤ 190)) → M'.2.1 a = M.2.1 a := fun a ha => fr.2.1 a (EV_rng ha)
  refine ⟨FX_ag rr h1, w1, V_typ_ag (I _ _ rfl) (I _ _ rfl) (R _ fun _ => rfl) (R _ fun _ => rfl) h3, V_spd_ag (R _ fun _ => rfl) (R _ fun _ => rfl) h4, V_key_ag (I _ _ rfl) (I _ _ rfl) h5, V_wgt_ag (R _ fun _ => rfl) (R _ fun _ => rfl) (R _ fun _ => rfl) (R _ fun _ => rfl) h6, w2, w3, V_cnt_ag (I _ _ rfl) (I _ _ rfl) (I _ _ rfl) (I _ _ rfl) (I _ _ rfl) (I _ _ rfl) (I _ _ rfl) (I _ _ rfl) (I _ _ rfl) h9, V_prg_ag rr h10, V_task_ag (by rw [rr]) ep (I _ _ rfl) (rg _ (by omega)) (rg _ (by omega)) (rg _ (by omega)) (rg _ (by omega)) (rg _ (by omega)) (rg _ (by omega)) (rg _ (by omega)) h11, V_must_ag (by rw [rr]) ep (I _ _ rfl) (rg _ (by omega)) (rg _ (by omega)) h12, V_bolt_ag (by rw [rr]) ep (I _ _ rfl) (rg _ (by omega)) (rg _ (by omega)) h13, V_ptch_ag (M := M) (M' := M') (by rw [rr]) ep (I _ _ rfl) (I _ _ rfl) (R _ fun _ => rfl) (R _ fun _ => rfl) (R _ fun _ => rfl) (R _ fun _ => rfl) (R _ fun _ => rfl) (R _ fun _ => rfl) (R _ fun _ => rfl) (R _ fun _ => rfl) h14, w4, V_kept_ag (fun a h1 h2 => ⟨rg a (by omega), jg a (by omega)⟩) (fun a h1 h2 => ⟨rg a (by omega), jg a (by omega)⟩) (I _ _ rfl) (I _ _ rfl) (rg _ (by omega)) h16, w5, V_hous_ag (rg _ (by omega)) (I _ _ rfl) (I _ _ rfl) (fun a h1 h2 => rg a (by omega)) (fun a h1 h2 => rg a (by omega)) h18, V_tell_ag (rg _ (by omega)) (fun a h1 h2 => rg a (by omega)) h19⟩
/-- the machine as numbers, out of V -/
theorem rol_0 (pt pl : Nat → Nat) (t i : Nat) : ∀ n, rol 0 pt pl t i n = 16 * t + i
  | 0 => rfl
  | n + 1 => by unfold rol; rw [if_neg (by simp)]; exact rol_0 pt pl t i n
theorem PE_of {M : Mm} {p i kd nu : Nat} {e : List Nat} (hi : i < 16) (hl : nI i < M.1 p 6) (h : LnC M p i kd nu e) : LC M p i (kd, nu, e) := ⟨h.1, h.2.1, hi, hl, h.2.2⟩
theorem PE_xp {M : Mm} {p r : Nat} (h : XP M p r) : ∃ e, WFx e ∧ PE M p 0 e ∧ RwM M r e := by
  obtain ⟨h1, e, h2, h3, h4, h5, h6⟩ := h
  exact ⟨e, h2, ⟨by omega, by rw [h1]; decide, 0, by have := h2.2; omega, h3, by rw [show 0 + e.length = e.length by omega]; exact h4, fun j hj => by rw [Nat.zero_add]; exact h5 j hj⟩, h6⟩
theorem cf_of {M : Mm} (hV : V M) : ∃ C : Cf, CC M C ∧ CM M C := by
  obtain ⟨h1, h2, h3, h4, h5, h6, h7, h8, h9, h10, h11, h12, h13, h14, h15, h16, h17, h18, h19⟩ := hV
  obtain ⟨nt, nb, on, np, a1, a2, a3, a4, b1, b2, b3, b4, b5, b6, b7, b8, b9⟩ := h9
  have on8 : on < 8 := by
    have : 2 ^ nb ≤ 2 ^ 3 := Nat.pow_le_pow_right (by omega) a2
    omega
  have e1 : ∀ t : Nat, ∃ n : Nat, t < nt → ∃ p : Nat, p ∈ PR ∧ M.2.2 12 t = some p ∧ 1 ≤ n ∧ n ≤ 16 ∧ M.1 p 6 = nI n ∧ M.1 150 t = nI n ∧ ∀ i, i < n → LN M p i (16 * t + i) := by
    intro t
    by_cases ht : t < nt
    · obtain ⟨p, n, z, q1, q2, q3, q4, q5, q6, q7, q8, -⟩ := h11 t (by omega) (by rw [b1]; exact nI_lt ht (by omega))
      exact ⟨n, fun _ => ⟨p, q1, q2, q3, q4, q6, q7, q8⟩⟩
    · exact ⟨0, fun z => absurd z ht⟩
  obtain ⟨n, hn⟩ := Classical.skolem.mp e1
  have e2 : ∀ x : Nat × Nat, ∃ l : Nat × Nat × List Nat, x.1 < nt → x.2 < n x.1 → ∃ p : Nat, M.2.2 12 x.1 = some p ∧ LnOk l.1 l.2.1 l.2.2 ∧ LC M p x.2 l ∧ LnM M (16 * x.1 + x.2) l.1 l.2.1 l.2.2 := by
    intro x
    by_cases ht : x.1 < nt
    · by_cases hi : x.2 < n x.1
      · obtain ⟨p, q1, q2, q3, q4, q5, q6, q7⟩ := hn x.1 ht
        obtain ⟨kd, nu, e, w1, w2, w3⟩ := q7 x.2 hi
        exact ⟨(kd, nu, e), fun _ _ => ⟨p, q2, w1, PE_of (by omega) (by rw [q5]; exact nI_lt hi (by omega)) w2, w3⟩⟩
      · exact ⟨(0, 0, []), fun _ z => absurd z hi⟩
    · exact ⟨(0, 0, []), fun z => absurd z ht⟩
  obtain ⟨ln, hln⟩ := Classical.skolem.mp e2
  have e3 : ∀ b : Nat, ∃ e : List Nat, b < nb → ∃ p : Nat, p ∈ PR ∧ M.2.2 13 b = some p ∧ WFx e ∧ PE M p 0 e ∧ RwM M (70 + b) e := by
    intro b
    by_cases hb : b < nb
    · obtain ⟨p, q1, q2, q3⟩ := h13 b (by omega) (by rw [b3]; exact nI_lt hb (by omega))
      obtain ⟨e, w1, w2, w3⟩ := PE_xp q3
      exact ⟨e, fun _ => ⟨p, q1, q2, w1, w2, w3⟩⟩
    · exact ⟨[], fun z => absurd z hb⟩
  obtain ⟨bo, hbo⟩ := Classical.skolem.mp e3
  have e4 : ∀ k : Nat, ∃ s : Nat, k < 4 → s < 16 ∧ M.1 18 k = nI s ∧ M.1 157 k = nI s := by
    intro k
    by_cases hk : k < 4
    · obtain ⟨q1, q, q2, q3⟩ := h4 k hk
      exact ⟨q, fun _ => ⟨q2, q3, by rw [← q1]; exact q3⟩⟩
    · exact ⟨0, fun z => absurd z hk⟩
  obtain ⟨sp, hsp⟩ := Classical.skolem.mp e4
  have e5 : ∀ k : Nat, ∃ s : Nat × Nat, k < np → M.1 158 k = nI s.1 ∧ M.1 159 k = nI s.2 ∧ s.1 < 4 ∧ s.2 < 16 := by
    intro k
    by_cases hk : k < np
    · obtain ⟨p, q1, q2, q3, q4, q5, q6, ⟨x, q7, q8⟩, q9, ⟨y, q10, q11⟩⟩ := h14 k (by omega) (by rw [b7]; exact nI_lt hk (by omega))
      exact ⟨(x, y), fun _ => ⟨by rw [← q5]; exact q8, by rw [← q6]; exact q11, q7, q10⟩⟩
    · exact ⟨(0, 0), fun z => absurd z hk⟩
  obtain ⟨pp, hpp⟩ := Classical.skolem.mp e5
  refine ⟨(fun t i => ln (t, i), n, bo, sp, nb, on, nt), ?_, ?_⟩
  · refine ⟨⟨a1, a2, on8, fun k hk => (hsp k hk).1, fun b hb => ?_, fun t ht => ?_⟩, b1, b3, b5, fun k hk => (hsp k hk).2.1, fun b hb => ?_, fun t ht => ?_⟩
    · obtain ⟨p, q1, q2, q3, q4, q5⟩ := hbo b hb; exact q3
    · obtain ⟨p, q1, q2, q3, q4, q5, q6, q7⟩ := hn t ht
      refine ⟨q3, q4, fun i hi => ?_⟩
      obtain ⟨p', w1, w2, w3, w4⟩ := hln (t, i) ht hi
      exact w2
    · obtain ⟨p, q1, q2, q3, q4, q5⟩ := hbo b hb; exact ⟨p, q1, q2, q4⟩
    · obtain ⟨p, q1, q2, q3, q4, q5, q6, q7⟩ := hn t ht
      refine ⟨p, q1, q2, q5, fun i hi => Or.inl ?_⟩
      obtain ⟨p', w1, w2, w3, w4⟩ := hln (t, i) ht hi
      have : p' = p := by
        have w1 : M.2.2 12 t = some p' := w1
        rw [q2] at w1; exact (Option.some.inj w1).symm
      subst this
      have hi16 : i < n t := hi
      exact ⟨h10.2 _ (by have : t < nt := ht; omega), w3⟩
  · refine ⟨⟨a1, a2, on8, fun k hk => (hsp k hk).1, fun b hb => ?_, fun t ht => ?_⟩, b2, b4, b6, fun k hk => (hsp k hk).2.2, fun b hb => ?_, np, 0, fun k => (pp k).1, fun k => (pp k).2, a4, by omega, b8, b9, fun k hk => hpp k hk, fun t ht => ?_⟩
    · obtain ⟨p, q1, q2, q3, q4, q5⟩ := hbo b hb; exact q3
    · obtain ⟨p, q1, q2, q3, q4, q5, q6, q7⟩ := hn t ht
      refine ⟨q3, q4, fun i hi => ?_⟩
      obtain ⟨p', w1, w2, w3, w4⟩ := hln (t, i) ht hi
      exact w2
    · obtain ⟨p, q1, q2, q3, q4, q5⟩ := hbo b hb; exact q5
    · obtain ⟨p, q1, q2, q3, q4, q5, q6, q7⟩ := hn t ht
      refine ⟨q6, fun i hi => ?_⟩
      obtain ⟨p', w1, w2, w3, w4⟩ := hln (t, i) ht hi
      rw [rol_0]
      exact w4
theorem qL_dec {B0 B k : Nat} (hk : k < 4) (t : Nat) : qL (dec1 B0 B k) t = qL B t := by
  unfold dec1
  have hlt := qT_lt B k
  split
  · rfl
  · exact qL_putT hk (by omega)
theorem qL_decs (B0 B t : Nat) : qL (decs B0 B) t = qL B t := by
  unfold decs
  rw [qL_dec (by omega), qL_dec (by omega), qL_dec (by omega), qL_dec (by omega)]
theorem qL_fin {B t B2 v : Nat} (hv : v < 16) (k : Nat) : qL (fin B t B2 v) k = if k = t then v else qL B2 k := by
  unfold fin
  rw [qL_decs, qL_put hv]
theorem qL_mv {C : Cf} {B nu pl : Nat} (hC : CO C) (hnu : nu < 4) (hp : pl < 4) (k : Nat) : qL (mv C B nu pl) k = qL B k := by
  unfold mv
  have := hC.2.2.2.1 nu hnu
  split
  · exact qL_putP hnu (by split <;> omega)
  · rfl
/-- all lines within their tasks -/
def LI (C : Cf) (B : Nat) : Prop := ∀ k, k < cT C → qL B k < cN C k
theorem nxt_lt {C : Cf} (hC : CO C) {t ln : Nat} (ht : t < cT C) : nxt C t ln < cN C t := by
  have := hC.2.2.2.2.2 t ht
  unfold nxt
  split <;> omega
theorem stp_ln {C : Cf} {A B t key : Nat} (hC : CO C) (ht : t < cT C) (h : LI C B) : LI C (stp C A B t key).2.1 := by
  intro k hk
  have l := hC.2.2.2.2.2 t ht
  have hn := nxt_lt hC (ln := qL B t) ht
  have hln := h t ht
  obtain ⟨k1, k2, k3, k4, k5, k6⟩ := l.2.2 _ hln
  have fn : ∀ B2 v, v < cN C t → (∀ k, qL B2 k = qL B k) → qL (fin B t B2 v) k < cN C k := by
    intro B2 v hv hB
    rw [qL_fin (by omega)]
    by_cases e : k = t
    · rw [if_pos e, e]; exact hv
    · rw [if_neg e, hB]; exact h k hk
  unfold stp
  split
  · exact fn _ _ hn (fun _ => rfl)
  · split
    · refine fn _ _ ?_ (fun _ => rfl)
      split
      · exact hln
      · exact hn
    · split
      · rename_i h2
        exact fn _ _ hn (fun k => qL_mv hC (k4 h2) (Nat.mod_lt _ (by decide)) k)
      · split
        · refine fn _ _ ?_ (fun _ => rfl)
          split
          · exact hn
          · split
            · assumption
            · omega
        · split
          · exact fn _ _ hn (fun _ => rfl)
          · exact fn _ _ hn (fun _ => rfl)
/-- what a step did, as numbers -/
def FG (F : F4) : Prop := (F.1 = 0 ∨ F.1 = 1) ∧ (F.2.1 = 0 ∨ F.2.1 = 1) ∧ ∃ n : Nat, n ≤ 100 ∧ F.2.2.1 = nI n
theorem stp_fg {C : Cf} {A B t key : Nat} (hC : CO C) (ht : t < cT C) (h : LI C B) : FG (stp C A B t key).2.2.1 := by
  obtain ⟨k1, k2, k3, k4, k5, k6⟩ := (hC.2.2.2.2.2 t ht).2.2 _ (h t ht)
  have z : FG (fz t) := ⟨Or.inl rfl, Or.inl rfl, 0, by omega, rfl⟩
  unfold stp
  split
  · exact z
  · split
    · exact z
    · split
      · exact z
      · split
        · exact z
        · split
          · exact ⟨Or.inl rfl, Or.inl rfl, _, by omega, rfl⟩
          · refine ⟨?_, ?_, 0, by omega, rfl⟩
            · split
              · exact Or.inr rfl
              · exact Or.inl rfl
            · split
              · exact Or.inl rfl
              · exact Or.inr rfl
def dH : Nat → Nat → Bool := fun b j => b == 113 || b == 19 || (b == 0 && j == 12)
def eH : Nat → Bool := fun b => b == 113
theorem hand_ok {t key A B : Nat} {F : F4} {C : Cf} {M : Mm} {K : Mm → Prop} (hC : CC M C) (hF : FX M) (hm : MO M 113 A B F) (ht : t < cT C) (hkey : key < 256) (hln : LI C B) (hK : ∀ M', Fr dH eH M M' → MO M' 113 (stp C A B t key).1 (stp C A B t key).2.1 (stp C A B t key).2.2.1 → M'.1 0 12 = M.1 0 12 + 1 → K M') : f_X10_stepByHand S0 0 (nI t) (nI key) M K := by
  unfold f_X10_stepByHand
  simp only [fx_0_2 hF, fx_0_3 hF, ex_some, s0_11, s0_113, true_and]
  refine act_ok (Or.inr (Or.inl rfl)) hC hF hm ht hkey (hln t ht) (fun M1 f1 m1 z1 => ?_)
  simp only [forall_eq]
  have f1' : Fr dH eH M M1 := Fr_mono (fun b j hd => by unfold dH at hd; unfold dA; simp only [Bool.or_eq_false_iff] at *; exact hd.1) (fun b h => h) f1
  refine hK _ (Fr_I rfl f1') ?_ ?_
  · obtain ⟨q1, q2, q3, q4, q5, q6, q7, q8⟩ := m1
    exact ⟨q1, q2, q3, q4, q5, q6, q7, q8⟩
  · rw [rI_eq, f1.1 0 12 rfl]
/-- what a step by hand answers -/
def hr (F : F4) : Int32 := if F.1 = 1 then 1 else if F.2.1 = 1 then 2 else if F.2.2.1 = 0 then 0 else F.2.2.1 + 2
def dB : Nat → Nat → Bool := fun b j => dD b j || (b == 142 && (j == 0 || j == 32))
theorem dB_of {M M' : Mm} (h : Fr dD eN M M') : Fr dB eN M M' := Fr_mono (fun b j hd => by unfold dB at hd; simp only [Bool.or_eq_false_iff] at hd; exact hd.1) (fun b h => h) h
theorem byHand_ok {t key A B : Nat} {C : Cf} {M : Mm} {K : Int32 → Mm → Prop} (hC : CM M C) (h33 : M.1 142 33 = 0) (hF : FX M) (hs : MS M A B) (ht : t < cT C) (hkey : key < 256) (hln : LI C B) (hK : ∀ M', Fr dB eN M M' → MS M' (stp C A B t key).1 (stp C A B t key).2.1 → MF M' (stp C A B t key).2.2.1 → M'.1 142 32 = M.1 142 32 + 1 → K (hr (stp C A B t key).2.2.1) M') : f_X11_byHand S0 142 (nI t) (nI key) M K := by
  unfold f_X11_byHand
  simp only [forall_eq]
  rw [stI_self h33]
  refine does_ok hC hF hs ht hkey (hln t ht) (fun M1 f1 m1 mf1 z1 => ?_)
  have := hK (stI M1 142 32 (M1.1 142 32 + 1)) (Fr_I rfl (dB_of f1)) (MS_142 m1) mf1 (by rw [rI_eq, f1.1 142 32 rfl])
  obtain ⟨g1, g2, n, g3, g4⟩ := stp_fg (A := A) (key := key) hC.1 ht hln
  rw [show (stI M1 142 32 (M1.1 142 32 + 1)).1 142 28 = _ from mf1.1, show (stI M1 142 32 (M1.1 142 32 + 1)).1 142 29 = _ from mf1.2.1, show (stI M1 142 32 (M1.1 142 32 + 1)).1 142 30 = _ from mf1.2.2.1]
  unfold hr at this
  refine ⟨fun y => ?_, fun y => ⟨fun y2 => ?_, fun y2 => ⟨fun y3 => ?_, fun y3 => ?_⟩⟩⟩
  · rw [if_pos y] at this; exact this
  · rw [if_neg y, if_pos y2] at this; exact this
  · rw [if_neg y, if_neg y2, if_pos ?_] at this
    · exact this
    · rw [g4, show (0 : Int32) = nI 0 from rfl, nI_leI (by omega) (by omega)] at y3
      rw [g4, show n = 0 by omega]; rfl
  · rw [if_neg y, if_neg y2, if_neg ?_] at this
    · exact this
    · intro w
      rw [w] at y3
      exact y3 (by decide)
/-- V behind steps by hand -/
def dW : Nat → Nat → Bool := fun b j => dH b j || dB b j
theorem dW_DV (b j : Nat) (h : DV b j = false) : dW b j = false := by
  unfold DV at h
  unfold dW dH dB dD
  simp only [Bool.or_eq_false_iff, Bool.and_eq_false_iff, beq_eq_false_iff_ne, decide_eq_false_iff_not] at *
  omega
theorem V_hand {M M' : Mm} {A B : Nat} {F : F4} {C : Cf} (hV : V M) (hC : CM M C) (fr : Fr dW eH M M') (hm : MO M' 113 A B F) (hs : MS M' A B) (hf : MF M' F) (hh : M'.1 0 12 = M'.1 142 32) (hl : LI C B) : V M' := by
  have hV' := hV
  obtain ⟨h1, h2, h3, h4, h5, h6, h7, h8, h9, h10, h11, h12, h13, h14, h15, h16, h17, h18, h19⟩ := hV
  refine V_mk hV' (Fr_mono dW_DV (fun b h => ?_) fr) (V_txt_ag (fr.1 _ _ rfl) (fr.1 _ _ rfl) (Fr_row fr _ fun _ => rfl) (Fr_row fr _ fun _ => rfl) h2) (V_told_ag (fr.1 _ _ rfl) (fr.1 _ _ rfl) (fr.2.1 _ rfl) (fr.2.1 _ rfl) h7) ?_ ?_ (V_walk_ag (fr.1 _ _ rfl) (Fr_row fr _ fun _ => rfl) (Fr_row fr _ fun _ => rfl) (by rw [fr.2.2]) h17)
  · unfold EV at h
    unfold eH
    simp only [Bool.or_eq_false_iff, Bool.and_eq_false_iff, beq_eq_false_iff_ne, decide_eq_false_iff_not] at *
    omega
  · obtain ⟨q1, q2, q3, q4, q5, q6, q7, q8⟩ := hm
    obtain ⟨w1, w2, w3, w4⟩ := hf
    exact ⟨hh, q5.trans w1.symm, q6.trans w2.symm, q7.trans w3.symm, q8.trans w4.symm⟩
  · obtain ⟨q1, q2, q3, q4, -⟩ := hm
    refine ⟨A, B, q1, q2, hs, q3, q4, fun k hk hlt => ?_⟩
    have e1 : M'.1 142 15 = nI (cT C) := (fr.1 _ _ rfl).trans hC.2.1
    have e2 : M'.1 11 10 = M'.1 142 15 := by
      obtain ⟨nt, nb, on, np, a1, a2, a3, a4, b1, b2, -⟩ := h9
      rw [fr.1 11 10 rfl, fr.1 142 15 rfl, b1, b2]
    have c1 := hC.1.1
    rw [e2, e1, nI_ltI (by omega) (by omega)] at hlt
    obtain ⟨np, pd, pt, pl, a1, a2, a3, a4, a5, a6⟩ := hC.2.2.2.2.2.2
    rw [Fr_row fr 150 (fun _ => rfl), (a6 k hlt).1]
    have := (hC.1.2.2.2.2.2 k hlt).2.1
    exact nI_lt (hl k hlt) (by omega)
theorem now_of {M : Mm} {C : Cf} (hV : V M) (hC : CM M C) : ∃ (A B : Nat) (F : F4), MO M 113 A B F ∧ MS M A B ∧ MF M F ∧ LI C B := by
  obtain ⟨h1, h2, h3, h4, h5, h6, h7, h8, h9, h10, h11, h12, h13, h14, h15, h16, h17, h18, h19⟩ := hV
  obtain ⟨A, B, q1, q2, q3, q4, q5, q6⟩ := h15
  refine ⟨A, B, (M.1 113 2, M.1 113 3, M.1 113 4, M.1 113 5), ⟨q1, q2, q4, q5, rfl, rfl, rfl, rfl⟩, q3, ⟨h8.2.1.symm, h8.2.2.1.symm, h8.2.2.2.1.symm, h8.2.2.2.2.symm⟩, fun k hk => ?_⟩
  have c1 := hC.1.1
  have e2 : M.1 11 10 = nI (cT C) := by
    obtain ⟨nt, nb, on, np, a1, a2, a3, a4, b1, b2, -⟩ := h9
    rw [b1, ← b2]; exact hC.2.1
  have := q6 k (by omega) (by rw [e2]; exact nI_lt hk (by omega))
  obtain ⟨np, pd, pt, pl, a1, a2, a3, a4, a5, a6⟩ := hC.2.2.2.2.2.2
  have h16 := (hC.1.2.2.2.2.2 k hk).2.1
  have hq := qL_lt B k
  rw [(a6 k hk).1, nI_ltI (by omega) (by omega)] at this
  exact this
/-- an answer against the model's -/
def AN (r : Int32) (K : Mm → Prop) : Int32 → Mm → Prop := fun r' m2 => (r = r' → K m2) ∧ (¬ r = r' → False)
theorem an_ok {r r' : Int32} {K : Mm → Prop} {m : Mm} (h : r = r') (hk : K m) : AN r K r' m := ⟨fun _ => hk, fun z => z h⟩
theorem sub1_lt {n : Nat} (hn : n < 1000) {x : Int32} (hx : ¬ x < 0) : (nI n - 1 < x) ↔ ¬ x < nI n := by
  obtain ⟨k, hk, rfl⟩ := nI_of hx
  rw [nI_ltI hk (by omega)]
  rw [show (1 : Int32) = nI 1 from rfl, Int32.lt_iff_toInt_lt, pk_sub_toInt (by omega) (by omega), nI_toInt hk]
  omega
theorem Fr_142 {M M' : Mm} {k : Nat} {v : Int32} (hd : dB 142 k = true) (h : Fr dB eN M M') : Fr dB eN M (stI M' 142 k v) := Fr_I hd h
theorem CM_dB {C : Cf} {M M' : Mm} (h : Fr dB eN M M') (hC : CM M C) : CM M' C :=
  CM_ag (h.1 _ _ rfl) (h.1 _ _ rfl) (h.1 _ _ rfl) (h.1 _ _ rfl) (h.1 _ _ rfl) (Fr_row h _ (fun _ => rfl)) (Fr_row h _ (fun _ => rfl)) (Fr_row h _ (fun _ => rfl)) (Fr_row h _ (fun _ => rfl)) (Fr_row h _ (fun _ => rfl)) (Fr_row h _ (fun _ => rfl)) (Fr_row h _ (fun _ => rfl)) (Fr_row h _ (fun _ => rfl)) hC
theorem CM_dH {C : Cf} {M M' : Mm} (h : Fr dH eH M M') (hC : CM M C) : CM M' C :=
  CM_ag (h.1 _ _ rfl) (h.1 _ _ rfl) (h.1 _ _ rfl) (h.1 _ _ rfl) (h.1 _ _ rfl) (Fr_row h _ (fun _ => rfl)) (Fr_row h _ (fun _ => rfl)) (Fr_row h _ (fun _ => rfl)) (Fr_row h _ (fun _ => rfl)) (Fr_row h _ (fun _ => rfl)) (Fr_row h _ (fun _ => rfl)) (Fr_row h _ (fun _ => rfl)) (Fr_row h _ (fun _ => rfl)) hC
theorem MS_dH {M M' : Mm} {A B : Nat} (h : Fr dH eH M M') (hs : MS M A B) : MS M' A B := MS_ag (Fr_row h _ fun _ => rfl) (Fr_row h _ fun _ => rfl) (Fr_row h _ fun _ => rfl) (Fr_row h _ fun _ => rfl) hs
theorem MO_dB {M M' : Mm} {A B : Nat} {F : F4} (h : Fr dB eN M M') (hm : MO M 113 A B F) : MO M' 113 A B F := by
  unfold MO at *
  rw [Fr_row h 113 (fun _ => rfl), h.2.1 113 rfl]; exact hm
theorem hd_W {M M' M'' : Mm} (h : Fr dH eH M M') (h' : Fr dB eN M' M'') : Fr dW eH M M'' :=
  Fr_tr (Fr_mono (fun b j hd => by unfold dW at hd; simp only [Bool.or_eq_false_iff] at hd; exact hd.1) (fun b h => h) h) (Fr_mono (fun b j hd => by unfold dW at hd; simp only [Bool.or_eq_false_iff] at hd; exact hd.2) (fun b h => rfl) h')
theorem op9 (p1 p2 : Int32) (M : Mm) (K : Mm → Prop) (hV : V M) (hK : ∀ m, V m → K m) : OP9 p1 p2 M K := by
  have hF := hV.1
  obtain ⟨C, hC, hCM⟩ := cf_of hV
  obtain ⟨A, B, F, hm, hs, hf, hl⟩ := now_of hV hCM
  have c1 := hC.1.1
  obtain ⟨ky, y1, y2⟩ := hV.2.2.2.2.1.2
  have y3 : M.1 142 27 = nI ky := by rw [← hV.2.2.2.2.1.1]; exact y2
  have h33 : M.1 142 33 = 0 := by obtain ⟨nt, nb, on, np, a1, a2, a3, a4, b1, b2, b3, b4, b5, b6, b7, b8, b9⟩ := hV.2.2.2.2.2.2.2.2.1; exact b9
  have hh : M.1 0 12 = M.1 142 32 := hV.2.2.2.2.2.2.2.1.1
  have ne1 : ¬ (1 : Int32) = 0 := by decide
  unfold OP9 f_X10_step
  have ref : (p1 < 0 ∨ ¬ p1 < nI (cT C) ∨ p2 < 0 ∨ nI ky < p2) → f_X11_step S0 142 p1 p2 M (AN (-1) K) := by
    intro hx
    unfold f_X11_step
    simp only [forall_eq]
    rw [show (stI M 142 0 0).1 142 15 = nI (cT C) from hCM.2.1]
    have hend : AN (-1) K (-1) (stI M 142 0 0) := an_ok rfl (hK _ (V_thr _ hV))
    refine f_in (nI (cT C) - 1) rfl (fun a b => ⟨fun z => absurd z ne1, fun _ => ?_⟩) (fun _ => ⟨fun _ => hend, fun z => absurd rfl z⟩)
    rw [show (stI M 142 0 0).1 142 27 = nI ky from y3]
    refine f_in (nI ky) rfl (fun a2 b2 => ?_) (fun _ => ⟨fun _ => hend, fun z => absurd rfl z⟩)
    rcases hx with h | h | h | h
    · exact absurd h a
    · exact absurd ((sub1_lt (by omega) a).mpr h) b
    · exact absurd h a2
    · exact absurd h b2
  refine ⟨fun h => ref (Or.inl h), fun h1 => ?_⟩
  simp only [fx_0_2 hF, ex_some, s0_11, true_and]
  rw [hC.2.1, y2]
  refine ⟨fun h => ref (Or.inr (Or.inl (Int32.not_lt.mpr h))), fun h2 => ⟨fun h => ref (Or.inr (Or.inr (Or.inl h))), fun h3 => ⟨fun h4 => ?_, fun h4 => ref (Or.inr (Or.inr (Or.inr (Int32.not_le.mp h4))))⟩⟩⟩
  obtain ⟨t, ht, rfl⟩ := nI_of h1
  obtain ⟨key, hk, rfl⟩ := nI_of h3
  have ht' : t < cT C := by
    rcases Nat.lt_or_ge t (cT C) with z | z
    · exact z
    · exact absurd (nI_le z ht) h2
  have hk' : key ≤ ky := (nI_leI hk (by omega)).mp h4
  refine hand_ok hC hF hm ht' (by omega) hl (fun M1 f1 m1 z1 => ?_)
  have hF1 := FX_fr f1 hF
  simp only [fx_0_3 hF1, ex_some, s0_113, true_and]
  obtain ⟨g1, g2, n, g3, g4⟩ := stp_fg (A := A) (key := key) hC.1 ht' hl
  have main : f_X11_step S0 142 (nI t) (nI key) M1 (AN (hr (stp C A B t key).2.2.1) K) := by
    unfold f_X11_step
    simp only [forall_eq]
    have f2 : Fr dB eN M1 (stI M1 142 0 0) := Fr_I rfl (Fr_refl _ _ _)
    have e15 : (stI M1 142 0 0).1 142 15 = nI (cT C) := (f1.1 142 15 rfl).trans hCM.2.1
    have e27 : (stI M1 142 0 0).1 142 27 = nI ky := (f1.1 142 27 rfl).trans y3
    rw [e15]
    refine f_in (nI (cT C) - 1) rfl (fun a b => ⟨fun z => absurd z ne1, fun _ => ?_⟩) (fun z => ?_)
    · rw [e27]
      refine f_in (nI ky) rfl (fun a2 b2 => ⟨fun z => absurd z ne1, fun _ => ?_⟩) (fun z => ?_)
      · refine byHand_ok (A := A) (B := B) (CM_dB f2 (CM_dH f1 hCM)) ((f1.1 142 33 rfl).trans h33) (FX_fr f2 hF1) (MS_142 (MS_dH f1 hs)) ht' (by omega) hl (fun M3 f3 m3 mf3 z3 => an_ok rfl (hK _ ?_))
        refine V_hand (C := C) hV hCM (hd_W f1 (Fr_tr f2 f3)) (MO_dB (Fr_tr f2 f3) m1) m3 mf3 ?_ (stp_ln hC.1 ht' hl)
        rw [z3, f3.1 0 12 rfl]
        show M1.1 0 12 = M1.1 142 32 + 1
        rw [z1, f1.1 142 32 rfl, hh]
      · exact (z.elim h3 (fun w => absurd h4 (Int32.not_le.mpr w))).elim
    · exact (z.elim h1 (fun w => h2 (Int32.not_lt.mp ((sub1_lt (by omega) h1).mp w)))).elim
  obtain ⟨q1, q2, q3, q4, q5, q6, q7, q8⟩ := m1
  rw [q5, q6, q7]
  unfold hr at main
  refine ⟨fun w1 => ⟨fun w2 => ⟨fun w3 => ?_, fun w3 => ?_⟩, fun w2 => ?_⟩, fun w1 => ?_⟩
  · rw [if_neg (by rw [w1]; decide), if_neg (by rw [w2]; decide), if_pos w3] at main; exact main
  · rw [if_neg (by rw [w1]; decide), if_neg (by rw [w2]; decide), if_neg w3] at main; exact main
  · rw [if_neg (by rw [w1]; decide), if_pos (g2.resolve_left w2)] at main; exact main
  · rw [if_pos (g1.resolve_left w1)] at main; exact main
def nrw (kind v : Int32) : Int32 := if kind = 0 then v.toInt8.toInt32 else if kind = 1 then v.toInt16.toInt32 else v
/-- steps by hand, one after the other: how many, and the last state -/
def rnH (C : Cf) (ky : Nat) (kind f step : Int32) : Nat → Nat → Nat → Nat → F4 → Nat × Nat × Nat × F4
  | 0, i, A, B, F => (i, A, B, F)
  | n + 1, i, A, B, F => if nrw kind (f + nI i * step) < 0 ∨ ¬ nrw kind (f + nI i * step) < nI (cT C * (ky + 1)) then (i, A, B, F) else rnH C ky kind f step n (i + 1) (stp C A B ((nrw kind (f + nI i * step)).toNatClampNeg / (ky + 1)) ((nrw kind (f + nI i * step)).toNatClampNeg % (ky + 1))).1 (stp C A B ((nrw kind (f + nI i * step)).toNatClampNeg / (ky + 1)) ((nrw kind (f + nI i * step)).toNatClampNeg % (ky + 1))).2.1 (stp C A B ((nrw kind (f + nI i * step)).toNatClampNeg / (ky + 1)) ((nrw kind (f + nI i * step)).toNatClampNeg % (ky + 1))).2.2.1
theorem nrw_ok {S : Ss} {kind v : Int32} {M : Mm} {K : Int32 → Mm → Prop} (h : K (nrw kind v) M) : f_X10_narrowed S kind v M K := by
  unfold f_X10_narrowed
  unfold nrw at h
  refine ⟨fun y => ?_, fun y => ⟨fun y2 => ?_, fun y2 => ?_⟩⟩
  · rw [if_pos y] at h; exact h
  · rw [if_neg y, if_pos y2] at h; exact h
  · rw [if_neg y, if_neg y2] at h; exact h
theorem CC_dH {C : Cf} {M M' : Mm} (h : Fr dH eH M M') (hC : CC M C) : CC M' C := by
  refine CC_ag (fun a ha => Fr_row h a (fun j => ?_)) (h.1 _ _ rfl) (h.1 _ _ rfl) (h.1 _ _ rfl) (Fr_row h _ (fun j => rfl)) (by rw [h.2.2]) (by rw [h.2.2]) (by rw [h.2.2]) hC
  unfold prc at ha
  unfold dH
  simp only [Bool.or_eq_false_iff, Bool.and_eq_false_iff, beq_eq_false_iff_ne]
  omega
theorem stepsC {C : Cf} {ky N : Nat} {kind f step h0 : Int32} {EK : Mm → Prop} {K : Int32 → Mm → Prop} (hky : ky < 5) (hN : N ≤ 20) :
    ∀ (n i A B : Nat) (F : F4) (M : Mm), i + n = N → CC M C → FX M → MO M 113 A B F → LI C B → M.1 0 12 = h0 + nI i → (∀ M', Fr dH eH M M' → MO M' 113 (rnH C ky kind f step n i A B F).2.1 (rnH C ky kind f step n i A B F).2.2.1 (rnH C ky kind f step n i A B F).2.2.2 → LI C (rnH C ky kind f step n i A B F).2.2.1 → M'.1 0 12 = h0 + nI (rnH C ky kind f step n i A B F).1 → K (nI (rnH C ky kind f step n i A B F).1) M' ∧ ((rnH C ky kind f step n i A B F).1 = N → EK M')) → f_X10_steps_L46 S0 0 kind (nI N) f step (nI (ky + 1)) EK K (n + 1) (nI i) M
  | 0, i, A, B, F, M, hi, hC, hF, hm, hl, hh, hK => by
    unfold f_X10_steps_L46 f_X10_steps_B46
    have : i = N := by omega
    subst this
    exact ⟨fun _ => (hK M (Fr_refl _ _ _) hm hl hh).2 rfl, fun z => absurd (nI_le (Nat.le_refl _) (by omega)) z⟩
  | n + 1, i, A, B, F, M, hi, hC, hF, hm, hl, hh, hK => by
    unfold f_X10_steps_L46 f_X10_steps_B46
    have c1 := hC.1.1
    have hct : cT C * (ky + 1) ≤ 4 * 5 := Nat.mul_le_mul c1 (by omega)
    refine ⟨fun z => absurd z (nI_ge (by omega) (by omega)), fun _ => nrw_ok ?_⟩
    simp only [fx_0_2 hF, ex_some, s0_11, true_and, forall_eq, nI_1]
    rw [hC.2.1, pk_mul]
    unfold rnH at hK
    refine ⟨fun y => ?_, fun y => ⟨fun y2 => ?_, fun y2 => ?_⟩⟩
    · rw [if_pos (Or.inl y)] at hK
      exact (hK M (Fr_refl _ _ _) hm hl hh).1
    · rw [if_neg (fun w => w.elim y (fun w => w y2))] at hK
      obtain ⟨m, hm1, hm2⟩ := nI_of y
      rw [hm2] at y2 hK ⊢
      rw [nI_clamp hm1] at hK
      have y3 : m < cT C * (ky + 1) := (nI_ltI hm1 (by omega)).mp y2
      have nz : ¬ nI (ky + 1) = 0 := nI_ne0 (by omega) (by omega)
      refine ⟨nz, nz, ?_⟩
      rw [pk_rem hm1 (by omega) (by omega), pk_div hm1 (by omega) (by omega)]
      have ht : m / (ky + 1) < cT C := (Nat.div_lt_iff_lt_mul (by omega)).mpr y3
      have hk : m % (ky + 1) < ky + 1 := Nat.mod_lt _ (by omega)
      refine hand_ok hC hF hm ht (by omega) hl (fun M1 f1 m1 z1 => ?_)
      refine stepsC hky hN n (i + 1) _ _ _ M1 (by omega) (CC_dH f1 hC) (FX_fr f1 hF) m1 (stp_ln hC.1 ht hl) ?_ (fun M2 f2 => hK M2 (Fr_tr f1 f2))
      rw [z1, hh, ← nI_1, Int32.add_assoc]
    · rw [if_pos (Or.inr y2)] at hK
      exact (hK M (Fr_refl _ _ _) hm hl hh).1
theorem stepsM {C : Cf} {ky N : Nat} {kind f step h0 : Int32} {EK : Mm → Prop} {K : Int32 → Mm → Prop} (hky : ky < 5) (hN : N ≤ 20) :
    ∀ (n i A B : Nat) (F : F4) (M : Mm), i + n = N → CM M C → M.1 142 33 = 0 → M.1 142 27 = nI ky → FX M → MS M A B → MF M F → LI C B → M.1 142 32 = h0 + nI i → (∀ M', Fr dB eN M M' → MS M' (rnH C ky kind f step n i A B F).2.1 (rnH C ky kind f step n i A B F).2.2.1 → MF M' (rnH C ky kind f step n i A B F).2.2.2 → M'.1 142 32 = h0 + nI (rnH C ky kind f step n i A B F).1 → K (nI (rnH C ky kind f step n i A B F).1) M' ∧ ((rnH C ky kind f step n i A B F).1 = N → EK M')) → f_X11_steps_L53 S0 142 kind (nI N) step EK K (n + 1) (f + nI i * step) (nI i) M
  | 0, i, A, B, F, M, hi, hC, h33, h27, hF, hs, hf, hl, hh, hK => by
    unfold f_X11_steps_L53 f_X11_steps_B53
    have : i = N := by omega
    subst this
    exact ⟨fun _ => (hK M (Fr_refl _ _ _) hs hf hh).2 rfl, fun z => absurd (nI_le (Nat.le_refl _) (by omega)) z⟩
  | n + 1, i, A, B, F, M, hi, hC, h33, h27, hF, hs, hf, hl, hh, hK => by
    unfold f_X11_steps_L53 f_X11_steps_B53
    have c1 := hC.1.1
    have hct : cT C * (ky + 1) ≤ 4 * 5 := Nat.mul_le_mul c1 (by omega)
    refine ⟨fun z => absurd z (nI_ge (by omega) (by omega)), fun _ => ?_⟩
    have J : f_X11_steps_J82 S0 142 kind (nI N) step (f + nI i * step) (nI i) (nrw kind (f + nI i * step)) M (fun (x5 : Int32) (x6 : Int32) (M : Mm) => f_X11_steps_L53 S0 142 kind (nI N) step EK K (n + 1) x5 x6 M) K := by
      unfold f_X11_steps_J82 f_X11_width
      rw [hC.2.1, h27, nI_1 ky, pk_mul]
      unfold rnH at hK
      refine f_in (nI (cT C * (ky + 1)) - 1) rfl (fun a b => ⟨fun z => absurd z (by decide), fun _ => ?_⟩) (fun w => ⟨fun _ => ?_, fun z => absurd rfl z⟩)
      · have y2 : nrw kind (f + nI i * step) < nI (cT C * (ky + 1)) := by
          rcases Classical.em (nrw kind (f + nI i * step) < nI (cT C * (ky + 1))) with w | w
          · exact w
          · exact absurd ((sub1_lt (by omega) a).mpr w) b
        rw [if_neg (fun w => w.elim a (fun w => w y2))] at hK
        rw [h27, nI_1 ky]
        obtain ⟨m, hm1, hm2⟩ := nI_of a
        rw [hm2] at y2 hK ⊢
        rw [nI_clamp hm1] at hK
        have y3 : m < cT C * (ky + 1) := (nI_ltI hm1 (by omega)).mp y2
        have nz : ¬ nI (ky + 1) = 0 := nI_ne0 (by omega) (by omega)
        refine ⟨nz, nz, ?_⟩
        rw [pk_rem hm1 (by omega) (by omega), pk_div hm1 (by omega) (by omega)]
        have ht : m / (ky + 1) < cT C := (Nat.div_lt_iff_lt_mul (by omega)).mpr y3
        have hk : m % (ky + 1) < ky + 1 := Nat.mod_lt _ (by omega)
        refine byHand_ok hC h33 hF hs ht (by omega) hl (fun M1 f1 m1 mf1 z1 => ?_)
        simp only [forall_eq]
        have e : f + nI i * step + step = f + nI (i + 1) * step := by
          rw [← nI_1, Int32.add_mul, Int32.one_mul, Int32.add_assoc]
        rw [e, nI_1 i]
        refine stepsM hky hN n (i + 1) _ _ _ M1 (by omega) (CM_dB f1 hC) ((f1.1 _ _ rfl).trans h33) ((f1.1 _ _ rfl).trans h27) (FX_fr f1 hF) m1 mf1 (stp_ln hC.1 ht hl) ?_ (fun M2 f2 => hK M2 (Fr_tr f1 f2))
        rw [z1, hh, ← nI_1, Int32.add_assoc]
      · have : nrw kind (f + nI i * step) < 0 ∨ ¬ nrw kind (f + nI i * step) < nI (cT C * (ky + 1)) := by
          rcases Classical.em (nrw kind (f + nI i * step) < 0) with a | a
          · exact Or.inl a
          · exact Or.inr ((sub1_lt (by omega) a).mp (w.resolve_left a))
        rw [if_pos this] at hK
        exact (hK M (Fr_refl _ _ _) hs hf hh).1
    unfold nrw at J
    refine ⟨fun y => ?_, fun y => ⟨fun y2 => ?_, fun y2 => ?_⟩⟩
    · rw [if_pos y] at J; exact J
    · rw [if_neg y, if_pos y2] at J; exact J
    · rw [if_neg y, if_neg y2] at J; exact J
theorem op10 (p1 p2 p3 p4 : Int32) (M : Mm) (K : Mm → Prop) (hV : V M) (hK : ∀ m, V m → K m) : OP10 p1 p2 p3 p4 M K := by
  have hF := hV.1
  obtain ⟨C, hC, hCM⟩ := cf_of hV
  obtain ⟨A, B, F, hm, hs, hf, hl⟩ := now_of hV hCM
  have c1 := hC.1.1
  obtain ⟨ky, y1, y2⟩ := hV.2.2.2.2.1.2
  have y3 : M.1 142 27 = nI ky := by rw [← hV.2.2.2.2.1.1]; exact y2
  have h33 : M.1 142 33 = 0 := by obtain ⟨nt, nb, on, np, a1, a2, a3, a4, b1, b2, b3, b4, b5, b6, b7, b8, b9⟩ := hV.2.2.2.2.2.2.2.2.1; exact b9
  have hh : M.1 0 12 = M.1 142 32 := hV.2.2.2.2.2.2.2.1.1
  have ne1 : ¬ (1 : Int32) = 0 := by decide
  have hend : ∀ r, AN r K r (stI M 142 0 0) := fun r => an_ok rfl (hK _ (V_thr _ hV))
  unfold OP10 f_X10_steps
  have ref : (p1 < 0 ∨ (3 : Int32) < p1 ∨ ¬ p2 ≤ 20) → f_X11_steps S0 142 p1 p2 p3 p4 M (AN (-1) K) := by
    intro hx
    unfold f_X11_steps
    simp only [forall_eq]
    refine f_in 3 rfl (fun a b => ⟨fun z => absurd z ne1, fun _ => ⟨fun z => ?_, fun _ => hend _⟩⟩) (fun _ => ⟨fun _ => hend _, fun z => absurd rfl z⟩)
    rcases hx with h | h | h
    · exact absurd h a
    · exact absurd h b
    · exact absurd z h
  refine ⟨fun h => ref (Or.inl h), fun h1 => ⟨fun h => ref (Or.inr (Or.inl h)), fun h2 => ⟨fun h3 => ?_, fun h => ref (Or.inr (Or.inr h))⟩⟩⟩
  have open2 : ∀ {r : Int32}, ((p1 = 3 → r = -3) ∧ (¬ p1 = 3 → r = -2)) → (p1 = 3 ∨ ¬ 0 ≤ p2) → f_X11_steps S0 142 p1 p2 p3 p4 M (AN r K) := by
    intro r hr hx
    unfold f_X11_steps f_X11_steps_J34
    simp only [forall_eq]
    refine f_in 3 rfl (fun a b => ⟨fun z => absurd z ne1, fun _ => ⟨fun z => ⟨fun w => ⟨fun _ => ?_, fun w2 => absurd w w2⟩, fun w => ⟨fun w2 => ?_, fun w2 => ⟨fun w3 => absurd w3 w, fun _ => ?_⟩⟩⟩, fun z => absurd h3 z⟩⟩) (fun w => (w.elim h1 h2).elim)
    · rw [hr.1 w]; exact hend _
    · exact absurd w2 (hx.resolve_left w)
    · rw [hr.2 w]; exact hend _
  refine ⟨fun h4 => open2 ⟨fun _ => rfl, fun z => absurd h4 z⟩ (Or.inl h4), fun h4 => ⟨fun h5 => ?_, fun h5 => open2 ⟨fun z => absurd z h4, fun _ => rfl⟩ (Or.inr h5)⟩⟩
  simp only [fx_0_2 hF, ex_some, s0_11, true_and, forall_eq]
  rw [y2, nI_1]
  obtain ⟨N, hN, rfl⟩ := nI_of (Int32.not_lt.mpr h5)
  have hN2 : N ≤ 20 := (nI_leI hN (by omega)).mp (show nI N ≤ nI 20 from h3)
  have fin : ∀ M1, Fr dH eH M M1 → MO M1 113 (rnH C ky p1 p3 p4 N 0 A B F).2.1 (rnH C ky p1 p3 p4 N 0 A B F).2.2.1 (rnH C ky p1 p3 p4 N 0 A B F).2.2.2 → LI C (rnH C ky p1 p3 p4 N 0 A B F).2.2.1 → M1.1 0 12 = M.1 0 12 + nI (rnH C ky p1 p3 p4 N 0 A B F).1 → f_X11_steps S0 142 p1 (nI N) p3 p4 M1 (AN (nI (rnH C ky p1 p3 p4 N 0 A B F).1) K) := by
    intro M1 f1 m1 l1 z1
    have hF1 := FX_fr f1 hF
    unfold f_X11_steps
    simp only [forall_eq]
    have f2 : Fr dB eN M1 (stI M1 142 0 0) := Fr_I rfl (Fr_refl _ _ _)
    refine f_in 3 rfl (fun a b => ⟨fun z => absurd z ne1, fun _ => ⟨fun z => ⟨fun w => absurd w h4, fun _ => ⟨fun _ => ?_, fun w => absurd h5 w⟩⟩, fun z => absurd h3 z⟩⟩) (fun w => (w.elim h1 h2).elim)
    refine ⟨N + 1, ?_⟩
    have e0 : p3 = p3 + nI 0 * p4 := by rw [show nI 0 = (0 : Int32) from rfl, Int32.zero_mul, Int32.add_zero]
    have main := stepsM (C := C) (ky := ky) (N := N) (kind := p1) (f := p3) (step := p4) (h0 := M.1 142 32) (EK := fun m23 => AN (nI (rnH C ky p1 p3 p4 N 0 A B F).1) K (nI N) m23) (K := AN (nI (rnH C ky p1 p3 p4 N 0 A B F).1) K) y1 hN2 N 0 A B F (stI M1 142 0 0) (by omega) (CM_dB f2 (CM_dH f1 hCM)) ((f1.1 142 33 rfl).trans h33) ((f1.1 142 27 rfl).trans y3) (FX_fr f2 hF1) (MS_142 (MS_dH f1 hs)) (by unfold MF at *; exact ⟨(f1.1 142 28 rfl).trans hf.1, (f1.1 142 29 rfl).trans hf.2.1, (f1.1 142 30 rfl).trans hf.2.2.1, (f1.1 142 31 rfl).trans hf.2.2.2⟩) hl (by rw [show nI 0 = (0 : Int32) from rfl, Int32.add_zero]; exact f1.1 142 32 rfl) (fun M3 f3 m3 mf3 z3 => ?_)
    · rw [← e0] at main
      exact main
    · have hv : V M3 := by
        refine V_hand (C := C) hV hCM (hd_W f1 (Fr_tr f2 f3)) (MO_dB (Fr_tr f2 f3) m1) m3 mf3 ?_ l1
        rw [z3, f3.1 0 12 rfl]
        show M1.1 0 12 = _
        rw [z1, hh]
      exact ⟨an_ok rfl (hK _ hv), fun e => an_ok (by rw [e]) (hK _ hv)⟩
  refine ⟨N + 1, stepsC (h0 := M.1 0 12) y1 hN2 N 0 A B F M (by omega) hC hF hm hl (by rw [show nI 0 = (0 : Int32) from rfl, Int32.add_zero]) (fun M1 f1 m1 l1 z1 => ⟨fin M1 f1 m1 l1 z1, fun e => ?_⟩)⟩
  have := fin M1 f1 m1 l1 z1
  rw [e] at this
  exact this
