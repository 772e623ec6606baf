theorem op4 (M : Mm) (K : Mm → Prop) (hV : V M) (hK : ∀ m, V m → K m) : OP4 M K := by
  have hF := hV.1
  obtain ⟨n, c, hn, t1, t4, htx⟩ := txt_of hV
  have htd : V_told M := hV.2.2.2.2.2.2.1
  have hprg : V_prg M := hV.2.2.2.2.2.2.2.2.2.1
  have hh := hV
  obtain ⟨h1', h2', h3', h4', h5', h6', h7', h8', h9', h10', h11', h12', h13', h14', h15', h16', h17', h18', h19'⟩ := hh
  obtain ⟨nt, nb, on, np, a1, a2, a3, a4, b1, b2, b3, b4, b5, b6, b7, b8, b9⟩ := h9'
  have on8 : on < 8 := by
    have : 2 ^ nb ≤ 2 ^ 3 := Nat.pow_le_pow_right (by omega) a2
    omega
  obtain ⟨P, hP, h6, q3, q4, q5, q7⟩ := prg_ne hprg
  obtain ⟨len, hlen⟩ : ∃ len, len = if 60 < n then 60 else n := ⟨_, rfl⟩
  have hle : len ≤ 60 ∧ len ≤ n := by rw [hlen]; split <;> omega
  have hP1 : ∀ P ∈ PR, P ≠ 1 ∧ P + 5 ≤ 103 ∧ (2 < P ∨ P + 5 < 2) ∧ 4 ≤ P ∧ ((4 ≤ P ∧ P + 5 ≤ 9) ∨ (20 ≤ P ∧ P + 5 ≤ 103)) := by decide
  obtain ⟨z1, z2, z3, z4, z5⟩ := hP1 P hP
  show f_X10_bolt S0 0 M (fun r m1 => f_X11_bolt S0 142 m1 (AN r K))
  unfold f_X10_bolt f_X10_takeText
  have e11 : (stI M 1 1 0).1 11 11 = nI nb := by rw [rI_ne (by omega)]; exact b3
  have f0 : Fr (Drd P) E3 M (stI M 1 1 0) := Fr_I (by unfold Drd; simp) (Fr_refl _ _ _)
  have hF0 := FX_fr f0 hF
  simp only [fx_0_0 hF, ex_some, s0_1, true_and, forall_eq, t1, fx_0_2 hF0, fx_0_0 hF0, s0_11, e11]
  have tz : ∀ M', M'.1 1 1 = 0 → M'.1 142 4 = 0 → V_txt M' := fun M' a b => ⟨0, by omega, a, b, fun j hj => absurd hj (by omega)⟩
  rw [show (3 : Int32) = nI 3 from rfl, nI_ltI (by omega) (by omega)]
  refine ⟨fun hnb => ?_, fun hnb => ?_⟩
  · obtain ⟨b, q, e, hR⟩ := RX_ex (c := c) (len := len) (ak := true) 2000 0 0 0 [] (fun _ => ⟨rfl, by omega⟩) (fun z => absurd z (by omega))
    have bd := RX_bd _ _ _ _ _ _ _ _ hR
    have hq : q ≤ len := by
      rcases hb : b with _ | _
      · exact (bd.2.2 hb).2 (by omega)
      · exact (bd.1 (by omega) hb).2.1
    have he : b = true → e.length ≤ 60 := fun hb => by have := bd.1 (by omega) hb; omega
    have wf : b = true → WFx e := fun hb => by
      subst hb
      exact ⟨RX_wf _ _ _ _ _ _ _ hR (fun z => absurd z (by omega)) 0, he rfl⟩
    have mq := m1q q (by omega)
    obtain ⟨p3, hp3, hm3⟩ := prg_13 hprg hnb
    have shp3 := (pr_sh p3 hp3).1
    have shP := (pr_sh P hP).1
    have ob : nI on ||| ((1 : Int32) <<< (nI nb &&& 31)) = nI (on ||| 2 ^ nb) := or_bit8 on (by omega) nb (by omega)
    have obl : on ||| 2 ^ nb < 2 ^ (nb + 1) := Nat.or_lt_two_pow (Nat.lt_of_lt_of_le a3 (Nat.pow_le_pow_right (by omega) (by omega))) (Nat.pow_lt_pow_right (by omega) (by omega))
    have dt : ∀ b' j, (b' = 142) ∨ b' = 144 ∨ (b' = 1 ∧ j = 1) ∨ b' = 116 ∨ b' = 11 → dAs P b' j = false := by
      intro b' j h
      have : ∀ P ∈ PR, 11 < P ∨ P + 5 < 11 := by decide
      have := this P hP
      unfold dAs
      simp only [Bool.or_eq_false_iff, Bool.and_eq_false_iff, beq_eq_false_iff_ne, decide_eq_false_iff_not]
      omega
    have model : ∀ (M1 M2 : Mm) (r : Int32), Fr (dAs P) eN (stI M 1 1 0) M1 → FX M2 → (∀ b j, ¬ (b = 11 ∧ (j = 11 ∨ j = 14)) → ¬ ((b = 133 ∨ b = 136 ∨ b = 139) ∧ j = 4) → M2.1 b j = M1.1 b j) → M2.2.1 = M1.2.1 → ((b = true → q ≠ len) → r = (-1 : Int32) - nI q ∧ M2 = M1) → (b = true → q = len → 60 < n → r = -61 ∧ M2 = M1) → (b = true → q = len → n ≤ 60 → r = nI nb ∧ M2.2.2 = (stR (stR M1 1 6 (some p3)) 13 nb (some P)).2.2 ∧ M2.1 11 14 = nI (on ||| 2 ^ nb) ∧ M2.1 11 11 = nI (nb + 1) ∧ M2.1 133 4 = 0 ∧ M2.1 136 4 = 0 ∧ M2.1 139 4 = 0 ∧ M1.1 P 6 = 1 ∧ M1.1 (P + 4) 0 = 0 ∧ M1.1 (P + 4) 1 = nI e.length ∧ ∀ j, j < e.length → M1.1 (P + 5) j = nI (e.getD j 0)) → f_X11_bolt S0 142 M2 (AN r K) := by
      intro M1 M2 r f1 hF2 x1 x2 hbad hlong hok
      have e1 : M2.1 1 1 = 0 := by rw [x1 1 1 (by omega) (by omega), f1.1 1 1 (dt _ _ (by omega)), rI_eq]
      have i142 : ∀ j, M2.1 142 j = M.1 142 j := fun j => by rw [x1 142 j (by omega) (by omega), f1.1 142 j (dt _ _ (by omega)), rI_ne (by omega)]
      have e4 : M2.1 142 4 = nI n := by rw [i142]; exact t4
      have f01 : Fr (Drd P) E3 M M1 := Fr_tr f0 (dAs_rd f1)
      have td2 : V_told M2 := V_told_ag (M := M) (by rw [x1 116 1 (by omega) (by omega), f1.1 116 1 (dt _ _ (by omega))]; rfl) (i142 1) (by rw [x2, f1.2.1 117 rfl]; rfl) (by rw [x2, f1.2.1 143 rfl]; rfl) htd
      have plain : M2 = M1 → ∀ M3, Fr dRe eN M2 M3 → M3.1 142 4 = 0 → V M3 := by
        intro rr M3 f3 g4
        rw [rr] at f3
        exact V_rdF hV h6 (Fr_tr f01 (dRe_rd f3)) (by rw [f3.1 1 1 rfl, ← rr]; exact e1) g4 (told_fr f3 rfl rfl rfl rfl (by rw [← rr]; exact td2))
      unfold f_X11_bolt
      intro m1 em1
      subst em1
      have f3 : Fr dRe eN M2 (stI M2 142 0 0) := Fr_I rfl (Fr_refl _ _ _)
      refine begM_ok (ak := true) (by rw [rI_ne (by omega)]; exact e4) hn hlen (fun M3 f4 g4 g5 g7 g8 g6 => ?_)
      have f23 : Fr dRe eN M2 M3 := Fr_tr f3 (dBg_re f4)
      have e20 : M3.1 142 20 = nI nb := by rw [f23.1 142 20 rfl, i142]; exact b4
      refine ⟨fun z => absurd ((nI_eq (by omega) (by omega)).mp (show nI nb = nI 3 by rw [← e20]; exact z)) (by omega), fun _ => ?_⟩
      have i144 : ∀ j, j < len → M3.1 144 j = nI (c j) ∧ c j < 256 := fun j hj => by
        rw [f23.1 144 j rfl, x1 144 j (by omega) (by omega), f1.1 144 j (dt _ _ (by omega)), rI_ne (by omega)]
        exact (htx j (by omega)).2
      refine readM_ok hR (FX_fr f23 hF2) hn hlen i144 g5 g7 g8 g6 (fun hb M4 f5 => ⟨fun z => absurd z mq.1, fun _ => ?_⟩) (fun h1 h2 h3 M4 f5 => ⟨fun z => absurd z (by decide), fun _ => ?_⟩) (fun h1 h2 h3 M4 f5 rw4 => ⟨fun _ => ?_, fun z => absurd (by decide) z⟩)
      · obtain ⟨er, rr⟩ := hbad hb
        exact an_ok er (hK _ (plain rr M4 (Fr_tr f23 (dRw_re f5)) ((f5.1 142 4 rfl).trans g4)))
      · obtain ⟨er, rr⟩ := hlong h1 h2 h3
        exact an_ok er (hK _ (plain rr M4 (Fr_tr f23 (dRw_re f5)) ((f5.1 142 4 rfl).trans g4)))
      · obtain ⟨er, rr, s14, s11, s33, s36, s39, p6, p40, p41, p5⟩ := hok h1 h2 h3
        have f24 := Fr_tr f23 (dRw_re f5)
        have e20' : M4.1 142 20 = nI nb := by rw [f5.1 142 20 rfl]; exact e20
        rw [e20', show (70 : Int32) = nI 70 from rfl, nI_add]
        refine copies_ok (r := 74) (r' := 70 + nb) (by omega) (by omega) (by omega) (FX_fr f24 hF2) (fun M5 f6 c5 c6 c8 c7 => ?_)
        have d142 : ∀ j, dCp (70 + nb) 142 j = false := fun j => by unfold dCp; simp
        have g20 : M5.1 142 20 = nI nb := by rw [f6.1 142 20 (d142 _)]; exact e20'
        have g21 : M5.1 142 21 = nI on := by rw [f6.1 142 21 (d142 _), f24.1 142 21 rfl, i142]; exact b6
        simp only [forall_eq]
        rw [g20, g21, ob]
        have g20' : (stI M5 142 21 (nI (on ||| 2 ^ nb))).1 142 20 = nI nb := by rw [rI_ne (by omega)]; exact g20
        rw [g20', nI_1]
        refine forM_ok (fx_I (fx_I (FX_fr f6 (FX_fr f24 hF2)))) ?_
        generalize hM6 : stI (stI (stI (stI (stI M5 142 21 (nI (on ||| 2 ^ nb))) 142 20 (nI (nb + 1))) 185 0 0) 185 1 0) 185 2 0 = M6
        have o6 : ∀ b j, ¬ (b = 142 ∧ (j = 20 ∨ j = 21)) → b ≠ 185 → M6.1 b j = M5.1 b j := fun b j w1 w2 => by
          rw [← hM6, rI_ne (by omega), rI_ne (by omega), rI_ne (by omega), rI_ne (by omega), rI_ne (by omega)]
        have e6 : M6.1 142 20 = nI (nb + 1) := by rw [← hM6, rI_ne (by omega), rI_ne (by omega), rI_ne (by omega), rI_eq]
        have e61 : M6.1 142 21 = nI (on ||| 2 ^ nb) := by rw [← hM6, rI_ne (by omega), rI_ne (by omega), rI_ne (by omega), rI_ne (by omega), rI_eq]
        have lo : ∀ b j, b < 142 → M6.1 b j = M2.1 b j := fun b j hb => by
          rw [o6 b j (by omega) (by omega), f6.1 b j (by unfold dCp; simp only [Bool.or_eq_false_iff, Bool.and_eq_false_iff, beq_eq_false_iff_ne, decide_eq_false_iff_not]; omega), f24.1 b j (by unfold dRe; simp only [Bool.or_eq_false_iff, Bool.and_eq_false_iff, beq_eq_false_iff_ne, decide_eq_false_iff_not]; omega)]
        have loP : ∀ b j, P ≤ b → b ≤ P + 5 → M6.1 b j = M1.1 b j := fun b j w1 w2 => by
          have : ∀ P ∈ PR, ∀ k, k < 6 → P + k ≠ 11 := by decide
          have k0 := this P hP (b - P) (by omega)
          rw [lo b j (by omega), x1 b j (by omega) (by omega)]
        have I : ∀ b j, Drd P b j = false → dCp (70 + nb) b j = false → ¬ (b = 142 ∧ (j = 20 ∨ j = 21)) → b ≠ 185 → ¬ (b = 11 ∧ (j = 11 ∨ j = 14)) → ¬ ((b = 133 ∨ b = 136 ∨ b = 139) ∧ j = 4) → M6.1 b j = M.1 b j := fun b j w1 w2 w3 w4 w5 w6 => by
          rw [o6 b j w3 w4, f6.1 b j w2, f24.1 b j ?_, x1 b j w5 w6]
          · exact f01.1 b j w1
          · unfold Drd at w1
            unfold dRe
            simp only [Bool.or_eq_false_iff, Bool.and_eq_false_iff, beq_eq_false_iff_ne, decide_eq_false_iff_not] at *
            omega
        have R6 : M6.2.2 = M2.2.2 := by rw [← hM6]; show M5.2.2 = _; rw [f6.2.2, f24.2.2]
        have J6 : ∀ b, M6.2.1 b = M2.2.1 b := fun b => by rw [← hM6]; show M5.2.1 b = _; rw [f6.2.1 b rfl, f24.2.1 b rfl]
        have r2 : ∀ b j, M6.2.2 b j = if b = 13 ∧ j = nb then some P else if b = 1 ∧ j = 6 then some p3 else M.2.2 b j := fun b j => by
          rw [R6, rr]
          show (if b = 13 ∧ j = nb then some P else if b = 1 ∧ j = 6 then some p3 else M1.2.2 b j) = _
          rw [f01.2.2]
        have rn : ∀ b, b ≠ 1 → b ≠ 13 → M6.2.2 b = M.2.2 b := fun b w1 w2 => funext fun j => by rw [r2, if_neg (by omega), if_neg (by omega)]
        have I4 : ∀ b j, D4 b j = false → M6.1 b j = M.1 b j := fun b j hb => by
          unfold D4 at hb
          simp only [Bool.or_eq_false_iff, Bool.and_eq_false_iff, beq_eq_false_iff_ne, decide_eq_false_iff_not] at hb
          obtain ⟨⟨⟨⟨hd3, hd1⟩, hd2⟩, hd4⟩, hd5⟩ := hb
          refine I b j (Drd_D3 hP hd3) ?_ (by omega) (by omega) (by omega) (by omega)
          unfold D3 at hd3
          unfold dCp
          simp only [Bool.or_eq_false_iff, Bool.and_eq_false_iff, beq_eq_false_iff_ne, decide_eq_false_iff_not] at *
          omega
        have R4 : ∀ a, (∀ j, D4 a j = false) → M6.1 a = M.1 a := fun a ha => funext fun j => I4 a j (ha j)
        have agp : ∀ p', p' ≠ P ∧ p' ∈ PR → AGP M M6 p' := fun p' hp' => AGP_of hP hp'.2 hp'.1 (fun b' j hb hk => by
          have k0 := hk 0 (by omega)
          have k1 := hk 1 (by omega)
          have k2 := hk 2 (by omega)
          have k3 := hk 3 (by omega)
          have k4 := hk 4 (by omega)
          have k5 := hk 5 (by omega)
          unfold prc at hb
          refine I b' j ?_ ?_ (by omega) (by omega) (by omega) (by omega)
          · unfold Drd
            simp only [Bool.or_eq_false_iff, Bool.and_eq_false_iff, beq_eq_false_iff_ne, decide_eq_false_iff_not]
            omega
          · unfold dCp; simp only [Bool.or_eq_false_iff, Bool.and_eq_false_iff, beq_eq_false_iff_ne, decide_eq_false_iff_not]; omega)
        have agr : ∀ r', r' < 73 → r' ≠ 70 + nb → AGR M M6 r' := fun r' hr hne => by
          have d1 : ∀ b j, ((b = 145 ∨ b = 146 ∨ b = 148) ∧ j = r') ∨ (b = 147 ∧ 64 * r' ≤ j ∧ j < 64 * r' + 64) → M6.1 b j = M.1 b j := fun b j hb => by
            refine I b j ?_ ?_ (by omega) (by omega) (by omega) (by omega)
            · unfold Drd; simp only [Bool.or_eq_false_iff, Bool.and_eq_false_iff, beq_eq_false_iff_ne, decide_eq_false_iff_not]; omega
            · unfold dCp; simp only [Bool.or_eq_false_iff, Bool.and_eq_false_iff, beq_eq_false_iff_ne, decide_eq_false_iff_not]; omega
          exact ⟨d1 _ _ (by omega), d1 _ _ (by omega), d1 _ _ (by omega), fun j hj => d1 _ _ (by omega)⟩
        have rwb : RwM M6 (70 + nb) e := by
          have := Rw_cp c8 c7 (he h1) rw4
          exact ⟨by rw [o6 _ _ (by omega) (by omega)]; exact this.1, fun j hj => by rw [o6 _ _ (by omega) (by omega)]; exact this.2 j hj⟩
        have td6 : V_told M6 := V_told_ag (M := M2) (lo 116 1 (by omega)) (by rw [o6 _ _ (by omega) (by omega), f6.1 142 1 (d142 _), f24.1 142 1 rfl]) (J6 117) (J6 143) td2
        rw [e6, nI_pred]
        refine an_ok er (hK _ (V_mk4 hV I4 (fun b hb => by rw [J6, x2]; exact f01.2.1 b hb) (FX_pl (M := M) (fun b j hb => by rw [r2, if_neg (by omega), if_neg (by omega)]) hF) (rn 10 (by omega) (by omega)) (tz _ (by rw [lo 1 1 (by omega)]; exact e1) (by rw [o6 _ _ (by omega) (by omega), f6.1 142 4 (d142 _), f5.1 142 4 rfl]; exact g4)) td6 ?_ (prg_sw13 hprg hnb h6 hm3 (fun b j w1 w2 => by rw [r2, if_neg w2, if_neg w1]) (by rw [r2, if_neg (by omega), if_pos ⟨rfl, rfl⟩]) (by rw [r2, if_pos ⟨rfl, rfl⟩])) (V_task_pr (rn 12 (by omega) (by omega)) (fun t p' ht hh => agp p' (q4 t p' ht hh)) (fun r' hr => agr r' (by omega) (by omega)) (I4 _ _ rfl) (R4 _ fun _ => rfl) (R4 _ fun _ => rfl) (R4 _ fun _ => rfl) h11') (V_must_pr (by rw [rn 11 (by omega) (by omega)]) (fun p' hh => agp p' (q3 p' hh)) (agr 69 (by omega) (by omega)) (I _ _ ?_ (d142 _) (by omega) (by omega) (by omega) (by omega)) h12') (fun b' hb' hl' => ?_) (V_ptch_pr (rn 14 (by omega) (by omega)) (fun j p' hj hh => agp p' (q7 j p' hj hh)) (fun j hj => agr _ (by omega) (by omega)) (I4 _ _ rfl) (I4 _ _ rfl) (R4 _ fun _ => rfl) (R4 _ fun _ => rfl) (R4 _ fun _ => rfl) (R4 _ fun _ => rfl) h14') (fun i hi => ?_)))
        · exact ⟨nt, nb + 1, on ||| 2 ^ nb, np, a1, by omega, obl, a4, (I4 _ _ rfl).trans b1, (I4 _ _ rfl).trans b2, (lo _ _ (by omega)).trans s11, e6, (lo _ _ (by omega)).trans s14, e61, (I4 _ _ rfl).trans b7, (I4 _ _ rfl).trans b8, (I4 _ _ rfl).trans b9⟩
        · unfold Drd
          simp only [Bool.or_eq_false_iff, Bool.and_eq_false_iff, beq_eq_false_iff_ne, decide_eq_false_iff_not]
          omega
        · rw [lo 11 11 (by omega), s11, nI_ltI (by omega) (by omega)] at hl'
          by_cases eb : b' = nb
          · subst eb
            exact ⟨P, hP, by rw [r2, if_pos ⟨rfl, rfl⟩], by rw [loP _ _ (by omega) (by omega)]; exact p6, e, wf h1, by rw [loP _ _ (by omega) (by omega)]; exact p40, by rw [loP _ _ (by omega) (by omega)]; exact p41, fun j hj => by rw [loP _ _ (by omega) (by omega)]; exact p5 j hj, rwb⟩
          · obtain ⟨p', g1', g2', g3'⟩ := h13' b' hb' (by rw [b3]; exact nI_lt (by omega) (by omega))
            exact ⟨p', g1', by rw [r2, if_neg (by omega), if_neg (by omega)]; exact g2', XP_pr (agp p' (q5 b' p' hb' g2')) (agr _ (by omega) (by omega)) g3'⟩
        · have c3 : i = 0 ∨ i = 1 ∨ i = 2 := by omega
          rcases c3 with rfl | rfl | rfl
          · exact ⟨(lo _ _ (by omega)).trans s33, by rw [← hM6, rI_ne (by omega), rI_ne (by omega), rI_eq]⟩
          · exact ⟨(lo _ _ (by omega)).trans s36, by rw [← hM6, rI_ne (by omega), rI_eq]⟩
          · exact ⟨(lo _ _ (by omega)).trans s39, by rw [← hM6, rI_eq]⟩
    refine asked_ok (c := c) hR hF0 h6 hP hn hlen (fun j hj => by rw [rI_ne (by omega)]; exact ⟨(htx j hj).1, (htx j hj).2.2⟩) (fun hb M1 f1 => ⟨fun z => absurd z (nI_pos (by omega)), fun _ => ?_⟩) (fun h1 h2 h3 M1 f1 => ⟨fun z => absurd z (by decide), fun _ => ?_⟩) (fun h1 h2 h3 M1 f1 g6 g40 g41 g5 => ⟨fun _ => ?_, fun z => absurd (by decide) z⟩)
    · exact model M1 M1 _ f1 (FX_fr f1 hF0) (fun _ _ _ _ => rfl) rfl (fun _ => ⟨rfl, rfl⟩) (fun h1 h2 => absurd h2 (hb h1)) (fun h1 h2 => absurd h2 (hb h1))
    · exact model M1 M1 _ f1 (FX_fr f1 hF0) (fun _ _ _ _ => rfl) rfl (fun h => absurd h2 (h h1)) (fun _ _ _ => ⟨by decide, rfl⟩) (fun _ _ h => by omega)
    · have hF1 := FX_fr f1 hF0
      have e16 : M1.2.2 1 6 = some P := by rw [f1.2.2]; exact h6
      have e13 : M1.2.2 13 nb = some p3 := by rw [f1.2.2]; exact hm3
      have hin : vp_in (nI nb) 3 := vp_in_nI (by omega) (by omega)
      have hcl : (nI nb).toNatClampNeg = nb := nI_clamp (by omega)
      have hFs : FX (stR (stR M1 1 6 (some p3)) 13 nb (some P)) := FX_pl (M := M1) (fun b' j hb => by
        show (if b' = 13 ∧ j = nb then some P else if b' = 1 ∧ j = 6 then some p3 else M1.2.2 b' j) = _
        rw [if_neg (by omega), if_neg (by omega)]) hF1
      have i14 : M1.1 11 14 = nI on := by rw [f1.1 11 14 (dt _ _ (by omega)), rI_ne (by omega)]; exact b5
      have i11 : M1.1 11 11 = nI nb := by rw [f1.1 11 11 (dt _ _ (by omega))]; exact e11
      have j14 : (stR (stR M1 1 6 (some p3)) 13 nb (some P)).1 11 14 = nI on := i14
      unfold f_X6_exchange
      simp only [fx_0_2 hF1, fx_0_0 hF1, fx_11_1 hF1, e13, e16, ex_some, s0_1, s0_11, s0_13, ex_sh, hin, hcl, shp3, shP, true_and, forall_eq, fx_0_2 hFs, j14, ob]
      have hFt : FX (stI (stR (stR M1 1 6 (some p3)) 13 nb (some P)) 11 14 (nI (on ||| 2 ^ nb))) := fx_I hFs
      have j11 : (stI (stR (stR M1 1 6 (some p3)) 13 nb (some P)) 11 14 (nI (on ||| 2 ^ nb))).1 11 11 = nI nb := by rw [rI_ne (by omega)]; exact i11
      simp only [fx_0_2 hFt, ex_some, s0_11, true_and, forall_eq, j11, nI_1]
      refine forC_ok (fx_I hFt) ?_
      refine model M1 _ (nI nb) f1 (fx_I (fx_I (fx_I (fx_I hFt)))) (fun b' j w1 w2 => ?_) rfl (fun h => absurd h2 (h h1)) (fun _ _ h => by omega) (fun _ _ _ => ⟨rfl, rfl, ?_, ?_, ?_, ?_, rI_eq, g6, g40, g41, g5⟩)
      · rw [rI_ne (by omega), rI_ne (by omega), rI_ne (by omega), rI_ne (by omega), rI_ne (by omega)]; rfl
      · rw [rI_ne (by omega), rI_ne (by omega), rI_ne (by omega), rI_ne (by omega), rI_eq]
      · rw [rI_ne (by omega), rI_ne (by omega), rI_ne (by omega), rI_eq]
      · rw [rI_ne (by omega), rI_ne (by omega), rI_eq]
      · rw [rI_ne (by omega), rI_eq]
  · -- no place left
    have n3 : nb = 3 := by omega
    subst n3
    unfold f_X11_bolt
    intro m1 em1
    subst em1
    have f3 : Fr dRe eN (stI M 1 1 0) (stI (stI M 1 1 0) 142 0 0) := Fr_I rfl (Fr_refl _ _ _)
    refine begM_ok (n := n) (ak := true) (by rw [rI_ne (by omega), rI_ne (by omega)]; exact t4) hn hlen (fun M3 f4 g4 g5 g7 g8 g6 => ?_)
    have f23 : Fr dRe eN (stI M 1 1 0) M3 := Fr_tr f3 (dBg_re f4)
    have e20 : M3.1 142 20 = 3 := by rw [f23.1 142 20 rfl, rI_ne (by omega)]; exact b4
    refine ⟨fun _ => an_ok rfl (hK _ (V_rdF hV h6 (Fr_tr f0 (dRe_rd f23)) (by rw [f23.1 1 1 rfl, rI_eq]) g4 (told_fr f23 rfl rfl rfl rfl ?_))), fun z => absurd e20 z⟩
    exact V_told_ag (M := M) rfl rfl rfl rfl htd
