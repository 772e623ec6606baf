/-! task -/
theorem op2 (p1 : Int32) (M : Mm) (K : Mm → Prop) (hV : V M) (hK : ∀ m, V m → K m) : OP2 p1 M K := by
  have hF := hV.1
  obtain ⟨n, c, hn, t1, t4, htx⟩ := txt_of hV
  have htd : V_told M := hV.2.2.2.2.2.2.1
  have hprg : V_prg M := hV.2.2.2.2.2.2.2.2.2.1
  have hh := hV
  obtain ⟨h1', h2', h3', h4', h5', h6', h7', h8', h9', h10', h11', h12', h13', h14', h15', h16', h17', h18', h19'⟩ := hh
  obtain ⟨nt, nb, on, np, a1, a2, a3, a4, b1, b2, b3, b4, b5, b6, b7, b8, b9⟩ := h9'
  obtain ⟨P, hP, h6, q3, q4, q5, q7⟩ := prg_ne hprg
  obtain ⟨len, hlen⟩ : ∃ len, len = if 60 < n then 60 else n := ⟨_, rfl⟩
  have hle : len ≤ 60 ∧ len ≤ n := by rw [hlen]; split <;> omega
  have hP1 : ∀ P ∈ PR, P ≠ 1 ∧ P + 5 ≤ 103 ∧ (2 < P ∨ P + 5 < 2) ∧ 4 ≤ P ∧ ((4 ≤ P ∧ P + 5 ≤ 9) ∨ (20 ≤ P ∧ P + 5 ≤ 103)) := by decide
  obtain ⟨z1, z2, z3, z4, z5⟩ := hP1 P hP
  show f_X10_task S0 0 p1 M (fun r m1 => f_X11_task S0 142 p1 m1 (AN r K))
  unfold f_X10_task f_X10_takeText
  have e10 : (stI M 1 1 0).1 11 10 = nI nt := by rw [rI_ne (by omega)]; exact b1
  have f0 : Fr (Drd P) E3 M (stI M 1 1 0) := Fr_I (by unfold Drd; simp) (Fr_refl _ _ _)
  have hF0 := FX_fr f0 hF
  simp only [fx_0_0 hF, ex_some, s0_1, true_and, forall_eq, t1, fx_0_2 hF0, fx_0_0 hF0, s0_11, e10]
  have tz : ∀ M', M'.1 1 1 = 0 → M'.1 142 4 = 0 → V_txt M' := fun M' a b => ⟨0, by omega, a, b, fun j hj => absurd hj (by omega)⟩
  obtain ⟨hi, hhi⟩ : ∃ hi, hi = if 3 < nt then 3 else nt := ⟨_, rfl⟩
  have hib : hi ≤ 3 ∧ hi ≤ nt ∧ (hi = 3 ∨ hi = nt) := by rw [hhi]; split <;> omega
  have hmin : (if (3 : Int32) < nI nt then (3 : Int32) else nI nt) = nI hi := by
    rw [hhi]
    by_cases h : 3 < nt
    · have h' : (3 : Int32) < nI nt := show nI 3 < nI nt from nI_lt h (by omega)
      rw [if_pos h, if_pos h']; rfl
    · have h' : ¬ (3 : Int32) < nI nt := show ¬ nI 3 < nI nt from nI_nlt (by omega) (by omega)
      rw [if_neg h, if_neg h']
  -- a refusal
  have refu : (p1 < 0 ∨ nI nt < p1 ∨ ¬ p1 < 4) → f_X11_task S0 142 p1 (stI M 1 1 0) (AN (-100) K) := by
    intro hx
    unfold f_X11_task
    intro m1 em1
    subst em1
    have f3 : Fr dRe eN (stI M 1 1 0) (stI (stI M 1 1 0) 142 0 0) := Fr_I rfl (Fr_refl _ _ _)
    refine begM_ok (n := n) (ak := false) (by rw [rI_ne (by omega), rI_ne (by omega)]; exact t4) hn hlen (fun M3 f4 g4 g5 g7 g8 g6 => ?_)
    have f23 : Fr dRe eN (stI M 1 1 0) M3 := Fr_tr f3 (dBg_re f4)
    have fin : AN (-100) K (-100) M3 := an_ok rfl (hK _ (V_rdF hV h6 (Fr_tr f0 (dRe_rd f23)) (by rw [f23.1 1 1 rfl, rI_eq]) g4 (told_fr f23 rfl rfl rfl rfl (V_told_ag (M := M) rfl rfl rfl rfl htd))))
    have i15 : M3.1 142 15 = nI nt := by rw [f23.1 142 15 rfl, rI_ne (by omega)]; exact b2
    rw [i15, hmin]
    refine f_in (nI hi) rfl (fun x y => ?_) (fun _ => ⟨fun _ => fin, fun z => absurd rfl z⟩)
    exfalso
    obtain ⟨t, ht0, rfl⟩ := nI_of x
    rw [nI_ltI (by omega) ht0] at y
    rcases hx with h | h | h
    · exact x h
    · rw [nI_ltI (by omega) ht0] at h; omega
    · exact h (show nI t < nI 4 from nI_lt (by omega) (by omega))
  refine ⟨fun h => refu (Or.inl h), fun x => ⟨fun h => refu (Or.inr (Or.inl h)), fun y => ⟨fun x4 => ?_, fun h => refu (Or.inr (Or.inr h))⟩⟩⟩
  clear refu
  obtain ⟨t, ht0, rfl⟩ := nI_of x
  have htn : t ≤ nt := by rw [nI_ltI (by omega) ht0] at y; omega
  have ht4 : t < 4 := (nI_ltI ht0 (by omega)).mp (show nI t < nI 4 from x4)
  obtain ⟨ps, qs, kds, nus, bs, es, m, hL⟩ := LLs_ex (c := c) hle.1
  have hm := hL.1
  have pb := LLs_bd hle.1 hL m (Nat.le_refl _)
  have bd := LX_bd hle.1 pb.1 (hL.2.2.1 m)
  have hq : qs m ≤ len := by
    rcases hb : bs m with _ | _
    · exact (bd.2 hb).2
    · exact (bd.1 hb).2.1
  have mq := m1q (qs m) (by omega)
  have eL : bs m = true → ∀ j, j < m + 1 → (es j).length ≤ 60 ∧ LnOk (kds j) (nus j) (es j) := fun hb j hj => by
    have b0 := LLs_bd hle.1 hL j (by omega)
    have hbj : bs j = true := by
      by_cases e : j = m
      · rw [e]; exact hb
      · exact (hL.2.2.2.1 j (by omega)).1
    have := (LX_bd hle.1 b0.1 (hL.2.2.1 j)).1 hbj
    exact ⟨by omega, this.2.2.2⟩
  obtain ⟨p2, hp2, hm2⟩ := prg_12 hprg ht4
  have shp2 := (pr_sh p2 hp2).1
  have shP := (pr_sh P hP).1
  obtain ⟨nt', hnt'⟩ : ∃ nt', nt' = if t = nt then nt + 1 else nt := ⟨_, rfl⟩
  have hnt : nt' ≤ 4 ∧ nt ≤ nt' ∧ t < nt' ∧ ∀ k, k < nt' → k ≠ t → k < nt := by
    rw [hnt']
    split
    · exact ⟨by omega, by omega, by omega, fun k _ _ => by omega⟩
    · exact ⟨by omega, by omega, by omega, fun k _ _ => by omega⟩
  have hmax : (if nI nt < nI (t + 1) then nI (t + 1) else nI nt) = nI nt' := by
    rw [hnt']
    by_cases h : t = nt
    · rw [if_pos h, if_pos (nI_lt (by omega) (by omega)), h]
    · rw [if_neg h, if_neg (nI_nlt (by omega) (by omega))]
  obtain ⟨A, B, vA, vB, vM, vj0, vj1, vl⟩ := h15'
  have hin : vp_in (nI t) 4 := vp_in_nI (by omega) (by omega)
  have hcl : (nI t).toNatClampNeg = t := nI_clamp (by omega)
  have dt : ∀ b' j, (b' = 142) ∨ b' = 144 ∨ (b' = 1 ∧ j = 1) ∨ b' = 116 ∨ b' = 11 → dAs P b' j = false := by
    intro b' j h
    have : ∀ P ∈ PR, 11 < P ∨ P + 5 < 11 := by decide
    have := this P hP
    unfold dAs
    simp only [Bool.or_eq_false_iff, Bool.and_eq_false_iff, beq_eq_false_iff_ne, decide_eq_false_iff_not]
    omega
  have model : ∀ (M1 M2 : Mm) (r : Int32), Fr (dAs P) eN (stI M 1 1 0) M1 → FX M2 → (∀ b j, ¬ (b = 11 ∧ j = 10) → ¬ ((b = 133 ∨ b = 136 ∨ b = 139) ∧ j = 4) → M2.1 b j = M1.1 b j) → (∀ b, b ≠ 113 → M2.2.1 b = M1.2.1 b) → ((bs m = true → qs m ≠ len) → r = (-1 : Int32) - nI (qs m) ∧ M2 = M1) → (bs m = true → qs m = len → 60 < n → r = -61 ∧ M2 = M1) → (bs m = true → qs m = len → n ≤ 60 → r = nI (m + 1) ∧ M2.2.2 = (stR (stR M1 1 6 (some p2)) 12 t (some P)).2.2 ∧ M2.1 11 10 = nI nt' ∧ M2.1 133 4 = 0 ∧ M2.1 136 4 = 0 ∧ M2.1 139 4 = 0 ∧ M2.2.1 113 0 = lN A ∧ M2.2.1 113 1 = lN (put B (24 + 4 * t) 4 0) ∧ M1.1 P 6 = nI (m + 1) ∧ M1.1 P 5 = nI len ∧ (∀ j, j < len → M1.1 (P + 1) j = nI (c j)) ∧ ∀ i, i ≤ m → LnC M1 P i (kds i) (nus i) (es i)) → f_X11_task S0 142 (nI t) M2 (AN r K) := by
    intro M1 M2 r f1 hF2 x1 x2 hbad hlong hok
    have e1 : M2.1 1 1 = 0 := by rw [x1 1 1 (by omega) (by omega), f1.1 1 1 (dt _ _ (by omega)), rI_eq]
    have i142 : ∀ j, M2.1 142 j = M.1 142 j := fun j => by rw [x1 142 j (by omega) (by omega), f1.1 142 j (dt _ _ (by omega)), rI_ne (by omega)]
    have e4 : M2.1 142 4 = nI n := by rw [i142]; exact t4
    have f01 : Fr (Drd P) E3 M M1 := Fr_tr f0 (dAs_rd f1)
    have td2 : V_told M2 := V_told_ag (M := M) (by rw [x1 116 1 (by omega) (by omega), f1.1 116 1 (dt _ _ (by omega))]; rfl) (i142 1) (by rw [x2 117 (by omega), f1.2.1 117 rfl]; rfl) (by rw [x2 143 (by omega), f1.2.1 143 rfl]; rfl) htd
    have plain : M2 = M1 → ∀ M3, Fr dRe eN M2 M3 → M3.1 142 4 = 0 → V M3 := by
      intro rr M3 f3 g4
      rw [rr] at f3
      exact V_rdF hV h6 (Fr_tr f01 (dRe_rd f3)) (by rw [f3.1 1 1 rfl, ← rr]; exact e1) g4 (told_fr f3 rfl rfl rfl rfl (by rw [← rr]; exact td2))
    unfold f_X11_task
    intro m1 em1
    subst em1
    have f3 : Fr dRe eN M2 (stI M2 142 0 0) := Fr_I rfl (Fr_refl _ _ _)
    refine begM_ok (n := n) (ak := false) (by rw [rI_ne (by omega)]; exact e4) hn hlen (fun M3 f4 g4 g5 g7 g8 g6 => ?_)
    have f23 : Fr dRe eN M2 M3 := Fr_tr f3 (dBg_re f4)
    have i15 : M3.1 142 15 = nI nt := by rw [f23.1 142 15 rfl, i142]; exact b2
    have hF3 : FX M3 := FX_fr f23 hF2
    rw [i15, hmin]
    refine f_in (nI hi) rfl (fun x' y' => ⟨fun z => absurd z (by decide), fun _ => ⟨m + 1 + 1, ?_⟩⟩) (fun z => absurd (z.resolve_left x) (nI_nlt (by omega) (by omega)))
    have i144 : ∀ j, j < len → M3.1 144 j = nI (c j) ∧ c j < 256 := fun j hj => by
      rw [f23.1 144 j rfl, x1 144 j (by omega) (by omega), f1.1 144 j (dt _ _ (by omega)), rI_ne (by omega)]
      exact (htx j (by omega)).2
    refine linesM_ok hL hle.1 ⟨hF3, g6, i144, g8, g5, g7⟩ (fun M4 f5 p5 R5 => ?_)
    have f24 := Fr_tr f23 (dLl_re f5)
    have hF4 := FX_fr f24 hF2
    have g46 : M4.1 142 6 = nI len := by rw [f5.1 142 6 rfl]; exact g6
    have g44 : M4.1 142 4 = 0 := by rw [f5.1 142 4 rfl]; exact g4
    refine fault_ok (b := bs m) p5 g46 hq hn hlen rfl (fun hb => ⟨fun z => absurd z mq.1, fun _ => ?_⟩) (fun h1 h2 h3 => ⟨fun z => absurd z (by decide), fun _ => ?_⟩) (fun h1 h2 h3 => ⟨fun _ => ⟨m + 1 + 1, ?_⟩, fun z => absurd (by decide) z⟩)
    · obtain ⟨er, rr⟩ := hbad hb
      exact an_ok er (hK _ (plain rr M4 f24 g44))
    · obtain ⟨er, rr⟩ := hlong h1 h2 h3
      exact an_ok er (hK _ (plain rr M4 f24 g44))
    · obtain ⟨er, rr, s10, s33, s36, s39, sj0, sj1, pp6, pp5, ppt, ppl⟩ := hok h1 h2 h3
      clear hbad hlong hok plain
      refine copL ht4 hm (fun j hj => (eL h1 j hj).1) hF4 (R5 h1) (fun M5 f6 R6 => ⟨len + 1, ?_⟩) (m + 1) 0 M4 (by omega) (Fr_refl _ _ _) (fun j hj => absurd hj (by omega))
      have hF5 := FX_fr f6 hF4
      have dk : ∀ b j, b ≠ 145 → b ≠ 146 → b ≠ 147 → b ≠ 148 → dTk t b j = false := fun b j x1 x2 x3 x4 => by
        unfold dTk; simp only [Bool.or_eq_false_iff, Bool.and_eq_false_iff, beq_eq_false_iff_ne, decide_eq_false_iff_not]; omega
      have dx : ∀ b j, b ≠ 151 → dTx t b j = false := fun b j x1 => by
        unfold dTx; simp only [Bool.and_eq_false_iff, beq_eq_false_iff_ne, decide_eq_false_iff_not]; omega
      refine txtL (c := c) ht4 hle.1 hF5 (by rw [f6.1 142 6 (dk _ _ (by omega) (by omega) (by omega) (by omega))]; exact g46) (fun j hj => by rw [f6.1 144 j (dk _ _ (by omega) (by omega) (by omega) (by omega)), f5.1 144 j rfl]; exact (i144 j hj).1) (fun M6 f7 T6 => ?_) len 0 M5 (by omega) (Fr_refl _ _ _) (fun j hj => absurd hj (by omega))
      have hF6 := FX_fr f7 hF5
      have o6 : ∀ b j, b ≠ 145 → b ≠ 146 → b ≠ 147 → b ≠ 148 → b ≠ 151 → M6.1 b j = M4.1 b j := fun b j y1 y2 y3 y4 y5 => by
        rw [f7.1 b j (dx _ _ y5), f6.1 b j (dk _ _ y1 y2 y3 y4)]
      have g66 : M6.1 142 6 = nI len := by rw [o6 _ _ (by omega) (by omega) (by omega) (by omega) (by omega)]; exact g46
      have k15 : (stI (stI (stI M6 152 t (nI len)) 150 t (nI (m + 1))) 156 t 0).1 142 15 = nI nt := by
        rw [rI_ne (by omega), rI_ne (by omega), rI_ne (by omega), o6 _ _ (by omega) (by omega) (by omega) (by omega) (by omega), f24.1 142 15 rfl, i142]; exact b2
      simp only [rIr, fx_142_18 hF6, fx_142_16 hF6, fx_142_25 hF6, ex_some, s0_152, s0_150, s0_156, ex_sh, hin, hcl, true_and, forall_eq, g66, k15, nI_1, hmax]
      refine forM_ok (fx_I (fx_I (fx_I (fx_I hF6)))) ?_
      generalize hM9 : stI (stI (stI (stI (stI (stI (stI M6 152 t (nI len)) 150 t (nI (m + 1))) 156 t 0) 142 15 (nI nt')) 185 0 0) 185 1 0) 185 2 0 = M9
      have o9 : ∀ b j, ¬ (b = 142 ∧ j = 15) → b ≠ 185 → ¬ ((b = 150 ∨ b = 152 ∨ b = 156) ∧ j = t) → M9.1 b j = M6.1 b j := fun b j w1 w2 w3 => by
        rw [← hM9, rI_ne (by omega), rI_ne (by omega), rI_ne (by omega), rI_ne (by omega), rI_ne (by omega), rI_ne (by omega), rI_ne (by omega)]
      have e915 : M9.1 142 15 = nI nt' := by rw [← hM9, rI_ne (by omega), rI_ne (by omega), rI_ne (by omega), rI_eq]
      have e9156 : M9.1 156 t = 0 := by rw [← hM9, rI_ne (by omega), rI_ne (by omega), rI_ne (by omega), rI_ne (by omega), rI_eq]
      have e9150 : M9.1 150 t = nI (m + 1) := by rw [← hM9, rI_ne (by omega), rI_ne (by omega), rI_ne (by omega), rI_ne (by omega), rI_ne (by omega), rI_eq]
      have e9152 : M9.1 152 t = nI len := by rw [← hM9, rI_ne (by omega), rI_ne (by omega), rI_ne (by omega), rI_ne (by omega), rI_ne (by omega), rI_ne (by omega), rI_eq]
      have e185 : M9.1 185 0 = 0 ∧ M9.1 185 1 = 0 ∧ M9.1 185 2 = 0 := ⟨by rw [← hM9, rI_ne (by omega), rI_ne (by omega), rI_eq], by rw [← hM9, rI_ne (by omega), rI_eq], by rw [← hM9, rI_eq]⟩
      have lo : ∀ b j, b < 142 → M9.1 b j = M2.1 b j := fun b j hb => by
        rw [o9 b j (by omega) (by omega) (by omega), o6 b j (by omega) (by omega) (by omega) (by omega) (by omega), f24.1 b j (by unfold dRe; simp only [Bool.or_eq_false_iff, Bool.and_eq_false_iff, beq_eq_false_iff_ne, decide_eq_false_iff_not]; omega)]
      have loP : ∀ b j, P ≤ b → b ≤ P + 5 → M9.1 b j = M1.1 b j := fun b j w1 w2 => by
        have : ∀ P ∈ PR, ∀ k, k < 6 → P + k ≠ 11 := by decide
        have k0 := this P hP (b - P) (by omega)
        rw [lo b j (by omega), x1 b j (by omega) (by omega)]
      have I : ∀ b j, Drd P b j = false → dTk t b j = false → dTx t b j = false → ¬ (b = 142 ∧ j = 15) → b ≠ 185 → ¬ ((b = 150 ∨ b = 152 ∨ b = 156) ∧ j = t) → ¬ (b = 11 ∧ j = 10) → ¬ ((b = 133 ∨ b = 136 ∨ b = 139) ∧ j = 4) → M9.1 b j = M.1 b j := fun b j w1 w2 w3 w4 w5 w6 w7 w8 => by
        rw [o9 b j w4 w5 w6, f7.1 b j w3, f6.1 b j w2, f24.1 b j ?_, x1 b j w7 w8]
        · exact f01.1 b j w1
        · unfold Drd at w1
          unfold dRe
          simp only [Bool.or_eq_false_iff, Bool.and_eq_false_iff, beq_eq_false_iff_ne, decide_eq_false_iff_not] at *
          omega
      have R9 : M9.2.2 = M2.2.2 := by rw [← hM9]; show M6.2.2 = _; rw [f7.2.2, f6.2.2, f24.2.2]
      have J9 : ∀ b, M9.2.1 b = M2.2.1 b := fun b => by rw [← hM9]; show M6.2.1 b = _; rw [f7.2.1 b rfl, f6.2.1 b rfl, f24.2.1 b rfl]
      have r2 : ∀ b j, M9.2.2 b j = if b = 12 ∧ j = t then some P else if b = 1 ∧ j = 6 then some p2 else M.2.2 b j := fun b j => by
        rw [R9, rr]
        show (if b = 12 ∧ j = t then some P else if b = 1 ∧ j = 6 then some p2 else M1.2.2 b j) = _
        rw [f01.2.2]
      have rn : ∀ b, b ≠ 1 → b ≠ 12 → M9.2.2 b = M.2.2 b := fun b w1 w2 => funext fun j => by rw [r2, if_neg (by omega), if_neg (by omega)]
      have I6 : ∀ b j, D6 b j = false → M9.1 b j = M.1 b j := fun b j hb => by
        unfold D6 at hb
        simp only [Bool.or_eq_false_iff, Bool.and_eq_false_iff, beq_eq_false_iff_ne, decide_eq_false_iff_not] at hb
        obtain ⟨⟨⟨⟨⟨⟨hd3, hd1⟩, hd2⟩, hd4⟩, hd5⟩, hd6⟩, hd7⟩ := hb
        refine I b j (Drd_D3 hP hd3) ?_ (dx _ _ (by omega)) (by omega) (by omega) (by omega) (by omega) (by omega)
        unfold D3 at hd3
        unfold dTk
        simp only [Bool.or_eq_false_iff, Bool.and_eq_false_iff, beq_eq_false_iff_ne, decide_eq_false_iff_not] at *
        omega
      have RR : ∀ a, (∀ j, D6 a j = false) → M9.1 a = M.1 a := fun a ha => funext fun j => I6 a j (ha j)
      have agp : ∀ p', p' ≠ P ∧ p' ∈ PR → AGP M M9 p' := fun p' hp' => AGP_of hP hp'.2 hp'.1 (fun b' j hb hk => by
        have k0 := hk 0 (by omega)
        have k1 := hk 1 (by omega)
        have k2 := hk 2 (by omega)
        have k3 := hk 3 (by omega)
        have k4 := hk 4 (by omega)
        have k5 := hk 5 (by omega)
        unfold prc at hb
        refine I b' j ?_ (dk _ _ (by omega) (by omega) (by omega) (by omega)) (dx _ _ (by omega)) (by omega) (by omega) (by omega) (by omega) (by omega)
        unfold Drd
        simp only [Bool.or_eq_false_iff, Bool.and_eq_false_iff, beq_eq_false_iff_ne, decide_eq_false_iff_not]
        omega)
      have agr : ∀ r', r' < 73 → (r' < 16 * t ∨ 16 * t + 16 ≤ r') → AGR M M9 r' := fun r' hr hne => by
        have d1 : ∀ b j, ((b = 145 ∨ b = 146 ∨ b = 148) ∧ j = r') ∨ (b = 147 ∧ 64 * r' ≤ j ∧ j < 64 * r' + 64) → M9.1 b j = M.1 b j := fun b j hb => by
          refine I b j ?_ ?_ (dx _ _ (by omega)) (by omega) (by omega) (by omega) (by omega) (by omega)
          · unfold Drd; simp only [Bool.or_eq_false_iff, Bool.and_eq_false_iff, beq_eq_false_iff_ne, decide_eq_false_iff_not]; omega
          · unfold dTk; simp only [Bool.or_eq_false_iff, Bool.and_eq_false_iff, beq_eq_false_iff_ne, decide_eq_false_iff_not]; omega
        exact ⟨d1 _ _ (by omega), d1 _ _ (by omega), d1 _ _ (by omega), fun j hj => d1 _ _ (by omega)⟩
      have d0 : ∀ b j, 143 ≤ b → b ≠ 149 → b ≠ 144 → b ≠ 145 → b ≠ 146 → b ≠ 147 → b ≠ 148 → Drd P b j = false := fun b j y1 y2 y3 y4 y5 y6 y7 => by
        unfold Drd; simp only [Bool.or_eq_false_iff, Bool.and_eq_false_iff, beq_eq_false_iff_ne, decide_eq_false_iff_not]; omega
      have i15x : ∀ b j, (b = 150 ∨ b = 152 ∨ b = 156) → j ≠ t → M9.1 b j = M.1 b j := fun b j hb hj =>
        I b j (d0 _ _ (by omega) (by omega) (by omega) (by omega) (by omega) (by omega) (by omega)) (dk _ _ (by omega) (by omega) (by omega) (by omega)) (dx _ _ (by omega)) (by omega) (by omega) (by omega) (by omega) (by omega)
      have td9 : V_told M9 := V_told_ag (M := M2) (lo 116 1 (by omega)) (by rw [o9 _ _ (by omega) (by omega) (by omega), o6 _ _ (by omega) (by omega) (by omega) (by omega) (by omega), f24.1 142 1 rfl]) (J9 117) (J9 143) td2
      have i10 : M9.1 11 10 = nI nt' := (lo _ _ (by omega)).trans s10
      have c144 : ∀ j, j < len → c j < 256 := fun j hj => (i144 j hj).2
      refine an_ok er (hK _ (V_mk6 hV I6 (FX_pl (M := M) (fun b j hb => by rw [r2, if_neg (by omega), if_neg (by omega)]) hF) (rn 10 (by omega) (by omega)) (tz _ (by rw [lo 1 1 (by omega)]; exact e1) (by rw [o9 _ _ (by omega) (by omega) (by omega), o6 _ _ (by omega) (by omega) (by omega) (by omega) (by omega)]; exact g44)) td9 ?_ (prg_sw12 hprg ht4 h6 hm2 (fun b j w1 w2 => by rw [r2, if_neg w2, if_neg w1]) (by rw [r2, if_neg (by omega), if_pos ⟨rfl, rfl⟩]) (by rw [r2, if_pos ⟨rfl, rfl⟩])) (fun t' ht' hl' => ?_) (V_must_pr (by rw [rn 11 (by omega) (by omega)]) (fun p' hh => agp p' (q3 p' hh)) (agr 69 (by omega) (by omega)) (I _ _ ?_ (dk _ _ (by omega) (by omega) (by omega) (by omega)) (dx _ _ (by omega)) (by omega) (by omega) (by omega) (by omega) (by omega)) h12') (V_bolt_pr (rn 13 (by omega) (by omega)) (fun b' p' hb hh => agp p' (q5 b' p' hb hh)) (fun b' hb => agr _ (by omega) (by omega)) (I6 _ _ rfl) h13') (V_ptch_pr2 (rn 14 (by omega) (by omega)) (fun j p' hj hh => agp p' (q7 j p' hj hh)) (fun j hj => agr _ (by omega) (by omega)) (I6 _ _ rfl) (fun w hw => ?_) (RR _ fun _ => rfl) (RR _ fun _ => rfl) (RR _ fun _ => rfl) (RR _ fun _ => rfl) h14') ⟨A, put B (24 + 4 * t) 4 0, vA, put_ltn vB (by omega) (by omega), ⟨fun k hk => ?_, fun k hk => ⟨?_, ?_, ?_⟩⟩, by rw [J9]; exact sj0, by rw [J9]; exact sj1, fun k hk hl => ?_⟩ (fun i hi => ?_)))
      · exact ⟨nt', nb, on, np, hnt.1, a2, a3, a4, i10, e915, (I6 _ _ rfl).trans b3, (I6 _ _ rfl).trans b4, (I6 _ _ rfl).trans b5, (I6 _ _ rfl).trans b6, (I6 _ _ rfl).trans b7, (I6 _ _ rfl).trans b8, (I6 _ _ rfl).trans b9⟩
      · -- the tasks
        rw [i10, nI_ltI (by omega) (by omega)] at hl'
        by_cases et : t' = t
        · subst et
          refine ⟨P, m + 1, len, hP, by rw [r2, if_pos ⟨rfl, rfl⟩], by omega, by omega, hle.1, by rw [loP _ _ (by omega) (by omega)]; exact pp6, e9150, fun i hi => ⟨kds i, nus i, es i, (eL h1 i hi).2, ?_, ?_⟩, by rw [loP _ _ (by omega) (by omega)]; exact pp5, e9152, fun j hj => ?_⟩
          · obtain ⟨l1, l2, s, l3, l4, l5, l6⟩ := ppl i (by omega)
            exact ⟨by rw [loP _ _ (by omega) (by omega)]; exact l1, by rw [loP _ _ (by omega) (by omega)]; exact l2, s, l3, by rw [loP _ _ (by omega) (by omega)]; exact l4, by rw [loP _ _ (by omega) (by omega)]; exact l5, fun j hj => by rw [loP _ _ (by omega) (by omega)]; exact l6 j hj⟩
          · have := LnM_fr f7 (fun b j h => dx _ _ (by omega)) (eL h1 i hi).1 (R6 i hi)
            obtain ⟨u1, u2, u3, u4⟩ := this
            exact ⟨by rw [o9 _ _ (by omega) (by omega) (by omega)]; exact u1, by rw [o9 _ _ (by omega) (by omega) (by omega)]; exact u2, by rw [o9 _ _ (by omega) (by omega) (by omega)]; exact u3, fun j hj => by rw [o9 _ _ (by omega) (by omega) (by omega)]; exact u4 j hj⟩
          · have y1 : M9.1 (P + 1) j = nI (c j) := by rw [loP _ _ (by omega) (by omega)]; exact ppt j hj
            refine ⟨y1.trans ?_, c j, c144 j hj, y1⟩
            rw [o9 _ _ (by omega) (by omega) (by omega)]
            exact (T6 j hj).symm
        · obtain ⟨p', n', z', y1, y2, y3, y4, y5, y6, y7, y8, y9, y10, y11⟩ := h11' t' ht' (by rw [b1]; exact nI_lt (hnt.2.2.2 t' hl' et) (by omega))
          have ha := agp p' (q4 t' p' ht' y2)
          have p0 := ha 0 (by omega)
          rw [Nat.add_zero] at p0
          refine ⟨p', n', z', y1, by rw [r2, if_neg (by omega), if_neg (by omega)]; exact y2, y3, y4, y5, by rw [p0]; exact y6, by rw [i15x 150 t' (by omega) et]; exact y7, fun i hi => LN_pr ha (agr _ (by omega) (by omega)) (y8 i hi), by rw [p0]; exact y9, by rw [i15x 152 t' (by omega) et]; exact y10, fun j hj => ?_⟩
          have i151 : M9.1 151 (60 * t' + j) = M.1 151 (60 * t' + j) := I 151 _ (d0 _ _ (by omega) (by omega) (by omega) (by omega) (by omega) (by omega) (by omega)) (dk _ _ (by omega) (by omega) (by omega) (by omega)) (by unfold dTx; simp only [Bool.and_eq_false_iff, beq_eq_false_iff_ne, decide_eq_false_iff_not]; omega) (by omega) (by omega) (by omega) (by omega) (by omega)
          rw [i151, ha 1 (by omega)]
          exact y11 j hj
      · unfold Drd
        simp only [Bool.or_eq_false_iff, Bool.and_eq_false_iff, beq_eq_false_iff_ne, decide_eq_false_iff_not]
        omega
      · rw [i10]
        rw [b1] at hw
        exact Int32.lt_of_lt_of_le hw (nI_le hnt.2.1 (by omega))
      · rw [I6 _ _ rfl]; exact vM.1 k hk
      · rw [I6 _ _ rfl, (vM.2 k hk).1]
        unfold qA
        rw [fld_put_ne (by omega) (by omega)]
      · rw [I6 _ _ rfl, (vM.2 k hk).2.1]
        unfold qT
        rw [fld_put_ne (by omega) (by omega)]
      · unfold qL
        by_cases ek : k = t
        · subst ek
          rw [fld_put (by omega), e9156]; rfl
        · rw [fld_put_ne (by omega) (by omega), i15x 156 k (by omega) ek, (vM.2 k hk).2.2]; rfl
      · rw [i10, nI_ltI (by omega) (by omega)] at hl
        unfold qL
        by_cases ek : k = t
        · subst ek
          rw [fld_put (by omega), e9150]
          exact nI_lt (by omega) (by omega)
        · rw [fld_put_ne (by omega) (by omega), i15x 150 k (by omega) ek]
          exact vl k hk (by rw [b1]; exact nI_lt (hnt.2.2.2 k hl ek) (by omega))
      · have c3 : i = 0 ∨ i = 1 ∨ i = 2 := by omega
        rcases c3 with rfl | rfl | rfl
        · exact ⟨(lo _ _ (by omega)).trans s33, e185.1⟩
        · exact ⟨(lo _ _ (by omega)).trans s36, e185.2.1⟩
        · exact ⟨(lo _ _ (by omega)).trans s39, e185.2.2⟩
  refine linesC_ok (c := c) hL hF0 h6 hP hn hlen (fun j hj => by rw [rI_ne (by omega)]; exact ⟨(htx j hj).1, (htx j hj).2.2⟩) (fun hb M1 f1 => ⟨fun z => absurd z (nI_pos (by omega)), fun _ => ?_⟩) (fun h1 h2 h3 M1 f1 => ⟨fun z => absurd z (by decide), fun _ => ?_⟩) (fun h1 h2 h3 M1 f1 g6 g5 gt gl => ⟨fun _ => ?_, fun z => absurd (by decide) z⟩)
  · exact model M1 M1 _ f1 (FX_fr f1 hF0) (fun _ _ _ _ => rfl) (fun _ _ => rfl) (fun _ => ⟨rfl, rfl⟩) (fun h1 h2 => absurd h2 (hb h1)) (fun h1 h2 => absurd h2 (hb h1))
  · exact model M1 M1 _ f1 (FX_fr f1 hF0) (fun _ _ _ _ => rfl) (fun _ _ => rfl) (fun h => absurd h2 (h h1)) (fun _ _ _ => ⟨by decide, rfl⟩) (fun _ _ h => by omega)
  · have hF1 := FX_fr f1 hF0
    have e16 : M1.2.2 1 6 = some P := by rw [f1.2.2]; exact h6
    have e12 : M1.2.2 12 t = some p2 := by rw [f1.2.2]; exact hm2
    have hFs : FX (stR (stR M1 1 6 (some p2)) 12 t (some P)) := FX_pl (M := M1) (fun b' j hb => by
      show (if b' = 12 ∧ j = t then some P else if b' = 1 ∧ j = 6 then some p2 else M1.2.2 b' j) = _
      rw [if_neg (by omega), if_neg (by omega)]) hF1
    have i10 : M1.1 11 10 = nI nt := by rw [f1.1 11 10 (dt _ _ (by omega))]; exact e10
    have j10 : (stR (stR M1 1 6 (some p2)) 12 t (some P)).1 11 10 = nI nt := i10
    have j12 : (stR (stR M1 1 6 (some p2)) 12 t (some P)).2.2 12 t = some P := by rw [rR, if_pos ⟨rfl, rfl⟩]
    have c0 : M1.2.1 113 0 = lN A := by rw [f1.2.1 113 rfl]; exact vj0
    have c1 : M1.2.1 113 1 = lN B := by rw [f1.2.1 113 rfl]; exact vj1
    have J : ∀ M', M'.2.2 = (stR (stR M1 1 6 (some p2)) 12 t (some P)).2.2 → M'.2.1 = M1.2.1 → M'.1 11 10 = nI nt' → (∀ b j, ¬ (b = 11 ∧ j = 10) → M'.1 b j = M1.1 b j) → f_X10_task_J96 S0 0 (nI t) M' (fun r m1 => f_X11_task S0 142 (nI t) m1 (AN r K)) := by
      intro M' u1 u2 u3 u4
      have hF' : FX M' := FX_ag u1 hFs
      have k12 : M'.2.2 12 t = some P := by rw [u1]; exact j12
      unfold f_X10_task_J96
      simp only [fx_0_3 hF', ex_some, s0_113, true_and]
      refine putLine_ok (v := 0) (B := B) ht4 (by omega) (by rw [u2]; exact c1) ?_
      refine forC_ok (fx_J hF') ?_
      have hF9 : FX (stI (stI (stI (stJ M' 113 1 (lN (put B (24 + 4 * t) 4 0))) 133 4 0) 136 4 0) 139 4 0) := hF'
      have k9 : (stI (stI (stI (stJ M' 113 1 (lN (put B (24 + 4 * t) 4 0))) 133 4 0) 136 4 0) 139 4 0).2.2 12 t = some P := k12
      have o9 : ∀ b j, ¬ ((b = 133 ∨ b = 136 ∨ b = 139) ∧ j = 4) → (stI (stI (stI (stJ M' 113 1 (lN (put B (24 + 4 * t) 4 0))) 133 4 0) 136 4 0) 139 4 0).1 b j = M'.1 b j := fun b j w => by
        rw [rI_ne (by omega), rI_ne (by omega), rI_ne (by omega), rJi]
      have o33 : (stI (stI (stI (stJ M' 113 1 (lN (put B (24 + 4 * t) 4 0))) 133 4 0) 136 4 0) 139 4 0).1 133 4 = 0 := by rw [rI_ne (by omega), rI_ne (by omega), rI_eq]
      have o36 : (stI (stI (stI (stJ M' 113 1 (lN (put B (24 + 4 * t) 4 0))) 133 4 0) 136 4 0) 139 4 0).1 136 4 = 0 := by rw [rI_ne (by omega), rI_eq]
      have o39 : (stI (stI (stI (stJ M' 113 1 (lN (put B (24 + 4 * t) 4 0))) 133 4 0) 136 4 0) 139 4 0).1 139 4 = 0 := rI_eq
      have oj : ∀ b j, (stI (stI (stI (stJ M' 113 1 (lN (put B (24 + 4 * t) 4 0))) 133 4 0) 136 4 0) 139 4 0).2.1 b j = if b = 113 ∧ j = 1 then lN (put B (24 + 4 * t) 4 0) else M'.2.1 b j := fun b j => rfl
      have or9 : (stI (stI (stI (stJ M' 113 1 (lN (put B (24 + 4 * t) 4 0))) 133 4 0) 136 4 0) 139 4 0).2.2 = M'.2.2 := rfl
      generalize stI (stI (stI (stJ M' 113 1 (lN (put B (24 + 4 * t) 4 0))) 133 4 0) 136 4 0) 139 4 0 = M9 at *
      have hpp : ∀ P ∈ PR, P ≠ 11 ∧ P ≠ 133 ∧ P ≠ 136 ∧ P ≠ 139 := by decide
      have hpq := hpp P hP
      have k6 : M9.1 P 6 = nI (m + 1) := by rw [o9 _ _ (by omega), u4 _ _ (by omega)]; exact g6
      simp only [fx_0_2 hF9, fx_11_0 hF9, k9, ex_some, s0_11, s0_12, ex_sh, hin, hcl, shP, true_and, k6]
      refine model M1 M9 (nI (m + 1)) f1 hF9 (fun b' j w1 w2 => by rw [o9 _ _ w2, u4 _ _ w1]) (fun b hb => funext fun j => by rw [oj, if_neg (by omega), u2]) (fun h => absurd h2 (h h1)) (fun _ _ h => by omega) (fun _ _ _ => ⟨rfl, or9.trans u1, (o9 _ _ (by omega)).trans u3, o33, o36, o39, ?_, ?_, g6, g5, gt, gl⟩)
      · rw [oj, if_neg (by omega), u2]; exact c0
      · rw [oj, if_pos ⟨rfl, rfl⟩]
    unfold f_X6_exchange
    simp only [fx_0_2 hF1, fx_0_0 hF1, fx_11_0 hF1, e12, e16, ex_some, s0_1, s0_11, s0_12, ex_sh, hin, hcl, shp2, shP, true_and, forall_eq, fx_0_2 hFs, j10, nI_1]
    rw [nI_eq (by omega) (by omega)]
    refine ⟨fun et => J _ rfl rfl (by rw [rI_eq, hnt', if_pos et]) (fun b j w => by rw [rI_ne (by omega)]; rfl), fun et => J _ rfl rfl (by rw [j10, hnt', if_neg et]) (fun b j w => rfl)⟩
