/-! reading an expression alone: class and model -/
theorem fit_ch : ∀ x, x < 256 → fits .char (.int (nI x)) = true := by decide +kernel
theorem min60 {n : Nat} (hn : n ≤ 100) : (if (60 : Int32) < nI n then (60 : Int32) else nI n) = nI (if 60 < n then 60 else n) := by
  by_cases h : 60 < n
  · have h' : (60 : Int32) < nI n := show nI 60 < nI n from nI_lt h (by omega)
    rw [if_pos h, if_pos h']; rfl
  · have h' : ¬ (60 : Int32) < nI n := show ¬ nI 60 < nI n from nI_nlt (by omega) (by omega)
    rw [if_neg h, if_neg h']
def dAs (P : Nat) : Nat → Nat → Bool := fun b j => (b == 1 && (j == 2 || j == 3 || j == 5)) || b == 3 || (P ≤ b && b ≤ P + 5 : Bool)
theorem dEx_as {P : Nat} {M M' : Mm} (h : Fr (dEx P) eN M M') : Fr (dAs P) eN M M' :=
  Fr_mono (fun b j hd => by unfold dAs at hd; unfold dEx; simp only [Bool.or_eq_false_iff, Bool.and_eq_false_iff, beq_eq_false_iff_ne, decide_eq_false_iff_not] at *; omega) (fun b hd => hd) h
theorem fAs_I {P b j : Nat} {M M' : Mm} {v : Int32} (hb : (b = 1 ∧ (j = 2 ∨ j = 3 ∨ j = 5)) ∨ (P ≤ b ∧ b ≤ P + 5)) (f : Fr (dAs P) eN M M') : Fr (dAs P) eN M (stI M' b j v) := Fr_I (by
  unfold dAs
  simp only [Bool.or_eq_true, Bool.and_eq_true, beq_iff_eq, decide_eq_true_eq]
  omega) f
/-- the text's copy, nothing read yet -/
theorem beginC_ok {c : Nat → Nat} {n len P : Nat} {M : Mm} {K : Mm → Prop} (hF : FX M) (h6 : M.2.2 1 6 = some P) (hP : P ∈ PR) (hn : n ≤ 100) (hlen : len = if 60 < n then 60 else n) (htx : ∀ j, j < n → M.1 2 j = nI (c j) ∧ c j < 256)
    (hK : ∀ M', Fr (dAs P) eN M M' → BRx c len P M' → M'.1 1 3 = nI 0 → M'.1 P 6 = nI 0 → M'.1 P 7 = nI 0 → M'.1 P 5 = nI len → (∀ j, j < len → M'.1 (P + 1) j = nI (c j)) → K M') : f_X6_begin S0 1 (nI n) M K := by
  have hp := pr_le P hP
  have hn3 := pr_n3 P hP
  obtain ⟨sh0, sh1, sh2, sh3, sh4, sh5⟩ := pr_sh P hP
  have hle : len ≤ 60 ∧ len ≤ n := by rw [hlen]; split <;> omega
  have hP2 : ∀ P ∈ PR, P ≠ 2 ∧ P + 1 ≠ 2 ∧ P ≠ 1 ∧ P + 1 ≠ 1 := by decide
  obtain ⟨z1, z2, z3, z4⟩ := hP2 P hP
  unfold f_X6_begin
  rw [min60 hn, ← hlen]
  intro m1 e1 m2 e2
  have e26 : m2.2.2 1 6 = some P := by rw [e2, e1]; exact h6
  simp only [e26, ex_some, sh0, true_and]
  unfold f_X5_clear
  intro m3 e3 m4 e4 m5 e5
  have r5 : m5.2.2 = M.2.2 := by rw [e5, e4, e3, e2, e1]; rfl
  have hF5 : FX m5 := FX_ag r5 hF
  have e56 : m5.2.2 1 6 = some P := by rw [r5]; exact h6
  simp only [e56, fx_1_0 hF5, ex_some, sh0, true_and]
  have f5 : Fr (dAs P) eN M m5 := by
    rw [e5, e4, e3, e2, e1]
    exact fAs_I (by omega) (fAs_I (by omega) (fAs_I (by omega) (fAs_I (by omega) (fAs_I (by omega) (Fr_refl _ _ _)))))
  have i2 : m5.1 1 2 = nI len := by
    rw [e5, e4, e3, e2, e1, rI_ne (by omega), rI_ne (by omega), rI_ne (by omega), rI_ne (by omega), rI_eq]
  have i3 : m5.1 1 3 = nI 0 := by
    rw [e5, e4, e3, e2, rI_ne (by omega), rI_ne (by omega), rI_ne (by omega), rI_eq]; rfl
  have i6 : m5.1 P 6 = nI 0 := by rw [e5, e4, rI_ne (by omega), rI_eq]; rfl
  have i7 : m5.1 P 7 = nI 0 := by rw [e5, rI_eq]; rfl
  have itx : ∀ j, j < len → m5.1 2 j = nI (c j) ∧ c j < 256 := fun j hj => by
    rw [f5.1 2 j (by unfold dAs; simp only [Bool.or_eq_false_iff, Bool.and_eq_false_iff, beq_eq_false_iff_ne, decide_eq_false_iff_not]; omega)]
    exact htx j (by omega)
  unfold f_X5_copyText
  rw [i2, min60 (by omega), if_neg (show ¬ 60 < len by omega)]
  simp only [forall_eq]
  have i5 : (stI m5 P 5 (nI len)).1 P 5 = nI len := rI_eq
  have hF6 : FX (stI m5 P 5 (nI len)) := fx_I hF5
  have hcl : (nI len).toNatClampNeg = len := nI_clamp (by omega)
  have hc0 : (0 : Int32).toNatClampNeg = 0 := by decide
  have i2j : ∀ j, (stI m5 P 5 (nI len)).1 2 j = m5.1 2 j := fun j => by rw [rI_ne (by omega)]
  simp only [pr_ref hF6 hP (show 0 < 5 by omega), ex_some, i5, hcl, hc0, Nat.zero_add]
  refine ⟨100, 60, s0_2, sh1, by decide, by decide, nI_pos (by omega), by omega, by omega, fun i hi => ?_, ?_⟩
  · rw [i2j, (itx i hi).1]; exact fit_ch _ (itx i hi).2
  · have f6 : Fr (dAs P) eN M (stI m5 P 5 (nI len)) := fAs_I (by omega) f5
    generalize hm6 : stI m5 P 5 (nI len) = m6 at *
    have f7 : Fr (dAs P) eN M (cpI m6 2 (P + 1) 0 0 len) := by
      refine ⟨fun b j hd => ?_, f6.2.1, f6.2.2⟩
      have hb : b ≠ P + 1 := by
        intro z
        rw [z] at hd
        unfold dAs at hd
        simp only [Bool.or_eq_false_iff, Bool.and_eq_false_iff, beq_eq_false_iff_ne, decide_eq_false_iff_not] at hd
        omega
      rw [cpI_row hb]; exact f6.1 b j hd
    have o : ∀ b j, b ≠ P + 1 → (b ≠ P ∨ j ≠ 5) → (cpI m6 2 (P + 1) 0 0 len).1 b j = m5.1 b j := fun b j h1 h2 => by
      rw [cpI_row h1, ← hm6, rI_ne (by omega)]
    refine hK _ f7 ⟨FX_fr f7 hF, by rw [f7.2.2]; exact h6, hP, ?_, hle.1, fun j hj => ?_⟩ ?_ ?_ ?_ ?_ (fun j hj => ?_)
    · rw [o 1 2 (by omega) (by omega)]; exact i2
    · rw [o 2 j (by omega) (by omega)]; exact itx j hj
    · rw [o 1 3 (by omega) (by omega)]; exact i3
    · rw [o P 6 (by omega) (by omega)]; exact i6
    · rw [o P 7 (by omega) (by omega)]; exact i7
    · rw [cpI_row (by omega)]; exact i5
    · rw [cpI_get hj, i2j]; exact (itx j hj).1
theorem begL_ok {P i : Nat} {x y : Int32} {M : Mm} {K : Mm → Prop} (hF : FX M) (hP : P ∈ PR) (h : M.1 P 6 = nI i) (hi : i < 16) (hK : K (stI (stI (stI M (P + 2) i x) (P + 3) i y) (P + 4) i (M.1 P 7))) : f_X5_beginLine S0 P x y M K := by
  have hp := pr_le P hP
  obtain ⟨sh0, sh1, sh2, sh3, sh4, sh5⟩ := pr_sh P hP
  have s2 : S0[P + 1 + 1]? = some (50, 16) := sh2
  have s3 : S0[P + 2 + 1]? = some (50, 16) := sh3
  have s4 : S0[P + 3 + 1]? = some (50, 17) := sh4
  unfold f_X5_beginLine
  rw [h]
  refine ⟨fun z => absurd (show nI 16 ≤ nI i from z) (nI_ge (by omega) (by omega)), fun _ => ?_⟩
  have hin : vp_in (nI i) 16 := vp_in_nI (by omega) (by omega)
  have hin7 : vp_in (nI i) 17 := vp_in_nI (by omega) (by omega)
  have hcl : (nI i).toNatClampNeg = i := nI_clamp (by omega)
  have e1 : (stI M (P + 1 + 1) i x).1 P 6 = nI i := by rw [rI_ne (by omega)]; exact h
  have e2 : (stI (stI M (P + 1 + 1) i x) (P + 2 + 1) i y).1 P 6 = nI i := by rw [rI_ne (by omega)]; exact e1
  have e7 : (stI (stI M (P + 1 + 1) i x) (P + 2 + 1) i y).1 P 7 = M.1 P 7 := by rw [rI_ne (by omega), rI_ne (by omega)]
  simp only [rIr, pr_ref hF hP (show 1 < 5 by omega), pr_ref hF hP (show 2 < 5 by omega), pr_ref hF hP (show 3 < 5 by omega), ex_some, s2, s3, s4, ex_sh, hin, hin7, hcl, true_and, forall_eq, e1, e2, e7]
  exact hK
theorem endL_ok {P i : Nat} {M : Mm} {K : Mm → Prop} (hF : FX M) (hP : P ∈ PR) (h : M.1 P 6 = nI i) (hi : i < 16) (hK : K (stI (stI M P 6 (nI (i + 1))) (P + 4) (i + 1) (M.1 P 7))) : f_X5_endLine S0 P M K := by
  have hp := pr_le P hP
  obtain ⟨sh0, sh1, sh2, sh3, sh4, sh5⟩ := pr_sh P hP
  have s4 : S0[P + 3 + 1]? = some (50, 17) := sh4
  unfold f_X5_endLine
  rw [h]
  refine ⟨fun z => absurd (show nI 16 ≤ nI i from z) (nI_ge (by omega) (by omega)), fun _ => ?_⟩
  have hin7 : vp_in (nI (i + 1)) 17 := vp_in_nI (by omega) (by omega)
  have hcl : (nI (i + 1)).toNatClampNeg = i + 1 := nI_clamp (by omega)
  have e1 : (stI M P 6 (nI (i + 1))).1 P 6 = nI (i + 1) := rI_eq
  have e7 : (stI M P 6 (nI (i + 1))).1 P 7 = M.1 P 7 := by rw [rI_ne (by omega)]
  simp only [rIr, nI_1, pr_ref hF hP (show 3 < 5 by omega), ex_some, s4, ex_sh, hin7, hcl, true_and, forall_eq, e1, e7]
  exact hK
theorem asked_ok {c : Nat → Nat} {n len P N q : Nat} {b : Bool} {e : List Nat} {M : Mm} {K : Int32 → Mm → Prop} (hR : RX c len true N 0 0 0 [] b q e) (hF : FX M) (h6 : M.2.2 1 6 = some P) (hP : P ∈ PR) (hn : n ≤ 100) (hlen : len = if 60 < n then 60 else n) (htx : ∀ j, j < n → M.1 2 j = nI (c j) ∧ c j < 256)
    (hbad : (b = true → q ≠ len) → ∀ M', Fr (dAs P) eN M M' → K (nI q) M') (hlong : b = true → q = len → 60 < n → ∀ M', Fr (dAs P) eN M M' → K 60 M') (hok : b = true → q = len → n ≤ 60 → ∀ M', Fr (dAs P) eN M M' → M'.1 P 6 = 1 → M'.1 (P + 4) 0 = 0 → M'.1 (P + 4) 1 = nI e.length → (∀ j, j < e.length → M'.1 (P + 5) j = nI (e.getD j 0)) → K (-1) M') : f_X6_readAsked S0 1 (nI n) M K := by
  have hp := pr_le P hP
  have hn3 := pr_n3 P hP
  obtain ⟨sh0, sh1, sh2, sh3, sh4, sh5⟩ := pr_sh P hP
  have hP2 : ∀ P ∈ PR, P ≠ 1 ∧ P + 1 ≠ 1 ∧ P + 2 ≠ 1 ∧ P + 3 ≠ 1 ∧ P + 4 ≠ 1 ∧ P + 5 ≠ 1 ∧ P + 2 ≠ 2 ∧ P + 3 ≠ 2 ∧ P + 4 ≠ 2 := by decide
  obtain ⟨z1, z2, z3, z4, z5, z6, z7, z8, z9⟩ := hP2 P hP
  have bd := RX_bd _ _ _ _ _ _ _ _ hR
  unfold f_X6_readAsked
  refine beginC_ok hF h6 hP hn hlen htx (fun M1 f1 B1 g3 g6 g7 _ _ => ?_)
  have hF1 := B1.1
  simp only [B1.2.1, ex_some, sh0, true_and]
  refine begL_ok hF1 hP g6 (by omega) ?_
  rw [g7]
  have f2 : Fr (dAs P) eN M (stI (stI (stI M1 (P + 2) 0 6) (P + 3) 0 0) (P + 4) 0 (nI 0)) := fAs_I (by omega) (fAs_I (by omega) (fAs_I (by omega) f1))
  generalize hM2 : stI (stI (stI M1 (P + 2) 0 6) (P + 3) 0 0) (P + 4) 0 (nI 0) = M2 at *
  have i2 : ∀ b j, b ≠ P + 2 → b ≠ P + 3 → b ≠ P + 4 → M2.1 b j = M1.1 b j := fun b j x1 x2 x3 => by
    rw [← hM2, rI_ne (by omega), rI_ne (by omega), rI_ne (by omega)]
  have B2 : BRx c len P M2 := ⟨FX_fr f2 hF, by rw [f2.2.2]; exact h6, hP, by rw [i2 1 2 (by omega) (by omega) (by omega)]; exact B1.2.2.2.1, B1.2.2.2.2.1, fun j hj => by rw [i2 2 j (by omega) (by omega) (by omega)]; exact B1.2.2.2.2.2 j hj⟩
  have tail : ∀ M3, Fr (dEx P) eN M2 M3 → M3.1 1 3 = nI q → ∀ r6 : Int32, (r6 = 0 → (b = true → q ≠ len)) → (¬ r6 = 0 → b = true ∧ M3.1 P 7 = nI e.length ∧ ∀ j, j < e.length → M3.1 (P + 5) j = nI (e.getD j 0)) → ((r6 = 0 → K (M3.1 1 3) M3) ∧ (¬ r6 = 0 → (((M3.1 1 2) ≤ (M3.1 1 3) → ∃ b9 : Nat, M3.2.2 1 6 = some b9 ∧ S0[b9]? = some (4, 0) ∧ f_X5_endLine S0 b9 M3 (fun m10 => ((nI n ≤ (60 : Int32) → K (-1 : Int32) m10) ∧ (¬ nI n ≤ (60 : Int32) → K (60 : Int32) m10)))) ∧ (¬ (M3.1 1 2) ≤ (M3.1 1 3) → K (M3.1 1 3) M3)))) := by
    intro M3 f3 p3 r6 q0 q1
    have f3' := Fr_tr f2 (dEx_as f3)
    have B3 := BRx_fr f3 B2
    refine ⟨fun z => ?_, fun z => ?_⟩
    · rw [p3]; exact hbad (q0 z) M3 f3'
    · obtain ⟨w1, w2, w3⟩ := q1 z
      have bt := bd.1 (by omega) w1
      have h60 := B3.2.2.2.2.1
      rw [B3.2.2.2.1, p3, nI_leI (by omega) (by omega)]
      refine ⟨fun hle => ?_, fun hle => hbad (fun _ => by omega) M3 f3'⟩
      have hq : q = len := by omega
      simp only [B3.2.1, ex_some, sh0, true_and]
      have d6 : M3.1 P 6 = nI 0 := by
        rw [f3.1 P 6 (dEx_f (by omega) (by omega) (by omega) (by omega)), i2 P 6 (by omega) (by omega) (by omega)]; exact g6
      refine endL_ok B3.1 hP d6 (by omega) ?_
      rw [w2]
      have f4 : Fr (dAs P) eN M (stI (stI M3 P 6 (nI (0 + 1))) (P + 4) (0 + 1) (nI e.length)) := fAs_I (by omega) (fAs_I (by omega) f3')
      rw [show (60 : Int32) = nI 60 from rfl, nI_leI (by omega) (by omega)]
      refine ⟨fun h60' => hok w1 hq h60' _ f4 ?_ ?_ ?_ (fun j hj => ?_), fun h60' => hlong w1 hq (by omega) _ f4⟩
      · rw [rI_ne (by omega), rI_eq]; rfl
      · rw [rI_ne (by omega), rI_ne (by omega), f3.1 (P + 4) 0 (dEx_f (by omega) (by omega) (by omega) (by omega)), ← hM2, rI_eq]; rfl
      · rw [rI_eq]
      · rw [rI_ne (by omega), rI_ne (by omega)]; exact w3 j hj
  refine expr_ok (ak := true) (out := []) hR B2 (by rw [i2 1 3 (by omega) (by omega) (by omega)]; exact g3) (by rw [i2 P 7 (by omega) (by omega) (by omega)]; exact g7) (fun j hj => absurd hj (by simp)) (by simp) (by omega) (fun M3 f3 p3 hq => tail M3 f3 p3 0 (fun _ hb => by have := cmp_lt (hq hb); omega) (fun z => absurd rfl z)) (fun hb M3 f3 p3 p7 p5 => tail M3 f3 p3 1 (fun z => absurd z (by decide)) (fun _ => ⟨hb, p7, p5⟩))
