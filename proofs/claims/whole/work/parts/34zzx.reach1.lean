theorem rol_lt {pd : Nat} {pt pl : Nat → Nat} {t i : Nat} (ht : t < 4) (hi : i < 16) : ∀ n, n ≤ 5 → rol pd pt pl t i n < 69
  | 0, _ => by show 16 * t + i < 69; omega
  | n + 1, hn => by
    unfold rol
    split
    · omega
    · exact rol_lt ht hi n (by omega)
/-- the model's machine stays where only rows from 73 on changed -/
theorem CM_pr {M M' : Mm} {C : Cf} (hr : ∀ r, r < 73 → AGR M M' r) (f0 : M'.1 142 15 = M.1 142 15) (f1 : M'.1 142 20 = M.1 142 20) (f2 : M'.1 142 21 = M.1 142 21) (f3 : M'.1 142 34 = M.1 142 34) (f4 : M'.1 142 33 = M.1 142 33) (e0 : M'.1 150 = M.1 150) (e1 : M'.1 157 = M.1 157) (e2 : M'.1 158 = M.1 158) (e3 : M'.1 159 = M.1 159) (h : CM M C) : CM M' C := by
  obtain ⟨h0, h1, h2, h3, h4, h5, np, pd, pt, pl, a1, a2, a3, a4, a5, a6⟩ := h
  have c1 := h0.1
  have c2 := h0.2.1
  refine ⟨h0, f0.trans h1, f1.trans h2, f2.trans h3, by rw [e1]; exact h4, fun b hb => Rw_pr (hr _ (by omega)) (h0.2.2.2.2.1 b hb).2 (h5 b hb), np, pd, pt, pl, a1, a2, f3.trans a3, f4.trans a4, by rw [e2, e3]; exact a5, fun t ht => ⟨by rw [e0]; exact (a6 t ht).1, fun i hi => ?_⟩⟩
  obtain ⟨b1, b2, b3⟩ := h0.2.2.2.2.2 t ht
  have ho := b3 i hi
  have hl := rol_lt (pd := pd) (pt := pt) (pl := pl) (show t < 4 by omega) (show i < 16 by omega) np a1
  obtain ⟨m1, m2, m3⟩ := (a6 t ht).2 i hi
  have ha := hr (rol pd pt pl t i np) (by omega)
  have hle : (cL C t i).2.2.length ≤ 60 := by
    rcases Nat.lt_or_ge (cL C t i).1 4 with z | z
    · exact (ho.2.2.2.2.1 z).2
    · rw [ho.2.2.2.2.2 z]; simp
  exact ⟨by rw [ha.1]; exact m1, by rw [ha.2.1]; exact m2, Rw_pr ha hle m3⟩
theorem mM_pr {M M' : Mm} {mu : Option (List Nat)} (hr : AGR M M' 69) (f : M'.1 142 19 = M.1 142 19) (h : mM M mu) : mM M' mu := by
  unfold mM at *
  rw [f]
  exact h.imp id (fun ⟨e, a, b, c, d⟩ => ⟨e, a, b, c, Rw_pr hr b.2 d⟩)
def dCl : Nat → Nat → Bool := fun b j => dE b j || dTd b j
def eCl : Nat → Bool := fun b => eG b || b == 117
theorem dE_cl {M M' : Mm} (h : Fr dE eG M M') : Fr dCl eCl M M' := Fr_mono (fun b j hd => by unfold dCl at hd; simp only [Bool.or_eq_false_iff] at hd; exact hd.1) (fun b hd => by unfold eCl at hd; simp only [Bool.or_eq_false_iff] at hd; exact hd.1) h
theorem dTd_cl {M M' : Mm} (h : Fr dTd eTd M M') : Fr dCl eCl M M' := Fr_mono (fun b j hd => by unfold dCl at hd; simp only [Bool.or_eq_false_iff] at hd; exact hd.2) (fun b hd => by unfold eCl at hd; simp only [Bool.or_eq_false_iff] at hd; exact hd.2) h
theorem E19_cl {M M' : Mm} (h : E1 19 M M') : Fr dCl eCl M M' := Fr_E1 (fun _ => rfl) (Fr_refl _ _ _) h
/-- between the memory between and the model's, only what a run changes -/
theorem mid_fr {M M1 M3 M4 : Mm} {P p9 : Nat} (hP : P ∈ PR) (f1 : Fr (dAs P) eN (stI M 1 1 0) M1) (f3 : Fr dCl eCl (stR (stR M1 1 6 (some p9)) 11 9 (some P)) M3) (f4 : Fr dRe eN (stI M3 142 0 0) M4) : Fr dRun eRun (midN P M M4) M4 := by
  refine ⟨fun b j hd => ?_, fun b hd => ?_, rfl⟩
  · show M4.1 b j = if dNx P b j = true then M4.1 b j else M.1 b j
    by_cases hx : dNx P b j = true
    · rw [if_pos hx]
    · rw [if_neg hx]
      have hx : dNx P b j = false := by simpa using hx
      have d1 : dRe b j = false := by
        unfold dRun at hd; unfold dNx at hx; unfold dRe
        simp only [Bool.or_eq_false_iff, Bool.and_eq_false_iff, beq_eq_false_iff_ne, decide_eq_false_iff_not] at *
        omega
      have d2 : dCl b j = false := by
        unfold dRun at hd; unfold dCl dE dTd
        simp only [Bool.or_eq_false_iff, Bool.and_eq_false_iff, beq_eq_false_iff_ne, decide_eq_false_iff_not] at *
        omega
      have d3 : dAs P b j = false := by
        unfold dNx at hx; unfold dAs
        simp only [Bool.or_eq_false_iff, Bool.and_eq_false_iff, beq_eq_false_iff_ne, decide_eq_false_iff_not] at *
        omega
      have n1 : ¬ (b = 142 ∧ j = 0) := by
        unfold dRun at hd
        simp only [Bool.or_eq_false_iff, Bool.and_eq_false_iff, beq_eq_false_iff_ne, decide_eq_false_iff_not] at hd
        omega
      have n2 : ¬ (b = 1 ∧ j = 1) := by
        unfold dNx at hx
        simp only [Bool.or_eq_false_iff, Bool.and_eq_false_iff, beq_eq_false_iff_ne, decide_eq_false_iff_not] at hx
        omega
      rw [f4.1 b j d1, rI_ne (by omega), f3.1 b j d2]
      show M1.1 b j = _
      rw [f1.1 b j d3, rI_ne (by omega)]
  · show M4.2.1 b = M.2.1 b
    have d2 : eCl b = false := by
      unfold eRun at hd; unfold eCl eG
      simp only [Bool.or_eq_false_iff, Bool.and_eq_false_iff, beq_eq_false_iff_ne, decide_eq_false_iff_not] at *
      omega
    rw [f4.2.1 b rfl]
    show M3.2.1 b = _
    rw [f3.2.1 b d2]
    show M1.2.1 b = _
    rw [f1.2.1 b rfl]
    rfl
