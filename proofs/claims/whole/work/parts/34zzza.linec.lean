/-! a line read: the class -/
def dLn (P i : Nat) : Nat → Nat → Bool := fun b j => b == 3 || (b == 1 && (j == 3 || j == 5)) || (b == P && j == 7) || ((P + 2 ≤ b && b ≤ P + 4 : Bool) && j == i) || b == P + 5
theorem dEx_ln {P i : Nat} {M M' : Mm} (h : Fr (dEx P) eN M M') : Fr (dLn P i) eN M M' :=
  Fr_mono (fun b j hd => by unfold dLn at hd; unfold dEx; simp only [Bool.or_eq_false_iff, Bool.and_eq_false_iff, beq_eq_false_iff_ne, decide_eq_false_iff_not] at *; omega) (fun b hd => hd) h
theorem fLn_I {P i b j : Nat} {M M' : Mm} {v : Int32} (hb : (b = 1 ∧ j = 3) ∨ (P + 2 ≤ b ∧ b ≤ P + 4 ∧ j = i)) (f : Fr (dLn P i) eN M M') : Fr (dLn P i) eN M (stI M' b j v) := Fr_I (by
  unfold dLn
  simp only [Bool.or_eq_true, Bool.and_eq_true, beq_iff_eq, decide_eq_true_eq]
  omega) f
theorem BRx_ln {c : Nat → Nat} {len P i : Nat} {M M' : Mm} (f : Fr (dLn P i) eN M M') (h : BRx c len P M) : BRx c len P M' := by
  obtain ⟨h1, h2, h3, h4, h5, h6⟩ := h
  have hp : ∀ P ∈ PR, 4 ≤ P := by decide
  have hp := hp P h3
  refine ⟨FX_fr f h1, by rw [f.2.2]; exact h2, h3, ?_, h5, fun j hj => ?_⟩
  · rw [f.1 1 2 (by unfold dLn; simp only [Bool.or_eq_false_iff, Bool.and_eq_false_iff, beq_eq_false_iff_ne, decide_eq_false_iff_not]; omega)]; exact h4
  · rw [f.1 2 j (by unfold dLn; simp only [Bool.or_eq_false_iff, Bool.and_eq_false_iff, beq_eq_false_iff_ne, decide_eq_false_iff_not]; omega)]; exact h6 j hj
/-- nothing read yet of line i: at p, i lines, out written -/
def LSx (P i : Nat) (M : Mm) (p : Nat) (out : List Nat) : Prop := M.1 1 3 = nI p ∧ M.1 P 6 = nI i ∧ M.1 P 7 = nI out.length ∧ ∀ j, j < out.length → M.1 (P + 5) j = nI (out.getD j 0)
theorem LS_pos {P i p q : Nat} {out : List Nat} {M : Mm} (hP : P ∈ PR) (h : LSx P i M p out) : LSx P i (stI M 1 3 (nI q)) q out := by
  have hp := pr_le P hP
  exact ⟨rI_eq, by rw [rI_ne (by omega)]; exact h.2.1, by rw [rI_ne (by omega)]; exact h.2.2.1, fun j hj => by rw [rI_ne (by omega)]; exact h.2.2.2 j hj⟩
/-- the head of line i stands -/
def HDx (P i : Nat) (M : Mm) (kd nu s : Nat) : Prop := M.1 (P + 2) i = nI kd ∧ M.1 (P + 3) i = nI nu ∧ M.1 (P + 4) i = nI s
theorem beg_ok {c : Nat → Nat} {len P i p kd nu : Nat} {out : List Nat} {M : Mm} {K : Mm → Prop} (hB : BRx c len P M) (hi : i < 16) (h : LSx P i M p out) (hK : ∀ M', Fr (dLn P i) eN M M' → LSx P i M' p out → HDx P i M' kd nu out.length → K M') : f_X5_beginLine S0 P (nI kd) (nI nu) M K := by
  have hP := hB.2.2.1
  have hp := pr_le P hP
  refine begL_ok hB.1 hP h.2.1 hi ?_
  rw [h.2.2.1]
  refine hK _ (fLn_I (by omega) (fLn_I (by omega) (fLn_I (by omega) (Fr_refl _ _ _)))) ⟨?_, ?_, ?_, fun j hj => ?_⟩ ⟨?_, ?_, rI_eq⟩
  · rw [rI_ne (by omega), rI_ne (by omega), rI_ne (by omega)]; exact h.1
  · rw [rI_ne (by omega), rI_ne (by omega), rI_ne (by omega)]; exact h.2.1
  · rw [rI_ne (by omega), rI_ne (by omega), rI_ne (by omega)]; exact h.2.2.1
  · rw [rI_ne (by omega), rI_ne (by omega), rI_ne (by omega)]; exact h.2.2.2 j hj
  · rw [rI_ne (by omega), rI_ne (by omega), rI_eq]
  · rw [rI_ne (by omega), rI_eq]
theorem passes_ok {c : Nat → Nat} {len P i p x : Nat} {out : List Nat} {M : Mm} {K : Int32 → Mm → Prop} (hB : BRx c len P M) (h : LSx P i M p out) (hp : p ≤ len) (hx : x < 256) (h1 : gcx c len p = x → ∀ M', M' = stI M 1 3 (nI (p + 1)) → Fr (dLn P i) eN M M' → LSx P i M' (p + 1) out → K 1 M') (h0 : gcx c len p ≠ x → K 0 M) : f_X6_passes S0 1 (nI x) M K := by
  unfold f_X6_passes
  refine look_ok hB h.1 hp ?_
  rw [lkx_eq hB hx]
  refine ⟨fun e => ?_, fun e => h0 e⟩
  simp only [forall_eq]
  rw [h.1, nI_1]
  exact h1 e _ rfl (fLn_I (by omega) (Fr_refl _ _ _)) (LS_pos hB.2.2.1 h)
