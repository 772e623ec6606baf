/-! reading an expression: the class's small methods -/
def lkx (c : Nat → Nat) (len p : Nat) : Int32 := if p < len then nI (c p) else -1
def akI (ak : Bool) : Int32 := if ak = true then 1 else 0
def ofTI (x0 x1 : Int32) : Int32 := if x0 < (97 : Int32) ∨ (104 : Int32) < x0 then (if x0 < (65 : Int32) ∨ (68 : Int32) < x0 then (if x1 = 0 then -1 else if x0 = 70 then 1020 else if x0 = 80 then 1021 else if x0 = 83 then 1022 else if x0 = 87 then 1023 else -1) else ((1010 : Int32) + x0) - (65 : Int32)) else ((1000 : Int32) + x0) - (97 : Int32)
theorem ofT_gen {S : Ss} {x0 x1 : Int32} {M : Mm} {K : Int32 → Mm → Prop} (h : K (ofTI x0 x1) M) : f_X0_ofThing S x0 x1 M K := by
  have j42 : (x0 < (97 : Int32) ∨ (104 : Int32) < x0) → (x0 < (65 : Int32) ∨ (68 : Int32) < x0) → f_X0_ofThing_J42 S x0 x1 M K := by
    intro a b
    unfold ofTI at h
    rw [if_pos a, if_pos b] at h
    unfold f_X0_ofThing_J42
    refine ⟨fun z => ?_, fun z => ⟨fun y => ?_, fun y => ⟨fun w => ?_, fun w => ⟨fun v => ?_, fun v => ⟨fun u => ?_, fun u => ?_⟩⟩⟩⟩⟩
    · rw [if_pos z] at h; exact h
    · rw [if_neg z, if_pos y] at h; exact h
    · rw [if_neg z, if_neg y, if_pos w] at h; exact h
    · rw [if_neg z, if_neg y, if_neg w, if_pos v] at h; exact h
    · rw [if_neg z, if_neg y, if_neg w, if_neg v, if_pos u] at h; exact h
    · rw [if_neg z, if_neg y, if_neg w, if_neg v, if_neg u] at h; exact h
  have j21 : (x0 < (97 : Int32) ∨ (104 : Int32) < x0) → f_X0_ofThing_J21 S x0 x1 M K := by
    intro a
    unfold f_X0_ofThing_J21
    refine ⟨fun z => j42 a (Or.inl z), fun z => ⟨fun y => j42 a (Or.inr y), fun y => ?_⟩⟩
    unfold ofTI at h
    rw [if_pos a, if_neg (fun q => q.elim z y)] at h; exact h
  unfold f_X0_ofThing
  refine ⟨fun z => j21 (Or.inl z), fun z => ⟨fun y => j21 (Or.inr y), fun y => ?_⟩⟩
  unfold ofTI at h
  rw [if_neg (fun q => q.elim z y)] at h; exact h
theorem ofTI_eq : ∀ ak : Bool, ∀ x, x < 256 → ofTI (nI x) (akI ak) = if thx ak x = 0 then -1 else nI (thx ak x) := by decide +kernel
theorem ofTI_m1 : ∀ ak : Bool, ofTI (-1) (akI ak) = -1 := by decide
def ofJI (x0 : Int32) : Int32 := if x0 = 38 then 1031 else if x0 = 43 then 1035 else if x0 = 45 then 1036 else if x0 = 60 then 1032 else if x0 = 61 then 1034 else if x0 = 62 then 1033 else if x0 = 124 then 1030 else -1
theorem ofJ_gen {S : Ss} {x0 : Int32} {M : Mm} {K : Int32 → Mm → Prop} (h : K (ofJI x0) M) : f_X0_ofJoint S x0 M K := by
  unfold ofJI at h
  unfold f_X0_ofJoint
  refine ⟨fun z => ?_, fun z => ⟨fun y => ?_, fun y => ⟨fun w => ?_, fun w => ⟨fun v => ?_, fun v => ⟨fun u => ?_, fun u => ⟨fun t => ?_, fun t => ⟨fun s => ?_, fun s => ?_⟩⟩⟩⟩⟩⟩⟩
  · rw [if_pos z] at h; exact h
  · rw [if_neg z, if_pos y] at h; exact h
  · rw [if_neg z, if_neg y, if_pos w] at h; exact h
  · rw [if_neg z, if_neg y, if_neg w, if_pos v] at h; exact h
  · rw [if_neg z, if_neg y, if_neg w, if_neg v, if_pos u] at h; exact h
  · rw [if_neg z, if_neg y, if_neg w, if_neg v, if_neg u, if_pos t] at h; exact h
  · rw [if_neg z, if_neg y, if_neg w, if_neg v, if_neg u, if_neg t, if_pos s] at h; exact h
  · rw [if_neg z, if_neg y, if_neg w, if_neg v, if_neg u, if_neg t, if_neg s] at h; exact h
theorem ofJI_eq : ∀ x, x < 256 → ofJI (nI x) = if jt x = 0 then -1 else nI (jt x) := by decide +kernel
def rkI (x0 : Int32) : Int32 := if x0 = 1030 then 1 else if x0 = 1031 then 2 else if x0 = 1032 then 3 else if x0 = 1033 then 3 else if x0 = 1034 then 3 else if x0 = 1035 then 4 else if x0 = 1036 then 4 else if x0 = 1037 then 5 else if x0 = 1038 then 5 else if x0 = 1039 then 0 else 5
theorem rk_gen {S : Ss} {x0 : Int32} {M : Mm} {K : Int32 → Mm → Prop} (h : K (rkI x0) M) : f_X0_rank S x0 M K := by
  unfold rkI at h
  unfold f_X0_rank
  refine ⟨fun z => ?_, fun z => ⟨fun y => ?_, fun y => ⟨fun w => ?_, fun w => ⟨fun v => ?_, fun v => ⟨fun u => ?_, fun u => ⟨fun t => ?_, fun t => ⟨fun s => ?_, fun s => ⟨fun r => ?_, fun r => ⟨fun o => ?_, fun o => ⟨fun m => ?_, fun m => ?_⟩⟩⟩⟩⟩⟩⟩⟩⟩⟩
  · rw [if_pos z] at h; exact h
  · rw [if_neg z, if_pos y] at h; exact h
  · rw [if_neg z, if_neg y, if_pos w] at h; exact h
  · rw [if_neg z, if_neg y, if_neg w, if_pos v] at h; exact h
  · rw [if_neg z, if_neg y, if_neg w, if_neg v, if_pos u] at h; exact h
  · rw [if_neg z, if_neg y, if_neg w, if_neg v, if_neg u, if_pos t] at h; exact h
  · rw [if_neg z, if_neg y, if_neg w, if_neg v, if_neg u, if_neg t, if_pos s] at h; exact h
  · rw [if_neg z, if_neg y, if_neg w, if_neg v, if_neg u, if_neg t, if_neg s, if_pos r] at h; exact h
  · rw [if_neg z, if_neg y, if_neg w, if_neg v, if_neg u, if_neg t, if_neg s, if_neg r, if_pos o] at h; exact h
  · rw [if_neg z, if_neg y, if_neg w, if_neg v, if_neg u, if_neg t, if_neg s, if_neg r, if_neg o, if_pos m] at h; exact h
  · rw [if_neg z, if_neg y, if_neg w, if_neg v, if_neg u, if_neg t, if_neg s, if_neg r, if_neg o, if_neg m] at h; exact h
theorem rkI_eq : ∀ x, x < 1100 → rkI (nI x) = nI (rkx x) := by decide +kernel
theorem rk_le (x : Nat) : rkx x ≤ 5 := by
  unfold rkx
  repeat' split
  all_goals omega
def isDI (x0 : Int32) : Int32 := if x0 < (48 : Int32) ∨ (57 : Int32) < x0 then 0 else 1
theorem isD_gen {S : Ss} {x0 : Int32} {M : Mm} {K : Int32 → Mm → Prop} (h : K (isDI x0) M) : f_X6_isDigit S x0 M K := by
  unfold isDI at h
  unfold f_X6_isDigit
  refine ⟨fun z => ?_, fun z => ⟨fun y => ?_, fun y => ?_⟩⟩
  · rw [if_pos (Or.inl z)] at h; exact h
  · rw [if_pos (Or.inr y)] at h; exact h
  · rw [if_neg (fun q => q.elim z y)] at h; exact h
theorem isDI_eq : ∀ x, x < 256 → isDI (nI x) = if dgx x = true then 1 else 0 := by decide +kernel
theorem pr_n3 : ∀ p ∈ PR, p ≠ 3 ∧ p + 5 ≠ 3 ∧ p + 1 ≠ 3 := by decide
/-- the text, and the program that is written -/
def BRx (c : Nat → Nat) (len P : Nat) (M : Mm) : Prop := FX M ∧ M.2.2 1 6 = some P ∧ P ∈ PR ∧ M.1 1 2 = nI len ∧ len ≤ 60 ∧ ∀ j, j < len → M.1 2 j = nI (c j) ∧ c j < 256
def dEx (P : Nat) : Nat → Nat → Bool := fun b j => b == 3 || (b == 1 && (j == 3 || j == 5)) || (b == P && j == 7) || b == P + 5
theorem dEx_f {P b j : Nat} (h3 : b ≠ 3) (h1 : ¬ (b = 1 ∧ (j = 3 ∨ j = 5))) (hP : ¬ (b = P ∧ j = 7)) (h5 : b ≠ P + 5) : dEx P b j = false := by
  unfold dEx
  simp only [Bool.or_eq_false_iff, Bool.and_eq_false_iff, beq_eq_false_iff_ne]
  omega
theorem BRx_fr {c : Nat → Nat} {len P : Nat} {M M' : Mm} (f : Fr (dEx P) eN M M') (h : BRx c len P M) : BRx c len P M' := by
  obtain ⟨h1, h2, h3, h4, h5, h6⟩ := h
  have hp := pr_le P h3
  refine ⟨FX_fr f h1, by rw [f.2.2]; exact h2, h3, ?_, h5, fun j hj => ?_⟩
  · rw [f.1 1 2 (dEx_f (by omega) (by omega) (by omega) (by omega))]; exact h4
  · rw [f.1 2 j (dEx_f (by omega) (by omega) (by omega) (by omega))]; exact h6 j hj
theorem lkx_eq {c : Nat → Nat} {len P p x : Nat} {M : Mm} (h : BRx c len P M) (hx : x < 256) : lkx c len p = nI x ↔ gcx c len p = x := by
  unfold lkx gcx
  by_cases hp : p < len
  · rw [if_pos hp, if_pos hp]
    exact nI_eq (by have := (h.2.2.2.2.2 p hp).2; omega) (by omega)
  · rw [if_neg hp, if_neg hp]
    refine ⟨fun z => ?_, fun z => by omega⟩
    exact absurd (le0 (show x < 2 ^ 31 by omega)) (by rw [← z]; decide)
theorem look_ok {c : Nat → Nat} {len P p : Nat} {M : Mm} {K : Int32 → Mm → Prop} (h : BRx c len P M) (hp : M.1 1 3 = nI p) (hl : p ≤ len) (hK : K (lkx c len p) M) : f_X6_look S0 1 M K := by
  obtain ⟨h1, h2, h3, h4, h5, h6⟩ := h
  unfold f_X6_look
  rw [h4, hp, nI_leI (by omega) (by omega)]
  unfold lkx at hK
  refine ⟨fun z => ?_, fun z => ?_⟩
  · rw [if_neg (by omega)] at hK; exact hK
  · rw [if_pos (by omega)] at hK
    have hin : vp_in (nI p) 100 := vp_in_nI (by omega) (by omega)
    have hcl : (nI p).toNatClampNeg = p := nI_clamp (by omega)
    simp only [fx_1_0 h1, ex_some, s0_2, ex_sh, hin, hcl, true_and, (h6 p (by omega)).1]
    exact hK
theorem lkJ {c : Nat → Nat} {len P p : Nat} {M : Mm} (h : BRx c len P M) : ofJI (lkx c len p) = if jt (gcx c len p) = 0 then -1 else nI (jt (gcx c len p)) := by
  unfold lkx gcx
  by_cases hp : p < len
  · rw [if_pos hp, if_pos hp]; exact ofJI_eq _ (h.2.2.2.2.2 p hp).2
  · rw [if_neg hp, if_neg hp]; decide
theorem lkT {c : Nat → Nat} {len P p : Nat} {ak : Bool} {M : Mm} (h : BRx c len P M) : ofTI (lkx c len p) (akI ak) = if thx ak (gcx c len p) = 0 then -1 else nI (thx ak (gcx c len p)) := by
  unfold lkx gcx
  by_cases hp : p < len
  · rw [if_pos hp, if_pos hp]; exact ofTI_eq ak _ (h.2.2.2.2.2 p hp).2
  · rw [if_neg hp, if_neg hp, ofTI_m1]; rcases ak with _ | _ <;> decide
theorem lkD {c : Nat → Nat} {len P p : Nat} {M : Mm} (h : BRx c len P M) : isDI (lkx c len p) = if dgx (gcx c len p) = true then 1 else 0 := by
  unfold lkx gcx
  by_cases hp : p < len
  · rw [if_pos hp, if_pos hp]; exact isDI_eq _ (h.2.2.2.2.2 p hp).2
  · rw [if_neg hp, if_neg hp]; decide
/-- where the class is: at p, st held, out written -/
def CSx (P : Nat) (M : Mm) (p : Nat) (st out : List Nat) : Prop := M.1 1 3 = nI p ∧ M.1 1 5 = nI st.length ∧ (∀ j, j < st.length → M.1 3 j = nI (st.getD j 0)) ∧ M.1 P 7 = nI out.length ∧ ∀ j, j < out.length → M.1 (P + 5) j = nI (out.getD j 0)
theorem gd_lt {l m : List Nat} {j : Nat} (h : j < l.length) : (l ++ m).getD j 0 = l.getD j 0 := by
  rw [List.getD_eq_getElem?_getD, List.getD_eq_getElem?_getD, List.getElem?_append_left h]
theorem gd_eq {l : List Nat} {x : Nat} : (l ++ [x]).getD l.length 0 = x := by
  rw [List.getD_eq_getElem?_getD, List.getElem?_append_right (Nat.le_refl _)]
  simp
theorem CS_pos {P p q : Nat} {st out : List Nat} {M : Mm} (hP : P ∈ PR) (h : CSx P M p st out) : CSx P (stI M 1 3 (nI q)) q st out := by
  have hp := pr_le P hP
  obtain ⟨h1, h2, h3, h4, h5⟩ := h
  refine ⟨rI_eq, by rw [rI_ne (by omega)]; exact h2, fun j hj => by rw [rI_ne (by omega)]; exact h3 j hj, by rw [rI_ne (by omega)]; exact h4, fun j hj => by rw [rI_ne (by omega)]; exact h5 j hj⟩
theorem fEx_pos {P : Nat} {M M' : Mm} {v : Int32} (f : Fr (dEx P) eN M M') : Fr (dEx P) eN M (stI M' 1 3 v) := Fr_I (by unfold dEx; simp) f
theorem hold_ok {c : Nat → Nat} {len P p x : Nat} {st out : List Nat} {M : Mm} {K : Mm → Prop} (hB : BRx c len P M) (h : CSx P M p st out) (hl : st.length < 60) (hK : ∀ M', Fr (dEx P) eN M M' → CSx P M' p (st ++ [x]) out → K M') : f_X6_hold S0 1 (nI x) M K := by
  obtain ⟨h1, h2, h3, h4, h5⟩ := h
  have hF := hB.1
  have hp := pr_le P hB.2.2.1
  have hn := pr_n3 P hB.2.2.1
  unfold f_X6_hold
  rw [h2]
  refine ⟨fun z => absurd (show nI 60 ≤ nI st.length from z) (nI_ge hl (by omega)), fun _ => ?_⟩
  have hin : vp_in (nI st.length) 60 := vp_in_nI hl (by omega)
  have hcl : (nI st.length).toNatClampNeg = st.length := nI_clamp (by omega)
  have e5 : ∀ v, (stI M 3 st.length v).1 1 5 = nI st.length := fun v => by rw [rI_ne (by omega)]; exact h2
  simp only [fx_1_4 hF, ex_some, s0_3, ex_sh, hin, hcl, true_and, forall_eq, e5, nI_1]
  refine hK _ (Fr_I (by unfold dEx; simp) (Fr_I (by unfold dEx; simp) (Fr_refl _ _ _))) ⟨?_, ?_, fun j hj => ?_, ?_, fun j hj => ?_⟩
  · rw [rI_ne (by omega), rI_ne (by omega)]; exact h1
  · rw [rI_eq]; simp
  · simp only [List.length_append, List.length_cons, List.length_nil] at hj
    rw [rI_ne (by omega), rI]
    by_cases e : j = st.length
    · rw [if_pos ⟨rfl, e⟩, e, gd_eq]
    · rw [if_neg (fun z => e z.2), gd_lt (by omega)]; exact h3 j (by omega)
  · rw [rI_ne (by omega), rI_ne (by omega)]; exact h4
  · rw [rI_ne (by omega), rI_ne (by omega)]; exact h5 j hj
theorem emit_ok {c : Nat → Nat} {len P p x : Nat} {st out : List Nat} {M : Mm} {K : Mm → Prop} (hB : BRx c len P M) (h : CSx P M p st out) (hl : out.length < 60) (hK : ∀ M', Fr (dEx P) eN M M' → CSx P M' p st (out ++ [x]) → K M') : f_X5_emit S0 P (nI x) M K := by
  obtain ⟨h1, h2, h3, h4, h5⟩ := h
  have hF := hB.1
  have hp := pr_le P hB.2.2.1
  have hn := pr_n3 P hB.2.2.1
  have e5 : S0[P + 4 + 1]? = some (50, 60) := (pr_sh P hB.2.2.1).2.2.2.2.2
  unfold f_X5_emit
  rw [h4]
  refine ⟨fun z => absurd (show nI 60 ≤ nI out.length from z) (nI_ge hl (by omega)), fun _ => ?_⟩
  have hin : vp_in (nI out.length) 60 := vp_in_nI hl (by omega)
  have hcl : (nI out.length).toNatClampNeg = out.length := nI_clamp (by omega)
  have e7 : ∀ v, (stI M (P + 4 + 1) out.length v).1 P 7 = nI out.length := fun v => by rw [rI_ne (by omega)]; exact h4
  simp only [pr_ref hF hB.2.2.1 (show 4 < 5 by omega), ex_some, e5, ex_sh, hin, hcl, true_and, forall_eq, e7, nI_1]
  refine hK _ (Fr_I (by unfold dEx; simp) (Fr_I (by unfold dEx; simp) (Fr_refl _ _ _))) ⟨?_, ?_, fun j hj => ?_, ?_, fun j hj => ?_⟩
  · rw [rI_ne (by omega), rI_ne (by omega)]; exact h1
  · rw [rI_ne (by omega), rI_ne (by omega)]; exact h2
  · rw [rI_ne (by omega), rI_ne (by omega)]; exact h3 j hj
  · rw [rI_eq]; simp
  · simp only [List.length_append, List.length_cons, List.length_nil] at hj
    rw [rI_ne (by omega), rI]
    by_cases e : j = out.length
    · rw [if_pos ⟨rfl, e⟩, e, gd_eq]
    · rw [if_neg (fun z => e z.2), gd_lt (by omega)]; exact h5 j (by omega)
/-- what is held on top binds less than r -/
def Topx (st : List Nat) (r : Nat) : Prop := st = [] ∨ ∃ st' x, st = st' ++ [x] ∧ x < 1100 ∧ rkx x < r
theorem held_0 {P p : Nat} {out : List Nat} {M : Mm} {K : Int32 → Mm → Prop} (h : CSx P M p [] out) (hK : K 0 M) : f_X6_heldRank S0 1 M K := by
  unfold f_X6_heldRank
  rw [h.2.1]
  exact ⟨fun _ => hK, fun z => absurd (show nI 0 ≤ nI 0 from nI_le (Nat.le_refl _) (by omega)) z⟩
theorem held_1 {P p x : Nat} {st out : List Nat} {M : Mm} {K : Int32 → Mm → Prop} (hF : FX M) (hx : x < 1100) (hl : st.length < 60) (h : CSx P M p (st ++ [x]) out) (hK : K (nI (rkx x)) M) : f_X6_heldRank S0 1 M K := by
  unfold f_X6_heldRank
  have e : M.1 1 5 = nI (st.length + 1) := by rw [h.2.1]; simp
  rw [e]
  refine ⟨fun z => absurd (show nI (st.length + 1) ≤ nI 0 from z) (nI_ge (by omega) (by omega)), fun _ => ?_⟩
  have hin : vp_in (nI st.length) 60 := vp_in_nI hl (by omega)
  have hcl : (nI st.length).toNatClampNeg = st.length := nI_clamp (by omega)
  have e3 : M.1 3 st.length = nI x := by rw [h.2.2.1 st.length (by simp), gd_eq]
  simp only [fx_1_4 hF, ex_some, shp_ne (show (3 : Nat) ≠ 100000 by decide), s0_3, ex_sh, nI_pred, hin, hcl, true_and, e3]
  exact rk_gen (by rw [rkI_eq x hx]; exact hK)
theorem release_L {c : Nat → Nat} {len P p r : Nat} {st : List Nat} {EK K : Mm → Prop} (hr : r ≤ 5) (hr1 : 1 ≤ r) (ht : Topx st r) :
    ∀ (ops out : List Nat) (M : Mm), BRx c len P M → CSx P M p (st ++ ops.reverse) out → (∀ x ∈ ops, x < 1100 ∧ r ≤ rkx x) → out.length + ops.length + st.length ≤ 60 → (∀ M', Fr (dEx P) eN M M' → CSx P M' p st (out ++ ops) → EK M') → f_X6_release_L0 S0 1 (nI r) EK K (ops.length + 1) M
  | [], out, M, hB, h, ho, hl, hK => by
    simp only [List.reverse_nil, List.append_nil] at h hK
    unfold f_X6_release_L0 f_X6_release_B0
    have fin := hK M (Fr_refl _ _ _) h
    rcases ht with ht | ⟨st', x, hst, hx, hrk⟩
    · subst ht
      rw [h.2.1]
      exact ⟨fun _ => fin, fun z => absurd (show nI 0 ≤ nI 0 from nI_le (Nat.le_refl _) (by omega)) z⟩
    · subst hst
      simp only [List.length_append, List.length_cons, List.length_nil] at hl
      refine ⟨fun _ => fin, fun _ => held_1 hB.1 hx (by omega) h ⟨fun _ => fin, fun z => absurd (nI_lt hrk (by omega)) z⟩⟩
  | x :: ops, out, M, hB, h, ho, hl, hK => by
    have hP := pr_le P hB.2.2.1
    have hn := pr_n3 P hB.2.2.1
    obtain ⟨hx, hrk⟩ := ho x (by simp)
    have hF := hB.1
    rw [List.reverse_cons, ← List.append_assoc] at h
    simp only [List.length_cons] at hl
    have hlen : (st ++ ops.reverse).length = st.length + ops.length := by simp
    have hl5 := rk_le x
    unfold f_X6_release_L0 f_X6_release_B0
    have e5 : M.1 1 5 = nI (st.length + ops.length + 1) := by rw [h.2.1]; simp [Nat.add_assoc]
    refine ⟨fun z => absurd z ?_, fun _ => held_1 hF hx (by omega) h ⟨fun z => absurd z (nI_nlt hrk (by omega)), fun _ => ?_⟩⟩
    · rw [e5]; exact nI_ge (show 0 < st.length + ops.length + 1 by omega) (by omega)
    · simp only [forall_eq]
      rw [e5, nI_pred]
      have hFs : FX (stI M 1 5 (nI (st.length + ops.length))) := fx_I hF
      have hin : vp_in (nI (st.length + ops.length)) 60 := vp_in_nI (by omega) (by omega)
      have hcl : (nI (st.length + ops.length)).toNatClampNeg = st.length + ops.length := nI_clamp (by omega)
      have i5 : (stI M 1 5 (nI (st.length + ops.length))).1 1 5 = nI (st.length + ops.length) := rI_eq
      have e3 : (stI M 1 5 (nI (st.length + ops.length))).1 3 (st.length + ops.length) = nI x := by
        rw [rI_ne (by omega), h.2.2.1 _ (by simp), ← hlen, gd_eq]
      have e6 : (stI M 1 5 (nI (st.length + ops.length))).2.2 1 6 = some P := hB.2.1
      simp only [e6, fx_1_4 hFs, ex_some, shp_ne (show (3 : Nat) ≠ 100000 by decide), s0_3, ex_sh, i5, hin, hcl, true_and, e3, (pr_sh P hB.2.2.1).1]
      have f1 : Fr (dEx P) eN M (stI M 1 5 (nI (st.length + ops.length))) := Fr_I (by unfold dEx; simp) (Fr_refl _ _ _)
      have h' : CSx P (stI M 1 5 (nI (st.length + ops.length))) p (st ++ ops.reverse) out := by
        refine ⟨by rw [rI_ne (by omega)]; exact h.1, by rw [rI_eq, hlen], fun j hj => ?_, by rw [rI_ne (by omega)]; exact h.2.2.2.1, fun j hj => by rw [rI_ne (by omega)]; exact h.2.2.2.2 j hj⟩
        rw [rI_ne (by omega), h.2.2.1 j (by simp at hj ⊢; omega), gd_lt hj]
      refine emit_ok (BRx_fr f1 hB) h' (by omega) (fun M2 f2 h2 => ?_)
      refine release_L hr hr1 ht ops (out ++ [x]) M2 (BRx_fr f2 (BRx_fr f1 hB)) h2 (fun y hy => ho y (by simp [hy])) (by simp; omega) (fun M3 f3 h3 => hK M3 (Fr_tr f1 (Fr_tr f2 f3)) ?_)
      rw [List.append_assoc] at h3
      exact h3
theorem release_ok {c : Nat → Nat} {len P p r : Nat} {st ops out : List Nat} {M : Mm} {K : Mm → Prop} (hr : r ≤ 5) (hr1 : 1 ≤ r) (ht : Topx st r) (hB : BRx c len P M) (h : CSx P M p (st ++ ops.reverse) out) (ho : ∀ x ∈ ops, x < 1100 ∧ r ≤ rkx x) (hl : out.length + ops.length + st.length ≤ 60) (hK : ∀ M', Fr (dEx P) eN M M' → CSx P M' p st (out ++ ops) → K M') : f_X6_release S0 1 (nI r) M K := by
  unfold f_X6_release
  exact ⟨ops.length + 1, release_L hr hr1 ht ops out M hB h ho hl hK⟩
