/-! reading an expression: the class -/
theorem Top_mono {st : List Nat} {r r' : Nat} (h : r ≤ r') (ht : Topx st r) : Topx st r' := ht.imp id (fun ⟨s, x, a, b, d⟩ => ⟨s, x, a, b, by omega⟩)
theorem Top_1 {st : List Nat} {x r : Nat} (hx : x < 1100) (h : rkx x < r) : Topx (st ++ [x]) r := Or.inr ⟨st, x, rfl, hx, h⟩
theorem J32_ok {c : Nat → Nat} {len P p j : Nat} {st out : List Nat} {M : Mm} {K : Int32 → Mm → Prop} (hB : BRx c len P M) (h : CSx P M p st out) (hl : st.length < 60) (hK : ∀ M', Fr (dEx P) eN M M' → CSx P M' (p + 1) (st ++ [j]) out → K 1 M') : f_X6_holdJoint_J32 S0 1 (nI j) M K := by
  unfold f_X6_holdJoint_J32
  refine hold_ok hB h hl (fun M1 f1 h1 => ?_)
  simp only [forall_eq]
  rw [h1.1, nI_1]
  exact hK _ (fEx_pos f1) (CS_pos hB.2.2.1 h1)
theorem hj_ok {c : Nat → Nat} {len P p j : Nat} {st ops out : List Nat} {M : Mm} {K : Int32 → Mm → Prop} (hj : j < 1100) (hr1 : 1 ≤ rkx j) (h3 : rkx j ≠ 3) (ht : Topx st (rkx j)) (hB : BRx c len P M) (h : CSx P M p (st ++ ops.reverse) out) (ho : ∀ x ∈ ops, x < 1100 ∧ rkx j ≤ rkx x) (hl : out.length + ops.length + st.length < 60) (hK : ∀ M', Fr (dEx P) eN M M' → CSx P M' (p + 1) (st ++ [j]) (out ++ ops) → K 1 M') : f_X6_holdJoint S0 1 (nI j) M K := by
  have h5 := rk_le j
  unfold f_X6_holdJoint
  refine rk_gen ?_
  rw [rkI_eq j hj]
  refine ⟨fun z => absurd ((nI_eq (by omega) (by omega)).mp (show nI (rkx j) = nI 3 from z)) h3, fun _ => ?_⟩
  refine release_ok h5 hr1 ht hB h ho (by omega) (fun M1 f1 h1 => ?_)
  exact J32_ok (BRx_fr f1 hB) h1 (by omega) (fun M2 f2 h2 => hK M2 (Fr_tr f1 f2) h2)
theorem hj3_ok {c : Nat → Nat} {len P p j : Nat} {st ops out : List Nat} {M : Mm} {K : Int32 → Mm → Prop} (hj : j < 1100) (h3 : rkx j = 3) (ht : Topx st 3) (hB : BRx c len P M) (h : CSx P M p (st ++ ops.reverse) out) (ho : ∀ x ∈ ops, x < 1100 ∧ 4 ≤ rkx x) (hl : out.length + ops.length + st.length < 60) (hK : ∀ M', Fr (dEx P) eN M M' → CSx P M' (p + 1) (st ++ [j]) (out ++ ops) → K 1 M') : f_X6_holdJoint S0 1 (nI j) M K := by
  unfold f_X6_holdJoint
  refine rk_gen ?_
  rw [rkI_eq j hj, h3]
  refine ⟨fun _ => ?_, fun z => absurd rfl z⟩
  rw [show nI 3 + (1 : Int32) = nI 4 from rfl]
  refine release_ok (by omega) (by omega) (Top_mono (by omega) ht) hB h ho (by omega) (fun M1 f1 h1 => ?_)
  have hB1 := BRx_fr f1 hB
  have go : f_X6_holdJoint_J32 S0 1 (nI j) M1 K := J32_ok hB1 h1 (by omega) (fun M2 f2 h2 => hK M2 (Fr_tr f1 f2) h2)
  rcases ht with ht | ⟨st', x, hst, hx, hrk⟩
  · subst ht
    exact held_0 h1 ⟨fun z => absurd z (by decide), fun _ => go⟩
  · subst hst
    simp only [List.length_append, List.length_cons, List.length_nil] at hl
    exact held_1 hB1.1 hx (by omega) h1 ⟨fun z => absurd ((nI_eq (by omega) (by omega)).mp (show nI (rkx x) = nI 3 from z)) (by omega), fun _ => go⟩
theorem hj3_bad {c : Nat → Nat} {len P p j j' : Nat} {st ops out : List Nat} {M : Mm} {K : Int32 → Mm → Prop} (hj : j < 1100) (h3 : rkx j = 3) (hj' : j' < 1100) (h3' : rkx j' = 3) (hB : BRx c len P M) (h : CSx P M p ((st ++ [j']) ++ ops.reverse) out) (ho : ∀ x ∈ ops, x < 1100 ∧ 4 ≤ rkx x) (hl : out.length + ops.length + st.length < 60) (hK : ∀ M', Fr (dEx P) eN M M' → M'.1 1 3 = nI p → K 0 M') : f_X6_holdJoint S0 1 (nI j) M K := by
  unfold f_X6_holdJoint
  refine rk_gen ?_
  rw [rkI_eq j hj, h3]
  refine ⟨fun _ => ?_, fun z => absurd rfl z⟩
  rw [show nI 3 + (1 : Int32) = nI 4 from rfl]
  refine release_ok (st := st ++ [j']) (by omega) (by omega) (Top_1 hj' (by omega)) hB h ho (by simp; omega) (fun M1 f1 h1 => ?_)
  refine held_1 (BRx_fr f1 hB).1 hj' (by omega) h1 ⟨fun _ => hK M1 f1 h1.1, fun z => absurd (by rw [h3']; rfl) z⟩
theorem ahead_ok {c : Nat → Nat} {len P p : Nat} {st out : List Nat} {M : Mm} {K : Int32 → Mm → Prop} (hB : BRx c len P M) (h : CSx P M p st out) (hl : st.length < 60 ∨ p = len) (hp : p ≤ len)
    (h1 : unx (gcx c len p) ≠ 0 → ∀ M', Fr (dEx P) eN M M' → CSx P M' (p + 1) (st ++ [unx (gcx c len p)]) out → K 1 M') (h2 : gcx c len p = 40 → ∀ M', Fr (dEx P) eN M M' → CSx P M' (p + 1) (st ++ [1039]) out → K 1 M') (h0 : unx (gcx c len p) = 0 → gcx c len p ≠ 40 → K 0 M) : f_X6_readAhead S0 1 M K := by
  unfold f_X6_readAhead
  refine look_ok hB h.1 hp ?_
  have j72 : ∀ x M1, Fr (dEx P) eN M M1 → CSx P M1 p (st ++ [x]) out → (∀ M', Fr (dEx P) eN M M' → CSx P M' (p + 1) (st ++ [x]) out → K 1 M') → f_X6_readAhead_J72 S0 1 M1 K := by
    intro x M1 f1 c1 hK
    unfold f_X6_readAhead_J72
    simp only [forall_eq]
    rw [c1.1, nI_1]
    exact hK _ (fEx_pos f1) (CS_pos hB.2.2.1 c1)
  have lt : ∀ x, x < 256 → gcx c len p = x → st.length < 60 := by
    intro x hx e
    have := gcx_lt (c := c) (len := len) (p := p) (by omega)
    rcases hl with q | q
    · exact q
    · omega
  rw [show (33 : Int32) = nI 33 from rfl, show (40 : Int32) = nI 40 from rfl, show (45 : Int32) = nI 45 from rfl, lkx_eq hB (by omega), lkx_eq hB (by omega), lkx_eq hB (by omega)]
  refine ⟨fun z => ?_, fun z => ⟨fun y => ?_, fun y => ⟨fun w => ?_, fun w => ?_⟩⟩⟩
  · have e : unx (gcx c len p) = 1037 := by rw [z]; rfl
    rw [e] at h1
    exact hold_ok (x := 1037) hB h (lt 33 (by omega) z) (fun M1 f1 c1 => j72 1037 M1 f1 c1 (h1 (by decide)))
  · exact hold_ok (x := 1039) hB h (lt 40 (by omega) y) (fun M1 f1 c1 => j72 1039 M1 f1 c1 (h2 y))
  · have e : unx (gcx c len p) = 1038 := by rw [w]; rfl
    rw [e] at h1
    exact hold_ok (x := 1038) hB h (lt 45 (by omega) w) (fun M1 f1 c1 => j72 1038 M1 f1 c1 (h1 (by decide)))
  · exact h0 (by unfold unx; rw [if_neg z, if_neg w]) y
theorem num_L {c : Nat → Nat} {len P kk : Nat} {st out : List Nat} {M0 : Mm} {EK K : Int32 → Mm → Prop} (hkk : kk < 10) (hB0 : BRx c len P M0) :
    ∀ (r i a p : Nat) (M : Mm), i + r = kk → p ≤ len → Fr (dEx P) eN M0 M → CSx P M p st out → (∀ M', Fr (dEx P) eN M0 M' → CSx P M' (nmv c len r p a).2 st out → EK (nI (nmv c len r p a).1) M') → f_X6_readNumber_L4 S0 1 (nI kk) EK K (r + 1) (nI a) (nI i) M
  | 0, i, a, p, M, hi, hp, hf, h, hK => by
    unfold f_X6_readNumber_L4 f_X6_readNumber_B4
    exact ⟨fun _ => hK M hf h, fun z => absurd (nI_le (by omega) (by omega)) z⟩
  | r + 1, i, a, p, M, hi, hp, hf, h, hK => by
    have hB := BRx_fr hf hB0
    unfold f_X6_readNumber_L4 f_X6_readNumber_B4
    refine ⟨fun z => absurd z (nI_ge (by omega) (by omega)), fun _ => look_ok hB h.1 hp (isD_gen ?_)⟩
    rw [lkD hB]
    unfold nmv at hK
    rcases hd : dgx (gcx c len p) with _ | _
    · rw [hd] at hK
      exact ⟨fun _ => hK M hf h, fun z => absurd rfl z⟩
    · rw [hd, if_pos rfl] at hK
      have hpl : p < len := gcx_lt (c := c) (fun z => by rw [z] at hd; simp [dgx] at hd)
      have hd' : 48 ≤ gcx c len p ∧ gcx c len p ≤ 57 := by simpa [dgx] using hd
      refine ⟨fun z => absurd z (by decide), fun _ => look_ok hB h.1 hp ?_⟩
      simp only [forall_eq]
      have ev : nI a * (10 : Int32) + lkx c len p - (48 : Int32) = nI (10 * a + gcx c len p - 48) := by
        have e1 : lkx c len p = nI (gcx c len p) := by unfold lkx gcx; rw [if_pos hpl, if_pos hpl]
        rw [e1, show (10 : Int32) = nI 10 from rfl, pk_mul, nI_add, Nat.mul_comm a 10]
        have e2 : 10 * a + gcx c len p = (10 * a + gcx c len p - 48) + 48 := by omega
        rw [e2, ← nI_add, show (48 : Int32) = nI 48 from rfl, show 10 * a + gcx c len p - 48 + 48 - 48 = 10 * a + gcx c len p - 48 by omega]
        rw [Int32.sub_eq_add_neg, Int32.add_assoc, show nI 48 + -nI 48 = 0 from rfl, Int32.add_zero]
      rw [ev, h.1, nI_1, nI_1]
      exact num_L hkk hB0 r (i + 1) _ (p + 1) _ (by omega) (by omega) (fEx_pos hf) (CS_pos hB.2.2.1 h) hK
theorem thing_ok {c : Nat → Nat} {len P p : Nat} {ak : Bool} {st out : List Nat} {M : Mm} {K : Int32 → Mm → Prop} (hB : BRx c len P M) (h : CSx P M p st out) (hl : out.length ≤ p) (hp : p ≤ len)
    (h1 : dgx (gcx c len p) = true → ∀ M', Fr (dEx P) eN M M' → CSx P M' (nmv c len 3 p 0).2 st (out ++ [(nmv c len 3 p 0).1]) → K 1 M') (h2 : thx ak (gcx c len p) ≠ 0 → ∀ M', Fr (dEx P) eN M M' → CSx P M' (p + 1) st (out ++ [thx ak (gcx c len p)]) → K 1 M') (h0 : dgx (gcx c len p) = false → thx ak (gcx c len p) = 0 → K 0 M) : f_X6_readThing S0 1 (akI ak) M K := by
  have h60 := hB.2.2.2.2.1
  unfold f_X6_readThing
  refine look_ok hB h.1 hp (isD_gen ?_)
  rw [lkD hB]
  rcases hd : dgx (gcx c len p) with _ | _
  · refine ⟨fun _ => look_ok hB h.1 hp (ofT_gen ?_), fun z => absurd rfl z⟩
    rw [lkT hB]
    by_cases ht : thx ak (gcx c len p) = 0
    · rw [if_pos ht]
      exact ⟨fun _ => h0 hd ht, fun z => absurd rfl z⟩
    · rw [if_neg ht]
      have hc := th_c ht
      have hpl := th_lt ht
      refine ⟨fun z => absurd (le0 (show thx ak (gcx c len p) < 2 ^ 31 by omega)) (by rw [z]; decide), fun _ => ?_⟩
      simp only [hB.2.1, ex_some, (pr_sh P hB.2.2.1).1, true_and]
      refine emit_ok hB h (by omega) (fun M1 f1 c1 => ?_)
      simp only [forall_eq]
      rw [c1.1, nI_1]
      exact h2 ht _ (fEx_pos f1) (CS_pos hB.2.2.1 c1)
  · have hpl : p < len := gcx_lt (c := c) (fun z => by rw [z] at hd; simp [dgx] at hd)
    refine ⟨fun z => absurd z (by decide), fun _ => ?_⟩
    simp only [hB.2.1, ex_some, (pr_sh P hB.2.2.1).1, true_and]
    unfold f_X6_readNumber
    refine ⟨3 + 1, num_L (kk := 3) (by omega) hB 3 0 0 p M (by omega) hp (Fr_refl _ _ _) h (fun M1 f1 c1 => ?_)⟩
    exact emit_ok (BRx_fr f1 hB) c1 (by omega) (fun M2 f2 c2 => h1 hd M2 (Fr_tr f1 f2) c2)
def REx (ak : Bool) (EK : Int32 → Int32 → Mm → Prop) (K : Int32 → Mm → Prop) (d x3 x4 : Nat) (M : Mm) : Prop := f_X6_readExpression_L12 S0 1 (akI ak) EK K (62 - x4) (nI d) (nI x3) (nI x4) M
theorem re_joint {c : Nat → Nat} {len P p d x4 : Nat} {ak : Bool} {st out : List Nat} {M : Mm} {EK : Int32 → Int32 → Mm → Prop} {K : Int32 → Mm → Prop} (hB : BRx c len P M) (h : CSx P M p st out) (hp : p ≤ len) (hx4 : x4 ≤ p) (hj : jt (gcx c len p) ≠ 0) (HJ : f_X6_holdJoint S0 1 (nI (jt (gcx c len p))) M (fun r13 m12 => (r13 = 0 → K 0 m12) ∧ (¬ r13 = 0 → REx ak EK K d 1 (x4 + 1) m12))) : REx ak EK K d 0 x4 M := by
  have h60 := hB.2.2.2.2.1
  unfold REx
  rw [show 62 - x4 = (62 - (x4 + 1)) + 1 by omega]
  unfold f_X6_readExpression_L12 f_X6_readExpression_B12
  refine ⟨fun z => absurd (show nI 60 < nI x4 from z) (nI_nlt (by omega) (by omega)), fun _ => ⟨fun _ => ?_, fun z => absurd rfl z⟩⟩
  refine look_ok hB h.1 hp ?_
  have n41 : ¬ gcx c len p = 41 := fun z => hj (by rw [z]; rfl)
  rw [show (41 : Int32) = nI 41 from rfl, lkx_eq hB (by omega)]
  refine ⟨fun z => absurd z n41, fun _ => ?_⟩
  unfold f_X6_readExpression_J122
  refine look_ok hB h.1 hp (ofJ_gen ?_)
  rw [lkJ hB, if_neg hj]
  have hjl : jt (gcx c len p) < 2 ^ 31 := by
    unfold jt
    repeat' split
    all_goals omega
  refine ⟨fun z => absurd (le0 hjl) (by rw [z]; decide), fun _ => ?_⟩
  simp only [forall_eq, nI_1]
  exact HJ
theorem re_end {c : Nat → Nat} {len P p d x4 : Nat} {ak : Bool} {st out : List Nat} {M : Mm} {EK : Int32 → Int32 → Mm → Prop} {K : Int32 → Mm → Prop} (hB : BRx c len P M) (h : CSx P M p st out) (hp : p ≤ len) (hx4 : x4 ≤ p) (hj : jt (gcx c len p) = 0) (h41 : gcx c len p = 41 → d = 0) (HE : EK (nI d) 0 M) : REx ak EK K d 0 x4 M := by
  have h60 := hB.2.2.2.2.1
  unfold REx
  rw [show 62 - x4 = (62 - (x4 + 1)) + 1 by omega]
  unfold f_X6_readExpression_L12 f_X6_readExpression_B12
  refine ⟨fun z => absurd (show nI 60 < nI x4 from z) (nI_nlt (by omega) (by omega)), fun _ => ⟨fun _ => ?_, fun z => absurd rfl z⟩⟩
  refine look_ok hB h.1 hp ?_
  have go : ∀ BK, f_X6_readExpression_J122 S0 1 (akI ak) (nI d) (nI 0) (nI x4) M BK EK K := by
    intro BK
    unfold f_X6_readExpression_J122
    refine look_ok hB h.1 hp (ofJ_gen ?_)
    rw [lkJ hB, if_pos hj]
    exact ⟨fun _ => HE, fun z => absurd rfl z⟩
  rw [show (41 : Int32) = nI 41 from rfl, lkx_eq hB (by omega)]
  refine ⟨fun z => ⟨fun _ => go _, fun y => absurd ?_ y⟩, fun _ => go _⟩
  rw [h41 z]; decide
