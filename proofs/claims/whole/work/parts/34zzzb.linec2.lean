theorem numL {c : Nat → Nat} {len P i kk : Nat} {out : List Nat} {M0 : Mm} {EK K : Int32 → Mm → Prop} (hkk : kk < 10) (hB0 : BRx c len P M0) :
    ∀ (r k a p : Nat) (M : Mm), k + r = kk → p ≤ len → Fr (dLn P i) eN M0 M → LSx P i M p out → (∀ M', Fr (dLn P i) eN M0 M' → LSx P i M' (nmv c len r p a).2 out → EK (nI (nmv c len r p a).1) M') → f_X6_readNumber_L4 S0 1 (nI kk) EK K (r + 1) (nI a) (nI k) M
  | 0, k, a, p, M, hi, hp, hf, h, hK => by
    unfold f_X6_readNumber_L4 f_X6_readNumber_B4
    exact ⟨fun _ => hK M hf h, fun z => absurd (nI_le (by omega) (by omega)) z⟩
  | r + 1, k, a, p, M, hi, hp, hf, h, hK => by
    have hB := BRx_ln hf hB0
    unfold f_X6_readNumber_L4 f_X6_readNumber_B4
    refine ⟨fun z => absurd z (nI_ge (by omega) (by omega)), fun _ => look_ok hB h.1 hp (isD_gen ?_)⟩
    rw [lkD hB]
    unfold nmv at hK
    rcases hd : dgx (gcx c len p) with _ | _
    · rw [hd] at hK
      exact ⟨fun _ => hK M hf h, fun z => absurd rfl z⟩
    · rw [hd, if_pos rfl] at hK
      have hpl : p < len := gcx_lt (c := c) (fun z => by rw [z] at hd; simp [dgx] at hd)
      have hd' : 48 ≤ gcx c len p ∧ gcx c len p ≤ 57 := by simpa [dgx] using hd
      refine ⟨fun z => absurd z (by decide), fun _ => look_ok hB h.1 hp ?_⟩
      simp only [forall_eq]
      have ev : nI a * (10 : Int32) + lkx c len p - (48 : Int32) = nI (10 * a + gcx c len p - 48) := by
        have e1 : lkx c len p = nI (gcx c len p) := by unfold lkx gcx; rw [if_pos hpl, if_pos hpl]
        rw [e1, show (10 : Int32) = nI 10 from rfl, pk_mul, nI_add, Nat.mul_comm a 10]
        have e2 : 10 * a + gcx c len p = (10 * a + gcx c len p - 48) + 48 := by omega
        rw [e2, ← nI_add, show (48 : Int32) = nI 48 from rfl, show 10 * a + gcx c len p - 48 + 48 - 48 = 10 * a + gcx c len p - 48 by omega]
        rw [Int32.sub_eq_add_neg, Int32.add_assoc, show nI 48 + -nI 48 = 0 from rfl, Int32.add_zero]
      rw [ev, h.1, nI_1, nI_1]
      exact numL hkk hB0 r (k + 1) _ (p + 1) _ (by omega) (by omega) (fLn_I (by omega) hf) (LS_pos hB.2.2.1 h) hK
theorem numb_ok {c : Nat → Nat} {len P i p kd : Nat} {out : List Nat} {M : Mm} {K : Int32 → Mm → Prop} (hB : BRx c len P M) (hi : i < 16) (h : LSx P i M p out) (hp : p ≤ len) (h1 : dgx (gcx c len p) = true → ∀ M', Fr (dLn P i) eN M M' → LSx P i M' (nmv c len 2 p 0).2 out → HDx P i M' kd (nmv c len 2 p 0).1 out.length → K 1 M') (h0 : dgx (gcx c len p) = false → K 0 M) : f_X6_readNumbered S0 1 (nI kd) M K := by
  unfold f_X6_readNumbered
  refine look_ok hB h.1 hp (isD_gen ?_)
  rw [lkD hB]
  rcases hd : dgx (gcx c len p) with _ | _
  · exact ⟨fun _ => h0 hd, fun z => absurd rfl z⟩
  · refine ⟨fun z => absurd z (by decide), fun _ => ?_⟩
    simp only [hB.2.1, ex_some, (pr_sh P hB.2.2.1).1, true_and]
    unfold f_X6_readNumber
    refine ⟨2 + 1, numL (kk := 2) (by omega) hB 2 0 0 p M (by omega) hp (Fr_refl _ _ _) h (fun M1 f1 c1 => ?_)⟩
    exact beg_ok (BRx_ln f1 hB) hi c1 (fun M2 f2 c2 d2 => h1 hd M2 (Fr_tr f1 f2) c2 d2)
theorem lk_n {c : Nat → Nat} {len p : Nat} (h : p < len) : lkx c len p = nI (gcx c len p) := by unfold lkx gcx; rw [if_pos h, if_pos h]
theorem lk_rng {c : Nat → Nat} {len P p : Nat} {M : Mm} (hB : BRx c len P M) (h1 : ¬ lkx c len p < (97 : Int32)) (h2 : ¬ (104 : Int32) < lkx c len p) : 97 ≤ gcx c len p ∧ gcx c len p ≤ 104 := by
  by_cases hp : p < len
  · have hc := (hB.2.2.2.2.2 p hp).2
    have eg : gcx c len p = c p := by unfold gcx; rw [if_pos hp]
    rw [lk_n hp, show (97 : Int32) = nI 97 from rfl, nI_ltI (by omega) (by omega)] at h1
    rw [lk_n hp, show (104 : Int32) = nI 104 from rfl, nI_ltI (by omega) (by omega)] at h2
    omega
  · exfalso
    apply h1
    unfold lkx
    rw [if_neg hp]
    decide
theorem lk_rng2 {c : Nat → Nat} {len p : Nat} (h1 : 97 ≤ gcx c len p) (h2 : gcx c len p ≤ 104) : ¬ lkx c len p < (97 : Int32) ∧ ¬ (104 : Int32) < lkx c len p ∧ lkx c len p - (97 : Int32) = nI (gcx c len p - 97) := by
  have hp : p < len := gcx_lt (c := c) (by omega)
  rw [lk_n hp]
  refine ⟨?_, ?_, ?_⟩
  · rw [show (97 : Int32) = nI 97 from rfl, nI_ltI (by omega) (by omega)]; omega
  · rw [show (104 : Int32) = nI 104 from rfl, nI_ltI (by omega) (by omega)]; omega
  · have e2 : gcx c len p = (gcx c len p - 97) + 97 := by omega
    rw [e2, ← nI_add, show (97 : Int32) = nI 97 from rfl, show gcx c len p - 97 + 97 - 97 = gcx c len p - 97 by omega]
    rw [Int32.sub_eq_add_neg, Int32.add_assoc, show nI 97 + -nI 97 = 0 from rfl, Int32.add_zero]
theorem part_ok {c : Nat → Nat} {len P i p : Nat} {out : List Nat} {M : Mm} {K : Int32 → Mm → Prop} (hB : BRx c len P M) (hi : i < 16) (h : LSx P i M p out) (hp : p ≤ len) (h1 : 48 ≤ gcx c len p → gcx c len p ≤ 51 → ∀ M', Fr (dLn P i) eN M M' → LSx P i M' (p + 1) out → HDx P i M' 2 (gcx c len p - 48) out.length → K 1 M') (h0 : ¬ (48 ≤ gcx c len p ∧ gcx c len p ≤ 51) → K 0 M) : f_X6_readPart S0 1 M K := by
  unfold f_X6_readPart
  refine look_ok hB h.1 hp ?_
  intro v3 e3
  have key : ∀ x, x < 256 → ((nI x - (48 : Int32) < 0) ∨ ¬ (nI x - (48 : Int32) < (4 : Int32)) ↔ ¬ (48 ≤ x ∧ x ≤ 51)) ∧ ((48 ≤ x ∧ x ≤ 51) → nI x - (48 : Int32) = nI (x - 48)) := by decide +kernel
  by_cases hpl : p < len
  · have hc := (hB.2.2.2.2.2 p hpl).2
    have eg : gcx c len p = c p := by unfold gcx; rw [if_pos hpl]
    obtain ⟨k1, k2⟩ := key (gcx c len p) (by omega)
    rw [e3, lk_n hpl]
    refine ⟨fun z => h0 (k1.mp (Or.inl z)), fun z => ⟨fun y => ?_, fun y => h0 (k1.mp (Or.inr y))⟩⟩
    have hr : 48 ≤ gcx c len p ∧ gcx c len p ≤ 51 := Classical.byContradiction (fun q => (k1.mpr q).elim z (fun w => w y))
    simp only [forall_eq]
    rw [h.1, nI_1, k2 hr]
    have f1 : Fr (dLn P i) eN M (stI M 1 3 (nI (p + 1))) := fLn_I (by omega) (Fr_refl _ _ _)
    have e6 : (stI M 1 3 (nI (p + 1))).2.2 1 6 = some P := hB.2.1
    simp only [e6, ex_some, (pr_sh P hB.2.2.1).1, true_and]
    exact beg_ok (kd := 2) (BRx_ln f1 hB) hi (LS_pos hB.2.2.1 h) (fun M2 f2 c2 d2 => h1 hr.1 hr.2 M2 (Fr_tr f1 f2) c2 d2)
  · have el : lkx c len p = -1 := by unfold lkx; rw [if_neg hpl]
    have eg : gcx c len p = 256 := by unfold gcx; rw [if_neg hpl]
    rw [e3, el]
    exact ⟨fun _ => h0 (by omega), fun z => absurd (by decide) z⟩
