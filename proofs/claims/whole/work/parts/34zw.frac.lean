/-! common divisors, fractions -/
theorem gcd_st (a b : Nat) : Nat.gcd a b = Nat.gcd b (a % b) := by
  rw [Nat.gcd_comm a b, Nat.gcd_rec b a, Nat.gcd_comm]
theorem l0 {b : Nat} (hb : b < 2 ^ 63) : lN b = (0 : Int64) ↔ b = 0 := by
  rw [show (0 : Int64) = lN 0 from rfl, pk_lEQ hb (by omega)]
theorem eucl {a b k : Nat} (hab : b ≤ a) (hb : 0 < b) (h : a * b < 2 ^ (k + 1)) : b * (a % b) < 2 ^ k := by
  have h1 := Nat.div_add_mod a b
  have h2 := Nat.mod_lt a hb
  have h3 : 1 ≤ a / b := (Nat.le_div_iff_mul_le hb).mpr (by omega)
  have h4 : b * 1 ≤ b * (a / b) := Nat.mul_le_mul_left b h3
  have h5 : 2 * (a % b) + 1 ≤ a := by omega
  have h6 : (2 * (a % b)) * b ≤ a * b := Nat.mul_le_mul_right b (by omega)
  rw [Nat.pow_succ] at h
  have h7 : (2 * (a % b)) * b = 2 * (b * (a % b)) := by rw [Nat.mul_assoc, Nat.mul_comm (a % b) b]
  omega
/-- the class's common divisor -/
theorem cdL {S : Ss} {M : Mm} {EK K : Int64 → Mm → Prop} : ∀ (k a b i : Nat), b ≤ a → a * b < 2 ^ k → i + k < 200 → a < 2 ^ 62 → EK (lN (Nat.gcd a b)) M → ∃ f, f_X10_commonDivisor_L9 S EK K f (lN a) (lN b) (nI i) M
  | 0, a, b, i, hab, hk, hi, ha, hK => by
    refine ⟨1, ?_⟩
    unfold f_X10_commonDivisor_L9 f_X10_commonDivisor_B9
    have hb : b = 0 := by
      rcases Nat.eq_zero_or_pos b with e | e
      · exact e
      · have : 1 * 1 ≤ a * b := Nat.mul_le_mul (by omega) e
        omega
    subst hb
    rw [Nat.gcd_zero_right] at hK
    exact ⟨fun _ => hK, fun _ => ⟨fun _ => hK, fun z => absurd rfl z⟩⟩
  | k + 1, a, b, i, hab, hk, hi, ha, hK => by
    rcases Nat.eq_zero_or_pos b with e | e
    · subst e
      refine ⟨1, ?_⟩
      unfold f_X10_commonDivisor_L9 f_X10_commonDivisor_B9
      rw [Nat.gcd_zero_right] at hK
      exact ⟨fun _ => hK, fun _ => ⟨fun _ => hK, fun z => absurd rfl z⟩⟩
    · have hm := Nat.mod_lt a e
      rw [gcd_st] at hK
      obtain ⟨f, hf⟩ := cdL (S := S) (K := K) k b (a % b) (i + 1) (by omega) (eucl hab e hk) (by omega) (by omega) hK
      refine ⟨f + 1, ?_⟩
      unfold f_X10_commonDivisor_L9 f_X10_commonDivisor_B9
      have nz : ¬ lN b = (0 : Int64) := fun z => by rw [l0 (by omega)] at z; omega
      refine ⟨fun z => absurd (show nI 200 ≤ nI i from z) (nI_ge (by omega) (by omega)), fun _ => ⟨fun z => absurd z nz, fun _ => ⟨nz, ?_⟩⟩⟩
      simp only [forall_eq, nI_1]
      rw [pk_lRem (by omega) e (by omega)]
      exact hf
theorem cd_ok {S : Ss} {a b : Nat} {M : Mm} {K : Int64 → Mm → Prop} (hab : b ≤ a) (ha : a ≤ 10 ^ 12) (ha0 : 0 < a) (hK : K (lN (Nat.gcd a b)) M) : f_X10_commonDivisor S (lN a) (lN b) M K := by
  unfold f_X10_commonDivisor
  have hg : 0 < Nat.gcd a b := Nat.gcd_pos_of_pos_left b ha0
  have hgl : Nat.gcd a b ≤ a := Nat.gcd_le_left b ha0
  refine cdL 90 a b 0 hab ?_ (by omega) (by omega) ⟨fun z => ?_, fun _ => hK⟩
  · have : a * b ≤ 10 ^ 12 * 10 ^ 12 := Nat.mul_le_mul ha (by omega)
    have h2 : 10 ^ 12 * 10 ^ 12 < 2 ^ 90 := by decide
    omega
  · rw [l0 (by omega)] at z; omega
/-- the model's -/
theorem cmL {S : Ss} {M : Mm} {EK K : Int64 → Mm → Prop} (b : Nat) : ∀ a, a < 2 ^ 63 → b < 2 ^ 63 → EK (lN (Nat.gcd a b)) M → ∃ f, f_X11_common_L6 S EK K f (lN a) (lN b) M := by
  induction b using Nat.strongRecOn with
  | ind b ih =>
    intro a ha hb hK
    rcases Nat.eq_zero_or_pos b with e | e
    · subst e
      refine ⟨1, ?_⟩
      unfold f_X11_common_L6 f_X11_common_B6
      rw [Nat.gcd_zero_right] at hK
      exact ⟨fun _ => hK, fun z => absurd rfl z⟩
    · have hm := Nat.mod_lt a e
      rw [gcd_st] at hK
      obtain ⟨f, hf⟩ := ih (a % b) hm b hb (by omega) hK
      refine ⟨f + 1, ?_⟩
      unfold f_X11_common_L6 f_X11_common_B6
      have nz : ¬ lN b = (0 : Int64) := fun z => by rw [l0 hb] at z; omega
      refine ⟨fun z => absurd z nz, fun _ => ⟨nz, ?_⟩⟩
      simp only [forall_eq]
      rw [pk_lRem ha e hb]
      exact hf
theorem cm_ok {S : Ss} {a b : Nat} {M : Mm} {K : Int64 → Mm → Prop} (ha : a < 2 ^ 63) (hb : b < 2 ^ 63) (hK : K (lN (Nat.gcd a b)) M) : f_X11_common S (lN a) (lN b) M K := by
  unfold f_X11_common
  exact cmL b a ha hb hK
/-- less, as much, more -/
def sg3 (s : Int32) (x y : Nat) : Int32 := if x < y then -s else if x = y then 0 else s
theorem quo_lt {a b c d : Nat} (hb : 0 < b) (hd : 0 < d) (h : c / d < a / b) : c * b < a * d := by
  have h1 : b * (a / b) ≤ a := Nat.mul_div_le a b
  have h2 : c < d * (c / d + 1) := by
    have := Nat.div_add_mod c d
    have := Nat.mod_lt c hd
    rw [Nat.mul_add, Nat.mul_one]; omega
  have h3 : d * (c / d + 1) ≤ d * (a / b) := Nat.mul_le_mul_left d h
  have h4 : c * b < d * (a / b) * b := Nat.mul_lt_mul_of_pos_right (by omega) hb
  have h5 : d * (a / b) * b = b * (a / b) * d := by rw [Nat.mul_assoc, Nat.mul_comm d, Nat.mul_comm (a / b) b]
  have h6 : b * (a / b) * d ≤ a * d := Nat.mul_le_mul_right d h1
  omega
theorem quo_eq {a b c d : Nat} (s : Int32) (h : a / b = c / d) : sg3 (-s) (b * (c % d)) (d * (a % b)) = sg3 s (a * d) (c * b) := by
  have h1 := Nat.div_add_mod a b
  have h2 := Nat.div_add_mod c d
  have e1 : a * d = b * (a / b) * d + d * (a % b) := by
    conv => lhs; rw [← h1]
    rw [Nat.add_mul, Nat.mul_comm (a % b) d]
  have e2 : c * b = b * (a / b) * d + b * (c % d) := by
    conv => lhs; rw [← h2]
    rw [Nat.add_mul, ← h, Nat.mul_comm (c % d) b, Nat.mul_comm d (a / b), Nat.mul_assoc, Nat.mul_comm d b, ← Nat.mul_assoc, Nat.mul_comm (a / b) b]
  rw [e1, e2]
  unfold sg3
  by_cases z1 : b * (c % d) < d * (a % b)
  · rw [if_pos z1, if_neg (by omega), if_neg (by omega), Int32.neg_neg]
  · rw [if_neg z1]
    by_cases z2 : b * (c % d) = d * (a % b)
    · rw [if_pos z2, if_neg (by omega), if_pos (by omega)]
    · rw [if_neg z2, if_pos (by omega)]
/-- one turn of the class's comparing -/
theorem cf1 {S : Ss} {a b c d i : Nat} {s : Int32} {M : Mm} {EK : Int64 → Int64 → Int32 → Mm → Prop} {K : Int32 → Mm → Prop} (ha : a < 2 ^ 62) (hb2 : b < 2 ^ 62) (hc : c < 2 ^ 62) (hd2 : d < 2 ^ 62) (hb : 0 < b) (hd : 0 < d) (hi : i < 200) (hgt : c / d < a / b → K s M) (hlt : a / b < c / d → K (-s) M) (heq : a / b = c / d → ∃ f, f_X10_comparedFractions_L6 S EK K f (lN b) (lN (a % b)) (lN d) (lN (c % d)) (-s) (nI (i + 1)) M) : ∃ f, f_X10_comparedFractions_L6 S EK K f (lN a) (lN b) (lN c) (lN d) s (nI i) M := by
  have nb : ¬ lN b = (0 : Int64) := fun z => by rw [l0 (by omega)] at z; omega
  have nd : ¬ lN d = (0 : Int64) := fun z => by rw [l0 (by omega)] at z; omega
  have q1 : a / b ≤ a := Nat.div_le_self a b
  have q2 : c / d ≤ c := Nat.div_le_self c d
  have main : ∀ f, (a / b = c / d → f_X10_comparedFractions_L6 S EK K f (lN b) (lN (a % b)) (lN d) (lN (c % d)) (-s) (nI (i + 1)) M) → f_X10_comparedFractions_L6 S EK K (f + 1) (lN a) (lN b) (lN c) (lN d) s (nI i) M := by
    intro f hf
    unfold f_X10_comparedFractions_L6 f_X10_comparedFractions_B6
    refine ⟨fun z => absurd (show nI 200 ≤ nI i from z) (nI_ge (by omega) (by omega)), fun _ => ⟨fun z => absurd z nb, fun _ => ⟨fun z => absurd z nd, fun _ => ⟨nb, ?_⟩⟩⟩⟩
    rw [pk_lDiv (by omega) hb (by omega), pk_lDiv (by omega) hd (by omega)]
    simp only [forall_eq, nI_1]
    refine ⟨nd, ?_⟩
    rw [pk_lEQ (by omega) (by omega), pk_lLE (by omega) (by omega)]
    refine ⟨fun e => ⟨nb, nd, ?_⟩, fun e => ⟨fun z => hgt (by omega), fun z => hlt (by omega)⟩⟩
    have r1 : lN a - lN (a / b) * lN b = lN (a % b) := by
      have := pk_lRem (a := a) (b := b) (by omega) hb (by omega)
      rw [pk_lDiv (by omega) hb (by omega)] at this; exact this
    have r2 : lN c - lN (c / d) * lN d = lN (c % d) := by
      have := pk_lRem (a := c) (b := d) (by omega) hd (by omega)
      rw [pk_lDiv (by omega) hd (by omega)] at this; exact this
    rw [r1, r2]
    exact hf e
  by_cases e : a / b = c / d
  · obtain ⟨f, hf⟩ := heq e
    exact ⟨f + 1, main f (fun _ => hf)⟩
  · exact ⟨0 + 1, main 0 (fun z => absurd z e)⟩
def cfE (S : Ss) (K : Int32 → Mm → Prop) : Int64 → Int64 → Int32 → Mm → Prop := fun (v16 : Int64) (v17 : Int64) (v18 : Int32) (m19 : Mm) =>
    ((v16 = (0 : Int64) →
      ((v17 = (0 : Int64) →
        K (0 : Int32) m19) ∧
       (¬ v17 = (0 : Int64) →
        f_X10_comparedFractions_J115 S v16 v18 m19 K))) ∧
     (¬ v16 = (0 : Int64) →
      f_X10_comparedFractions_J115 S v16 v18 m19 K))
theorem cf_end {S : Ss} {a b c d : Nat} {s : Int32} {M : Mm} {K : Int32 → Mm → Prop} (hb2 : b < 2 ^ 62) (hd2 : d < 2 ^ 62) (h0 : b = 0 ∨ d = 0) (hb : b = 0 → 0 < a) (hd : d = 0 → 0 < c) (hK : K (sg3 s (a * d) (c * b)) M) : cfE S K (lN b) (lN d) s M := by
  unfold cfE f_X10_comparedFractions_J115
  rw [l0 (by omega), l0 (by omega)]
  unfold sg3 at hK
  refine ⟨fun eb => ⟨fun ed => ?_, fun nd => ⟨fun _ => ?_, fun z => absurd eb z⟩⟩, fun nb => ⟨fun z => absurd z nb, fun _ => ?_⟩⟩
  · subst eb; subst ed
    rw [Nat.mul_zero, Nat.mul_zero, if_neg (by omega), if_pos rfl] at hK; exact hK
  · subst eb
    have : 0 < a * d := Nat.mul_pos (hb rfl) (by omega)
    rw [Nat.mul_zero, if_neg (by omega), if_neg (by omega)] at hK; exact hK
  · have ed : d = 0 := by omega
    subst ed
    have : 0 < c * b := Nat.mul_pos (hd rfl) (by omega)
    rw [Nat.mul_zero, if_pos this] at hK; exact hK
theorem cfL {S : Ss} {M : Mm} {K : Int32 → Mm → Prop} : ∀ (k a b c d i : Nat) (s : Int32), b ≤ a → a * b < 2 ^ k → i + k < 200 → a < 2 ^ 62 → c < 2 ^ 62 → d < 2 ^ 62 → (b = 0 → 0 < a) → (d = 0 → 0 < c) → K (sg3 s (a * d) (c * b)) M → ∃ f, f_X10_comparedFractions_L6 S (cfE S K) K f (lN a) (lN b) (lN c) (lN d) s (nI i) M := by
  intro k
  have stop : ∀ (a b c d i : Nat) (s : Int32), b < 2 ^ 62 → d < 2 ^ 62 → (b = 0 ∨ d = 0) → (b = 0 → 0 < a) → (d = 0 → 0 < c) → K (sg3 s (a * d) (c * b)) M → ∃ f, f_X10_comparedFractions_L6 S (cfE S K) K f (lN a) (lN b) (lN c) (lN d) s (nI i) M := by
    intro a b c d i s hb2 hd2 h0 hb hd hK
    refine ⟨1, ?_⟩
    unfold f_X10_comparedFractions_L6 f_X10_comparedFractions_B6
    have e := cf_end (S := S) (a := a) (c := c) hb2 hd2 h0 hb hd hK
    rw [l0 (by omega), l0 (by omega)]
    exact ⟨fun _ => e, fun _ => ⟨fun _ => e, fun nb => ⟨fun _ => e, fun nd => by omega⟩⟩⟩
  induction k with
  | zero =>
    intro a b c d i s hab hk hi ha hc hd2 hb hd hK
    refine stop a b c d i s (by omega) hd2 (Or.inl ?_) hb hd hK
    rcases Nat.eq_zero_or_pos b with e | e
    · exact e
    · have : 1 * 1 ≤ a * b := Nat.mul_le_mul (by omega) e
      omega
  | succ k ih =>
    intro a b c d i s hab hk hi ha hc hd2 hb hd hK
    rcases Nat.eq_zero_or_pos b with eb | eb
    · exact stop a b c d i s (by omega) hd2 (Or.inl eb) hb hd hK
    · rcases Nat.eq_zero_or_pos d with ed | ed
      · exact stop a b c d i s (by omega) hd2 (Or.inr ed) hb hd hK
      · have hm := Nat.mod_lt a eb
        have hm2 := Nat.mod_lt c ed
        refine cf1 ha (by omega) hc hd2 eb ed (by omega) (fun h => ?_) (fun h => ?_) (fun h => ?_)
        · have := quo_lt eb ed h
          unfold sg3 at hK
          rw [if_neg (by omega), if_neg (by omega)] at hK; exact hK
        · have := quo_lt ed eb h
          unfold sg3 at hK
          rw [if_pos (by omega)] at hK; exact hK
        · refine ih b (a % b) d (c % d) (i + 1) (-s) (by omega) (eucl hab eb hk) (by omega) (by omega) (by omega) (by omega) (fun _ => eb) (fun _ => ed) ?_
          rw [quo_eq s h]; exact hK
theorem cf_ok {S : Ss} {a b c d : Nat} {M : Mm} {K : Int32 → Mm → Prop} (hab : a ≤ b) (hb : b ≤ 10 ^ 12) (hc : c ≤ 10 ^ 12) (hd2 : d ≤ 10 ^ 12) (hb0 : 0 < b) (hd0 : 0 < d) (hK : K (sg3 1 (a * d) (c * b)) M) : f_X10_comparedFractions S (lN a) (lN b) (lN c) (lN d) M K := by
  unfold f_X10_comparedFractions
  show ∃ n23 : Nat, f_X10_comparedFractions_L6 S (cfE S K) K n23 (lN a) (lN b) (lN c) (lN d) 1 (nI 0) M
  have hm := Nat.mod_lt a hb0
  have hm2 := Nat.mod_lt c hd0
  refine cf1 (by omega) (by omega) (by omega) (by omega) hb0 hd0 (by omega) (fun h => ?_) (fun h => ?_) (fun h => ?_)
  · have := quo_lt hb0 hd0 h
    unfold sg3 at hK
    rw [if_neg (by omega), if_neg (by omega)] at hK; exact hK
  · have := quo_lt hd0 hb0 h
    unfold sg3 at hK
    rw [if_pos (by omega)] at hK; exact hK
  · refine cfL 90 b (a % b) d (c % d) (0 + 1) (-1) (by omega) ?_ (by omega) (by omega) (by omega) (by omega) (fun _ => hb0) (fun _ => hd0) ?_
    · have : b * (a % b) ≤ 10 ^ 12 * 10 ^ 12 := Nat.mul_le_mul hb (by omega)
      have h2 : 10 ^ 12 * 10 ^ 12 < 2 ^ 90 := by decide
      omega
    · rw [quo_eq 1 h]; exact hK
/-- the model's comparing -/
theorem cpL {S : Ss} {M : Mm} {K : Int32 → Mm → Prop} (b : Nat) : ∀ (a c d : Nat) (s : Int32), a < 2 ^ 62 → b < 2 ^ 62 → c < 2 ^ 62 → d < 2 ^ 62 → 0 < b → 0 < d → K (sg3 s (a * d) (c * b)) M → ∃ f, f_X11_compares_L17 S K f (lN a) (lN b) (lN c) (lN d) s M := by
  induction b using Nat.strongRecOn with
  | ind b ih =>
    intro a c d s ha hb2 hc hd2 hb hd hK
    have nb : ¬ lN b = (0 : Int64) := fun z => by rw [l0 (by omega)] at z; omega
    have nd : ¬ lN d = (0 : Int64) := fun z => by rw [l0 (by omega)] at z; omega
    have q1 : a / b ≤ a := Nat.div_le_self a b
    have q2 : c / d ≤ c := Nat.div_le_self c d
    have hm := Nat.mod_lt a hb
    have hm2 := Nat.mod_lt c hd
    have r1 : lN a - lN (a / b) * lN b = lN (a % b) := by
      have := pk_lRem (a := a) (b := b) (by omega) hb (by omega)
      rw [pk_lDiv (by omega) hb (by omega)] at this; exact this
    have r2 : lN c - lN (c / d) * lN d = lN (c % d) := by
      have := pk_lRem (a := c) (b := d) (by omega) hd (by omega)
      rw [pk_lDiv (by omega) hd (by omega)] at this; exact this
    have main : ∀ f, (a / b = c / d → a % b ≠ 0 → c % d ≠ 0 → f_X11_compares_L17 S K f (lN b) (lN (a % b)) (lN d) (lN (c % d)) (-s) M) → f_X11_compares_L17 S K (f + 1) (lN a) (lN b) (lN c) (lN d) s M := by
      intro f hf
      unfold f_X11_compares_L17 f_X11_compares_B17
      refine ⟨nb, ?_⟩
      rw [pk_lDiv (by omega) hb (by omega), pk_lDiv (by omega) hd (by omega)]
      simp only [forall_eq]
      refine ⟨nd, ?_⟩
      rw [pk_lEQ (by omega) (by omega), pk_lLE (by omega) (by omega)]
      refine ⟨fun e => ⟨nb, nd, ?_⟩, fun e => ⟨fun z => ?_, fun z => ?_⟩⟩
      · rw [r1, r2, l0 (by omega), l0 (by omega)]
        rw [← quo_eq s e] at hK
        have j84 : (a % b = 0 ∨ c % d = 0) → f_X11_compares_J84 S s (lN (a % b)) (lN (c % d)) M K := by
          intro h0
          unfold f_X11_compares_J84
          rw [pk_lEQ (by omega) (by omega), l0 (by omega)]
          unfold sg3 at hK
          refine ⟨fun e1 => ?_, fun e1 => ⟨fun e2 => ?_, fun e2 => ?_⟩⟩
          · have e2 : a % b = 0 ∧ c % d = 0 := by omega
            rw [e2.1, e2.2, Nat.mul_zero, Nat.mul_zero, if_neg (by omega), if_pos rfl] at hK; exact hK
          · have : 0 < b * (c % d) := Nat.mul_pos hb (by omega)
            rw [e2, Nat.mul_zero, if_neg (by omega), if_neg (by omega)] at hK; exact hK
          · have e3 : c % d = 0 := by omega
            have : 0 < d * (a % b) := Nat.mul_pos hd (by omega)
            rw [e3, Nat.mul_zero, if_pos this, Int32.neg_neg] at hK; exact hK
        exact ⟨fun z => j84 (Or.inl z), fun z => ⟨fun y => j84 (Or.inr y), fun y => hf e z y⟩⟩
      · have := quo_lt hb hd (show c / d < a / b by omega)
        unfold sg3 at hK
        rw [if_neg (by omega), if_neg (by omega)] at hK; exact hK
      · have := quo_lt hd hb (show a / b < c / d by omega)
        unfold sg3 at hK
        rw [if_pos (by omega)] at hK; exact hK
    by_cases e : a / b = c / d ∧ a % b ≠ 0 ∧ c % d ≠ 0
    · obtain ⟨f, hf⟩ := ih (a % b) hm b d (c % d) (-s) hb2 (by omega) hd2 (by omega) (by omega) (by omega) (by rw [quo_eq s e.1]; exact hK)
      exact ⟨f + 1, main f (fun _ _ _ => hf)⟩
    · exact ⟨0 + 1, main 0 (fun z1 z2 z3 => absurd ⟨z1, z2, z3⟩ e)⟩
theorem cp_ok {S : Ss} {a b c d : Nat} {M : Mm} {K : Int32 → Mm → Prop} (ha : a < 2 ^ 62) (hb2 : b < 2 ^ 62) (hc : c < 2 ^ 62) (hd2 : d < 2 ^ 62) (hb : 0 < b) (hd : 0 < d) (hK : K (sg3 1 (a * d) (c * b)) M) : f_X11_compares S (lN a) (lN b) (lN c) (lN d) M K := by
  unfold f_X11_compares
  exact cpL b a c d 1 ha hb2 hc hd2 hb hd hK
/-- sums that come again -/
theorem sum_split (g : Nat → Nat) (a : Nat) : ∀ b, sumTo g (a + b) = sumTo g a + sumTo (fun i => g (a + i)) b
  | 0 => rfl
  | b + 1 => by
    show sumTo g (a + b) + g (a + b) = sumTo g a + (sumTo (fun i => g (a + i)) b + g (a + b))
    rw [sum_split g a b]; omega
theorem sum_per {p : Nat} (hp : 0 < p) (f : Nat → Nat) : ∀ T, sumTo (fun m => f (m % p)) (T * p) = T * sumTo f p
  | 0 => by rw [Nat.zero_mul, Nat.zero_mul]; rfl
  | T + 1 => by
    rw [Nat.add_mul, Nat.one_mul, sum_split, sum_per hp f T, Nat.add_mul, Nat.one_mul]
    congr 1
    refine sum_ext p (fun i hi => ?_)
    show f ((T * p + i) % p) = f i
    rw [Nat.mul_comm, Nat.mul_add_mod, Nat.mod_eq_of_lt hi]
