/-! like: the shapes of two texts -/
theorem bt_or {N : Nat} (s w v : Nat) (hsw : s + w ≤ 64) (hs : s < 64) (hv : v < 2 ^ w) (hz : fld N s w = 0) : lN N ||| (lN v <<< ((nI s).toInt64 &&& 63)) = lN (put N s w v) := by
  rw [sh_l hs]
  apply Int64.toBitVec_inj.mp
  apply BitVec.eq_of_getLsbD_eq
  intro j hj
  rw [lN_bit, put_bit hv, Int64.toBitVec_or, BitVec.getLsbD_or, lN_bit, lN_bit, Nat.testBit_two_pow_mul]
  simp only [hj, decide_true, Bool.true_and]
  by_cases h1 : j < s
  · have h2 : ¬ s ≤ j := by omega
    simp [h1, h2]
  · have h2 : s ≤ j := by omega
    by_cases h3 : j < s + w
    · have := congrArg (fun x => x.testBit (j - s)) hz
      simp only [fld_bit, Nat.zero_testBit] at this
      have h4 : j - s < w := by omega
      rw [show j - s + s = j by omega] at this
      simp only [h4, decide_true, Bool.true_and] at this
      simp [h1, h2, h3, this]
    · have h4 : v.testBit (j - s) = false := Nat.testBit_lt_two_pow (Nat.lt_of_lt_of_le hv (Nat.pow_le_pow_right (by omega) (by omega)))
      simp [h1, h2, h3, h4]
/-- the nibble of number x -/
def nb4 (N x : Nat) : Nat := fld N (4 * x) 4
theorem nib_ok {S : Ss} {N x : Nat} {M : Mm} {K : Int32 → Mm → Prop} (hN : N < 2 ^ 32) (hx : x < 8) (h : K (nI (nb4 N x)) M) : f_X10_nibble S (lN N) (nI x) M K := by
  unfold f_X10_nibble
  rw [show (4 : Int32) = nI 4 from rfl, pk_mul, show (15 : Int32) = nI (2 ^ 4 - 1) from rfl, bt_rd (x * 4) 4 (by omega) (by omega) (by omega), Nat.mul_comm]
  exact h
theorem nb4_put {N x v : Nat} (hv : v < 16) (x' : Nat) : nb4 (put N (4 * x) 4 v) x' = if x' = x then v else nb4 N x' := by
  by_cases h : x' = x
  · subst h; rw [if_pos rfl]; exact fld_put (by omega)
  · rw [if_neg h]; exact fld_put_ne (by omega) (by omega)
/-- one sign of each text: the maps (as nibbles) behind it, or none where the shapes differ -/
def lks (N B a b : Nat) : Option (Nat × Nat) :=
  if 97 ≤ a ∧ a < 105 ∧ 97 ≤ b ∧ b < 105 then
    (if nb4 N (a - 97) = 0 ∧ nb4 B (b - 97) = 0 then some (put N (4 * (a - 97)) 4 (b - 97 + 1), put B (4 * (b - 97)) 4 (a - 97 + 1))
     else if nb4 N (a - 97) = b - 97 + 1 ∧ nb4 B (b - 97) = a - 97 + 1 then some (N, B) else none)
  else if a = b then some (N, B) else none
def lkr (ta tb : Nat → Nat) : Nat → Nat → Nat → Nat → Option (Nat × Nat)
  | 0, _, N, B => some (N, B)
  | r + 1, i, N, B => match lks N B (ta i) (tb i) with
    | none => none
    | some p => lkr ta tb r (i + 1) p.1 p.2
theorem lks_lt {N B a b : Nat} {p : Nat × Nat} (hN : N < 2 ^ 32) (hB : B < 2 ^ 32) (h : lks N B a b = some p) : p.1 < 2 ^ 32 ∧ p.2 < 2 ^ 32 := by
  unfold lks at h
  split at h
  · rename_i h1
    split at h
    · simp only [Option.some.injEq] at h
      rw [← h]
      exact ⟨put_ltn hN (by omega) (by omega), put_ltn hB (by omega) (by omega)⟩
    · split at h
      · simp only [Option.some.injEq] at h; rw [← h]; exact ⟨hN, hB⟩
      · exact absurd h (by simp)
  · split at h
    · simp only [Option.some.injEq] at h; rw [← h]; exact ⟨hN, hB⟩
    · exact absurd h (by simp)
theorem c97 : ∀ a, a < 256 → ((nI a - (97 : Int32) < 0 ↔ a < 97) ∧ ((8 : Int32) ≤ nI a - (97 : Int32) ↔ 105 ≤ a)) := by decide +kernel
theorem isl_ok {S : Ss} {a : Nat} {M : Mm} {K : Int32 → Mm → Prop} (ha : a < 256) (h : K (if 97 ≤ a ∧ a < 105 then 1 else 0) M) : f_X4_isSlot S (nI a - 97) M K := by
  obtain ⟨h1, h2⟩ := c97 a ha
  unfold f_X4_isSlot
  rw [h1, h2]
  refine ⟨fun z => ?_, fun z => ⟨fun y => ?_, fun y => ?_⟩⟩
  · rw [if_neg (by omega)] at h; exact h
  · rw [if_neg (by omega)] at h; exact h
  · rw [if_pos (by omega)] at h; exact h
theorem eq97 {a b : Nat} (ha : a < 256) (hb : b < 256) : nI a - (97 : Int32) = nI b - 97 ↔ a = b := by
  constructor
  · intro h
    have h2 : nI a - (97 : Int32) + 97 = nI b - 97 + 97 := by rw [h]
    rw [Int32.sub_add_cancel, Int32.sub_add_cancel] at h2
    exact (nI_eq (by omega) (by omega)).mp h2
  · intro h; rw [h]
