/-! fields of bits in a long -/
theorem bt_sh {s : Nat} (hs : s < 64) : ((nI s).toInt64.toUInt64 &&& Int64.toUInt64 63).toBitVec.toNat = s := by
  rw [nI_l (by omega)]
  show ((BitVec.ofNat 64 s) &&& 63#64).toNat = s
  rw [BitVec.toNat_and, BitVec.toNat_ofNat, show (63#64).toNat = 2 ^ 6 - 1 from rfl, Nat.and_two_pow_sub_one_eq_mod]
  omega
theorem bt_rd {N : Nat} (s w : Nat) (hN : N < 2 ^ 64) (hs : s < 64) (hw : w ≤ 31) : ((lN N).toUInt64 >>> ((nI s).toInt64.toUInt64 &&& Int64.toUInt64 63)).toInt64.toInt32 &&& nI (2 ^ w - 1) = nI (N / 2 ^ s % 2 ^ w) := by
  apply Int32.toBitVec_inj.mp
  apply BitVec.eq_of_toNat_eq
  have h1 : 2 ^ w ≤ 2 ^ 31 := Nat.pow_le_pow_right (by omega) hw
  have h2 : 0 < 2 ^ w := Nat.two_pow_pos w
  have e1 : (nI (2 ^ w - 1)).toBitVec.toNat = 2 ^ w - 1 := by
    show (BitVec.ofNat 32 (2 ^ w - 1)).toNat = _
    rw [BitVec.toNat_ofNat]; omega
  have e2 : (nI (N / 2 ^ s % 2 ^ w)).toBitVec.toNat = N / 2 ^ s % 2 ^ w := by
    show (BitVec.ofNat 32 _).toNat = _
    rw [BitVec.toNat_ofNat]
    have := Nat.mod_lt (N / 2 ^ s) h2
    omega
  rw [e2, Int32.toBitVec_and, BitVec.toNat_and, e1, Nat.and_two_pow_sub_one_eq_mod]
  have e3 : ((lN N).toUInt64 >>> ((nI s).toInt64.toUInt64 &&& Int64.toUInt64 63)).toInt64.toInt32.toBitVec.toNat = N / 2 ^ s % 2 ^ 32 := by
    rw [Int64.toBitVec_toInt32]
    rw [BitVec.signExtend_eq_setWidth_of_le _ (by omega)]
    show (((lN N).toUInt64 >>> ((nI s).toInt64.toUInt64 &&& Int64.toUInt64 63)).toBitVec.setWidth 32).toNat = _
    rw [BitVec.toNat_setWidth, UInt64.toBitVec_shiftRight, BitVec.ushiftRight_eq', BitVec.toNat_ushiftRight, BitVec.toNat_umod, bt_sh hs]
    show (BitVec.ofNat 64 N).toNat >>> (s % 64) % 2 ^ 32 = _
    rw [BitVec.toNat_ofNat, Nat.mod_eq_of_lt hN, Nat.mod_eq_of_lt hs, Nat.shiftRight_eq_div_pow]
  rw [e3]
  exact Nat.mod_mod_of_dvd _ (Nat.pow_dvd_pow 2 (by omega))
theorem bt_sh2 {s : Nat} (hs : s < 64) : (((nI s).toInt64 &&& 63).toBitVec.smod 64).toNat = s := by
  rw [nI_l (by omega)]
  have e : (lN s &&& 63) = lN s := by
    apply Int64.toBitVec_inj.mp
    apply BitVec.eq_of_toNat_eq
    show ((BitVec.ofNat 64 s) &&& 63#64).toNat = (BitVec.ofNat 64 s).toNat
    rw [BitVec.toNat_and, BitVec.toNat_ofNat, show (63#64).toNat = 2 ^ 6 - 1 from rfl, Nat.and_two_pow_sub_one_eq_mod]
    omega
  rw [e]
  have e2 : (lN s).toBitVec.smod 64 = (lN s).toBitVec.umod 64 := by
    rw [BitVec.smod_eq]
    have : (lN s).toBitVec.msb = false := by
      rw [BitVec.msb_eq_false_iff_two_mul_lt]
      show 2 * (BitVec.ofNat 64 s).toNat < _
      rw [BitVec.toNat_ofNat]; omega
    rw [this]
    rfl
  rw [e2]
  show (BitVec.ofNat 64 s % 64#64).toNat = s
  rw [BitVec.toNat_umod, BitVec.toNat_ofNat]
  show s % 2 ^ 64 % 64 = s
  omega
/-- the field of w bits at s is put -/
def put (N s w v : Nat) : Nat := 2 ^ s * (2 ^ w * (N / 2 ^ s / 2 ^ w) + v) + N % 2 ^ s
theorem put_bit {N s w v : Nat} (hv : v < 2 ^ w) (j : Nat) : (put N s w v).testBit j = if j < s then N.testBit j else if j < s + w then v.testBit (j - s) else N.testBit j := by
  unfold put
  rw [Nat.testBit_two_pow_mul_add _ (Nat.mod_lt _ (Nat.two_pow_pos s)), Nat.testBit_mod_two_pow]
  by_cases h : j < s
  · simp [h]
  · rw [if_neg h, if_neg h, Nat.testBit_two_pow_mul_add _ hv]
    by_cases h2 : j < s + w
    · rw [if_pos h2, if_pos (by omega)]
    · rw [if_neg h2, if_neg (by omega), Nat.testBit_div_two_pow, Nat.testBit_div_two_pow]
      congr 1; omega
theorem lN_bit (N j : Nat) : (lN N).toBitVec.getLsbD j = (decide (j < 64) && N.testBit j) := by
  show (BitVec.ofNat 64 N).getLsbD j = _
  rw [BitVec.getLsbD_ofNat]
theorem bt_wr {N : Nat} (s w v : Nat) (hsw : s + w ≤ 64) (hs : s < 64) (hv : v < 2 ^ w) : (lN N &&& ((lN (2 ^ w - 1) <<< ((nI s).toInt64 &&& 63)) ^^^ (-1 : Int64))) ||| (lN v <<< ((nI s).toInt64 &&& 63)) = lN (put N s w v) := by
  have hb := bt_sh2 hs
  generalize ((nI s).toInt64 &&& 63) = b at hb ⊢
  apply Int64.toBitVec_inj.mp
  apply BitVec.eq_of_getLsbD_eq
  intro j hj
  rw [lN_bit, put_bit hv]
  simp only [Int64.toBitVec_or, Int64.toBitVec_and, Int64.toBitVec_xor, Int64.toBitVec_shiftLeft, BitVec.getLsbD_or, BitVec.getLsbD_and, BitVec.getLsbD_xor, BitVec.shiftLeft_eq', hb, BitVec.getLsbD_shiftLeft, lN_bit, Nat.testBit_two_pow_sub_one, hj, decide_true, Bool.true_and]
  have e : (-1 : Int64).toBitVec.getLsbD j = true := by
    show (BitVec.allOnes 64).getLsbD j = true
    rw [BitVec.getLsbD_allOnes]; simp [hj]
  rw [e]
  by_cases h1 : j < s
  · simp [h1]
  · by_cases h2 : j < s + w
    · have a1 : j - s < w := by omega
      have a2 : j - s < 64 := by omega
      simp [h1, h2, a1, a2]
    · have a1 : ¬ j - s < w := by omega
      have a3 : v.testBit (j - s) = false := Nat.testBit_lt_two_pow (Nat.lt_of_lt_of_le hv (Nat.pow_le_pow_right (by omega) (by omega)))
      simp [h1, h2, a1, a3]
theorem put_lt {N s w v : Nat} (hN : N < 2 ^ 64) (hsw : s + w ≤ 64) (hv : v < 2 ^ w) : put N s w v < 2 ^ 64 := by
  apply Nat.lt_pow_two_of_testBit
  intro j hj
  rw [put_bit hv, if_neg (by omega), if_neg (by omega)]
  exact Nat.testBit_lt_two_pow (Nat.lt_of_lt_of_le hN (Nat.pow_le_pow_right (by omega) hj))
/-- the field of w bits at s -/
def fld (N s w : Nat) : Nat := N / 2 ^ s % 2 ^ w
theorem fld_lt (N s w : Nat) : fld N s w < 2 ^ w := Nat.mod_lt _ (Nat.two_pow_pos w)
theorem fld_bit (N s w j : Nat) : (fld N s w).testBit j = (decide (j < w) && N.testBit (j + s)) := by
  unfold fld
  rw [Nat.testBit_mod_two_pow, Nat.testBit_div_two_pow]
theorem fld_put {N s w v : Nat} (hv : v < 2 ^ w) : fld (put N s w v) s w = v := by
  apply Nat.eq_of_testBit_eq
  intro j
  rw [fld_bit, put_bit hv, if_neg (by omega)]
  by_cases h : j < w
  · rw [if_pos (by omega)]; simp [h]
  · simp only [h, decide_false, Bool.false_and]
    exact (Nat.testBit_lt_two_pow (Nat.lt_of_lt_of_le hv (Nat.pow_le_pow_right (by omega) (by omega)))).symm
theorem fld_put_ne {N s w v s' w' : Nat} (hv : v < 2 ^ w) (h : s' + w' ≤ s ∨ s + w ≤ s') : fld (put N s w v) s' w' = fld N s' w' := by
  apply Nat.eq_of_testBit_eq
  intro j
  rw [fld_bit, fld_bit, put_bit hv]
  by_cases hj : j < w'
  · by_cases h1 : j + s' < s
    · rw [if_pos h1]
    · rw [if_neg h1, if_neg (by omega)]
  · simp [hj]
/-- a state as two numbers: slots (a byte each), and rest (two bits of place and four of tenths a part, then four bits a line) -/
def qS (A k : Nat) : Nat := fld A (8 * k) 8
def qA (B k : Nat) : Nat := fld B (6 * k) 2
def qT (B k : Nat) : Nat := fld B (6 * k + 2) 4
def qL (B k : Nat) : Nat := fld B (24 + 4 * k) 4
theorem qS_lt (A k : Nat) : qS A k < 256 := fld_lt A _ 8
theorem qA_lt (B k : Nat) : qA B k < 4 := fld_lt B _ 2
theorem qT_lt (B k : Nat) : qT B k < 16 := fld_lt B _ 4
theorem qL_lt (B k : Nat) : qL B k < 16 := fld_lt B _ 4
