/-! packing and unpacking of states by the model -/
/-! the model's packing -/
theorem sh_l {w s : Nat} (hs : s < 64) : lN w <<< ((nI s).toInt64 &&& 63) = lN (2 ^ s * w) := by
  have hb := bt_sh2 hs
  generalize ((nI s).toInt64 &&& 63) = b at hb ⊢
  apply Int64.toBitVec_inj.mp
  apply BitVec.eq_of_getLsbD_eq
  intro j hj
  rw [lN_bit, Int64.toBitVec_shiftLeft, BitVec.shiftLeft_eq', hb, BitVec.getLsbD_shiftLeft, lN_bit, Nat.testBit_two_pow_mul]
  by_cases h : s ≤ j
  · have h2 : ¬ j < s := by omega
    have h3 : j - s < 64 := by omega
    simp [h, hj, h2, h3]
  · have h2 : j < s := by omega
    simp [h, h2]
theorem or_l {y s q : Nat} (hq : q < 2 ^ s) : lN (2 ^ s * y) ||| lN q = lN (2 ^ s * y + q) := by
  apply Int64.toBitVec_inj.mp
  apply BitVec.eq_of_getLsbD_eq
  intro j hj
  rw [lN_bit, Int64.toBitVec_or, BitVec.getLsbD_or, lN_bit, lN_bit, Nat.testBit_two_pow_mul_add _ hq, Nat.testBit_two_pow_mul]
  by_cases h : j < s
  · have h2 : ¬ s ≤ j := by omega
    simp [h, h2]
  · have h2 : s ≤ j := by omega
    have : q.testBit j = false := Nat.testBit_lt_two_pow (Nat.lt_of_lt_of_le hq (Nat.pow_le_pow_right (by omega) h2))
    simp [h, h2, this]
/-- the first k slots, packed -/
def wS (A : Nat) : Nat → Nat
  | 0 => 0
  | k + 1 => 2 ^ 8 * wS A k + qS A k
theorem wS_lt (A : Nat) : ∀ k, wS A k < 2 ^ (8 * k)
  | 0 => by simp [wS]
  | k + 1 => by
    have h1 := wS_lt A k
    have h2 := qS_lt A k
    unfold wS
    rw [show 8 * (k + 1) = 8 + 8 * k by omega, Nat.pow_add]
    have : 2 ^ 8 * (wS A k + 1) ≤ 2 ^ 8 * 2 ^ (8 * k) := Nat.mul_le_mul_left _ h1
    omega
/-- the first k parts, packed; then lines -/
def wP (B : Nat) : Nat → Nat
  | 0 => 0
  | k + 1 => 2 ^ 6 * wP B k + 2 ^ 4 * qA B k + qT B k
def wL (B : Nat) : Nat → Nat
  | 0 => wP B 4
  | k + 1 => 2 ^ 4 * wL B k + qL B k
theorem wP_lt (B : Nat) : ∀ k, wP B k < 2 ^ (6 * k)
  | 0 => by simp [wP]
  | k + 1 => by
    have h1 := wP_lt B k
    have h2 := qA_lt B k
    have h3 := qT_lt B k
    unfold wP
    rw [show 6 * (k + 1) = 6 + 6 * k by omega, Nat.pow_add]
    have : 2 ^ 6 * (wP B k + 1) ≤ 2 ^ 6 * 2 ^ (6 * k) := Nat.mul_le_mul_left _ h1
    omega
theorem wL_lt (B : Nat) : ∀ k, wL B k < 2 ^ (24 + 4 * k)
  | 0 => wP_lt B 4
  | k + 1 => by
    have h1 := wL_lt B k
    have h2 := qL_lt B k
    unfold wL
    rw [show 24 + 4 * (k + 1) = 4 + (24 + 4 * k) by omega, Nat.pow_add]
    have : 2 ^ 4 * (wL B k + 1) ≤ 2 ^ 4 * 2 ^ (24 + 4 * k) := Nat.mul_le_mul_left _ h1
    omega
def PA (A : Nat) : Nat := pmS (qS A)
def PB (B : Nat) : Nat := pmR (qA B) (qT B) (qL B)
theorem wS_8 (A : Nat) : wS A 8 = PA A := by
  simp only [wS, PA, pmS]; omega
theorem wL_4g (a t l : Nat → Nat) : 2 ^ 4 * (2 ^ 4 * (2 ^ 4 * (2 ^ 4 * (2 ^ 6 * (2 ^ 6 * (2 ^ 6 * (2 ^ 6 * 0 + 2 ^ 4 * a 0 + t 0) + 2 ^ 4 * a 1 + t 1) + 2 ^ 4 * a 2 + t 2) + 2 ^ 4 * a 3 + t 3) + l 0) + l 1) + l 2) + l 3 = pmR a t l := by
  unfold pmR
  omega
theorem wL_4 (B : Nat) : wL B 4 = PB B := wL_4g (qA B) (qT B) (qL B)
theorem PA_lt (A : Nat) : PA A < 2 ^ 64 := Nat.lt_of_le_of_lt (Nat.le_of_eq (wS_8 A).symm) (Nat.lt_of_lt_of_le (wS_lt A 8) (Nat.le_of_eq (by decide)))
theorem PB_lt (B : Nat) : PB B < 2 ^ 40 := Nat.lt_of_le_of_lt (Nat.le_of_eq (wL_4 B).symm) (Nat.lt_of_lt_of_le (wL_lt B 4) (Nat.le_of_eq (by decide)))
theorem packS_L {A B : Nat} {M : Mm} {EK : Int64 → Mm → Prop} {K : Int64 → Mm → Prop} (hF : FX M) (hs : MS M A B) (h : EK (lN (PA A)) M) :
    ∀ (n k : Nat), k + n = 8 → f_X11_packsSlots_L4 S0 142 EK K (n + 1) (lN (wS A k)) (nI k) M
  | 0, k, hk => by
    unfold f_X11_packsSlots_L4 f_X11_packsSlots_B4
    have : k = 8 := by omega
    subst this
    rw [wS_8]
    exact ⟨fun _ => h, fun z => absurd (show nI 8 ≤ nI 8 by decide) z⟩
  | n + 1, k, hk => by
    unfold f_X11_packsSlots_L4 f_X11_packsSlots_B4
    have hin : vp_in (nI k) 8 := vp_in_nI (by omega) (by omega)
    have hcl : (nI k).toNatClampNeg = k := nI_clamp (by omega)
    have hq := qS_lt A k
    refine ⟨fun z => absurd z (show ¬ nI 8 ≤ nI k from nI_ge (by omega) (by decide)), fun _ => ?_⟩
    simp only [fx_142_22 hF, ex_some, shp_ne (show (153 : Nat) ≠ 100000 by decide), s0_153, ex_sh, hin, hcl, true_and, forall_eq, nI_1, hs.1 k (show k < 8 by omega)]
    rw [nI_l (by omega), show (8 : Int32) = nI 8 from rfl, sh_l (by omega), or_l hq]
    exact packS_L hF hs h n (k + 1) (by omega)
theorem packS_ok {A B : Nat} {M : Mm} {K : Int64 → Mm → Prop} (hF : FX M) (hs : MS M A B) (h : K (lN (PA A)) M) : f_X11_packsSlots S0 142 M K := by
  unfold f_X11_packsSlots
  exact ⟨9, packS_L hF hs h 8 0 (by omega)⟩
theorem a4 : ∀ a, a < 4 → (nI a <<< ((4 : Int32) &&& 31)).toInt64 = lN (2 ^ 4 * a) := by decide
theorem packP_L {A B : Nat} {M : Mm} {EK : Int64 → Mm → Prop} {K : Int64 → Mm → Prop} (hF : FX M) (hs : MS M A B) (h : EK (lN (wP B 4)) M) :
    ∀ (n k : Nat), k + n = 4 → f_X11_packsRest_L4 S0 142 EK K (n + 1) (lN (wP B k)) (nI k) M
  | 0, k, hk => by
    unfold f_X11_packsRest_L4 f_X11_packsRest_B4
    have : k = 4 := by omega
    subst this
    exact ⟨fun _ => h, fun z => absurd (show nI 4 ≤ nI 4 by decide) z⟩
  | n + 1, k, hk => by
    unfold f_X11_packsRest_L4 f_X11_packsRest_B4
    have hin : vp_in (nI k) 4 := vp_in_nI (by omega) (by omega)
    have hcl : (nI k).toNatClampNeg = k := nI_clamp (by omega)
    have hq := qA_lt B k
    have hq2 := qT_lt B k
    refine ⟨fun z => absurd z (show ¬ nI 4 ≤ nI k from nI_ge (by omega) (by decide)), fun _ => ?_⟩
    simp only [fx_142_23 hF, fx_142_24 hF, ex_some, shp_ne (show (154 : Nat) ≠ 100000 by decide), shp_ne (show (155 : Nat) ≠ 100000 by decide), s0_154, s0_155, ex_sh, hin, hcl, true_and, forall_eq, nI_1, (hs.2 k (show k < 4 by omega)).1, (hs.2 k (show k < 4 by omega)).2.1]
    rw [a4 _ hq, nI_l (by omega), show (6 : Int32) = nI 6 from rfl, sh_l (by omega), or_l (by omega)]
    have e : 2 ^ 6 * wP B k + 2 ^ 4 * qA B k = 2 ^ 4 * (4 * wP B k + qA B k) := by omega
    rw [e, or_l hq2, ← e]
    exact packP_L hF hs h n (k + 1) (by omega)
theorem packL_L {A B : Nat} {M : Mm} {EK : Int64 → Mm → Prop} {K : Int64 → Mm → Prop} (hF : FX M) (hs : MS M A B) (h : EK (lN (PB B)) M) :
    ∀ (n k : Nat), k + n = 4 → f_X11_packsRest_L40 S0 142 EK K (n + 1) (lN (wL B k)) (nI k) M
  | 0, k, hk => by
    unfold f_X11_packsRest_L40 f_X11_packsRest_B40
    have : k = 4 := by omega
    subst this
    rw [wL_4]
    exact ⟨fun _ => h, fun z => absurd (show nI 4 ≤ nI 4 by decide) z⟩
  | n + 1, k, hk => by
    unfold f_X11_packsRest_L40 f_X11_packsRest_B40
    have hin : vp_in (nI k) 4 := vp_in_nI (by omega) (by omega)
    have hcl : (nI k).toNatClampNeg = k := nI_clamp (by omega)
    have hq := qL_lt B k
    refine ⟨fun z => absurd z (show ¬ nI 4 ≤ nI k from nI_ge (by omega) (by decide)), fun _ => ?_⟩
    simp only [fx_142_25 hF, ex_some, shp_ne (show (156 : Nat) ≠ 100000 by decide), s0_156, ex_sh, hin, hcl, true_and, forall_eq, nI_1, (hs.2 k (show k < 4 by omega)).2.2]
    rw [nI_l (by omega), show (4 : Int32) = nI 4 from rfl, sh_l (by omega), or_l hq]
    exact packL_L hF hs h n (k + 1) (by omega)
theorem packR_ok {A B : Nat} {M : Mm} {K : Int64 → Mm → Prop} (hF : FX M) (hs : MS M A B) (h : K (lN (PB B)) M) : f_X11_packsRest S0 142 M K := by
  unfold f_X11_packsRest
  exact ⟨5, packP_L hF hs ⟨5, packL_L hF hs h 4 0 (by omega)⟩ 4 0 (by omega)⟩
theorem lN_and {N : Nat} (w : Nat) (hw : w ≤ 31) : (lN N &&& lN (2 ^ w - 1)).toInt32 = nI (N % 2 ^ w) := by
  have : lN N &&& lN (2 ^ w - 1) = lN (N % 2 ^ w) := by
    apply Int64.toBitVec_inj.mp
    apply BitVec.eq_of_getLsbD_eq
    intro j hj
    rw [lN_bit, Int64.toBitVec_and, BitVec.getLsbD_and, lN_bit, lN_bit, Nat.testBit_two_pow_sub_one, Nat.testBit_mod_two_pow]
    simp [hj, Bool.and_comm]
  rw [this, lN_i]
theorem lN_ushr {N : Nat} (s : Nat) (hN : N < 2 ^ 64) (hs : s < 64) : ((lN N).toUInt64 >>> ((nI s).toInt64.toUInt64 &&& Int64.toUInt64 63)).toInt64 = lN (N / 2 ^ s) := by
  apply Int64.toBitVec_inj.mp
  apply BitVec.eq_of_toNat_eq
  show ((lN N).toUInt64 >>> ((nI s).toInt64.toUInt64 &&& Int64.toUInt64 63)).toBitVec.toNat = (BitVec.ofNat 64 (N / 2 ^ s)).toNat
  rw [UInt64.toBitVec_shiftRight, BitVec.ushiftRight_eq', BitVec.toNat_ushiftRight, BitVec.toNat_umod, bt_sh hs, BitVec.toNat_ofNat]
  show (BitVec.ofNat 64 N).toNat >>> (s % 64) = _
  rw [BitVec.toNat_ofNat, Nat.mod_eq_of_lt hN, Nat.mod_eq_of_lt hs, Nat.shiftRight_eq_div_pow]
  have : N / 2 ^ s ≤ N := Nat.div_le_self _ _
  generalize N / 2 ^ s = q at *
  omega
theorem lN_shr {N : Nat} (s : Nat) (hN : N < 2 ^ 63) (hs : s < 64) : lN N >>> ((nI s).toInt64 &&& 63) = lN (N / 2 ^ s) := by
  have hb := bt_sh2 hs
  generalize ((nI s).toInt64 &&& 63) = b at hb ⊢
  apply Int64.toBitVec_inj.mp
  rw [Int64.toBitVec_shiftRight]
  have hm : (lN N).toBitVec.msb = false := by
    rw [BitVec.msb_eq_false_iff_two_mul_lt]
    show 2 * (BitVec.ofNat 64 N).toNat < _
    rw [BitVec.toNat_ofNat]; omega
  rw [BitVec.sshiftRight_eq', BitVec.sshiftRight_eq_of_msb_false hm, hb]
  apply BitVec.eq_of_toNat_eq
  rw [BitVec.toNat_ushiftRight]
  show (BitVec.ofNat 64 N).toNat >>> s = (BitVec.ofNat 64 (N / 2 ^ s)).toNat
  rw [BitVec.toNat_ofNat, BitVec.toNat_ofNat, Nat.mod_eq_of_lt (by omega), Nat.shiftRight_eq_div_pow]
  have : N / 2 ^ s ≤ N := Nat.div_le_self _ _
  generalize N / 2 ^ s = q at *
  omega
def dU : Nat → Nat → Bool := fun b _ => b == 153 || b == 154 || b == 155 || b == 156
theorem neg1 : (nI 0 + (-1 : Int32)) < 0 := by decide
theorem unp7 {A : Nat} {x3 : Int64} {EK K : Mm → Prop} :
    ∀ (n : Nat) (M : Mm), n ≤ 8 → FX M → (∀ j, n ≤ j → j < 8 → M.1 153 j = nI (qS A j)) → (∀ M', Fr dU eN M M' → (∀ j, j < 8 → M'.1 153 j = nI (qS A j)) → EK M') → f_X11_unpacks_L7 S0 142 x3 EK K (n + 1) (lN (wS A n)) (nI n + (-1 : Int32)) M
  | 0, M, hn, hF, hs, hK => by
    unfold f_X11_unpacks_L7 f_X11_unpacks_B7
    exact ⟨fun _ => hK M (Fr_refl _ _ _) (fun j hj => hs j (by omega) hj), fun z => absurd neg1 z⟩
  | n + 1, M, hn, hF, hs, hK => by
    unfold f_X11_unpacks_L7 f_X11_unpacks_B7
    rw [pk_m1]
    have hin : vp_in (nI n) 8 := vp_in_nI (by omega) (by omega)
    have hcl : (nI n).toNatClampNeg = n := nI_clamp (by omega)
    have hq := qS_lt A n
    have hlt : wS A (n + 1) < 2 ^ 64 := Nat.lt_of_lt_of_le (wS_lt A (n + 1)) (Nat.pow_le_pow_right (by omega) (by omega))
    have e1 : wS A (n + 1) % 2 ^ 8 = qS A n := by unfold wS; omega
    have e2 : wS A (n + 1) / 2 ^ 8 = wS A n := by conv => lhs; unfold wS
                                                  omega
    have e3 := lN_and (N := wS A (n + 1)) 8 (by omega)
    rw [show lN (2 ^ 8 - 1) = (255 : Int64) from rfl, e1] at e3
    have e4 := lN_ushr (N := wS A (n + 1)) 8 hlt (by omega)
    rw [show nI 8 = (8 : Int32) from rfl, e2] at e4
    refine ⟨fun z => absurd z (nI_pos (by omega)), fun _ => ?_⟩
    simp only [fx_142_22 hF, ex_some, s0_153, ex_sh, hin, hcl, true_and, forall_eq, e3, e4]
    have fr : Fr dU eN M (stI M 153 n (nI (qS A n))) := Fr_I rfl (Fr_refl _ _ _)
    refine unp7 n _ (by omega) (FX_fr fr hF) (fun j h1 h2 => ?_) (fun M' f2 => hK M' (Fr_tr fr f2))
    by_cases e : j = n
    · subst e; exact rI_eq
    · rw [rI_ne (by omega)]; exact hs j (by omega) h2
theorem unp45 {B : Nat} {EK : Int64 → Mm → Prop} {K : Mm → Prop} :
    ∀ (n : Nat) (M : Mm), n ≤ 4 → FX M → (∀ j, n ≤ j → j < 4 → M.1 156 j = nI (qL B j)) → (∀ M', Fr dU eN M M' → M'.1 153 = M.1 153 → (∀ j, j < 4 → M'.1 156 j = nI (qL B j)) → EK (lN (wP B 4)) M') → f_X11_unpacks_L45 S0 142 EK K (n + 1) (lN (wL B n)) (nI n + (-1 : Int32)) M
  | 0, M, hn, hF, hs, hK => by
    unfold f_X11_unpacks_L45 f_X11_unpacks_B45
    exact ⟨fun _ => hK M (Fr_refl _ _ _) rfl (fun j hj => hs j (by omega) hj), fun z => absurd neg1 z⟩
  | n + 1, M, hn, hF, hs, hK => by
    unfold f_X11_unpacks_L45 f_X11_unpacks_B45
    rw [pk_m1]
    have hin : vp_in (nI n) 4 := vp_in_nI (by omega) (by omega)
    have hcl : (nI n).toNatClampNeg = n := nI_clamp (by omega)
    have hq := qL_lt B n
    have hlt : wL B (n + 1) < 2 ^ 63 := Nat.lt_of_lt_of_le (wL_lt B (n + 1)) (Nat.pow_le_pow_right (by omega) (by omega))
    have e1 : wL B (n + 1) % 2 ^ 4 = qL B n := by unfold wL; omega
    have e2 : wL B (n + 1) / 2 ^ 4 = wL B n := by conv => lhs; unfold wL
                                                  omega
    have e3 := lN_and (N := wL B (n + 1)) 4 (by omega)
    rw [show lN (2 ^ 4 - 1) = (15 : Int64) from rfl, e1] at e3
    have e4 := lN_shr (N := wL B (n + 1)) 4 hlt (by omega)
    rw [show nI 4 = (4 : Int32) from rfl, e2] at e4
    refine ⟨fun z => absurd z (nI_pos (by omega)), fun _ => ?_⟩
    simp only [fx_142_25 hF, ex_some, s0_156, ex_sh, hin, hcl, true_and, forall_eq, e3, e4]
    have fr : Fr dU eN M (stI M 156 n (nI (qL B n))) := Fr_I rfl (Fr_refl _ _ _)
    refine unp45 n _ (by omega) (FX_fr fr hF) (fun j h1 h2 => ?_) (fun M' f2 e => hK M' (Fr_tr fr f2) (e.trans rfl))
    by_cases e : j = n
    · subst e; exact rI_eq
    · rw [rI_ne (by omega)]; exact hs j (by omega) h2
theorem unp79 {B : Nat} {EK : Mm → Prop} {K : Mm → Prop} :
    ∀ (n : Nat) (M : Mm), n ≤ 4 → FX M → (∀ j, n ≤ j → j < 4 → M.1 154 j = nI (qA B j) ∧ M.1 155 j = nI (qT B j)) → (∀ M', Fr dU eN M M' → M'.1 153 = M.1 153 → M'.1 156 = M.1 156 → (∀ j, j < 4 → M'.1 154 j = nI (qA B j) ∧ M'.1 155 j = nI (qT B j)) → EK M') → f_X11_unpacks_L79 S0 142 EK K (n + 1) (lN (wP B n)) (nI n + (-1 : Int32)) M
  | 0, M, hn, hF, hs, hK => by
    unfold f_X11_unpacks_L79 f_X11_unpacks_B79
    exact ⟨fun _ => hK M (Fr_refl _ _ _) rfl rfl (fun j hj => hs j (by omega) hj), fun z => absurd neg1 z⟩
  | n + 1, M, hn, hF, hs, hK => by
    unfold f_X11_unpacks_L79 f_X11_unpacks_B79
    rw [pk_m1]
    have hin : vp_in (nI n) 4 := vp_in_nI (by omega) (by omega)
    have hcl : (nI n).toNatClampNeg = n := nI_clamp (by omega)
    have hq := qA_lt B n
    have hq2 := qT_lt B n
    have hlt : wP B (n + 1) < 2 ^ 63 := Nat.lt_of_lt_of_le (wP_lt B (n + 1)) (Nat.pow_le_pow_right (by omega) (by omega))
    have e1 : wP B (n + 1) % 2 ^ 4 = qT B n := by unfold wP; omega
    have e2 : wP B (n + 1) / 2 ^ 6 = wP B n := by conv => lhs; unfold wP
                                                  omega
    have e5 : wP B (n + 1) / 2 ^ 4 % 2 ^ 2 = qA B n := by unfold wP; omega
    have e3 := lN_and (N := wP B (n + 1)) 4 (by omega)
    rw [show lN (2 ^ 4 - 1) = (15 : Int64) from rfl, e1] at e3
    have e4 := lN_shr (N := wP B (n + 1)) 6 hlt (by omega)
    rw [show nI 6 = (6 : Int32) from rfl, e2] at e4
    have e6 := lN_shr (N := wP B (n + 1)) 4 hlt (by omega)
    rw [show nI 4 = (4 : Int32) from rfl] at e6
    have e7 := lN_and (N := wP B (n + 1) / 2 ^ 4) 2 (by omega)
    rw [show lN (2 ^ 2 - 1) = (3 : Int64) from rfl, e5] at e7
    refine ⟨fun z => absurd z (nI_pos (by omega)), fun _ => ?_⟩
    simp only [rIr, fx_142_23 hF, fx_142_24 hF, ex_some, s0_154, s0_155, ex_sh, hin, hcl, true_and, forall_eq, e3, e4, e6, e7]
    have fr : Fr dU eN M (stI (stI M 155 n (nI (qT B n))) 154 n (nI (qA B n))) := Fr_I rfl (Fr_I rfl (Fr_refl _ _ _))
    refine unp79 n _ (by omega) (FX_fr fr hF) (fun j h1 h2 => ?_) (fun M' f2 e e' => hK M' (Fr_tr fr f2) (e.trans rfl) (e'.trans rfl))
    by_cases e : j = n
    · subst e
      exact ⟨rI_eq, (rI_ne (by omega)).trans rI_eq⟩
    · have := hs j (by omega) h2
      exact ⟨(rI_ne (by omega)).trans ((rI_ne (by omega)).trans this.1), (rI_ne (by omega)).trans ((rI_ne (by omega)).trans this.2)⟩
theorem unp_ok {A B : Nat} {M : Mm} {K : Mm → Prop} (hF : FX M) (hK : ∀ M', Fr dU eN M M' → MS M' A B → K M') : f_X11_unpacks S0 142 (lN (PA A)) (lN (PB B)) M K := by
  unfold f_X11_unpacks
  rw [← wS_8, ← wL_4]
  refine ⟨9, unp7 (A := A) 8 M (by omega) hF (fun j h1 h2 => by omega) (fun M1 f1 s1 => ⟨5, ?_⟩)⟩
  refine unp45 (B := B) 4 M1 (by omega) (FX_fr f1 hF) (fun j h1 h2 => by omega) (fun M2 f2 e2 s2 => ⟨5, ?_⟩)
  refine unp79 (B := B) 4 M2 (by omega) (FX_fr (Fr_tr f1 f2) hF) (fun j h1 h2 => by omega) (fun M3 f3 e3 e3' s3 => hK M3 (Fr_tr f1 (Fr_tr f2 f3)) ⟨fun k hk => ?_, fun k hk => ?_⟩)
  · rw [e3, e2]; exact s1 k hk
  · refine ⟨(s3 k hk).1, (s3 k hk).2, ?_⟩
    rw [e3']; exact s2 k hk
/-- packing is one to one -/
theorem bit_S (A j : Nat) : (qS A (j / 8)).testBit (j % 8) = A.testBit j := by
  unfold qS
  rw [fld_bit]
  have h : j % 8 < 8 := Nat.mod_lt _ (by omega)
  simp only [h, decide_true, Bool.true_and]
  congr 1; omega
theorem eq_S {A A' : Nat} (hA : A < 2 ^ 64) (hA' : A' < 2 ^ 64) (h : ∀ k, k < 8 → qS A k = qS A' k) : A = A' := by
  apply Nat.eq_of_testBit_eq
  intro j
  by_cases hj : j < 64
  · rw [← bit_S A, ← bit_S A', h (j / 8) (by omega)]
  · rw [Nat.testBit_lt_two_pow (Nat.lt_of_lt_of_le hA (Nat.pow_le_pow_right (by omega) (by omega))), Nat.testBit_lt_two_pow (Nat.lt_of_lt_of_le hA' (Nat.pow_le_pow_right (by omega) (by omega)))]
theorem eq_R {B B' : Nat} (hB : B < 2 ^ 40) (hB' : B' < 2 ^ 40) (h : ∀ k, k < 4 → qA B k = qA B' k ∧ qT B k = qT B' k ∧ qL B k = qL B' k) : B = B' := by
  apply Nat.eq_of_testBit_eq
  intro j
  by_cases hj : j < 40
  · by_cases h24 : j < 24
    · by_cases h2 : j % 6 < 2
      · have e : ∀ X, (qA X (j / 6)).testBit (j % 6) = X.testBit j := by
          intro X
          unfold qA
          rw [fld_bit]
          simp only [h2, decide_true, Bool.true_and]
          congr 1; omega
        rw [← e B, ← e B', (h (j / 6) (by omega)).1]
      · have e : ∀ X, (qT X (j / 6)).testBit (j % 6 - 2) = X.testBit j := by
          intro X
          unfold qT
          rw [fld_bit]
          have h3 : j % 6 - 2 < 4 := by omega
          simp only [h3, decide_true, Bool.true_and]
          congr 1; omega
        rw [← e B, ← e B', (h (j / 6) (by omega)).2.1]
    · have e : ∀ X, (qL X ((j - 24) / 4)).testBit ((j - 24) % 4) = X.testBit j := by
        intro X
        unfold qL
        rw [fld_bit]
        have h3 : (j - 24) % 4 < 4 := by omega
        simp only [h3, decide_true, Bool.true_and]
        congr 1; omega
      rw [← e B, ← e B', (h ((j - 24) / 4) (by omega)).2.2]
  · rw [Nat.testBit_lt_two_pow (Nat.lt_of_lt_of_le hB (Nat.pow_le_pow_right (by omega) (by omega))), Nat.testBit_lt_two_pow (Nat.lt_of_lt_of_le hB' (Nat.pow_le_pow_right (by omega) (by omega)))]
theorem wS_inj {A A' : Nat} : ∀ n, wS A n = wS A' n → ∀ k, k < n → qS A k = qS A' k
  | 0, _, k, hk => absurd hk (by omega)
  | n + 1, h, k, hk => by
    have h1 := qS_lt A n
    have h2 := qS_lt A' n
    have e : wS A n = wS A' n ∧ qS A n = qS A' n := by
      unfold wS at h; omega
    by_cases hkn : k = n
    · rw [hkn]; exact e.2
    · exact wS_inj n e.1 k (by omega)
theorem wP_inj {B B' : Nat} : ∀ n, wP B n = wP B' n → ∀ k, k < n → qA B k = qA B' k ∧ qT B k = qT B' k
  | 0, _, k, hk => absurd hk (by omega)
  | n + 1, h, k, hk => by
    have h1 := qA_lt B n
    have h2 := qA_lt B' n
    have h3 := qT_lt B n
    have h4 := qT_lt B' n
    have e : wP B n = wP B' n ∧ qA B n = qA B' n ∧ qT B n = qT B' n := by
      unfold wP at h; omega
    by_cases hkn : k = n
    · rw [hkn]; exact e.2
    · exact wP_inj n e.1 k (by omega)
theorem wL_inj {B B' : Nat} : ∀ n, wL B n = wL B' n → wP B 4 = wP B' 4 ∧ ∀ k, k < n → qL B k = qL B' k
  | 0, h => ⟨h, fun k hk => absurd hk (by omega)⟩
  | n + 1, h => by
    have h1 := qL_lt B n
    have h2 := qL_lt B' n
    have e : wL B n = wL B' n ∧ qL B n = qL B' n := by
      unfold wL at h; omega
    have := wL_inj n e.1
    refine ⟨this.1, fun k hk => ?_⟩
    by_cases hkn : k = n
    · rw [hkn]; exact e.2
    · exact this.2 k (by omega)
theorem PA_inj {A A' : Nat} (hA : A < 2 ^ 64) (hA' : A' < 2 ^ 64) (h : PA A = PA A') : A = A' := eq_S hA hA' (wS_inj 8 (by rw [wS_8, wS_8]; exact h))
theorem PB_inj {B B' : Nat} (hB : B < 2 ^ 40) (hB' : B' < 2 ^ 40) (h : PB B = PB B') : B = B' := by
  have e := wL_inj 4 (show wL B 4 = wL B' 4 by rw [wL_4, wL_4]; exact h)
  exact eq_R hB hB' (fun k hk => ⟨(wP_inj 4 e.1 k hk).1, (wP_inj 4 e.1 k hk).2, e.2 k hk⟩)
theorem lN_inj {a b : Nat} (ha : a < 2 ^ 64) (hb : b < 2 ^ 64) (h : lN a = lN b) : a = b := by
  have : (BitVec.ofNat 64 a).toNat = (BitVec.ofNat 64 b).toNat := congrArg (fun x : Int64 => x.toBitVec.toNat) h
  rw [BitVec.toNat_ofNat, BitVec.toNat_ofNat] at this
  omega
