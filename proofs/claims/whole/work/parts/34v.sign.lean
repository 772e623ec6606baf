/-! sign -/
/-- a byte of an int -/
def byt (v : Int32) (s : Nat) : Int32 := (v.toUInt32 >>> ((nI s).toUInt32 &&& Int32.toUInt32 31)).toInt32 &&& 255
theorem byt_n (v : Int32) (s : Nat) : isN (byt v s) 256 := by
  obtain ⟨j, h1, h2⟩ := pk_andE ((v.toUInt32 >>> ((nI s).toUInt32 &&& Int32.toUInt32 31)).toInt32) (m := (255 : Int32)) 8 rfl
  exact ⟨j, h1, h2⟩
theorem byt_c {x : Int32} (h : isN x 256) : vp_nar .char (x.toUInt32 % 65536).toInt32 = x := by
  obtain ⟨q, h1, rfl⟩ := h
  rw [pk_vc, pk_char, pk_tn (by omega)]
  congr 1; omega
theorem byt_m (v : Int32) : ∀ k, k < 4 → (v >>> (((24 : Int32) - ((8 : Int32) * nI k)) &&& 31)) &&& (255 : Int32) = byt v (24 - 8 * k) := by
  intro k hk
  unfold byt
  apply Int32.toBitVec_inj.mp
  apply BitVec.eq_of_getLsbD_eq
  intro j hj
  have e1 : ∀ k, k < 4 → ((((24 : Int32) - ((8 : Int32) * nI k)) &&& 31).toBitVec.smod 32).toNat = 24 - 8 * k := by decide
  have e2 : ∀ k, k < 4 → ((((nI (24 - 8 * k)).toUInt32 &&& Int32.toUInt32 31).toBitVec) % 32).toNat = 24 - 8 * k := by decide
  have e3 : (255 : Int32).toBitVec.getLsbD j = decide (j < 8) := by
    have : ∀ j, j < 32 → (255 : Int32).toBitVec.getLsbD j = decide (j < 8) := by decide
    exact this j hj
  have e4 : ∀ x : UInt32, x.toInt32.toBitVec = x.toBitVec := fun x => rfl
  rw [Int32.toBitVec_and, Int32.toBitVec_and, BitVec.getLsbD_and, BitVec.getLsbD_and, e3, Int32.toBitVec_shiftRight, BitVec.sshiftRight_eq', e1 k hk, e4, UInt32.toBitVec_shiftRight, BitVec.ushiftRight_eq', e2 k hk, BitVec.getLsbD_ushiftRight, BitVec.getLsbD_sshiftRight]
  by_cases h8 : j < 8
  · have h9 : 24 - 8 * k + j < 32 := by omega
    have h10 : ¬ 32 ≤ j := by omega
    simp [h8, h9, h10]
  · simp [h8]
def dT (n : Nat) : Nat → Nat → Bool := fun b j => (b == 1 && j == 1) || (b == 2 && (n ≤ j : Bool)) || (b == 144 && (n ≤ j : Bool)) || (b == 142 && (j == 0 || j == 4))
theorem sgC {v : Int32} {n : Nat} {M0 : Mm} {EK : Mm → Prop} {K : Int32 → Mm → Prop} (hn : n ≤ 96) (hF0 : FX M0) (hK : ∀ M', Fr (dT n) eN M0 M' → M'.1 1 1 = nI (n + 4) → (∀ j, j < 4 → M'.1 2 (n + j) = byt v (24 - 8 * j)) → M'.1 144 = M0.1 144 → M'.1 142 = M0.1 142 → EK M') :
    ∀ (r : Nat) (M : Mm), r ≤ 4 → Fr (dT n) eN M0 M → M.1 1 1 = nI (n + (4 - r)) → (∀ j, j < 4 - r → M.1 2 (n + j) = byt v (24 - 8 * j)) → M.1 144 = M0.1 144 → M.1 142 = M0.1 142 → f_X10_sign_L19 S0 0 v EK K (r + 1) (nI (8 * r) + (-8 : Int32)) M
  | 0, M, hr, fr, h1, h2, h3, h4 => by
    unfold f_X10_sign_L19 f_X10_sign_B19
    exact ⟨fun _ => hK M fr h1 h2 h3 h4, fun z => absurd (show (nI (8 * 0) + (-8 : Int32)) < 0 by decide) z⟩
  | r + 1, M, hr, fr, h1, h2, h3, h4 => by
    unfold f_X10_sign_L19 f_X10_sign_B19
    have hF := FX_fr fr hF0
    have e8 : nI (8 * (r + 1)) + (-8 : Int32) = nI (8 * r) := by
      rw [show 8 * (r + 1) = 8 * r + 8 by omega, ← nI_add, Int32.add_assoc, show nI 8 + (-8 : Int32) = 0 by decide, Int32.add_zero]
    rw [e8]
    refine ⟨fun z => absurd z (nI_pos (by omega)), fun _ => ?_⟩
    have hin : vp_in (nI (n + (4 - (r + 1)))) 100 := vp_in_nI (by omega) (by omega)
    have hcl : (nI (n + (4 - (r + 1)))).toNatClampNeg = n + (4 - (r + 1)) := nI_clamp (by omega)
    simp only [fx_0_0 hF, fx_1_0 hF, rIr, ex_some, s0_1, s0_2, ex_sh, true_and, forall_eq, h1, hin, hcl]
    have eb : vp_nar .char (((v.toUInt32 >>> ((nI (8 * r)).toUInt32 &&& Int32.toUInt32 31)).toInt32 &&& (255 : Int32)).toUInt32 % 65536).toInt32 = byt v (8 * r) := byt_c (byt_n v (8 * r))
    rw [eb, show (stI M 2 (n + (4 - (r + 1))) (byt v (8 * r))).1 1 1 = nI (n + (4 - (r + 1))) from h1, nI_1]
    refine sgC hn hF0 hK r _ (by omega) (Fr_I (by simp [dT]) (Fr_I (by simp [dT]) fr)) ?_ (fun j hj => ?_) ?_ ?_
    · rw [rI_eq]; congr 1; omega
    · rw [rI_ne (by omega), rI]
      by_cases e : j = 4 - (r + 1)
      · rw [if_pos ⟨rfl, by omega⟩]; congr 1; omega
      · rw [if_neg (by omega)]; exact h2 j (by omega)
    · exact h3
    · exact h4
theorem sgM {v : Int32} {n : Nat} {M0 : Mm} {EK : Mm → Prop} {K : Int32 → Mm → Prop} (hn : n ≤ 96) (hF0 : FX M0) (h0 : M0.1 142 4 = nI n) (hK : ∀ M', Fr (dT n) eN M0 M' → (∀ j, j < 4 → M'.1 144 (n + j) = byt v (24 - 8 * j)) → M'.1 2 = M0.1 2 → M'.1 1 = M0.1 1 → M'.1 142 = M0.1 142 → EK M') :
    ∀ (r k : Nat) (M : Mm), k + r = 4 → Fr (dT n) eN M0 M → (∀ j, j < k → M.1 144 (n + j) = byt v (24 - 8 * j)) → M.1 2 = M0.1 2 → M.1 1 = M0.1 1 → M.1 142 = M0.1 142 → f_X11_sign_L18 S0 142 v EK K (r + 1) (nI k) M
  | 0, k, M, hr, fr, h1, h2, h3, h4 => by
    unfold f_X11_sign_L18 f_X11_sign_B18
    have : k = 4 := by omega
    subst this
    exact ⟨fun _ => hK M fr h1 h2 h3 h4, fun z => absurd (show nI 4 ≤ nI 4 by decide) z⟩
  | r + 1, k, M, hr, fr, h1, h2, h3, h4 => by
    unfold f_X11_sign_L18 f_X11_sign_B18
    have hF := FX_fr fr hF0
    have hin : vp_in (nI (n + k)) 100 := vp_in_nI (by omega) (by omega)
    have hcl : (nI (n + k)).toNatClampNeg = n + k := nI_clamp (by omega)
    refine ⟨fun z => absurd z (show ¬ nI 4 ≤ nI k from nI_ge (by omega) (by decide)), fun _ => ?_⟩
    rw [h4, h0, nI_add]
    simp only [fx_142_3 hF, ex_some, s0_144, ex_sh, hin, hcl, true_and, forall_eq, nI_1, byt_m v k (show k < 4 by omega)]
    refine sgM hn hF0 h0 hK r (k + 1) _ (by omega) (Fr_I (by simp [dT]) fr) (fun j hj => ?_) h2 h3 h4
    rw [rI]
    by_cases e : j = k
    · rw [if_pos ⟨rfl, by omega⟩, e]
    · rw [if_neg (by omega)]; exact h1 j (by omega)
theorem dT_DV (n b j : Nat) (h : DV b j = false) : dT n b j = false := by
  unfold DV at h
  unfold dT
  simp only [Bool.or_eq_false_iff, Bool.and_eq_false_iff, beq_eq_false_iff_ne, decide_eq_false_iff_not] at *
  omega
theorem op0 (p1 : Int32) (M : Mm) (K : Mm → Prop) (hV : V M) (hK : ∀ m, V m → K m) : OP0 p1 M K := by
  have hF := hV.1
  have hV' := hV
  obtain ⟨h1, h2, h3, h4, h5, h6, h7, h8, h9, h10, h11, h12, h13, h14, h15, h16, h17, h18, h19⟩ := hV'
  obtain ⟨n, n1, n2, n3, n4⟩ := h2
  show f_X10_sign S0 0 p1 M (fun r m1 => f_X11_sign S0 142 p1 m1 (AN r K))
  unfold f_X10_sign
  simp only [fx_0_0 hF, ex_some, s0_1, true_and]
  rw [n2, show (4 : Int32) = nI 4 from rfl, nI_add, show (100 : Int32) = nI 100 from rfl, nI_leI (by omega) (by omega)]
  refine ⟨fun z => ?_, fun z => ?_⟩
  · refine ⟨5, ?_⟩
    rw [show (24 : Int32) = nI (8 * 4) + (-8 : Int32) by decide]
    refine sgC (n := n) (by omega) hF (fun M1 f1 a1 a2 a3 a4 => ?_) 4 M (by omega) (Fr_refl _ _ _) (by rw [n2]; rfl) (fun j hj => by omega) rfl rfl
    have hF1 := FX_fr f1 hF
    simp only [fx_0_0 hF1, ex_some, s0_1, true_and]
    rw [a1]
    unfold f_X11_sign
    simp only [forall_eq]
    have b0 : (stI M1 142 0 0).1 142 4 = nI n := by rw [rI_ne (by omega), a4]; exact n3
    rw [b0, show (96 : Int32) = nI 96 from rfl, nI_leI (by omega) (by omega)]
    refine ⟨fun _ => ⟨5, ?_⟩, fun y => absurd (by omega) y⟩
    refine sgM (n := n) (M0 := stI M1 142 0 0) (by omega) (FX_ag rfl hF1) b0 (fun M2 f2 c1 c2 c3 c4 => ?_) 4 0 _ (by omega) (Fr_refl _ _ _) (fun j hj => by omega) rfl rfl rfl
    rw [c4, b0, show (4 : Int32) = nI 4 from rfl, nI_add]
    rw [rI_eq]
    refine an_ok rfl (hK _ ?_)
    have ft : Fr (dT n) eN M (stI M2 142 4 (nI (n + 4))) := Fr_I (by simp [dT]) (Fr_tr f1 (Fr_tr (Fr_I (by simp [dT]) (Fr_refl _ _ _)) f2))
    refine V_mk hV (Fr_mono (dT_DV n) (fun _ _ => rfl) ft) ⟨n + 4, by omega, ?_, rI_eq, fun j hj => ?_⟩ (V_told_ag (ft.1 _ _ rfl) (ft.1 _ _ rfl) (ft.2.1 _ rfl) (ft.2.1 _ rfl) h7) (V_last_ag (ft.1 _ _ rfl) (ft.1 _ _ rfl) (Fr_row ft _ fun _ => rfl) (ft.1 _ _ rfl) (ft.1 _ _ rfl) (ft.1 _ _ rfl) (ft.1 _ _ rfl) h8) (V_now_ag (Fr_row ft _ fun _ => rfl) (Fr_row ft _ fun _ => rfl) (Fr_row ft _ fun _ => rfl) (Fr_row ft _ fun _ => rfl) (ft.2.1 _ rfl) (ft.1 _ _ rfl) (Fr_row ft _ fun _ => rfl) h15) (V_walk_ag (ft.1 _ _ rfl) (Fr_row ft _ fun _ => rfl) (Fr_row ft _ fun _ => rfl) (by rw [ft.2.2]) h17)
    · rw [rI_ne (by omega), c3]; exact a1
    · by_cases e : j < n
      · rw [ft.1 2 j (by simp [dT]; omega), ft.1 144 j (by simp [dT]; omega)]
        exact n4 j e
      · have e2 : (stI M2 142 4 (nI (n + 4))).1 2 j = byt p1 (24 - 8 * (j - n)) := by
          rw [rI_ne (by omega), c2]
          have := a2 (j - n) (by omega)
          rw [show n + (j - n) = j by omega] at this
          exact this
        have e3 : (stI M2 142 4 (nI (n + 4))).1 144 j = byt p1 (24 - 8 * (j - n)) := by
          rw [rI_ne (by omega)]
          have := c1 (j - n) (by omega)
          rw [show n + (j - n) = j by omega] at this
          exact this
        rw [e2, e3]
        exact ⟨rfl, byt_n _ _⟩
  · unfold f_X11_sign
    simp only [forall_eq]
    have b0 : (stI M 142 0 0).1 142 4 = nI n := n3
    rw [b0, show (96 : Int32) = nI 96 from rfl, nI_leI (by omega) (by omega)]
    exact ⟨fun y => absurd (by omega) z, fun _ => an_ok rfl (hK _ (V_thr _ hV))⟩
