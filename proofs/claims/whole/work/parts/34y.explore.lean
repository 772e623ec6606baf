/-! the class explores; the model explores -/
/-- the states that are come to by fewer than d steps -/
def Ed (C : Cf) (ky w A0 B0 : Nat) : Nat → Nat
  | 0 => 0
  | d + 1 => (bf C ky w A0 B0 (Ed C ky w A0 B0 d * w)).length
theorem Ed_mono {C : Cf} {ky w A0 B0 : Nat} : ∀ d, Ed C ky w A0 B0 d ≤ Ed C ky w A0 B0 (d + 1)
  | 0 => by unfold Ed; omega
  | d + 1 => by
    have := Ed_mono (C := C) (ky := ky) (w := w) (A0 := A0) (B0 := B0) d
    have h : ∀ e, Ed C ky w A0 B0 (e + 1) = (bf C ky w A0 B0 (Ed C ky w A0 B0 e * w)).length := fun e => rfl
    rw [h (d + 1)]
    conv => lhs; rw [h d]
    exact bf_mono (Nat.mul_le_mul_right _ this)
theorem Ed_le {C : Cf} {ky w A0 B0 : Nat} {d d' : Nat} (h : d ≤ d') : Ed C ky w A0 B0 d ≤ Ed C ky w A0 B0 d' := by
  obtain ⟨e, rfl⟩ := Nat.exists_eq_add_of_le h
  induction e with
  | zero => exact Nat.le_refl _
  | succ e ih => exact Nat.le_trans (ih (by omega)) (Ed_mono (d + e))
theorem Ed_succ {C : Cf} {ky w A0 B0 d : Nat} : Ed C ky w A0 B0 (d + 1) = (bf C ky w A0 B0 (Ed C ky w A0 B0 d * w)).length := rfl
theorem xpL40 {C : Cf} {ky w A0 B0 mo d n : Nat} {mu : Option (List Nat)} {so : Nat → Nat → F4 → Nat → Bool} {x2 x7 : Int32} {EK : Mm → Prop} {K : Int32 → Mm → Prop} (hmo2 : mo ≤ 4000) (hky : ky < 5) (hw : w = cT C * (ky + 1)) (h0 : SI C A0 B0) (hdn : d < n) (he : Ed C ky w A0 B0 (d + 1) ≤ 4000) :
    ∀ (r s : Nat) (M : Mm), s + r = Ed C ky w A0 B0 (d + 1) → Ed C ky w A0 B0 d ≤ s → BS C ky mo mu so M → WX C ky w A0 B0 mo mu so M (s * w) → FT C ky w A0 B0 s (M.1 10 16) → (∀ M', Fr dX eX M M' → WX C ky w A0 B0 mo mu so M' (Ed C ky w A0 B0 (d + 1) * w) → FT C ky w A0 B0 (Ed C ky w A0 B0 (d + 1)) (M'.1 10 16) → EK M') → (mo < (bf C ky w A0 B0 (Ed C ky w A0 B0 n * w)).length → ∀ k' M', Fr dX eX M M' → WK M' (bf C ky w A0 B0 k') → K 0 M') → f_X9_explore_L40 S0 10 x2 x7 (nI (Ed C ky w A0 B0 (d + 1))) EK K (r + 1) (nI s) M
  | 0, s, M, hr, hs, hB, hX, hT, hK, hFl => by
    unfold f_X9_explore_L40 f_X9_explore_B40
    have e : s = Ed C ky w A0 B0 (d + 1) := by omega
    subst e
    exact ⟨fun _ => hK M (Fr_refl _ _ _) hX hT, fun z => absurd (nI_le (Nat.le_refl _) (by omega)) z⟩
  | r + 1, s, M, hr, hs, hB, hX, hT, hK, hFl => by
    unfold f_X9_explore_L40 f_X9_explore_B40
    refine ⟨fun z => absurd z (nI_ge (by omega) (by omega)), fun _ => ?_⟩
    have hlen : s < (bf C ky w A0 B0 (s * w)).length := by
      have h1 : Ed C ky w A0 B0 (d + 1) ≤ (bf C ky w A0 B0 (s * w)).length := by
        rw [Ed_succ]; exact bf_mono (Nat.mul_le_mul_right _ hs)
      omega
    refine expand_ok hmo2 hky hw h0 hlen hB hX hT (fun M1 f1 X1 T1 => ⟨fun z => absurd z (by decide), fun _ => ?_⟩) (fun k' a b M1 f1 W1 => ⟨fun _ => hFl ?_ k' M1 f1 W1, fun z => absurd rfl z⟩)
    · simp only [forall_eq, nI_1]
      exact xpL40 hmo2 hky hw h0 hdn he r (s + 1) M1 (by omega) (by omega) (BS_fr f1 hB) X1 T1 (fun M2 f2 => hK M2 (Fr_tr f1 f2)) (fun h k' M2 f2 => hFl h k' M2 (Fr_tr f1 f2))
    · refine Nat.lt_of_lt_of_le b (bf_mono ?_)
      have h1 : (s + 1) * w ≤ Ed C ky w A0 B0 n * w := Nat.mul_le_mul_right _ (Nat.le_trans (show s + 1 ≤ Ed C ky w A0 B0 (d + 1) by omega) (Ed_le (by omega)))
      omega
theorem xpL24 {C : Cf} {ky w A0 B0 mo n : Nat} {mu : Option (List Nat)} {so : Nat → Nat → F4 → Nat → Bool} {EK : Mm → Prop} {K : Int32 → Mm → Prop} (hmo2 : mo ≤ 4000) (hky : ky < 5) (hw : w = cT C * (ky + 1)) (h0 : SI C A0 B0) (hn : n ≤ 20) :
    ∀ (r d : Nat) (M : Mm), d + r = n → BS C ky mo mu so M → WX C ky w A0 B0 mo mu so M (Ed C ky w A0 B0 d * w) → FT C ky w A0 B0 (Ed C ky w A0 B0 d) (M.1 10 16) → (∀ M', Fr dX eX M M' → WX C ky w A0 B0 mo mu so M' (Ed C ky w A0 B0 n * w) → FT C ky w A0 B0 (Ed C ky w A0 B0 n) (M'.1 10 16) → EK M') → (mo < (bf C ky w A0 B0 (Ed C ky w A0 B0 n * w)).length → ∀ k' M', Fr dX eX M M' → WK M' (bf C ky w A0 B0 k') → K 0 M') → f_X9_explore_L24 S0 10 (nI n) EK K (r + 1) (nI (Ed C ky w A0 B0 d)) (nI d) M
  | 0, d, M, hr, hB, hX, hT, hK, hFl => by
    unfold f_X9_explore_L24 f_X9_explore_B24
    have e : d = n := by omega
    subst e
    exact ⟨fun _ => hK M (Fr_refl _ _ _) hX hT, fun z => absurd (nI_le (Nat.le_refl _) (by omega)) z⟩
  | r + 1, d, M, hr, hB, hX, hT, hK, hFl => by
    unfold f_X9_explore_L24 f_X9_explore_B24
    refine ⟨fun z => absurd z (nI_ge (by omega) (by omega)), fun _ => ?_⟩
    simp only [forall_eq, nI_1]
    have h10 : M.1 10 10 = nI (Ed C ky w A0 B0 (d + 1)) := hX.1.1
    have he : Ed C ky w A0 B0 (d + 1) ≤ 4000 := hX.1.2.1
    rw [h10]
    have hm := Ed_mono (C := C) (ky := ky) (w := w) (A0 := A0) (B0 := B0) d
    refine ⟨Ed C ky w A0 B0 (d + 1) - Ed C ky w A0 B0 d + 1, ?_⟩
    refine xpL40 (n := n) hmo2 hky hw h0 (by omega) he _ _ M (by omega) (Nat.le_refl _) hB hX hT (fun M1 f1 X1 T1 => ?_) hFl
    exact xpL24 hmo2 hky hw h0 hn r (d + 1) M1 (by omega) (BS_fr f1 hB) X1 T1 (fun M2 f2 => hK M2 (Fr_tr f1 f2)) (fun h k' M2 f2 => hFl h k' M2 (Fr_tr f1 f2))
def dE : Nat → Nat → Bool := fun b j => b == 19 || b == 104 || b == 107 || b == 108 || b == 109 || b == 110 || (b == 10 && (10 ≤ j && j ≤ 17 : Bool))
theorem dX_dE {M M' : Mm} (h : Fr dX eX M M') : Fr dE eG M M' :=
  Fr_mono (fun b j hd => by unfold dE at hd; unfold dX; simp only [Bool.or_eq_false_iff, Bool.and_eq_false_iff, beq_eq_false_iff_ne, decide_eq_false_iff_not] at *; omega) (fun b hd => by unfold eG at hd; unfold eX; simp only [Bool.or_eq_false_iff, beq_eq_false_iff_ne] at *; omega) h
theorem dG_dE {M M' : Mm} (h : Fr dG eG M M') : Fr dE eG M M' :=
  Fr_mono (fun b j hd => by unfold dE at hd; unfold dG; simp only [Bool.or_eq_false_iff, Bool.and_eq_false_iff, beq_eq_false_iff_ne, decide_eq_false_iff_not] at *; omega) (fun b hd => hd) h
theorem dE_prc {M M' : Mm} (h : Fr dE eG M M') : ∀ a, prc a → M'.1 a = M.1 a := by
  intro a ha
  refine Fr_row h a (fun j => ?_)
  unfold dE
  unfold prc at ha
  simp only [Bool.or_eq_false_iff, Bool.and_eq_false_iff, beq_eq_false_iff_ne]
  omega
theorem CC_dE {C : Cf} {M M' : Mm} (h : Fr dE eG M M') (hC : CC M C) : CC M' C :=
  CC_ag (dE_prc h) (h.1 _ _ rfl) (h.1 _ _ rfl) (h.1 _ _ rfl) (Fr_row h _ (fun _ => rfl)) (by rw [h.2.2]) (by rw [h.2.2]) (by rw [h.2.2]) hC
theorem mC_dE {mu : Option (List Nat)} {M M' : Mm} (h : Fr dE eG M M') (hm : mC M mu) : mC M' mu := mC_ag (dE_prc h) (by rw [h.2.2]) hm
theorem explore_ok {C : Cf} {ky w q A0 B0 mo n : Nat} {mu : Option (List Nat)} {so : Nat → Nat → F4 → Nat → Bool} {x4 x5 : Int32} {M : Mm} {K : Int32 → Mm → Prop} (hF : FX M) (hV : V_walk M) (hC : CC M C) (hmu : mC M mu) (hkeys : M.1 11 13 = nI ky) (hky : ky < 5) (hw : w = cT C * (ky + 1)) (hq : q = 113 ∨ q = 114) (e0 : M.2.1 q 0 = lN A0) (e1 : M.2.1 q 1 = lN B0) (h0 : SI C A0 B0) (hmo : 1 ≤ mo) (hmo2 : mo ≤ 4000) (hn : n ≤ 20) (hso : ∀ M', Fr dE eG M M' → M'.1 10 12 = x4 → M'.1 10 13 = x5 → SO so M')
    (hK : ∀ M', Fr dE eG M M' → WX C ky w A0 B0 mo mu so M' (Ed C ky w A0 B0 n * w) → FT C ky w A0 B0 (Ed C ky w A0 B0 n) (M'.1 10 16) → K 1 M') (hFl : mo < (bf C ky w A0 B0 (Ed C ky w A0 B0 n * w)).length → ∀ k' M', Fr dE eG M M' → WK M' (bf C ky w A0 B0 k') → K 0 M') : f_X9_explore S0 10 q (nI n) (nI mo) x4 x5 M K := by
  unfold f_X9_explore
  simp only [forall_eq]
  have f0 : Fr dE eG M (stI (stI M 10 12 x4) 10 13 x5) := Fr_I rfl (Fr_I rfl (Fr_refl _ _ _))
  have hV1 : V_walk (stI (stI M 10 12 x4) 10 13 x5) := V_walk_ag (M := M) rfl rfl rfl rfl hV
  refine begin_w (mo := mo) (FX_fr f0 hF) hV1 (by omega) h0.1 h0.2.1 (by exact e0) (by exact e1) hmo hmo2 (by omega) (fun M1 f1 W1 i11 i12 i13 i14 i15 i16 i17 j18 => ?_)
  have f1' : Fr dE eG M M1 := Fr_tr f0 (dG_dE f1)
  have hw1 : wyR M1 := by
    refine wyR_fr f1' (hV.2.elim (fun h => Or.inl h.1) (fun h => Or.inr h.1))
  have hB : BS C ky mo mu so M1 := ⟨FX_fr f1' hF, hw1, CC_dE f1' hC, mC_dE f1' hmu, hso M1 f1' (i12.trans rfl) (i13.trans rfl), i11, (f1'.1 _ _ rfl).trans hkeys⟩
  have ez : Ed C ky w A0 B0 0 * w = 0 := by
    show 0 * w = 0
    exact Nat.zero_mul w
  refine ⟨n + 1, ?_⟩
  have main := xpL24 (EK := fun m14 => K 1 m14) (K := K) hmo2 hky hw h0 hn n 0 M1 (by omega) hB (by rw [ez]; exact ⟨W1, fun j hj => by omega, Or.inl ⟨fun k hk => by omega, i14⟩, Or.inl ⟨fun k hk => by omega, i15⟩, by simp [bf]; omega⟩) (Or.inl ⟨fun s' hs' => by unfold Ed at hs'; omega, i16⟩) (fun M2 f2 X2 T2 => hK M2 (Fr_tr f1' (dX_dE f2)) X2 T2) (fun h k' M2 f2 W2 => hFl h k' M2 (Fr_tr f1' (dX_dE f2)) W2)
  exact main
/-- nothing is sought -/
theorem SO_0 {M : Mm} (h : M.1 10 12 = 0) : SO (fun _ _ _ _ => false) M := by
  intro M1 A B F fl K f hm hfl h6 hK
  unfold f_X9_isSought
  rw [f.1 10 12 rfl, h]
  exact ⟨fun _ => hK M1 (fun _ _ _ => rfl) rfl, fun z => absurd rfl z⟩
/-- a number is said -/
theorem SO_2 {M : Mm} {nu : Nat} (hF : FX M) (h : M.1 10 12 = 2) (h13 : M.1 10 13 = nI nu) : SO (fun _ _ F _ => decide (F.2.2.1 = nI (nu + 1))) M := by
  intro M1 A B F fl K f hm hfl h6 hK
  have hF1 := FX_fr f hF
  unfold f_X9_isSought
  rw [f.1 10 12 rfl, h]
  refine ⟨fun z => absurd z (by decide), fun _ => ⟨fun z => absurd z (by decide), fun _ => ⟨fun _ => ?_, fun z => absurd rfl z⟩⟩⟩
  simp only [fx_10_1 hF1, ex_some, s0_104, true_and]
  rw [f.1 10 13 rfl, h13, hm.2.2.2.2.2.2.1, nI_1]
  have := hK M1 (fun _ _ _ => rfl) rfl
  simp only [decide_eq_true_eq] at this
  refine ⟨fun z => ?_, fun z => ?_⟩
  · rw [if_pos z] at this; exact this
  · rw [if_neg z] at this; exact this
/-- only the bolt of number b hid it -/
def soH (mu : Option (List Nat)) (b : Nat) : Nat → Nat → F4 → Nat → Bool := fun A B F fl => decide (fl = 2 ^ b) && brk mu A B (1, 0, F.2.2.1, F.2.2.2)
theorem pw_bit : ∀ fl, fl < 8 → ∀ b, b < 3 → (nI fl = (1 : Int32) <<< (nI b &&& 31) ↔ fl = 2 ^ b) := by decide
theorem SO_3 {M : Mm} {b : Nat} {mu : Option (List Nat)} (hF : FX M) (hmu : mC M mu) (h : M.1 10 12 = 3) (h13 : M.1 10 13 = nI b) (hb : b < 3) : SO (soH mu b) M := by
  intro M1 A B F fl K f hm hfl h6 hK
  have hF1 := FX_fr f hF
  unfold f_X9_isSought
  rw [f.1 10 12 rfl, h]
  refine ⟨fun z => absurd z (by decide), fun _ => ⟨fun z => absurd z (by decide), fun _ => ⟨fun z => absurd z (by decide), fun _ => ?_⟩⟩⟩
  simp only [rIr, fx_10_0 hF1, fx_10_1 hF1, ex_some, s0_104, s0_11, true_and, forall_eq]
  have v6 : (stI (stI M1 104 2 1) 104 3 0).1 104 6 = nI fl := by rw [rI_ne (by omega), rI_ne (by omega)]; exact h6
  have v13 : (stI (stI M1 104 2 1) 104 3 0).1 10 13 = nI b := by rw [rI_ne (by omega), rI_ne (by omega), f.1 10 13 rfl]; exact h13
  rw [v6, v13, pw_bit fl hfl b hb]
  have f2 : Fr dX eX M (stI (stI M1 104 2 1) 104 3 0) := Fr_I rfl (Fr_I rfl f)
  have hm2 : MO (stI (stI M1 104 2 1) 104 3 0) 104 A B (1, 0, F.2.2.1, F.2.2.2) := by
    obtain ⟨a1, a2, a3, a4, a5, a6, a7, a8⟩ := hm
    refine ⟨a1, a2, a3, a4, ?_, rI_eq, ?_, ?_⟩
    · rw [rI_ne (by omega), rI_eq]
    · rw [rI_ne (by omega), rI_ne (by omega)]; exact a7
    · rw [rI_ne (by omega), rI_ne (by omega)]; exact a8
  refine ⟨fun z => ?_, fun z => ?_⟩
  · refine breaks_ok (FX_fr f2 hF) (mC_dX f2 hmu) (by decide) hm2 (fun M2 hE => ?_)
    have := hK M2 (fun b h1 h2 => by rw [hE.1 b h2, stI_row h1, stI_row h1]) hE.2
    unfold soH at this
    simp only [Bool.and_eq_true, decide_eq_true_eq] at this
    by_cases hbr : brk mu A B (1, 0, F.2.2.1, F.2.2.2) = true
    · rw [if_pos ⟨z, hbr⟩] at this
      rw [if_pos hbr]
      exact ⟨fun y => absurd y (by decide), fun _ => this⟩
    · rw [if_neg (fun q => hbr q.2)] at this
      rw [if_neg hbr]
      exact ⟨fun _ => this, fun y => absurd rfl y⟩
  · have := hK _ (fun b h1 h2 => by rw [stI_row h1, stI_row h1]) (show (stI (stI M1 104 2 1) 104 3 0).2 = M1.2 from rfl)
    unfold soH at this
    simp only [Bool.and_eq_true, decide_eq_true_eq] at this
    rw [if_neg (fun q => z q.1)] at this
    exact this
/-- V_walk behind it -/
theorem WK_walk {M : Mm} {L : List En} (h : WK M L) (hw : (M.2.2 10 8 = some 111 ∧ M.2.2 10 9 = some 112) ∨ (M.2.2 10 8 = some 112 ∧ M.2.2 10 9 = some 111)) : V_walk M := by
  obtain ⟨h1, h2, h3, sp, H, h4, h5⟩ := h
  exact ⟨⟨L.length, h2, h1, sp, fun s hs => ⟨H.1 s (by omega) hs, (h4 s hs).1⟩, fun k hk hk2 => h5 k hk hk2⟩, hw⟩
/-! the model goes through all runs -/
def hMx (A B : Nat) : Int32 := ((((((lN (PA A)) * (1000003 : Int64)) + ((lN (PB B)) * (7919 : Int64))) ^^^ ((((lN (PA A)) * (1000003 : Int64)) + ((lN (PB B)) * (7919 : Int64))).toUInt64 >>> ((29 : Int32).toInt64.toUInt64 &&& Int64.toUInt64 63)).toInt64) * (1000000007 : Int64)).toUInt64 >>> ((33 : Int32).toInt64.toUInt64 &&& Int64.toUInt64 63)).toInt64.toInt32 &&& (16383 : Int32)
def hM (A B : Nat) : Nat := (hMx A B).toNatClampNeg
theorem hM_eq (A B : Nat) : hM A B < 16384 ∧ hMx A B = nI (hM A B) := by
  obtain ⟨j, h1, h2⟩ := pk_andE (((((((lN (PA A)) * (1000003 : Int64)) + ((lN (PB B)) * (7919 : Int64))) ^^^ ((((lN (PA A)) * (1000003 : Int64)) + ((lN (PB B)) * (7919 : Int64))).toUInt64 >>> ((29 : Int32).toInt64.toUInt64 &&& Int64.toUInt64 63)).toInt64) * (1000000007 : Int64)).toUInt64 >>> ((33 : Int32).toInt64.toUInt64 &&& Int64.toUInt64 63)).toInt64.toInt32) (m := (16383 : Int32)) 14 rfl
  have e : hMx A B = nI j := h2
  have e2 : hM A B = j := by unfold hM; rw [e, nI_clamp (by omega)]
  rw [e2]; exact ⟨h1, e⟩
def hLm (L : List En) (s : Nat) : Nat := hM (gt L s).1 (gt L s).2.1
def WMt (M : Mm) (L : List En) (lo : Nat) : Prop := ∃ sp : Nat → Nat, HTp 16384 lo L.length (hLm L) sp ∧ (∀ s, lo ≤ s → s < L.length → M.1 165 (sp s) = nI s) ∧ ∀ k, k < 16384 → (∀ s, lo ≤ s → s < L.length → sp s ≠ k) → M.1 165 k = -1
/-- the model holds the states L; its table those from lo on -/
def WM (M : Mm) (L : List En) (lo : Nat) : Prop := M.1 142 44 = nI L.length ∧ L.length ≤ 4001 ∧ (∀ s, s < L.length → M.2.1 160 s = lN (PA (gt L s).1) ∧ M.2.1 161 s = lN (PB (gt L s).2.1) ∧ (gt L s).1 < 2 ^ 64 ∧ (gt L s).2.1 < 2 ^ 40) ∧ WMt M L lo
def dP : Nat → Nat → Bool := fun b j => b == 165 || (b == 142 && j == 44)
def eP : Nat → Bool := fun b => b == 160 || b == 161
theorem a16383 {n : Nat} (h : n < 2 ^ 31) : nI n &&& (16383 : Int32) = nI (n % 16384) := pk_andN (by omega) (m := (16383 : Int32)) 14 rfl
/-- what placeOf does behind its loop -/
def PK (K : Int32 → Mm → Prop) (A B : Nat) : Int32 → Mm → Prop := fun (v17 : Int32) (m18 : Mm) =>
    ∃ b19 : Nat, m18.2.2 142 43 = some b19 ∧
    ∃ n20 : Nat, shp S0 b19 = some (50, n20) ∧ vp_in v17 n20 ∧
    ((0 ≤ (m18.1 b19 v17.toNatClampNeg) →
      ∃ b22 : Nat, m18.2.2 142 43 = some b22 ∧
      ∃ n23 : Nat, shp S0 b22 = some (50, n23) ∧ vp_in v17 n23 ∧
      K (m18.1 b22 v17.toNatClampNeg) m18) ∧
     (¬ 0 ≤ (m18.1 b19 v17.toNatClampNeg) →
      ∃ b24 : Nat, m18.2.2 142 38 = some b24 ∧
      ∃ n25 : Nat, S0[b24]? = some (53, n25) ∧ vp_in (m18.1 142 44) n25 ∧
      ∀ m26 : Mm, m26 = stJ m18 b24 (m18.1 142 44).toNatClampNeg (lN (PA A)) →
      ∃ b27 : Nat, m26.2.2 142 39 = some b27 ∧
      ∃ n28 : Nat, S0[b27]? = some (53, n28) ∧ vp_in (m26.1 142 44) n28 ∧
      ∀ m29 : Mm, m29 = stJ m26 b27 (m26.1 142 44).toNatClampNeg (lN (PB B)) →
      ∃ b30 : Nat, m29.2.2 142 43 = some b30 ∧
      ∃ n31 : Nat, S0[b30]? = some (50, n31) ∧ vp_in v17 n31 ∧
      ∀ m32 : Mm, m32 = stI m29 b30 v17.toNatClampNeg (m29.1 142 44) →
      ∀ m33 : Mm, m33 = stI m32 142 44 ((m32.1 142 44) + (1 : Int32)) →
      ∃ b34 : Nat, m33.2.2 142 43 = some b34 ∧
      ∃ n35 : Nat, shp S0 b34 = some (50, n35) ∧ vp_in v17 n35 ∧
      K (m33.1 b34 v17.toNatClampNeg) m33))
theorem place_L {L : List En} {A B lo fs fm dp : Nat} {sp : Nat → Nat} {M : Mm} {K : Int32 → Mm → Prop} (hF : FX M) (hA : A < 2 ^ 64) (hB : B < 2 ^ 40) (hlo : lo ≤ L.length) (hlen : L.length ≤ 4000) (hW : WM M L lo) (H : HTp 16384 lo L.length (hLm L) sp) (hsp : ∀ s, lo ≤ s → s < L.length → M.1 165 (sp s) = nI s) (hz : ∀ k, k < 16384 → (∀ s, lo ≤ s → s < L.length → sp s ≠ k) → M.1 165 k = -1)
    (hK0 : ∀ s, lo ≤ s → s < L.length → isE L A B s → K (nI s) M) (hK1 : (∀ s, lo ≤ s → s < L.length → ¬ isE L A B s) → ∀ M', Fr dP eP M M' → WM M' (L ++ [(A, B, fs, fm, dp)]) lo → K (nI L.length) M') :
    ∀ (n i : Nat), i + n = 16384 → (∀ j, j < i → ∃ s, lo ≤ s ∧ s < L.length ∧ sp s = (hM A B + j) % 16384 ∧ ¬ isE L A B s) → f_X11_placeOf_L7 S0 142 (lN (PA A)) (lN (PB B)) (PK K A B) K (n + 1) (nI ((hM A B + i) % 16384)) M
  | 0, i, hi, hb => by
    exfalso
    obtain ⟨i', h1, h2⟩ := ht_free (by omega) H (by omega) (hM A B)
    obtain ⟨s, h3, h4, h5, h6⟩ := hb i' (by omega)
    exact h2 s h3 h4 h5
  | n + 1, i, hi, hb => by
    have hc : (hM A B + i) % 16384 < 16384 := Nat.mod_lt _ (by omega)
    generalize hcd : (hM A B + i) % 16384 = c at hc
    have hin : vp_in (nI c) 16384 := vp_in_nI hc (by omega)
    have hcl : (nI c).toNatClampNeg = c := nI_clamp (by omega)
    have nx' : nI (c + 1) &&& (16383 : Int32) = nI ((hM A B + (i + 1)) % 16384) := by
      rw [a16383 (by omega), ← hcd]
      congr 1; omega
    obtain ⟨w1, w2, w3, -⟩ := hW
    have hW : WM M L lo := ⟨w1, w2, w3, ⟨sp, H, hsp, hz⟩⟩
    unfold f_X11_placeOf_L7 f_X11_placeOf_B7
    simp only [fx_142_43 hF, ex_some, shp_ne (show (165 : Nat) ≠ 100000 by decide), s0_165, ex_sh, hin, hcl, true_and]
    by_cases hfree : ∀ s, lo ≤ s → s < L.length → sp s ≠ c
    · have hv := hz c hc hfree
      rw [hv]
      refine ⟨fun _ => ?_, fun z => absurd (by decide) z⟩
      have none : ∀ s, lo ≤ s → s < L.length → ¬ isE L A B s := by
        have := ht_none (mt := fun s => isE L A B s) H (i := i) (q := hM A B) (by omega) (fun s _ b w => by unfold hLm; rw [w.1, w.2]) (fun j hj s a b e w => ?_) (fun s a b => by rw [hcd]; exact hfree s a b)
        · exact this
        · obtain ⟨s', y0, y1, y2, y3⟩ := hb j hj
          have : s = s' := H.2.1 s s' a b y0 y1 (by rw [e, y2])
          subst this
          exact y3 w
      unfold PK
      simp only [fx_142_43 hF, ex_some, shp_ne (show (165 : Nat) ≠ 100000 by decide), s0_165, ex_sh, hin, hcl, true_and, hv]
      refine ⟨fun z => absurd z (by decide), fun _ => ?_⟩
      have hinl : vp_in (nI L.length) 4001 := vp_in_nI (by omega) (by omega)
      have hcll : (nI L.length).toNatClampNeg = L.length := nI_clamp (by omega)
      have t1 : ∀ x, (stJ M 160 L.length x).1 142 44 = nI L.length := fun x => w1
      have t2 : ∀ x y, (stJ (stJ M 160 L.length x) 161 L.length y).1 142 44 = nI L.length := fun x y => w1
      have t3 : ∀ x y, (stI (stJ (stJ M 160 L.length x) 161 L.length y) 165 c (nI L.length)).1 142 44 = nI L.length := fun x y => by rw [rI_ne (by omega)]; exact w1
      simp only [rIr, rJr, w1, fx_142_38 hF, fx_142_39 hF, fx_142_43 hF, ex_some, shp_ne (show (165 : Nat) ≠ 100000 by decide), s0_160, s0_161, s0_165, ex_sh, hinl, hcll, hin, hcl, true_and, forall_eq, t1, t2, t3, nI_1]
      have e165 : (stI (stI (stJ (stJ M 160 L.length (lN (PA A))) 161 L.length (lN (PB B))) 165 c (nI L.length)) 142 44 (nI (L.length + 1))).1 165 c = nI L.length := by rw [rI_ne (by omega), rI_eq]
      rw [e165]
      have hlen' : (L ++ [(A, B, fs, fm, dp)]).length = L.length + 1 := by simp
      refine hK1 none _ (Fr_I rfl (Fr_I rfl (Fr_J rfl (Fr_J rfl (Fr_refl _ _ _))))) ⟨?_, by rw [hlen']; omega, fun s hs => ?_, fun s => if s = L.length then c else sp s, ?_, fun s a b => ?_, fun k hk hk2 => ?_⟩
      · rw [hlen', rI_eq]
      · rw [hlen'] at hs
        have J : ∀ b j, (stI (stI (stJ (stJ M 160 L.length (lN (PA A))) 161 L.length (lN (PB B))) 165 c (nI L.length)) 142 44 (nI (L.length + 1))).2.1 b j = (stJ (stJ M 160 L.length (lN (PA A))) 161 L.length (lN (PB B))).2.1 b j := fun b j => rfl
        rw [J, J, rJ, rJ, rJ, rJ]
        by_cases es : s = L.length
        · subst es
          rw [gt_eq, if_neg (by omega), if_pos ⟨rfl, rfl⟩, if_pos ⟨rfl, rfl⟩]
          exact ⟨rfl, rfl, hA, hB⟩
        · rw [gt_lt (by omega), if_neg (by omega), if_neg (by omega), if_neg (by omega), if_neg (by omega)]
          exact w3 s (by omega)
      · rw [hlen']
        refine ht_add H hlo hc (d := i) (by omega) hcd.symm hfree (fun j hj => ?_) (fun s hs => ?_) ?_
        · obtain ⟨s', x0, x1, x2, x3⟩ := hb j hj
          exact ⟨s', x0, x1, x2⟩
        · unfold hLm; rw [gt_lt hs]
        · unfold hLm; rw [gt_eq]
      · rw [hlen'] at b
        show (stI _ 142 44 (nI (L.length + 1))).1 165 (if s = L.length then c else sp s) = _
        rw [rI_ne (by omega)]
        by_cases es : s = L.length
        · rw [if_pos es, rI_eq, es]
        · have := hfree s a (by omega)
          rw [if_neg es, rI_ne (by omega)]
          exact hsp s a (by omega)
      · have a1 : k ≠ c := by
          have := hk2 L.length hlo (by rw [hlen']; omega)
          have : (if L.length = L.length then c else sp L.length) ≠ k := this
          rw [if_pos rfl] at this
          omega
        rw [rI_ne (by omega), rI_ne (by omega)]
        refine hz k hk (fun s a b => ?_)
        have := hk2 s a (by rw [hlen']; omega)
        have : (if s = L.length then c else sp s) ≠ k := this
        rw [if_neg (by omega)] at this
        exact this
    · have : ∃ s, lo ≤ s ∧ s < L.length ∧ sp s = c := by
        apply Classical.byContradiction
        intro w
        exact hfree (fun s a hs e => w ⟨s, a, hs, e⟩)
      obtain ⟨s, hsl, hs, es⟩ := this
      have hv := hsp s hsl hs
      rw [es] at hv
      rw [hv]
      have hins : vp_in (nI s) 4001 := vp_in_nI (by omega) (by omega)
      have hcls : (nI s).toNatClampNeg = s := nI_clamp (by omega)
      obtain ⟨y1, y2, y3, y4⟩ := w3 s hs
      refine ⟨fun z => absurd z (nI_pos (by omega)), fun _ => ?_⟩
      simp only [fx_142_38 hF, fx_142_39 hF, ex_some, s0_160, s0_161, ex_sh, hins, hcls, true_and, y1, y2]
      have b1 := PA_lt (gt L s).1
      have b2 := PA_lt A
      have b3 := PB_lt (gt L s).2.1
      have b4 := PB_lt B
      rw [lN_eq64 b1 b2, lN_eq64 (by omega) (by omega)]
      unfold f_X11_placeOf_J51
      simp only [forall_eq, nI_1, nx']
      have go : ¬ isE L A B s → f_X11_placeOf_L7 S0 142 (lN (PA A)) (lN (PB B)) (PK K A B) K (n + 1) (nI ((hM A B + (i + 1)) % 16384)) M := by
        intro hne
        refine place_L hF hA hB hlo hlen hW H hsp hz hK0 hK1 n (i + 1) (by omega) (fun j hj => ?_)
        by_cases ej : j = i
        · rw [ej]; exact ⟨s, hsl, hs, by rw [es, hcd], hne⟩
        · exact hb j (by omega)
      refine ⟨fun q1 => ⟨fun q2 => ?_, fun q2 => ?_⟩, fun q1 => ?_⟩
      · have e1 := PA_inj y3 hA q1
        have e2 := PB_inj y4 hB q2
        unfold PK
        simp only [fx_142_43 hF, ex_some, shp_ne (show (165 : Nat) ≠ 100000 by decide), s0_165, ex_sh, hin, hcl, true_and, hv]
        exact ⟨fun _ => hK0 s hsl hs ⟨e1, e2⟩, fun z => absurd (le0 (by omega)) z⟩
      · exact go (fun w => q2 (by rw [w.2]))
      · exact go (fun w => q1 (by rw [w.1]))
theorem place_okM {L : List En} {A B lo fs fm dp : Nat} {M : Mm} {K : Int32 → Mm → Prop} (hF : FX M) (hA : A < 2 ^ 64) (hB : B < 2 ^ 40) (hlo : lo ≤ L.length) (hlen : L.length ≤ 4000) (hW : WM M L lo) (hK0 : ∀ s, lo ≤ s → s < L.length → isE L A B s → K (nI s) M) (hK1 : (∀ s, lo ≤ s → s < L.length → ¬ isE L A B s) → ∀ M', Fr dP eP M M' → WM M' (L ++ [(A, B, fs, fm, dp)]) lo → K (nI L.length) M') : f_X11_placeOf S0 142 (lN (PA A)) (lN (PB B)) M K := by
  unfold f_X11_placeOf f_X11_places
  intro v1 h1 v2 h2 v3 h3
  obtain ⟨sp, H, hsp, hz⟩ := hW.2.2.2
  obtain ⟨n, hn⟩ : ∃ n : Nat, n = 16384 := ⟨_, rfl⟩
  refine ⟨n + 1, ?_⟩
  have e := hM_eq A B
  have hv : (v3.toUInt64 >>> ((33 : Int32).toInt64.toUInt64 &&& Int64.toUInt64 63)).toInt64.toInt32 &&& (16383 : Int32) = nI (hM A B) := by
    rw [← e.2, h3, h2, h1]
    unfold hMx
    rfl
  rw [hv]
  have := place_L hF hA hB hlo hlen hW H hsp hz hK0 hK1 n 0 (by omega) (fun j hj => by omega)
  have h2 : (hM A B + 0) % 16384 = hM A B := by rw [Nat.add_zero]; exact Nat.mod_eq_of_lt e.1
  rw [h2] at this
  exact this
theorem emp_L {M0 : Mm} {EK K : Mm → Prop} (hF0 : FX M0) (hK : ∀ M', (∀ b, b ≠ 165 → M'.1 b = M0.1 b) → M'.2 = M0.2 → (∀ k, k < 16384 → M'.1 165 k = -1) → EK M') :
    ∀ (r i : Nat) (M : Mm), i + r = 16384 → (∀ b, b ≠ 165 → M.1 b = M0.1 b) → M.2 = M0.2 → (∀ k, k < i → M.1 165 k = -1) → f_X11_empties_L7 S0 142 EK K (r + 1) (nI i) M
  | 0, i, M, hi, h1, h2, h3 => by
    unfold f_X11_empties_L7 f_X11_empties_B7
    have : i = 16384 := by omega
    subst this
    exact ⟨fun _ => hK M h1 h2 h3, fun z => absurd (show nI 16384 ≤ nI 16384 from nI_le (Nat.le_refl _) (by omega)) z⟩
  | r + 1, i, M, hi, h1, h2, h3 => by
    unfold f_X11_empties_L7 f_X11_empties_B7
    have hF : FX M := FX_ag (by rw [h2]) hF0
    have hin : vp_in (nI i) 16384 := vp_in_nI (by omega) (by omega)
    have hcl : (nI i).toNatClampNeg = i := nI_clamp (by omega)
    refine ⟨fun z => absurd z (show ¬ nI 16384 ≤ nI i from nI_ge (by omega) (by decide)), fun _ => ?_⟩
    simp only [fx_142_43 hF, ex_some, s0_165, ex_sh, hin, hcl, true_and, forall_eq, nI_1]
    refine emp_L hF0 hK r (i + 1) _ (by omega) (fun b hb => (stI_row hb).trans (h1 b hb)) h2 (fun k hk => ?_)
    by_cases e : k = i
    · rw [e]; exact rI_eq
    · rw [rI_ne (by omega)]; exact h3 k (by omega)
theorem emp_ok {M : Mm} {K : Mm → Prop} (hF : FX M) (hK : ∀ M', Fr dP eN M M' → M'.2 = M.2 → M'.1 142 44 = 0 → (∀ k, k < 16384 → M'.1 165 k = -1) → K M') : f_X11_empties S0 142 M K := by
  unfold f_X11_empties
  simp only [forall_eq]
  obtain ⟨n, hn⟩ : ∃ n : Nat, n = 16384 := ⟨_, rfl⟩
  refine ⟨n + 1, emp_L (M0 := stI M 142 44 0) (FX_ag rfl hF) (fun M' h1 h2 h3 => ?_) n 0 _ (by omega) (fun _ _ => rfl) rfl (fun k hk => by omega)⟩
  refine hK M' ⟨fun b j hd => ?_, fun b _ => by rw [h2]; rfl, by rw [h2]; rfl⟩ (by rw [h2]; rfl) (by rw [h1 142 (by decide)]; exact rI_eq) h3
  unfold dP at hd
  simp only [Bool.or_eq_false_iff, Bool.and_eq_false_iff, beq_eq_false_iff_ne] at hd
  rw [h1 b hd.1, rI_ne (by omega)]
/-- what going through the runs may change in the model -/
def dQ : Nat → Nat → Bool := fun b j => b == 149 || (153 ≤ b && b ≤ 156 : Bool) || (162 ≤ b && b ≤ 165 : Bool) || (b == 142 && (j == 28 || j == 29 || j == 30 || j == 31 || j == 37 || j == 44))
theorem dD_dQ {M M' : Mm} (h : Fr dD eN M M') : Fr dQ eP M M' :=
  Fr_mono (fun b j hd => by unfold dQ at hd; unfold dD; simp only [Bool.or_eq_false_iff, Bool.and_eq_false_iff, beq_eq_false_iff_ne, decide_eq_false_iff_not] at *; omega) (fun b hd => rfl) h
theorem dU_dQ {M M' : Mm} (h : Fr dU eN M M') : Fr dQ eP M M' :=
  Fr_mono (fun b j hd => by unfold dQ at hd; unfold dU; simp only [Bool.or_eq_false_iff, Bool.and_eq_false_iff, beq_eq_false_iff_ne, decide_eq_false_iff_not] at *; omega) (fun b hd => rfl) h
theorem dP_dQ {M M' : Mm} (h : Fr dP eP M M') : Fr dQ eP M M' :=
  Fr_mono (fun b j hd => by unfold dQ at hd; unfold dP; simp only [Bool.or_eq_false_iff, Bool.and_eq_false_iff, beq_eq_false_iff_ne, decide_eq_false_iff_not] at *; omega) (fun b hd => hd) h
theorem CM_dQ {C : Cf} {M M' : Mm} (h : Fr dQ eP M M') (hC : CM M C) : CM M' C :=
  CM_ag (h.1 _ _ rfl) (h.1 _ _ rfl) (h.1 _ _ rfl) (h.1 _ _ rfl) (h.1 _ _ rfl) (Fr_row h _ (fun _ => rfl)) (Fr_row h _ (fun _ => rfl)) (Fr_row h _ (fun _ => rfl)) (Fr_row h _ (fun _ => rfl)) (Fr_row h _ (fun _ => rfl)) (Fr_row h _ (fun _ => rfl)) (Fr_row h _ (fun _ => rfl)) (Fr_row h _ (fun _ => rfl)) hC
theorem mM_ag {M M' : Mm} {mu : Option (List Nat)} (e7 : M'.1 147 = M.1 147) (e8 : M'.1 148 = M.1 148) (f : M'.1 142 19 = M.1 142 19) (h : mM M mu) : mM M' mu := by
  unfold mM at *
  rw [f]
  exact h.imp id (fun ⟨e, a, b, c, d⟩ => ⟨e, a, b, c, RwM_ag e7 e8 d⟩)
theorem mM_dQ {mu : Option (List Nat)} {M M' : Mm} (h : Fr dQ eP M M') (hm : mM M mu) : mM M' mu := mM_ag (Fr_row h _ fun _ => rfl) (Fr_row h _ fun _ => rfl) (h.1 _ _ rfl) hm
theorem WM_ag {M M' : Mm} {L : List En} {lo : Nat} (e1 : M'.1 142 44 = M.1 142 44) (e2 : M'.2.1 160 = M.2.1 160) (e3 : M'.2.1 161 = M.2.1 161) (e4 : M'.1 165 = M.1 165) (h : WM M L lo) : WM M' L lo := by
  unfold WM WMt at *
  rw [e1, e2, e3, e4]; exact h
/-- the model goes to a state and does a step there -/
theorem goes_ok {C : Cf} {ky lo s t key m : Nat} {L : List En} {M : Mm} {K : Mm → Prop} (hF : FX M) (hC : CM M C) (h27 : M.1 142 27 = nI ky) (hky : ky < 5) (hW : WM M L lo) (hs : s < L.length) (hsi : LI C (gt L s).2.1) (ht : t < cT C) (hkey : key ≤ ky) (hm : m = t * (ky + 1) + key) (hK : ∀ M', Fr dD eN M M' → MS M' (stp C (gt L s).1 (gt L s).2.1 t key).1 (stp C (gt L s).1 (gt L s).2.1 t key).2.1 → MF M' (stp C (gt L s).1 (gt L s).2.1 t key).2.2.1 → M'.1 142 37 = nI (stp C (gt L s).1 (gt L s).2.1 t key).2.2.2 → K M') : f_X11_goesTo S0 142 (nI s) (nI m) M K := by
  obtain ⟨w1, w2, w3, w4⟩ := hW
  obtain ⟨y1, y2, y3, y4⟩ := w3 s hs
  have c1 := hC.1.1
  have hins : vp_in (nI s) 4001 := vp_in_nI (by omega) (by omega)
  have hcls : (nI s).toNatClampNeg = s := nI_clamp (by omega)
  have hmb : m < 100 := by
    have : t * (ky + 1) ≤ 4 * 5 := Nat.mul_le_mul (by omega) (by omega)
    omega
  have d3 : m / (ky + 1) = t := by
    rw [hm, Nat.mul_comm, Nat.mul_add_div (by omega), Nat.div_eq_of_lt (by omega), Nat.add_zero]
  have d4 : m % (ky + 1) = key := by
    rw [hm, Nat.mul_comm, Nat.mul_add_mod, Nat.mod_eq_of_lt (by omega)]
  unfold f_X11_goesTo
  simp only [fx_142_38 hF, fx_142_39 hF, ex_some, s0_160, s0_161, ex_sh, hins, hcls, true_and, y1, y2]
  refine unp_ok hF (fun M1 f1 m1 => ?_)
  have f1' : Fr dD eN M M1 := Fr_mono (fun b j hd => by unfold dD at hd; unfold dU; simp only [Bool.or_eq_false_iff, beq_eq_false_iff_ne] at *; omega) (fun b h => h) f1
  have e27 : M1.1 142 27 = nI ky := (f1.1 142 27 rfl).trans h27
  rw [e27, nI_1]
  have nz : ¬ nI (ky + 1) = 0 := nI_ne0 (by omega) (by omega)
  refine ⟨nz, nz, ?_⟩
  rw [pk_rem (by omega) (by omega) (by omega), pk_div (by omega) (by omega) (by omega), d3, d4]
  exact does_ok (CM_fr f1' hC) (FX_fr f1 hF) m1 ht (by omega) (hsi t ht) (fun M2 f2 m2 mf2 z2 => hK M2 (Fr_tr f1' f2) m2 mf2 z2)
/-- from where, by which step, how deep -/
def WD (M : Mm) (L : List En) : Prop := ∀ s, s < L.length → M.1 164 s = nI (gt L s).2.2.2.2 ∧ (s ≠ 0 → M.1 162 s = nI (gt L s).2.2.1 ∧ M.1 163 s = nI (gt L s).2.2.2.1)
theorem bf_par {C : Cf} {ky w A0 B0 : Nat} (hw : 0 < w) : ∀ (k s : Nat), s < (bf C ky w A0 B0 k).length → s ≠ 0 → ∃ pk, pk < k ∧ (gt (bf C ky w A0 B0 k) s).2.2.1 = pk / w ∧ (gt (bf C ky w A0 B0 k) s).2.2.2.1 = pk % w ∧ s = (bf C ky w A0 B0 pk).length ∧ s < (bf C ky w A0 B0 (pk + 1)).length ∧ pk / w < (bf C ky w A0 B0 pk).length ∧ (gt (bf C ky w A0 B0 k) s).2.2.2.2 = (gt (bf C ky w A0 B0 pk) (pk / w)).2.2.2.2 + 1
  | 0, s, h, hz => by simp [bf] at h; omega
  | k + 1, s, h, hz => by
    by_cases a : s < (bf C ky w A0 B0 k).length
    · obtain ⟨pk, h1, h2, h3, h4, h5, h6, h7⟩ := bf_par hw k s a hz
      have e := bf_gt (C := C) (ky := ky) (w := w) (A0 := A0) (B0 := B0) (show k ≤ k + 1 by omega) a
      rw [e]
      exact ⟨pk, by omega, h2, h3, h4, h5, h6, h7⟩
    · have hc : k / w < (bf C ky w A0 B0 k).length ∧ hasE (bf C ky w A0 B0 k) (nx C ky w (bf C ky w A0 B0 k) k).1 (nx C ky w (bf C ky w A0 B0 k) k).2.1 = false := by
        apply Classical.byContradiction
        intro hc
        unfold bf at h
        rw [if_neg hc] at h
        exact a h
      have e : bf C ky w A0 B0 (k + 1) = bf C ky w A0 B0 k ++ [((nx C ky w (bf C ky w A0 B0 k) k).1, (nx C ky w (bf C ky w A0 B0 k) k).2.1, k / w, k % w, (gt (bf C ky w A0 B0 k) (k / w)).2.2.2.2 + 1)] := by
        conv => lhs; unfold bf
        rw [if_pos hc]
      have es : s = (bf C ky w A0 B0 k).length := by
        rw [e] at h
        simp only [List.length_append, List.length_cons, List.length_nil] at h
        omega
      refine ⟨k, by omega, ?_, ?_, es, h, hc.1, ?_⟩
      · rw [e, es, gt_eq]
      · rw [e, es, gt_eq]
      · rw [e, es, gt_eq]
theorem dp_lay {C : Cf} {ky w A0 B0 : Nat} (hw : 0 < w) : ∀ (d k s : Nat), Ed C ky w A0 B0 d ≤ s → s < Ed C ky w A0 B0 (d + 1) → s < (bf C ky w A0 B0 k).length → (gt (bf C ky w A0 B0 k) s).2.2.2.2 = d
  | 0, k, s, h1, h2, h3 => by
    have h2 : s < (bf C ky w A0 B0 (0 * w)).length := h2
    rw [Nat.zero_mul] at h2
    simp [bf] at h2
    subst h2
    rw [bf_gt (show 0 ≤ k by omega) (by simp [bf])]
    rfl
  | d + 1, k, s, h1, h2, h3 => by
    have hz : s ≠ 0 := by
      have := bf_len (C := C) (ky := ky) (w := w) (A0 := A0) (B0 := B0) (Ed C ky w A0 B0 d * w)
      rw [Ed_succ] at h1
      omega
    obtain ⟨pk, a1, a2, a3, a4, a5, a6, a7⟩ := bf_par hw k s h3 hz
    rw [a7]
    congr 1
    refine dp_lay hw d pk (pk / w) ?_ ?_ a6
    · rcases Nat.lt_or_ge (pk / w) (Ed C ky w A0 B0 d) with q | q
      · exfalso
        have e1 : pk + 1 ≤ Ed C ky w A0 B0 d * w := by
          have := Nat.div_add_mod pk w
          have h5 := Nat.mod_lt pk hw
          have h6 : (pk / w + 1) * w ≤ Ed C ky w A0 B0 d * w := Nat.mul_le_mul_right _ q
          rw [Nat.add_mul, Nat.one_mul, Nat.mul_comm] at h6
          omega
        have := bf_mono (C := C) (ky := ky) (w := w) (A0 := A0) (B0 := B0) e1
        rw [Ed_succ] at h1
        omega
      · exact q
    · rcases Nat.lt_or_ge (pk / w) (Ed C ky w A0 B0 (d + 1)) with q | q
      · exact q
      · exfalso
        have e1 : Ed C ky w A0 B0 (d + 1) * w ≤ pk := by
          have := Nat.div_add_mod pk w
          have h6 : Ed C ky w A0 B0 (d + 1) * w ≤ (pk / w) * w := Nat.mul_le_mul_right _ q
          rw [Nat.mul_comm (pk / w)] at h6
          omega
        have := bf_mono (C := C) (ky := ky) (w := w) (A0 := A0) (B0 := B0) e1
        have h2 : s < (bf C ky w A0 B0 (Ed C ky w A0 B0 (d + 1) * w)).length := h2
        omega
theorem Ed_find {C : Cf} {ky w A0 B0 s : Nat} : ∀ n, s < Ed C ky w A0 B0 n → ∃ d, d < n ∧ Ed C ky w A0 B0 d ≤ s ∧ s < Ed C ky w A0 B0 (d + 1)
  | 0, h => by unfold Ed at h; omega
  | n + 1, h => by
    rcases Nat.lt_or_ge s (Ed C ky w A0 B0 n) with q | q
    · obtain ⟨d, a, b, c⟩ := Ed_find n q
      exact ⟨d, by omega, b, c⟩
    · exact ⟨n, by omega, q, h⟩
/-- a state is less than n deep just if it is among the first -/
theorem dp_lt {C : Cf} {ky w A0 B0 k s n : Nat} (hw : 0 < w) (hs : s < (bf C ky w A0 B0 k).length) (hk : k ≤ Ed C ky w A0 B0 n * w) : (gt (bf C ky w A0 B0 k) s).2.2.2.2 < n ↔ s < Ed C ky w A0 B0 n := by
  constructor
  · intro h
    rcases Nat.lt_or_ge s (Ed C ky w A0 B0 n) with q | q
    · exact q
    · have h1 : s < Ed C ky w A0 B0 (n + 1) := Nat.lt_of_lt_of_le hs (bf_mono hk)
      have := dp_lay hw n k s q h1 hs
      omega
  · intro h
    obtain ⟨d, a, b, c⟩ := Ed_find n h
    rw [dp_lay hw d k s b c hs]; exact a
theorem dp_le {C : Cf} {ky w A0 B0 k s n : Nat} (hw : 0 < w) (hs : s < (bf C ky w A0 B0 k).length) (hk : k ≤ Ed C ky w A0 B0 n * w) : (gt (bf C ky w A0 B0 k) s).2.2.2.2 ≤ n := by
  have h1 : s < Ed C ky w A0 B0 (n + 1) := Nat.lt_of_lt_of_le hs (bf_mono hk)
  obtain ⟨d, a, b, c⟩ := Ed_find (n + 1) h1
  rw [dp_lay hw d k s b c hs]; omega
/-- what stays while the model goes through the runs -/
def BM (C : Cf) (ky : Nat) (M : Mm) : Prop := FX M ∧ CM M C ∧ M.1 142 27 = nI ky
theorem BM_fr {C : Cf} {ky : Nat} {M M' : Mm} (h : Fr dQ eP M M') (hb : BM C ky M) : BM C ky M' := ⟨FX_fr h hb.1, CM_dQ h hb.2.1, (h.1 _ _ rfl).trans hb.2.2⟩
theorem exM1 {C : Cf} {ky w A0 B0 mo n s : Nat} {EK : Mm → Prop} {K : Int32 → Mm → Prop} (hky : ky < 5) (hw : w = cT C * (ky + 1)) (hT : 0 < cT C) (h0 : SI C A0 B0) (hn : n ≤ 20) (hmo2 : mo ≤ 4000) (hs : s < (bf C ky w A0 B0 (s * w)).length) (hsn : s < Ed C ky w A0 B0 n) :
    ∀ (r m : Nat) (M : Mm), m + r = w → BM C ky M → WM M (bf C ky w A0 B0 (s * w + m)) 0 → WD M (bf C ky w A0 B0 (s * w + m)) → (bf C ky w A0 B0 (s * w + m)).length ≤ mo → (∀ M', Fr dQ eP M M' → WM M' (bf C ky w A0 B0 (s * w + w)) 0 → WD M' (bf C ky w A0 B0 (s * w + w)) → (bf C ky w A0 B0 (s * w + w)).length ≤ mo → EK M') → (mo < (bf C ky w A0 B0 (Ed C ky w A0 B0 n * w)).length → ∀ M', Fr dQ eP M M' → K 0 M') → f_X11_explores_L46 S0 142 (nI n) (nI mo) (nI s) EK K (r + 1) (nI m) M
  | 0, m, M, hm, hB, hW, hD, hle, hK, hFl => by
    unfold f_X11_explores_L46 f_X11_explores_B46 f_X11_width
    obtain ⟨b1, b2, b3⟩ := hB
    have c1 := b2.1.1
    have hw20 : w ≤ 20 := by
      rw [hw]
      have : cT C * (ky + 1) ≤ 4 * 5 := Nat.mul_le_mul c1 (by omega)
      omega
    have e : m = w := by omega
    subst e
    rw [b2.2.1, b3, nI_1, pk_mul, ← hw]
    exact ⟨fun _ => hK M (Fr_refl _ _ _) hW hD hle, fun z => absurd (nI_le (Nat.le_refl _) (by omega)) z⟩
  | r + 1, m, M, hm, hB, hW, hD, hle, hK, hFl => by
    have hB' := hB
    obtain ⟨b1, b2, b3⟩ := hB
    have c1 := b2.1.1
    have hw20 : w ≤ 20 := by
      rw [hw]
      have : cT C * (ky + 1) ≤ 4 * 5 := Nat.mul_le_mul c1 (by omega)
      omega
    obtain ⟨d1, d2⟩ := divk (s := s) (show m < w by omega)
    obtain ⟨t1, t2⟩ := mv_t hw (show m < w by omega)
    have hlen : s < (bf C ky w A0 B0 (s * w + m)).length := Nat.lt_of_lt_of_le hs (bf_mono (by omega))
    have hEn : (s + 1) * w ≤ Ed C ky w A0 B0 n * w := Nat.mul_le_mul_right _ hsn
    rw [Nat.add_mul, Nat.one_mul] at hEn
    have hdp := (dp_lt (k := s * w + m) (by omega) hlen (show s * w + m ≤ Ed C ky w A0 B0 n * w by omega)).mpr hsn
    have hins : vp_in (nI s) 4001 := vp_in_nI (by omega) (by omega)
    have hcls : (nI s).toNatClampNeg = s := nI_clamp (by omega)
    have hsi := bf_si b2.1 hky hw hT h0 (s * w + m) s hlen
    have enx : nx C ky w (bf C ky w A0 B0 (s * w + m)) (s * w + m) = stp C (gt (bf C ky w A0 B0 (s * w + m)) s).1 (gt (bf C ky w A0 B0 (s * w + m)) s).2.1 (m / (ky + 1)) (m % (ky + 1)) := by
      unfold nx; rw [d1, d2]
    unfold f_X11_explores_L46 f_X11_explores_B46 f_X11_width
    rw [b2.2.1, b3, nI_1, pk_mul, ← hw]
    refine ⟨fun z => absurd z (nI_ge (by omega) (by omega)), fun _ => ?_⟩
    simp only [fx_142_42 b1, ex_some, shp_ne (show (164 : Nat) ≠ 100000 by decide), s0_164, ex_sh, hins, hcls, true_and, forall_eq, (hD s hlen).1]
    refine ⟨fun z => absurd z (nI_ge hdp (by omega)), fun _ => ?_⟩
    rw [hW.1]
    unfold f_X11_after
    refine goes_ok (t := m / (ky + 1)) (key := m % (ky + 1)) b1 b2 b3 hky hW hlen hsi.2.2 t1 (by omega) (by rw [Nat.mul_comm]; exact (Nat.div_add_mod m (ky + 1)).symm) (fun M1 f1 m1 mf1 z1 => ?_)
    rw [← enx] at m1 mf1 z1
    have f1' := dD_dQ f1
    have hF1 := FX_fr f1 b1
    refine packS_ok hF1 m1 (packR_ok hF1 m1 ?_)
    have W1 : WM M1 (bf C ky w A0 B0 (s * w + m)) 0 := WM_ag (f1.1 _ _ rfl) (f1.2.1 _ rfl) (f1.2.1 _ rfl) (Fr_row f1 _ fun _ => rfl) hW
    have D1 : ∀ b, b = 162 ∨ b = 163 ∨ b = 164 → M1.1 b = M.1 b := fun b hb => Fr_row f1 b (fun j => by unfold dD; simp; omega)
    have hbd := stp_bd (A := (gt (bf C ky w A0 B0 (s * w + m)) s).1) (key := m % (ky + 1)) b2.1 t1 hsi.2.2 (by omega) hsi.1 hsi.2.1
    rw [← enx] at hbd
    have hne : ∀ s', s' < (bf C ky w A0 B0 (s * w + m)).length → ¬ nI s' = nI (bf C ky w A0 B0 (s * w + m)).length := fun s' h w => by
      have := (nI_eq (by omega) (by omega)).mp w
      omega
    have next : ∀ M3, Fr dQ eP M M3 → WM M3 (bf C ky w A0 B0 (s * w + (m + 1))) 0 → WD M3 (bf C ky w A0 B0 (s * w + (m + 1))) → f_X11_explores_J123 S0 142 (nI n) (nI mo) (nI s) (nI m) M3 (fun (x5 : Int32) (M : Mm) => f_X11_explores_L46 S0 142 (nI n) (nI mo) (nI s) EK K (r + 1) x5 M) K := by
      intro M3 f3 W3 D3
      unfold f_X11_explores_J123
      have := W3.2.1
      rw [W3.1, nI_leI (by omega) (by omega)]
      simp only [forall_eq, nI_1]
      refine ⟨fun z => exM1 hky hw hT h0 hn hmo2 hs hsn r (m + 1) M3 (by omega) (BM_fr f3 hB') W3 D3 z (fun M4 f4 => hK M4 (Fr_tr f3 f4)) (fun h M4 f4 => hFl h M4 (Fr_tr f3 f4)), fun z => hFl ?_ M3 f3⟩
      have hmn := bf_mono (C := C) (ky := ky) (w := w) (A0 := A0) (B0 := B0) (show s * w + (m + 1) ≤ Ed C ky w A0 B0 n * w by omega)
      omega
    refine place_okM (L := bf C ky w A0 B0 (s * w + m)) (lo := 0) (fs := s) (fm := m) (dp := (gt (bf C ky w A0 B0 (s * w + m)) s).2.2.2.2 + 1) hF1 hbd.1 hbd.2 (by omega) (by omega) W1 (fun s' _ b hE => ?_) (fun hno M2 f2 W2 => ?_)
    · refine ⟨fun z => absurd z (hne s' b), fun _ => ?_⟩
      have ebf := bf_some b hE
      refine next M1 f1' (by show WM M1 (bf C ky w A0 B0 (s * w + m + 1)) 0; rw [ebf]; exact W1) ?_
      show WD M1 (bf C ky w A0 B0 (s * w + m + 1))
      rw [ebf]
      unfold WD at *
      rw [D1 162 (by omega), D1 163 (by omega), D1 164 (by omega)]; exact hD
    · refine ⟨fun _ => ?_, fun z => absurd rfl z⟩
      have hno' : ∀ s', s' < (bf C ky w A0 B0 (s * w + m)).length → ¬ isE (bf C ky w A0 B0 (s * w + m)) (nx C ky w (bf C ky w A0 B0 (s * w + m)) (s * w + m)).1 (nx C ky w (bf C ky w A0 B0 (s * w + m)) (s * w + m)).2.1 s' := fun s' hs' => hno s' (by omega) hs'
      have ebf := bf_new (by rw [d1]; exact hlen) hno'
      rw [d1, d2] at ebf
      rw [← ebf] at W2
      have f2' := Fr_tr f1' (dP_dQ f2)
      have hF2 := FX_fr f2' b1
      generalize hLe : (bf C ky w A0 B0 (s * w + m)).length = l at *
      have hinl : vp_in (nI l) 4001 := vp_in_nI (by omega) (by omega)
      have hcll : (nI l).toNatClampNeg = l := nI_clamp (by omega)
      have D2 : ∀ b, b = 162 ∨ b = 163 ∨ b = 164 → M2.1 b = M.1 b := fun b hb => by rw [Fr_row f2 b (fun j => by unfold dP; simp; omega)]; exact D1 b hb
      have e164 : M2.1 164 s = nI (gt (bf C ky w A0 B0 (s * w + m)) s).2.2.2.2 := by rw [D2 164 (by omega)]; exact (hD s (by omega)).1
      simp only [rIr, fx_142_40 hF2, fx_142_41 hF2, fx_142_42 hF2, ex_some, shp_ne (show (164 : Nat) ≠ 100000 by decide), s0_162, s0_163, s0_164, ex_sh, hins, hcls, hinl, hcll, true_and, forall_eq, e164, nI_1]
      refine next _ (Fr_I rfl (Fr_I rfl (Fr_I rfl f2'))) ?_ ?_
      · exact WM_ag (by rw [rI_ne (by omega), rI_ne (by omega), rI_ne (by omega)]) rfl rfl (by rw [stI_row (by omega), stI_row (by omega), stI_row (by omega)]) W2
      · show WD _ (bf C ky w A0 B0 (s * w + m + 1))
        rw [ebf]
        intro s' hs'
        simp only [List.length_append, List.length_cons, List.length_nil] at hs'
        by_cases es : s' = (bf C ky w A0 B0 (s * w + m)).length
        · rw [es, gt_eq]
          rw [hLe]
          refine ⟨?_, fun _ => ⟨?_, ?_⟩⟩
          · rw [rI_ne (by omega), rI_ne (by omega), rI_eq]
          · rw [rI_ne (by omega), rI_eq]
          · rw [rI_eq]
        · rw [gt_lt (by omega)]
          rw [rI_ne (by omega), rI_ne (by omega), rI_ne (by omega), rI_ne (by omega), rI_ne (by omega), rI_ne (by omega), rI_ne (by omega), rI_ne (by omega), rI_ne (by omega), D2 162 (by omega), D2 163 (by omega), D2 164 (by omega)]
          exact hD s' (by omega)
theorem exM2 {C : Cf} {ky w A0 B0 mo n : Nat} {EK : Mm → Prop} {K : Int32 → Mm → Prop} (hky : ky < 5) (hw : w = cT C * (ky + 1)) (hT : 0 < cT C) (h0 : SI C A0 B0) (hn : n ≤ 20) (hmo2 : mo ≤ 4000) (hK : (bf C ky w A0 B0 (Ed C ky w A0 B0 n * w)).length ≤ mo → ∀ M', WM M' (bf C ky w A0 B0 (Ed C ky w A0 B0 n * w)) 0 → WD M' (bf C ky w A0 B0 (Ed C ky w A0 B0 n * w)) → EK M' ∨ True) :
    ∀ (r s : Nat) (M : Mm), s + r = (bf C ky w A0 B0 (Ed C ky w A0 B0 n * w)).length → BM C ky M → WM M (bf C ky w A0 B0 (min s (Ed C ky w A0 B0 n) * w)) 0 → WD M (bf C ky w A0 B0 (min s (Ed C ky w A0 B0 n) * w)) → (bf C ky w A0 B0 (min s (Ed C ky w A0 B0 n) * w)).length ≤ mo → ((bf C ky w A0 B0 (Ed C ky w A0 B0 n * w)).length ≤ mo → ∀ M', Fr dQ eP M M' → WM M' (bf C ky w A0 B0 (Ed C ky w A0 B0 n * w)) 0 → WD M' (bf C ky w A0 B0 (Ed C ky w A0 B0 n * w)) → EK M') → (mo < (bf C ky w A0 B0 (Ed C ky w A0 B0 n * w)).length → ∀ M', Fr dQ eP M M' → K 0 M') → f_X11_explores_L34 S0 142 (nI n) (nI mo) EK K (r + 1) (nI s) M
  | 0, s, M, hr, hB, hW, hD, hle, hE, hFl => by
    unfold f_X11_explores_L34 f_X11_explores_B34
    have hEn : Ed C ky w A0 B0 n ≤ s := by
      have := Ed_mono (C := C) (ky := ky) (w := w) (A0 := A0) (B0 := B0) n
      rw [Ed_succ] at this
      omega
    rw [Nat.min_eq_right hEn] at hW hD hle
    have e : s = (bf C ky w A0 B0 (Ed C ky w A0 B0 n * w)).length := by omega
    rw [hW.1, ← e]
    exact ⟨fun _ => hE hle M (Fr_refl _ _ _) hW hD, fun z => absurd (nI_le (Nat.le_refl _) (by omega)) z⟩
  | r + 1, s, M, hr, hB, hW, hD, hle, hE, hFl => by
    have hB' := hB
    obtain ⟨b1, b2, b3⟩ := hB
    have c1 := b2.1.1
    have hwp : 0 < w := by rw [hw]; exact Nat.mul_pos hT (by omega)
    have hw20 : w ≤ 20 := by
      rw [hw]
      have : cT C * (ky + 1) ≤ 4 * 5 := Nat.mul_le_mul c1 (by omega)
      omega
    have hlen : s < (bf C ky w A0 B0 (min s (Ed C ky w A0 B0 n) * w)).length := by
      rcases Nat.lt_or_ge s (Ed C ky w A0 B0 n) with q | q
      · rw [Nat.min_eq_left (by omega)]
        obtain ⟨d, a1, a2, a3⟩ := Ed_find n q
        exact Nat.lt_of_lt_of_le a3 (bf_mono (Nat.mul_le_mul_right _ a2))
      · rw [Nat.min_eq_right q]; omega
    unfold f_X11_explores_L34 f_X11_explores_B34
    rw [hW.1]
    refine ⟨fun z => absurd z (nI_ge hlen (by omega)), fun _ => ?_⟩
    simp only [forall_eq, nI_1]
    rcases Nat.lt_or_ge s (Ed C ky w A0 B0 n) with q | q
    · rw [Nat.min_eq_left (by omega)] at hW hD hle hlen
      refine ⟨w + 1, exM1 hky hw hT h0 hn hmo2 hlen q w 0 M (by omega) hB' hW hD hle (fun M1 f1 W1 D1 l1 => ?_) hFl⟩
      have e : s * w + w = min (s + 1) (Ed C ky w A0 B0 n) * w := by
        rw [Nat.min_eq_left (by omega), Nat.add_mul, Nat.one_mul]
      rw [e] at W1 D1 l1
      exact exM2 hky hw hT h0 hn hmo2 hK r (s + 1) M1 (by omega) (BM_fr f1 hB') W1 D1 l1 (fun h M2 f2 => hE h M2 (Fr_tr f1 f2)) (fun h M2 f2 => hFl h M2 (Fr_tr f1 f2))
    · rw [Nat.min_eq_right q] at hW hD hle hlen
      have hins : vp_in (nI s) 4001 := vp_in_nI (by omega) (by omega)
      have hcls : (nI s).toNatClampNeg = s := nI_clamp (by omega)
      have hdp : n ≤ (gt (bf C ky w A0 B0 (Ed C ky w A0 B0 n * w)) s).2.2.2.2 := by
        rcases Nat.lt_or_ge (gt (bf C ky w A0 B0 (Ed C ky w A0 B0 n * w)) s).2.2.2.2 n with z | z
        · have := (dp_lt hwp hlen (Nat.le_refl _)).mp z
          omega
        · exact z
      have hdp2 := dp_le (n := n) hwp hlen (Nat.le_refl _)
      refine ⟨0 + 1, ?_⟩
      unfold f_X11_explores_L46 f_X11_explores_B46 f_X11_width
      rw [b2.2.1, b3, nI_1 ky, pk_mul, ← hw]
      have e : Ed C ky w A0 B0 n = min (s + 1) (Ed C ky w A0 B0 n) := (Nat.min_eq_right (by omega)).symm
      have go := exM2 (EK := EK) (K := K) hky hw hT h0 hn hmo2 hK r (s + 1) M (by omega) hB' (by rw [← e]; exact hW) (by rw [← e]; exact hD) (by rw [← e]; exact hle) hE hFl
      refine ⟨fun z => absurd z (show ¬ nI w ≤ nI 0 from nI_ge (by omega) (by omega)), fun _ => ?_⟩
      simp only [fx_142_42 b1, ex_some, shp_ne (show (164 : Nat) ≠ 100000 by decide), s0_164, ex_sh, hins, hcls, true_and, (hD s hlen).1]
      exact ⟨fun _ => go, fun z => absurd (nI_le hdp (by omega)) z⟩
theorem explores_ok {C : Cf} {ky w A0 B0 mo n : Nat} {M : Mm} {K : Int32 → Mm → Prop} (hB : BM C ky M) (hky : ky < 5) (hw : w = cT C * (ky + 1)) (hT : 0 < cT C) (h0 : SI C A0 B0) (e0 : M.2.1 142 45 = lN (PA A0)) (e1 : M.2.1 142 46 = lN (PB B0)) (hn : n ≤ 20) (hmo : 1 ≤ mo) (hmo2 : mo ≤ 4000)
    (hK : (bf C ky w A0 B0 (Ed C ky w A0 B0 n * w)).length ≤ mo → ∀ M', Fr dQ eP M M' → WM M' (bf C ky w A0 B0 (Ed C ky w A0 B0 n * w)) 0 → WD M' (bf C ky w A0 B0 (Ed C ky w A0 B0 n * w)) → K 1 M') (hFl : mo < (bf C ky w A0 B0 (Ed C ky w A0 B0 n * w)).length → ∀ M', Fr dQ eP M M' → K 0 M') : f_X11_explores S0 142 (nI n) (nI mo) M K := by
  unfold f_X11_explores
  refine emp_ok hB.1 (fun M1 f1 g1 z1 k1 => ?_)
  have f1' : Fr dQ eP M M1 := Fr_mono (fun b j hd => by unfold dQ at hd; unfold dP; simp only [Bool.or_eq_false_iff, Bool.and_eq_false_iff, beq_eq_false_iff_ne, decide_eq_false_iff_not] at *; omega) (fun b hd => rfl) f1
  have hF1 := FX_fr f1 hB.1
  rw [g1, e0, e1]
  have W1 : WM M1 [] 0 := ⟨z1, by simp, fun s hs => absurd hs (by simp), fun _ => 0, ⟨fun s a b => absurd b (by simp), fun s s' a b => absurd b (by simp), fun s a b => absurd b (by simp)⟩, fun s a hs => absurd hs (by simp), fun k hk _ => k1 k hk⟩
  refine place_okM (L := []) (lo := 0) (fs := 0) (fm := 0) (dp := 0) hF1 h0.1 h0.2.1 (by simp) (by simp) W1 (fun s _ b => absurd b (by simp)) (fun _ M2 f2 W2 => ?_)
  have f2' := Fr_tr f1' (dP_dQ f2)
  have hF2 := FX_fr f2' hB.1
  have hin : vp_in (nI 0) 4001 := vp_in_nI (by omega) (by omega)
  have hcl : (nI 0).toNatClampNeg = 0 := nI_clamp (by omega)
  simp only [List.length_nil, rIr, fx_142_40 hF2, fx_142_42 hF2, ex_some, s0_162, s0_164, ex_sh, hin, hcl, true_and, forall_eq]
  have f3 : Fr dQ eP M (stI (stI M2 164 0 0) 162 0 (-1)) := Fr_I rfl (Fr_I rfl f2')
  have hl := bf_len (C := C) (ky := ky) (w := w) (A0 := A0) (B0 := B0) (Ed C ky w A0 B0 n * w)
  have ez : min 0 (Ed C ky w A0 B0 n) * w = 0 := by rw [Nat.zero_min, Nat.zero_mul]
  refine ⟨(bf C ky w A0 B0 (Ed C ky w A0 B0 n * w)).length + 1, ?_⟩
  have main := exM2 (EK := fun m37 => K 1 m37) (K := K) (mo := mo) (A0 := A0) (B0 := B0) hky hw hT h0 hn hmo2 (fun _ _ _ _ => Or.inr trivial) (bf C ky w A0 B0 (Ed C ky w A0 B0 n * w)).length 0 (stI (stI M2 164 0 0) 162 0 (-1)) (by omega) (BM_fr f3 hB) (by rw [ez]; exact WM_ag (by rw [rI_ne (by omega), rI_ne (by omega)]) rfl rfl (by rw [stI_row (by omega), stI_row (by omega)]) W2) (by
      rw [ez]
      intro s hs
      simp [bf] at hs
      subst hs
      refine ⟨?_, fun z => absurd rfl z⟩
      rw [rI_ne (by omega), rI_eq]; rfl) (by rw [ez]; simp [bf]; omega) (fun h M3 f4 => hK h M3 (Fr_tr f3 f4)) (fun h M3 f4 => hFl h M3 (Fr_tr f3 f4))
  exact main
