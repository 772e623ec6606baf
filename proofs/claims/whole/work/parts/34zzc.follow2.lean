/-! a told typing: the class's loops -/
theorem foT {C : Cf} {mu : Option (List Nat)} {hi s key d D : Nat} {last : Bool} {EK : Mm → Prop} {K : Int32 → Mm → Prop} (hs : s < hi) (hkey : key < 256) (hl : last = true → d = D) :
    ∀ (n t : Nat) (σ : TS) (M : Mm), t + n = cT C → BT C mu M → CT M σ → TIv C hi d D σ → (gt (tL σ) s).2.2.2.2 = d → (∀ σ', tryT C mu hi s key last n t σ = some σ' → ∀ M', Fr dFo eG M M' → CT M' σ' → EK M') → (tryT C mu hi s key last n t σ = none → ∀ M', Fr dFo eG M M' → (∃ L, WK M' L) → K 0 M') → f_X9_followFrom_L3 S0 10 (nI s) (nI hi) (nI key) (if last = true then 1 else 0) EK K (n + 1) (nI t) M
  | 0, t, σ, M, ht, hB, hT, hI, hd, h1, h0 => by
    unfold f_X9_followFrom_L3 f_X9_followFrom_B3
    have c1 := hB.2.1.1.1
    simp only [fx_10_0 hB.1, ex_some, s0_11, true_and, hB.2.1.2.1]
    exact ⟨fun _ => h1 σ rfl M (Fr_refl _ _ _) hT, fun z => absurd (nI_le (by omega) (by omega)) z⟩
  | n + 1, t, σ, M, ht, hB, hT, hI, hd, h1, h0 => by
    unfold f_X9_followFrom_L3
    refine fo1 (BK := EK) hB hT hI hs (by omega) hkey (fun hle M' f' T' => ?_) (fun hgt M' f' W' => h0 (by unfold tryT; rw [if_pos hgt]) M' f' ⟨_, W'⟩)
    obtain ⟨v1, p1⟩ := t1_inv (mu := mu) hB.2.1.1 hI hs hd (show t < cT C by omega) hkey hl hle
    have hsl : s < (tL σ).length := Nat.lt_of_lt_of_le hs hI.1
    have e : tryT C mu hi s key last (n + 1) t σ = tryT C mu hi s key last n (t + 1) (t1 C mu hi s t key last σ) := by
      conv => lhs; unfold tryT
      rw [if_neg (by omega)]
    exact foT hs hkey hl n (t + 1) _ M' (by omega) (BT_fr f' hB) T' v1 (by rw [p1.2 s hsl]; exact hd) (fun σ' hσ M'' f'' T'' => h1 σ' (by rw [e]; exact hσ) M'' (Fr_tr f' f'') T'') (fun hσ M'' f'' W'' => h0 (by rw [e]; exact hσ) M'' (Fr_tr f' f'') W'')
theorem foS {C : Cf} {mu : Option (List Nat)} {hi i key d D len : Nat} {last : Bool} {EK : Mm → Prop} {K : Int32 → Mm → Prop} (hkey : key < 256) (hl : last = true → d = D) (hi8 : i < 8) (hlen : len ≤ 8) (hlast : (nI i = nI len - (1 : Int32)) ↔ last = true) :
    ∀ (n s : Nat) (σ : TS) (M : Mm), s + n = hi → M.1 120 i = nI key → BT C mu M → CT M σ → TIv C hi d D σ → (∀ a, s ≤ a → a < hi → (gt (tL σ) a).2.2.2.2 = d) → (∀ σ', tryS C mu hi key last n s σ = some σ' → ∀ M', Fr dFo eG M M' → CT M' σ' → EK M') → (tryS C mu hi key last n s σ = none → ∀ M', Fr dFo eG M M' → (∃ L, WK M' L) → K 0 M') → f_X9_follow_L44 S0 10 120 (nI len) (nI i) (nI hi) EK K (n + 1) (nI s) M
  | 0, s, σ, M, hs, hk, hB, hT, hI, hd, h1, h0 => by
    unfold f_X9_follow_L44 f_X9_follow_B44
    have := hI.1
    have := hI.2.2.1
    exact ⟨fun _ => h1 σ rfl M (Fr_refl _ _ _) hT, fun z => absurd (nI_le (by omega) (by omega)) z⟩
  | n + 1, s, σ, M, hs, hk, hB, hT, hI, hd, h1, h0 => by
    unfold f_X9_follow_L44 f_X9_follow_B44
    have q1 := hI.1
    have q2 := hI.2.2.1
    refine ⟨fun z => absurd z (nI_ge (by omega) (by omega)), fun _ => ?_⟩
    have hin : vp_in (nI i) 8 := vp_in_nI hi8 (by omega)
    have hcl : (nI i).toNatClampNeg = i := nI_clamp (by omega)
    simp only [shp_ne (show (120 : Nat) ≠ 100000 by decide), s0_120, ex_sh, hin, hcl, true_and, hk]
    rw [hlast]
    have go : ∀ x : Int32, x = (if last = true then 1 else 0) → f_X9_follow_J73 S0 10 120 (nI len) (nI i) (nI hi) (nI s) x (nI key) (nI hi) (nI s) 10 M (fun x7 M => f_X9_follow_L44 S0 10 120 (nI len) (nI i) (nI hi) EK K (n + 1) x7 M) K := by
      intro x hx
      unfold f_X9_follow_J73 f_X9_followFrom
      rw [hx]
      refine ⟨s0_10, cT C + 1, foT (show s < hi by omega) hkey hl (cT C) 0 σ M (by omega) hB hT hI (hd s (by omega) (by omega)) (fun σ1 e1 M1 f1 T1 => ⟨fun z => absurd z (by decide), fun _ => ?_⟩) (fun e1 M1 f1 W1 => ⟨fun _ => h0 (by unfold tryS; rw [e1]) M1 f1 W1, fun z => absurd rfl z⟩)⟩
      simp only [forall_eq, nI_1]
      obtain ⟨v1, p1⟩ := tryT_inv hB.2.1.1 (show s < hi by omega) hkey hl (cT C) 0 σ σ1 (by omega) hI (hd s (by omega) (by omega)) e1
      have e : tryS C mu hi key last (n + 1) s σ = tryS C mu hi key last n (s + 1) σ1 := by
        conv => lhs; unfold tryS
        rw [e1]
      exact foS hkey hl hi8 hlen hlast n (s + 1) σ1 M1 (by omega) ((f1.1 120 i rfl).trans hk) (BT_fr f1 hB) T1 v1 (fun a ha1 ha2 => by rw [p1.2 a (by omega)]; exact hd a (by omega) ha2) (fun σ' hσ M'' f'' T'' => h1 σ' (by rw [e]; exact hσ) M'' (Fr_tr f1 f'') T'') (fun hσ M'' f'' W'' => h0 (by rw [e]; exact hσ) M'' (Fr_tr f1 f'') W'')
    exact ⟨fun z => go 1 (by rw [if_pos z]), fun z => go 0 (by rw [if_neg z])⟩
theorem foI {C : Cf} {mu : Option (List Nat)} {ks : Nat → Nat} {len D : Nat} {EK : Mm → Prop} {K : Int32 → Mm → Prop} (hks : ∀ i, i < len → ks i < 256) (hD : D + 1 = len) (hlen : len ≤ 8) :
    ∀ (n i lo : Nat) (σ : TS) (M : Mm), i + n = len → lo ≤ (tL σ).length → (∀ j, j < len → M.1 120 j = nI (ks j)) → BT C mu M → CT M σ → TIv C (tL σ).length i D σ → (∀ a, lo ≤ a → a < (tL σ).length → (gt (tL σ) a).2.2.2.2 = i) → (∀ σ', tryI C mu ks len n i lo σ = some σ' → ∀ M', Fr dFo eG M M' → CT M' σ' → EK M') → (tryI C mu ks len n i lo σ = none → ∀ M', Fr dFo eG M M' → (∃ L, WK M' L) → K 0 M') → f_X9_follow_L21 S0 10 120 (nI len) EK K (n + 1) (nI lo) (nI i) M
  | 0, i, lo, σ, M, hi, hlo, hk, hB, hT, hI, hd, h1, h0 => by
    unfold f_X9_follow_L21 f_X9_follow_B21
    exact ⟨fun _ => h1 σ rfl M (Fr_refl _ _ _) hT, fun z => absurd (nI_le (by omega) (by omega)) z⟩
  | n + 1, i, lo, σ, M, hi, hlo, hk, hB, hT, hI, hd, h1, h0 => by
    unfold f_X9_follow_L21 f_X9_follow_B21
    refine ⟨fun z => absurd z (nI_ge (by omega) (by omega)), fun _ => ⟨fun z => absurd (show nI 8 ≤ nI i from z) (nI_ge (by omega) (by omega)), fun _ => ?_⟩⟩
    simp only [forall_eq]
    rw [hT.1.1]
    have hl : decide (i + 1 = len) = true → i = D := fun z => by simp only [decide_eq_true_eq] at z; omega
    have hlast : (nI i = nI len - (1 : Int32)) ↔ decide (i + 1 = len) = true := by
      rw [← hD, nI_pred, nI_eq (by omega) (by omega), decide_eq_true_eq]; omega
    refine ⟨(tL σ).length - lo + 1, ?_⟩
    have key := foS (C := C) (mu := mu) (hi := (tL σ).length) (i := i) (key := ks i) (d := i) (D := D) (len := len) (last := decide (i + 1 = len)) (EK := fun m16 => f_X9_follow_L21 S0 10 120 (nI len) EK K (n + 1) (nI (tL σ).length) (nI i + (1 : Int32)) m16) (K := K) (hks i (by omega)) hl (by omega) hlen hlast ((tL σ).length - lo) lo σ M (by omega) (hk i (by omega)) hB hT hI hd (fun σ1 e1 M1 f1 T1 => ?_) (fun e1 M1 f1 W1 => h0 (by unfold tryI; rw [e1]) M1 f1 W1)
    · exact key
    · rw [nI_1]
      obtain ⟨v1, p1⟩ := tryS_inv hB.2.1.1 (hks i (by omega)) hl ((tL σ).length - lo) lo σ σ1 (by omega) hI hd e1
      obtain ⟨v2, d2⟩ := TIv_next v1
      have e : tryI C mu ks len (n + 1) i lo σ = tryI C mu ks len n (i + 1) (tL σ).length σ1 := by
        conv => lhs; unfold tryI
        rw [e1]
      exact foI hks hD hlen n (i + 1) (tL σ).length σ1 M1 (by omega) p1.1 (fun j hj => (f1.1 120 j rfl).trans (hk j hj)) (BT_fr f1 hB) T1 v2 d2 (fun σ' hσ M'' f'' T'' => h1 σ' (by rw [e]; exact hσ) M'' (Fr_tr f1 f'') T'') (fun hσ M'' f'' W'' => h0 (by rw [e]; exact hσ) M'' (Fr_tr f1 f'') W'')
theorem dFo_dE {M M' : Mm} (h : Fr dFo eG M M') : Fr dE eG M M' :=
  Fr_mono (fun b j hd => by unfold dE at hd; unfold dFo; simp only [Bool.or_eq_false_iff, Bool.and_eq_false_iff, beq_eq_false_iff_ne, decide_eq_false_iff_not] at *; omega) (fun b hd => hd) h
theorem follow_ok {C : Cf} {mu : Option (List Nat)} {ks : Nat → Nat} {len A B : Nat} {M : Mm} {K : Int32 → Mm → Prop} (hF : FX M) (hV : V_walk M) (hC : CC M C) (hmu : mC M mu) (e0 : M.2.1 113 0 = lN A) (e1 : M.2.1 113 1 = lN B) (hsi : SI C A B) (hks : ∀ i, i < len → ks i < 256) (hl1 : 1 ≤ len) (hlen : len ≤ 8) (hk : ∀ j, j < len → M.1 120 j = nI (ks j))
    (h1 : ∀ σ', tryI C mu ks len len 0 0 (ts0 A B) = some σ' → ∀ M', Fr dE eG M M' → CT M' σ' → V_walk M' → K 1 M') (h0 : tryI C mu ks len len 0 0 (ts0 A B) = none → ∀ M', Fr dE eG M M' → V_walk M' → K 0 M') : f_X9_follow S0 10 113 120 (nI len) M K := by
  unfold f_X9_follow
  obtain ⟨X, Y, hXY⟩ := wy_of hV
  obtain ⟨sX, sY, nXY⟩ := wy_sh hXY
  have hX12 : X = 111 ∨ X = 112 := by rcases hXY.2.2 with z | z <;> omega
  refine begin_w (q := 113) (mo := 4000) hF hV (by omega) hsi.1 hsi.2.1 e0 e1 (by omega) (by omega) (by omega) (fun M1 f1 W1 q11 _ _ q14 _ _ q17 q18 => ?_)
  have f1' := dG_dE f1
  have wy1 : wy M1 X Y := by unfold wy; rw [f1.2.2]; exact hXY
  have hin0 : vp_in (0 : Int32) 4000 := by unfold vp_in; decide
  have hcl0 : (0 : Int32).toNatClampNeg = 0 := by decide
  simp only [wy1.1, ex_some, sX, ex_sh, hin0, hcl0, true_and, forall_eq]
  have f2 : Fr dE eG M (stJ M1 X 0 1) := Fr_J (by rcases hX12 with rfl | rfl <;> rfl) f1'
  have W2 : WK (stJ M1 X 0 1) (tL (ts0 A B)) := WK_mo (M := M1) (fun b hb => rfl) rfl (fun b hb => by rw [stJ_row (by omega)]) W1
  have T2 : CT (stJ M1 X 0 1) (ts0 A B) := by
    refine ⟨W2, ⟨X, Y, wy1, fun s hs => ?_⟩, q14, q17, ?_⟩
    · have hs : s < 1 := hs
      have : s = 0 := by omega
      subst this
      rw [stJ_get]; rfl
    · rw [stJ_row (by omega)]; exact q18
  have B2 : BT C mu (stJ M1 X 0 1) := ⟨FX_fr f2 hF, CC_dE f2 hC, mC_dE f2 hmu, q11⟩
  have wk : ∀ M', M'.2.2 = M.2.2 → (∃ L, WK M' L) → V_walk M' := fun M' e ⟨L, h⟩ => WK_walk h (by rw [e]; exact hV.2)
  obtain ⟨v0, d0⟩ := TIv_0 (D := len - 1) hsi
  refine ⟨len + 1, foI (C := C) (mu := mu) (ks := ks) (D := len - 1) hks (by omega) hlen len 0 0 (ts0 A B) _ (by omega) (by omega) (fun j hj => (f2.1 120 j rfl).trans (hk j hj)) B2 T2 v0 d0 (fun σ' hσ M' f' T' => h1 σ' hσ M' (Fr_tr f2 (dFo_dE f')) T' (wk M' (f'.2.2.trans f2.2.2) ⟨_, T'.1⟩)) (fun hσ M' f' W' => h0 hσ M' (Fr_tr f2 (dFo_dE f')) (wk M' (f'.2.2.trans f2.2.2) W'))⟩
/-- a typing's key as it is tried, the set x left out -/
def ksf (ty : Nat → Nat) (ky x i : Nat) : Nat := if ty i ≤ ky ∧ x.testBit i = false then ty i else 0
def d120 : Nat → Nat → Bool := fun b _ => b == 120
theorem prep_L {ty : Nat → Nat} {ky x len : Nat} {M0 : Mm} {EK K : Mm → Prop} (hF0 : FX M0) (hx : x < 256) (hky : ky < 5) (hlen : len ≤ 8) (h2 : M0.1 118 2 = nI len) (hty : ∀ j, j < len → M0.1 119 j = nI (ty j) ∧ ty j < 5) (hK : ∀ M', Fr d120 eN M0 M' → (∀ j, j < len → M'.1 120 j = nI (ksf ty ky x j)) → EK M') :
    ∀ (r i : Nat) (M : Mm), i + r = len → Fr d120 eN M0 M → (∀ j, j < i → M.1 120 j = nI (ksf ty ky x j)) → f_X8_prepare_L2 S0 118 (nI x) (nI ky) EK K (r + 1) (nI i) M
  | 0, i, M, hi, hf, hv => by
    unfold f_X8_prepare_L2 f_X8_prepare_B2
    rw [hf.1 118 2 rfl, h2]
    have e : i = len := by omega
    subst e
    exact ⟨fun _ => hK M hf hv, fun z => absurd (nI_le (Nat.le_refl _) (by omega)) z⟩
  | r + 1, i, M, hi, hf, hv => by
    unfold f_X8_prepare_L2 f_X8_prepare_B2
    have hF := FX_fr hf hF0
    obtain ⟨t1, t2⟩ := hty i (by omega)
    have hin : vp_in (nI i) 8 := vp_in_nI (by omega) (by omega)
    have hcl : (nI i).toNatClampNeg = i := nI_clamp (by omega)
    have i119 : M.1 119 i = nI (ty i) := (hf.1 119 i rfl).trans t1
    rw [hf.1 118 2 rfl, h2]
    refine ⟨fun z => absurd z (nI_ge (by omega) (by omega)), fun _ => ?_⟩
    simp only [fx_118_0 hF, ex_some, shp_ne (show (119 : Nat) ≠ 100000 by decide), s0_119, ex_sh, hin, hcl, true_and, i119]
    rw [nI_ltI (by omega) (by omega), bt12 (by omega) (by omega)]
    have go : ∀ v, v = ksf ty ky x i → f_X8_prepare_L2 S0 118 (nI x) (nI ky) EK K (r + 1) (nI (i + 1)) (stI M 120 i (nI v)) := by
      intro v hv'
      refine prep_L hF0 hx hky hlen h2 hty hK r (i + 1) _ (by omega) (Fr_I rfl hf) (fun j hj => ?_)
      rw [rI]
      by_cases e : j = i
      · rw [if_pos ⟨rfl, e⟩, hv', e]
      · rw [if_neg (fun z => e z.2)]; exact hv j (by omega)
    have no : ¬ (ty i ≤ ky ∧ x.testBit i = false) → f_X8_prepare_J32 S0 118 (nI x) (nI ky) (nI i) M (fun x3 M => f_X8_prepare_L2 S0 118 (nI x) (nI ky) EK K (r + 1) x3 M) K := by
      intro hn
      unfold f_X8_prepare_J32 f_X8_prepare_J33
      simp only [fx_118_1 hF, ex_some]
      refine ⟨fun _ => ?_, fun z => absurd trivial z⟩
      simp only [s0_120, ex_sh, hin, hcl, true_and, forall_eq, nI_1]
      exact go 0 (by unfold ksf; rw [if_neg hn])
    refine ⟨fun z => no (fun q => by omega), fun z => ⟨fun y => ?_, fun y => no (fun q => y q.2)⟩⟩
    unfold f_X8_prepare_J33
    simp only [fx_118_1 hF, ex_some]
    refine ⟨fun q => absurd q (by decide), fun _ => ?_⟩
    simp only [fx_118_0 hF, ex_some, shp_ne (show (119 : Nat) ≠ 100000 by decide), s0_119, s0_120, ex_sh, hin, hcl, true_and, forall_eq, nI_1, i119]
    exact go (ty i) (by unfold ksf; rw [if_pos ⟨by omega, y⟩])
theorem prep_ok {ty : Nat → Nat} {ky x len : Nat} {M : Mm} {K : Mm → Prop} (hF : FX M) (hx : x < 256) (hky : ky < 5) (hlen : len ≤ 8) (h2 : M.1 118 2 = nI len) (hty : ∀ j, j < len → M.1 119 j = nI (ty j) ∧ ty j < 5) (hK : ∀ M', Fr d120 eN M M' → (∀ j, j < len → M'.1 120 j = nI (ksf ty ky x j)) → K M') : f_X8_prepare S0 118 (nI x) (nI ky) M K := by
  unfold f_X8_prepare
  exact ⟨len + 1, prep_L hF hx hky hlen h2 hty hK len 0 M (by omega) (Fr_refl _ _ _) (fun j hj => absurd hj (by omega))⟩
