/-! fits, many -/
theorem typ_of {M : Mm} (hV : V M) : ∃ (len : Nat) (ty : Nat → Nat), len ≤ 8 ∧ M.1 118 2 = nI len ∧ M.1 142 60 = nI len ∧ ∀ j, j < len → M.1 119 j = nI (ty j) ∧ M.1 173 j = nI (ty j) ∧ ty j < 5 := by
  obtain ⟨n, h1, h2, h3, h4⟩ := hV.2.2.1
  refine ⟨n, fun j => (M.1 119 j).toNatClampNeg, h1, h2, h3, fun j hj => ?_⟩
  obtain ⟨e, q, hq, eq⟩ := h4 j hj
  have hc : (M.1 119 j).toNatClampNeg = q := by rw [eq]; exact nI_clamp (by omega)
  show M.1 119 j = nI (M.1 119 j).toNatClampNeg ∧ M.1 173 j = nI (M.1 119 j).toNatClampNeg ∧ (M.1 119 j).toNatClampNeg < 5
  rw [hc]
  exact ⟨eq, e.symm.trans eq, hq⟩
theorem tryI_inv {C : Cf} {mu : Option (List Nat)} {ks : Nat → Nat} {len D : Nat} (hC : CO C) (hks : ∀ i, i < len → ks i < 256) (hD : D + 1 = len) : ∀ (n i lo : Nat) (σ σ' : TS), i + n = len → lo ≤ (tL σ).length → TIv C (tL σ).length i D σ → (∀ a, lo ≤ a → a < (tL σ).length → (gt (tL σ) a).2.2.2.2 = i) → tryI C mu ks len n i lo σ = some σ' → ∃ d, TIv C (tL σ').length d D σ'
  | 0, i, lo, σ, σ', hi, hlo, hI, hd, e => by
    simp only [tryI, Option.some.injEq] at e
    rw [← e]; exact ⟨i, hI⟩
  | n + 1, i, lo, σ, σ', hi, hlo, hI, hd, e => by
    unfold tryI at e
    split at e
    · exact absurd e (by simp)
    · rename_i σ1 e1
      obtain ⟨v1, p1⟩ := tryS_inv hC (hks i (by omega)) (fun z => by simp only [decide_eq_true_eq] at z; omega) ((tL σ).length - lo) lo σ σ1 (by omega) hI hd e1
      obtain ⟨v2, d2⟩ := TIv_next v1
      exact tryI_inv hC hks hD n (i + 1) (tL σ).length σ1 σ' (by omega) p1.1 v2 d2 e
theorem ksf_lt {ty : Nat → Nat} {ky x i : Nat} (hky : ky < 5) : ksf ty ky x i ≤ ky ∧ ksf ty ky x i < 256 := by
  unfold ksf
  by_cases e : ty i ≤ ky ∧ x.testBit i = false
  · rw [if_pos e]; omega
  · rw [if_neg e]; omega
def dFl : Nat → Nat → Bool := fun b j => dE b j || b == 120
theorem dFl_run {M M' : Mm} (h : Fr dFl eG M M') : Fr dRun eRun M M' :=
  Fr_mono (fun b j hd => by unfold dRun at hd; unfold dFl dE; simp only [Bool.or_eq_false_iff, Bool.and_eq_false_iff, beq_eq_false_iff_ne, decide_eq_false_iff_not] at *; omega) (fun b hd => by unfold eRun at hd; unfold eG; simp only [Bool.or_eq_false_iff, Bool.and_eq_false_iff, beq_eq_false_iff_ne, decide_eq_false_iff_not] at *; omega) h
theorem d120_fl {M M' : Mm} (h : Fr d120 eN M M') : Fr dFl eG M M' :=
  Fr_mono (fun b j hd => by unfold dFl at hd; unfold d120; simp only [Bool.or_eq_false_iff] at hd; exact hd.2) (fun b hd => rfl) h
theorem dE_fl {M M' : Mm} (h : Fr dE eG M M') : Fr dFl eG M M' :=
  Fr_mono (fun b j hd => by unfold dFl at hd; simp only [Bool.or_eq_false_iff] at hd; exact hd.1) (fun b hd => hd) h
theorem PM_T {C : Cf} {ky A B : Nat} {F : F4} {mu : Option (List Nat)} {M M1 : Mm} (hF : FX M) (hCM : CM M C) (k27 : M.1 142 27 = nI ky) (hs : MS M A B) (hf : MF M F) (hmM : mM M mu) (f1 : Fr dFl eG M M1) (w1 : V_walk M1) : PM C ky A B F mu M M1 :=
  ⟨dFl_run f1, FX_fr f1 hF, CM_ag (f1.1 _ _ rfl) (f1.1 _ _ rfl) (f1.1 _ _ rfl) (f1.1 _ _ rfl) (f1.1 _ _ rfl) (Fr_row f1 _ (fun _ => rfl)) (Fr_row f1 _ (fun _ => rfl)) (Fr_row f1 _ (fun _ => rfl)) (Fr_row f1 _ (fun _ => rfl)) (Fr_row f1 _ (fun _ => rfl)) (Fr_row f1 _ (fun _ => rfl)) (Fr_row f1 _ (fun _ => rfl)) (Fr_row f1 _ (fun _ => rfl)) hCM, (f1.1 142 27 rfl).trans k27, MS_ag (Fr_row f1 _ fun _ => rfl) (Fr_row f1 _ fun _ => rfl) (Fr_row f1 _ fun _ => rfl) (Fr_row f1 _ fun _ => rfl) hs, ⟨(f1.1 142 28 rfl).trans hf.1, (f1.1 142 29 rfl).trans hf.2.1, (f1.1 142 30 rfl).trans hf.2.2.1, (f1.1 142 31 rfl).trans hf.2.2.2⟩, mM_ag (Fr_row f1 _ fun _ => rfl) (Fr_row f1 _ fun _ => rfl) (f1.1 _ _ rfl) hmM, w1⟩
/-- the class prepares and follows -/
theorem preFol {C : Cf} {mu : Option (List Nat)} {ty : Nat → Nat} {ky x len A B : Nat} {F : F4} {M : Mm} {K : Int32 → Mm → Prop} (hF : FX M) (hwk : V_walk M) (hC : CC M C) (hmC : mC M mu) (hm : MO M 113 A B F) (hsi : SI C A B) (hx : x < 256) (hky : ky < 5) (hl1 : 1 ≤ len) (hlen : len ≤ 8) (h2 : M.1 118 2 = nI len) (hty : ∀ j, j < len → M.1 119 j = nI (ty j) ∧ ty j < 5)
    (h1 : ∀ σ, tryI C mu (ksf ty ky x) len len 0 0 (ts0 A B) = some σ → ∀ M', Fr dFl eG M M' → CT M' σ → V_walk M' → K 1 M') (h0 : tryI C mu (ksf ty ky x) len len 0 0 (ts0 A B) = none → ∀ M', Fr dFl eG M M' → V_walk M' → K 0 M') : f_X8_prepare S0 118 (nI x) (nI ky) M (fun m4 => f_X9_follow S0 10 113 120 (nI len) m4 K) := by
  refine prep_ok hF hx hky hlen h2 hty (fun M1 f1 k1 => ?_)
  have f1' := d120_fl f1
  have hpr : ∀ a, prc a → M1.1 a = M.1 a := fun a ha => Fr_row f1 a (fun j => by unfold prc at ha; unfold d120; simp only [beq_eq_false_iff_ne]; omega)
  refine follow_ok (C := C) (mu := mu) (ks := ksf ty ky x) (FX_fr f1 hF) (walk_fr f1 rfl (fun _ => rfl) (fun _ => rfl) hwk) (CC_ag hpr (f1.1 _ _ rfl) (f1.1 _ _ rfl) (f1.1 _ _ rfl) (Fr_row f1 _ (fun _ => rfl)) (by rw [f1.2.2]) (by rw [f1.2.2]) (by rw [f1.2.2]) hC) (mC_ag hpr (by rw [f1.2.2]) hmC) (by rw [f1.2.1 113 rfl]; exact hm.2.2.1) (by rw [f1.2.1 113 rfl]; exact hm.2.2.2.1) hsi (fun i _ => (ksf_lt hky).2) hl1 hlen k1 (fun σ hσ M2 f2 T2 w2 => h1 σ hσ M2 (Fr_tr f1' (dE_fl f2)) T2 w2) (fun hσ M2 f2 w2 => h0 hσ M2 (Fr_tr f1' (dE_fl f2)) w2)
theorem followed_ok {C : Cf} {mu : Option (List Nat)} {ty : Nat → Nat} {ky len A B : Nat} {F : F4} {M : Mm} {K : Int32 → Mm → Prop} (hF : FX M) (hwk : V_walk M) (hC : CC M C) (hmC : mC M mu) (hm : MO M 113 A B F) (hsi : SI C A B) (hky : ky < 5) (k13 : M.1 11 13 = nI ky) (hl1 : 1 ≤ len) (hlen : len ≤ 8) (h2 : M.1 118 2 = nI len) (hty : ∀ j, j < len → M.1 119 j = nI (ty j) ∧ ty j < 5)
    (h1 : ∀ σ, tryI C mu (ksf ty ky 0) len len 0 0 (ts0 A B) = some σ → ∀ M', Fr dFl eG M M' → CT M' σ → V_walk M' → K 1 M') (h0 : tryI C mu (ksf ty ky 0) len len 0 0 (ts0 A B) = none → ∀ M', Fr dFl eG M M' → V_walk M' → K 0 M') : f_X10_followed S0 0 M K := by
  unfold f_X10_followed
  simp only [fx_0_7 hF, fx_0_2 hF, ex_some, s0_11, s0_118, true_and, k13]
  refine prep_ok (x := 0) hF (by omega) hky hlen h2 hty (fun M1 f1 k1 => ?_)
  have hF1 := FX_fr f1 hF
  have f1' := d120_fl f1
  have hpr : ∀ a, prc a → M1.1 a = M.1 a := fun a ha => Fr_row f1 a (fun j => by unfold prc at ha; unfold d120; simp only [beq_eq_false_iff_ne]; omega)
  simp only [fx_0_7 hF1, fx_0_1 hF1, fx_0_3 hF1, fx_118_1 hF1, ex_some, s0_10, s0_113, s0_118, true_and, (f1.1 118 2 rfl).trans h2]
  refine follow_ok (C := C) (mu := mu) (ks := ksf ty ky 0) (FX_fr f1 hF) (walk_fr f1 rfl (fun _ => rfl) (fun _ => rfl) hwk) (CC_ag hpr (f1.1 _ _ rfl) (f1.1 _ _ rfl) (f1.1 _ _ rfl) (Fr_row f1 _ (fun _ => rfl)) (by rw [f1.2.2]) (by rw [f1.2.2]) (by rw [f1.2.2]) hC) (mC_ag hpr (by rw [f1.2.2]) hmC) (by rw [f1.2.1 113 rfl]; exact hm.2.2.1) (by rw [f1.2.1 113 rfl]; exact hm.2.2.2.1) hsi (fun i _ => (ksf_lt hky).2) hl1 hlen k1 (fun σ hσ M2 f2 T2 w2 => ⟨Or.inr rfl, h1 σ hσ M2 (Fr_tr f1' (dE_fl f2)) T2 w2⟩) (fun hσ M2 f2 w2 => ⟨Or.inl rfl, h0 hσ M2 (Fr_tr f1' (dE_fl f2)) w2⟩)
/-- what the model's part may change -/
def dTm : Nat → Nat → Bool := fun b j => dTy b j || dRm0 b j || dCb b j
theorem dTm_run {M M' : Mm} (h : Fr dTm eTy M M') : Fr dRun eRun M M' :=
  Fr_mono (fun b j hd => by unfold dRun at hd; unfold dTm dTy dRm0 dCb dQ; simp only [Bool.or_eq_false_iff, Bool.and_eq_false_iff, beq_eq_false_iff_ne, decide_eq_false_iff_not] at *; omega) (fun b hd => by unfold eRun at hd; unfold eTy; simp only [Bool.or_eq_false_iff, Bool.and_eq_false_iff, beq_eq_false_iff_ne, decide_eq_false_iff_not] at *; omega) h
theorem dTy_tm {M M' : Mm} (h : Fr dTy eTy M M') : Fr dTm eTy M M' :=
  Fr_mono (fun b j hd => by unfold dTm at hd; simp only [Bool.or_eq_false_iff] at hd; exact hd.1.1) (fun b hd => hd) h
theorem dRm0_tm {M M' : Mm} (h : Fr dRm0 e142 M M') : Fr dTm eTy M M' :=
  Fr_mono (fun b j hd => by unfold dTm at hd; simp only [Bool.or_eq_false_iff] at hd; exact hd.1.2) (fun b hd => by unfold eTy at hd; unfold e142; simp only [Bool.or_eq_false_iff] at *; exact hd.2) h
theorem dCb_tm {M M' : Mm} (h : Fr dCb eN M M') : Fr dTm eTy M M' :=
  Fr_mono (fun b j hd => by unfold dTm at hd; simp only [Bool.or_eq_false_iff] at hd; exact hd.2) (fun b hd => rfl) h
theorem MTy_dCb {M M' : Mm} {σ : TS} {hi : Nat} (h : Fr dCb eN M M') (hT : MTy M σ hi) : MTy M' σ hi := by
  obtain ⟨W, Wp, Wr, W63, W64, W65, W66⟩ := hT
  refine ⟨WM_ag (h.1 _ _ rfl) (h.2.1 _ rfl) (h.2.1 _ rfl) (Fr_row h _ fun _ => rfl) W, fun s a b => ?_, fun s a => ?_, (h.1 142 63 rfl).trans W63, ?_, fun z => (h.1 142 65 rfl).trans (W65 z), fun p hp => ?_⟩
  · rw [h.1 162 s rfl, h.1 163 s rfl]; exact Wp s a b
  · rw [h.2.1 174 rfl]; exact Wr s a
  · rw [h.2.1 142 rfl]; exact W64
  · rw [h.1 142 65 rfl, h.1 142 66 rfl]; exact W66 p hp
/-- the model types with nothing left out, and comes back -/
theorem typM {C : Cf} {mu : Option (List Nat)} {ty : Nat → Nat} {ky len A B : Nat} {F : F4} {M M1 : Mm} {KM : Mm → Prop} (pm : PM C ky A B F mu M M1) (hsi : SI C A B) (hky : ky < 5) (hl1 : 1 ≤ len) (hlen : len ≤ 8) (h60 : M1.1 142 60 = nI len) (hty : ∀ j, j < len → M1.1 173 j = nI (ty j) ∧ ty j < 5)
    (h1 : ∀ σ, tryI C mu (ksf ty ky 0) len len 0 0 (ts0 A B) = some σ → ∀ M4 hi, Fr dTm eTy M1 M4 → MTy M4 σ hi → M4.1 142 62 = 0 → MS M4 A B → MF M4 F → M4.1 142 33 = 0 → KM M4) (h0 : tryI C mu (ksf ty ky 0) len len 0 0 (ts0 A B) = none → ∀ M4, Fr dTm eTy M1 M4 → M4.1 142 62 = 1 → MS M4 A B → MF M4 F → M4.1 142 33 = 0 → KM M4) : f_X11_remembers S0 142 (stI M1 142 0 0) (fun m4 => f_X11_types S0 142 (0 : Int32) m4 (fun m5 => f_X11_comesBack S0 142 m5 KM)) := by
  obtain ⟨p1, p2, p3, p4, p5, p6, p7, p8⟩ := pm
  refine runM2 (ky := ky) (A := A) (B := B) (F := F) p2 p3 p4 p5 p6 (fun M2 f2 b2 r2 => ?_)
  have f2' := dRm0_tm f2
  refine types_ok (C := C) (mu := mu) (ky := ky) (len := len) (x := 0) (A := A) (B := B) (ty := ty) ⟨b2.1, b2.2.1, mM_ag (Fr_row f2 _ fun _ => rfl) (Fr_row f2 _ fun _ => rfl) (f2.1 _ _ rfl) p7, b2.2.2, (f2.1 142 60 rfl).trans h60⟩ hky (by omega) hl1 hlen hsi r2.1 r2.2.1 (fun j hj => ⟨(f2.1 173 j rfl).trans (hty j hj).1, (hty j hj).2⟩) (fun σ hσ M3 hi f3 T3 z3 => ?_) (fun hσ M3 f3 z3 => ?_)
  · refine comes_ok (FX_fr f3.1 b2.1) (RM_frT f3 r2) (fun M4 f4 m4 mf4 z4 => h1 σ hσ M4 hi (Fr_tr f2' (Fr_tr (dTy_tm f3.1) (dCb_tm f4))) (MTy_dCb f4 T3) ((f4.1 142 62 rfl).trans z3) m4 mf4 z4)
  · refine comes_ok (FX_fr f3.1 b2.1) (RM_frT f3 r2) (fun M4 f4 m4 mf4 z4 => h0 hσ M4 (Fr_tr f2' (Fr_tr (dTy_tm f3.1) (dCb_tm f4))) ((f4.1 142 62 rfl).trans z3) m4 mf4 z4)
theorem typV {C : Cf} {mu : Option (List Nat)} {ky A B : Nat} {F : F4} {M M1 M4 M5 : Mm} (hV : V M) (hm : MO M 113 A B F) (pm : PM C ky A B F mu M M1) (f4 : Fr dTm eTy M1 M4) (ms : MS M4 A B) (mf : MF M4 F) (z4 : M4.1 142 33 = 0) (f5 : Fr dWy eWy M4 M5) (td : V_told M5) : V M5 := by
  refine V_run hV (Fr_tr pm.1 (Fr_tr (dTm_run f4) (dWy_run f5))) ((f5.1 142 33 rfl).trans z4) hm (MS_ag (Fr_row f5 _ fun _ => rfl) (Fr_row f5 _ fun _ => rfl) (Fr_row f5 _ fun _ => rfl) (Fr_row f5 _ fun _ => rfl) ms) ⟨(f5.1 142 28 rfl).trans mf.1, (f5.1 142 29 rfl).trans mf.2.1, (f5.1 142 30 rfl).trans mf.2.2.1, (f5.1 142 31 rfl).trans mf.2.2.2⟩ (walk_fr f5 rfl (fun _ => rfl) (fun _ => rfl) (walk_fr f4 rfl (fun _ => rfl) (fun _ => rfl) pm.2.2.2.2.2.2.2)) td
theorem told_tm {M M' : Mm} (h : Fr dTm eTy M M') (t : V_told M) : V_told M' := told_fr h rfl rfl rfl rfl t
theorem wayF_L {w s : Nat} {L : List En} {M0 : Mm} {EK : Mm → Prop} {K : Int32 → Mm → Prop} (hF0 : FX M0) (hD0 : ∀ s, s < L.length → s ≠ 0 → M0.1 162 s = nI (gt L s).2.2.1 ∧ M0.1 163 s = nI (gt L s).2.2.2.1) (hlen : L.length ≤ 4000) (hT : TR w L) (hw : w ≤ 32) (hs : s < L.length) (hd : (gt L s).2.2.2.2 ≤ 20) (hK : ∀ M', M'.1 = M0.1 → M'.2.2 = M0.2.2 → (∀ b, b ≠ 143 → M'.2.1 b = M0.2.1 b) → (∀ j, j < (gt L s).2.2.2.2 → M'.2.1 143 ((gt L s).2.2.2.2 - 1 - j) = lN (gt L (an L s j)).2.2.2.1) → EK M') :
    ∀ (r j : Nat) (M : Mm), j + r = (gt L s).2.2.2.2 → M.1 = M0.1 → M.2.2 = M0.2.2 → (∀ b, b ≠ 143 → M.2.1 b = M0.2.1 b) → (∀ i, i < j → M.2.1 143 ((gt L s).2.2.2.2 - 1 - i) = lN (gt L (an L s i)).2.2.2.1) → f_X11_fits_L65 S0 142 EK K (r + 1) (nI (an L s j)) (nI r + (-1 : Int32)) M
  | 0, j, M, hj, h1, h2, h3, h4 => by
    unfold f_X11_fits_L65 f_X11_fits_B65
    exact ⟨fun _ => hK M h1 h2 h3 (fun i hi => h4 i (by omega)), fun z => absurd neg1 z⟩
  | r + 1, j, M, hj, h1, h2, h3, h4 => by
    unfold f_X11_fits_L65 f_X11_fits_B65
    have hF : FX M := FX_ag h2 hF0
    have a1 := (an_lt hT hs j (by omega)).1
    have nz := an_nz hT hs (show j < (gt L s).2.2.2.2 by omega)
    have a2 := (hT.2 _ a1 nz).2.1
    obtain ⟨q1, q2⟩ := hD0 _ a1 nz
    rw [pk_m1]
    have hin : vp_in (nI (an L s j)) 4001 := vp_in_nI (by omega) (by omega)
    have hcl : (nI (an L s j)).toNatClampNeg = an L s j := nI_clamp (by omega)
    have hinr : vp_in (nI r) 64 := vp_in_nI (by omega) (by omega)
    have hclr : (nI r).toNatClampNeg = r := nI_clamp (by omega)
    have e163 : M.1 163 (an L s j) = nI (gt L (an L s j)).2.2.2.1 := by rw [h1]; exact q2
    have e162 : ∀ x, (stJ M 143 r x).1 162 (an L s j) = nI (gt L (an L s j)).2.2.1 := fun x => by
      show M.1 162 _ = _
      rw [h1]; exact q1
    refine ⟨fun z => absurd z (nI_pos (by omega)), fun _ => ?_⟩
    simp only [rJr, fx_142_2 hF, fx_142_40 hF, fx_142_41 hF, ex_some, shp_ne (show (162 : Nat) ≠ 100000 by decide), shp_ne (show (163 : Nat) ≠ 100000 by decide), s0_143, s0_162, s0_163, ex_sh, hin, hcl, hinr, hclr, true_and, forall_eq, e163, e162, nI_l (show (gt L (an L s j)).2.2.2.1 < 2 ^ 31 by omega)]
    refine wayF_L hF0 hD0 hlen hT hw hs hd hK r (j + 1) _ (by omega) h1 h2 (fun b hb => (stJ_row hb).trans (h3 b hb)) (fun i hi => ?_)
    by_cases e : i = j
    · subst e
      rw [rJ, if_pos ⟨rfl, by omega⟩]
    · rw [rJ, if_neg (by omega)]; exact h4 i (by omega)
theorem sub2 {D : Nat} : nI (D + 1) - (2 : Int32) = nI D + (-1 : Int32) := by
  rw [← nI_1, Int32.sub_eq_add_neg, Int32.add_assoc]
  rfl
