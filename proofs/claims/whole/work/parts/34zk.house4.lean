/-! houses: given, letter -/
def adC (H : HX) (n h w m : Nat) : HX := (upn (hch H) n h, upn (hcw H) n w, upn (hcm H) n m, hls H, hlr H, hlt H, hlc H)
def adL (H : HX) (n f t s c : Nat) : HX := (hch H, hcw H, hcm H, upn (hls H) n f, upn (hlr H) n t, upn (hlt H) n s, upn (hlc H) n c)
theorem HS_case {M M' : Mm} {nc nl h w m : Nat} {H : HX} (hS : HS M nc nl H) (hn : nc < 12) (hh : h < 6) (hw : w < 100) (hm : m < 256) (e8 : M'.1 121 8 = nI (nc + 1)) (e9 : M'.1 121 9 = M.1 121 9) (r1 : ∀ j, M'.1 122 j = if j = nc then nI h else M.1 122 j) (r2 : ∀ j, M'.1 123 j = if j = nc then nI w else M.1 123 j) (r3 : ∀ j, M'.1 124 j = if j = nc then nI m else M.1 124 j) (r4 : ∀ a, 125 ≤ a → a ≤ 128 → M'.1 a = M.1 a) : HS M' (nc + 1) nl (adC H nc h w m) := by
  refine ⟨by omega, hS.2.1, e8, e9.trans hS.2.2.2.1, fun j hj => ?_, fun j hj => ?_⟩
  · rw [r1, r2, r3]
    by_cases e : j = nc
    · subst e
      rw [if_pos rfl, if_pos rfl, if_pos rfl]
      refine ⟨?_, ?_, ?_, ?_, ?_, ?_⟩ <;> show _ <;> first | (show nI _ = nI (upn _ _ _ _); rw [upn_eq]) | (show upn _ _ _ _ < _; rw [upn_eq]; assumption)
    · rw [if_neg e, if_neg e, if_neg e]
      obtain ⟨a1, a2, a3, a4, a5, a6⟩ := hS.2.2.2.2.1 j (by omega)
      show M.1 122 j = nI (upn (hch H) nc h j) ∧ M.1 123 j = nI (upn (hcw H) nc w j) ∧ M.1 124 j = nI (upn (hcm H) nc m j) ∧ upn (hch H) nc h j < 6 ∧ upn (hcw H) nc w j < 100 ∧ upn (hcm H) nc m j < 256
      rw [upn_ne e, upn_ne e, upn_ne e]
      exact ⟨a1, a2, a3, a4, a5, a6⟩
  · rw [r4 125 (by omega) (by omega), r4 126 (by omega) (by omega), r4 127 (by omega) (by omega), r4 128 (by omega) (by omega)]
    exact hS.2.2.2.2.2 j hj
theorem HMo_case {M M' : Mm} {nc nl h w m : Nat} {H : HX} (hS : HMo M nc nl H) (hn : nc < 12) (hh : h < 6) (hw : w < 100) (hm : m < 256) (e8 : M'.1 142 70 = nI (nc + 1)) (e9 : M'.1 142 74 = M.1 142 74) (r1 : ∀ j, M'.1 177 j = if j = nc then nI h else M.1 177 j) (r2 : ∀ j, M'.1 178 j = if j = nc then nI w else M.1 178 j) (r3 : ∀ j, M'.1 179 j = if j = nc then nI m else M.1 179 j) (r4 : ∀ a, 180 ≤ a → a ≤ 183 → M'.1 a = M.1 a) : HMo M' (nc + 1) nl (adC H nc h w m) := by
  refine ⟨by omega, hS.2.1, e8, e9.trans hS.2.2.2.1, fun j hj => ?_, fun j hj => ?_⟩
  · rw [r1, r2, r3]
    by_cases e : j = nc
    · subst e
      rw [if_pos rfl, if_pos rfl, if_pos rfl]
      refine ⟨?_, ?_, ?_, ?_, ?_, ?_⟩ <;> show _ <;> first | (show nI _ = nI (upn _ _ _ _); rw [upn_eq]) | (show upn _ _ _ _ < _; rw [upn_eq]; assumption)
    · rw [if_neg e, if_neg e, if_neg e]
      obtain ⟨a1, a2, a3, a4, a5, a6⟩ := hS.2.2.2.2.1 j (by omega)
      show M.1 177 j = nI (upn (hch H) nc h j) ∧ M.1 178 j = nI (upn (hcw H) nc w j) ∧ M.1 179 j = nI (upn (hcm H) nc m j) ∧ upn (hch H) nc h j < 6 ∧ upn (hcw H) nc w j < 100 ∧ upn (hcm H) nc m j < 256
      rw [upn_ne e, upn_ne e, upn_ne e]
      exact ⟨a1, a2, a3, a4, a5, a6⟩
  · rw [r4 180 (by omega) (by omega), r4 181 (by omega) (by omega), r4 182 (by omega) (by omega), r4 183 (by omega) (by omega)]
    exact hS.2.2.2.2.2 j hj
theorem HS_let {M M' : Mm} {nc nl f t s c : Nat} {H : HX} (hS : HS M nc nl H) (hn : nl < 12) (hf : f < 6) (ht : t < 6) (hs : s < 100) (hc : c < 150) (e8 : M'.1 121 9 = nI (nl + 1)) (e9 : M'.1 121 8 = M.1 121 8) (r1 : ∀ j, M'.1 125 j = if j = nl then nI f else M.1 125 j) (r2 : ∀ j, M'.1 126 j = if j = nl then nI t else M.1 126 j) (r3 : ∀ j, M'.1 127 j = if j = nl then nI s else M.1 127 j) (r5 : ∀ j, M'.1 128 j = if j = nl then nI c else M.1 128 j) (r4 : ∀ a, 122 ≤ a → a ≤ 124 → M'.1 a = M.1 a) : HS M' nc (nl + 1) (adL H nl f t s c) := by
  refine ⟨hS.1, by omega, e9.trans hS.2.2.1, e8, fun j hj => ?_, fun j hj => ?_⟩
  · rw [r4 122 (by omega) (by omega), r4 123 (by omega) (by omega), r4 124 (by omega) (by omega)]
    exact hS.2.2.2.2.1 j hj
  · rw [r1, r2, r3, r5]
    show (if j = nl then nI f else M.1 125 j) = nI (upn (hls H) nl f j) ∧ (if j = nl then nI t else M.1 126 j) = nI (upn (hlr H) nl t j) ∧ (if j = nl then nI s else M.1 127 j) = nI (upn (hlt H) nl s j) ∧ (if j = nl then nI c else M.1 128 j) = nI (upn (hlc H) nl c j) ∧ upn (hls H) nl f j < 6 ∧ upn (hlr H) nl t j < 6 ∧ upn (hlt H) nl s j < 100 ∧ upn (hlc H) nl c j < 150
    by_cases e : j = nl
    · subst e
      simp only [if_true, upn_eq]
      exact ⟨trivial, trivial, trivial, trivial, hf, ht, hs, hc⟩
    · simp only [if_neg e, upn_ne e]
      exact hS.2.2.2.2.2 j (by omega)
theorem HMo_let {M M' : Mm} {nc nl f t s wk : Nat} {H : HX} (hS : HMo M nc nl H) (hn : nl < 12) (hf : f < 6) (ht : t < 6) (hs : s < 100) (hc : wk ≤ 50) (e8 : M'.1 142 74 = nI (nl + 1)) (e9 : M'.1 142 70 = M.1 142 70) (r1 : ∀ j, M'.1 180 j = if j = nl then nI f else M.1 180 j) (r2 : ∀ j, M'.1 181 j = if j = nl then nI t else M.1 181 j) (r3 : ∀ j, M'.1 182 j = if j = nl then nI s else M.1 182 j) (r5 : ∀ j, M'.1 183 j = if j = nl then nI wk else M.1 183 j) (r4 : ∀ a, 177 ≤ a → a ≤ 179 → M'.1 a = M.1 a) : HMo M' nc (nl + 1) (adL H nl f t s (s + wk)) := by
  refine ⟨hS.1, by omega, e9.trans hS.2.2.1, e8, fun j hj => ?_, fun j hj => ?_⟩
  · rw [r4 177 (by omega) (by omega), r4 178 (by omega) (by omega), r4 179 (by omega) (by omega)]
    exact hS.2.2.2.2.1 j hj
  · rw [r1, r2, r3, r5]
    show (if j = nl then nI f else M.1 180 j) = nI (upn (hls H) nl f j) ∧ (if j = nl then nI t else M.1 181 j) = nI (upn (hlr H) nl t j) ∧ (if j = nl then nI s else M.1 182 j) = nI (upn (hlt H) nl s j) ∧ (if j = nl then nI s else M.1 182 j) + (if j = nl then nI wk else M.1 183 j) = nI (upn (hlc H) nl (s + wk) j) ∧ upn (hls H) nl f j < 6 ∧ upn (hlr H) nl t j < 6 ∧ upn (hlt H) nl s j < 100 ∧ upn (hlc H) nl (s + wk) j < 150
    by_cases e : j = nl
    · subst e
      simp only [if_true, upn_eq, nI_add]
      exact ⟨trivial, trivial, trivial, trivial, hf, ht, hs, by omega⟩
    · simp only [if_neg e, upn_ne e]
      exact hS.2.2.2.2.2 j (by omega)
theorem h183_of {M : Mm} {nc nl : Nat} {H : HX} (h : V_hous M) (hM : HMo M nc nl H) : ∀ j, j < nl → isN (M.1 183 j) 51 := by
  obtain ⟨nc', nl', a1, a2, a3, a4, a5, a6, a7, a8⟩ := h
  have := hM.2.1
  have e : nl = nl' := (nI_eq (by omega) (by omega)).mp (hM.2.2.2.1.symm.trans a6)
  subst e
  exact fun j hj => (a8 j hj).2.2.2.2.2.2.2
theorem op34 (p1 p2 p3 : Int32) (M : Mm) (K : Mm → Prop) (hV : V M) (hK : ∀ m, V m → K m) : OP34 p1 p2 p3 M K := by
  have hF := hV.1
  have ne1 : ¬ (1 : Int32) = 0 := by decide
  have hV' := hV
  obtain ⟨h1, h2, h3, h4, h5, h6, h7, h8, h9, h10, h11, h12, h13, h14, h15, h16, h17, h18, h19⟩ := hV'
  obtain ⟨nc, nl, hS, hMo⟩ := hs_of h18
  obtain ⟨tl, hT, htl⟩ := tt_of hS h19
  have h183 := h183_of h18 hMo
  have n12 := hS.1
  have hend : ∀ r, AN r K r (stI M 142 0 0) := fun r => an_ok rfl (hK _ (V_thr _ hV))
  have e70 : (stI M 142 0 0).1 142 70 = nI nc := hMo.2.2.1
  show f_X10_given S0 0 p1 p2 p3 M (fun r m1 => f_X11_given S0 142 p1 p2 p3 m1 (AN r K))
  have ref : (p1 < 0 ∨ (5 : Int32) < p1 ∨ p2 < 0 ∨ (99 : Int32) < p2 ∨ p3 < 0 ∨ (255 : Int32) < p3 ∨ nc = 12) → f_X11_given S0 142 p1 p2 p3 M (AN (-1) K) := by
    intro hx
    unfold f_X11_given
    simp only [forall_eq]
    refine f_in 5 rfl (fun a b => ⟨fun z => absurd z ne1, fun _ => ?_⟩) (fun _ => ⟨fun _ => hend _, fun z => absurd rfl z⟩)
    refine f_in 99 rfl (fun a2 b2 => ⟨fun z => absurd z ne1, fun _ => ?_⟩) (fun _ => ⟨fun _ => hend _, fun z => absurd rfl z⟩)
    refine f_in 255 rfl (fun a3 b3 => ⟨fun z => absurd z ne1, fun _ => ?_⟩) (fun _ => ⟨fun _ => hend _, fun z => absurd rfl z⟩)
    refine ⟨fun _ => hend _, fun z => absurd ?_ z⟩
    rcases hx with h | h | h | h | h | h | h
    · exact absurd h a
    · exact absurd h b
    · exact absurd h a2
    · exact absurd h b2
    · exact absurd h a3
    · exact absurd h b3
    · rw [e70, h]; rfl
  unfold f_X10_given
  refine isH_ok (fun g1 g2 => ⟨fun z => absurd z ne1, fun _ => ⟨fun h => ref (Or.inr (Or.inr (Or.inl h))), fun g3 => ⟨fun h => ref (Or.inr (Or.inr (Or.inr (Or.inl h)))), fun g4 => ⟨fun h => ref (Or.inr (Or.inr (Or.inr (Or.inr (Or.inl h))))), fun g5 => ⟨fun g6 => ?_, fun h => ref (Or.inr (Or.inr (Or.inr (Or.inr (Or.inr (Or.inl (Int32.not_le.mp h)))))))⟩⟩⟩⟩⟩) (fun h => ⟨fun _ => ref (h.elim Or.inl (fun h => Or.inr (Or.inl h))), fun z => absurd rfl z⟩)
  obtain ⟨h, hh, rfl⟩ := nI_le' (n := 5) (by decide) rfl g1 g2
  obtain ⟨w, hw, rfl⟩ := nI_le' (n := 99) (by decide) rfl g3 g4
  obtain ⟨m, hm, rfl⟩ := nI_le' (n := 255) (by decide) rfl g5 (Int32.not_lt.mpr g6)
  simp only [fx_0_8 hF, ex_some, s0_121, true_and]
  unfold f_X1_addCase
  rw [hS.2.2.1]
  refine ⟨fun hlt => ?_, fun hge => ref (Or.inr (Or.inr (Or.inr (Or.inr (Or.inr (Or.inr ?_))))))⟩
  · have hn : nc < 12 := (nI_ltI (by omega) (by omega)).mp (show nI nc < nI 12 from hlt)
    have hin : vp_in (nI nc) 12 := vp_in_nI hn (by omega)
    have hcl : (nI nc).toNatClampNeg = nc := nI_clamp (by omega)
    have r1 : (stI M 122 nc (nI h)).1 121 8 = nI nc := hS.2.2.1
    have r2 : (stI (stI M 122 nc (nI h)) 123 nc (nI w)).1 121 8 = nI nc := hS.2.2.1
    have r3 : (stI (stI (stI M 122 nc (nI h)) 123 nc (nI w)) 124 nc (nI m)).1 121 8 = nI nc := hS.2.2.1
    simp only [fx_121_0 hF, fx_121_1 hF, fx_121_2 hF, rIr, ex_some, s0_122, s0_123, s0_124, ex_sh, hin, hcl, true_and, forall_eq, r1, r2, r3, nI_1]
    generalize hM1 : stI (stI (stI (stI M 122 nc (nI h)) 123 nc (nI w)) 124 nc (nI m)) 121 8 (nI (nc + 1)) = M1
    have f1 : Fr dHo eN M M1 := by rw [← hM1]; exact Fr_I rfl (Fr_I rfl (Fr_I rfl (Fr_I rfl (Fr_refl _ _ _))))
    have hS1 : HS M1 (nc + 1) nl (adC (hxM M) nc h w m) := by
      refine HS_case hS hn (by omega) (by omega) (by omega) (by rw [← hM1]; exact rI_eq) (by rw [← hM1]; rfl) (fun j => ?_) (fun j => ?_) (fun j => ?_) (fun a ha1 ha2 => ?_)
      · rw [← hM1, rI_ne (by omega), rI_ne (by omega), rI_ne (by omega), rI]; simp only [true_and]
      · rw [← hM1, rI_ne (by omega), rI_ne (by omega), rI, rI_ne (by omega)]; simp only [true_and]
      · rw [← hM1, rI_ne (by omega), rI, rI_ne (by omega), rI_ne (by omega)]; simp only [true_and]
      · rw [← hM1, stI_row (by omega), stI_row (by omega), stI_row (by omega), stI_row (by omega)]
    have hT1 : TT M1 nl tl := fun i hi => by
      rw [← hM1, stI_row (by omega), stI_row (by omega), stI_row (by omega), stI_row (by omega)]; exact hT i hi
    refine settle_ok (FX_fr f1 hF) hS1 hT1 (fun i hi c hc => ?_) (fun M2 tl2 f2 T2 b2 => ?_)
    · obtain ⟨q1, k, q2⟩ := (htl i hi c).mp hc
      exact ⟨by omega, k, tq_imp (H := hxM M) (H' := adC (hxM M) nc h w m) (c := c) (Nat.le_refl _) (upn_ne (by omega)) (upn_ne (by omega)) (fun i _ => ⟨rfl, rfl, rfl, rfl⟩) k i hi q2⟩
    · have hS2 := HS_129 f2 hS1
      have f12 : Fr dHo eN M M2 := Fr_tr f1 (Fr_mono (fun b j hd => by unfold dHo at hd; unfold d129; simp only [Bool.or_eq_false_iff, Bool.and_eq_false_iff, beq_eq_false_iff_ne, decide_eq_false_iff_not] at *; omega) (fun b hd => rfl) f2)
      have hF2 := FX_fr f12 hF
      have m70 : M2.1 142 70 = nI nc := by rw [f2.1 142 70 rfl, ← hM1]; exact hMo.2.2.1
      rw [hS2.2.2.1, nI_pred]
      unfold f_X11_given
      simp only [forall_eq]
      refine f_in 5 rfl (fun a b => ⟨fun z => absurd z ne1, fun _ => ?_⟩) (fun q => (q.elim g1 g2).elim)
      refine f_in 99 rfl (fun a b => ⟨fun z => absurd z ne1, fun _ => ?_⟩) (fun q => (q.elim g3 g4).elim)
      refine f_in 255 rfl (fun a b => ⟨fun z => absurd z ne1, fun _ => ?_⟩) (fun q => (q.elim g5 (Int32.not_lt.mpr g6)).elim)
      have s0 : (stI M2 142 0 0).1 142 70 = nI nc := m70
      have s1 : (stI (stI M2 142 0 0) 177 nc (nI h)).1 142 70 = nI nc := m70
      have s2 : (stI (stI (stI M2 142 0 0) 177 nc (nI h)) 178 nc (nI w)).1 142 70 = nI nc := m70
      have s3 : (stI (stI (stI (stI M2 142 0 0) 177 nc (nI h)) 178 nc (nI w)) 179 nc (nI m)).1 142 70 = nI nc := m70
      rw [s0]
      refine ⟨fun z => absurd ((nI_eq (by omega) (by omega)).mp (show nI nc = nI 12 from z)) (by omega), fun _ => ?_⟩
      simp only [fx_142_71 hF2, fx_142_72 hF2, fx_142_73 hF2, rIr, ex_some, s0_177, s0_178, s0_179, ex_sh, hin, hcl, true_and, forall_eq, s1, s2, s3, nI_1]
      generalize hM3 : stI (stI (stI (stI (stI M2 142 0 0) 177 nc (nI h)) 178 nc (nI w)) 179 nc (nI m)) 142 70 (nI (nc + 1)) = M3
      have f3 : Fr (fun b j => (b == 142 && (j == 0 || j == 70)) || b == 177 || b == 178 || b == 179) eN M2 M3 := by rw [← hM3]; exact Fr_I rfl (Fr_I rfl (Fr_I rfl (Fr_I rfl (Fr_I rfl (Fr_refl _ _ _)))))
      have f13 : Fr dHo eN M M3 := Fr_tr f12 (Fr_mono (fun b j hd => by unfold dHo at hd; simp only [Bool.or_eq_false_iff, Bool.and_eq_false_iff, beq_eq_false_iff_ne, decide_eq_false_iff_not] at *; omega) (fun b hd => rfl) f3)
      have e3 : M3.1 142 70 = nI (nc + 1) := by rw [← hM3]; exact rI_eq
      rw [e3, nI_pred]
      have row : ∀ a, 177 ≤ a → a ≤ 183 → M2.1 a = M.1 a := fun a ha1 ha2 => by
        rw [Fr_row f2 a (fun j => by unfold d129; simp only [beq_eq_false_iff_ne]; omega), ← hM1, stI_row (by omega), stI_row (by omega), stI_row (by omega), stI_row (by omega)]
      have hS3 : HS M3 (nc + 1) nl (adC (hxM M) nc h w m) := HS_fr f3 rfl rfl (fun a j h1 h2 => by simp only [Bool.or_eq_false_iff, Bool.and_eq_false_iff, beq_eq_false_iff_ne]; omega) hS2
      have hM3' : HMo M3 (nc + 1) nl (adC (hxM M) nc h w m) := by
        refine HMo_case hMo hn (by omega) (by omega) (by omega) e3 ((f3.1 142 74 rfl).trans ((f2.1 142 74 rfl).trans (by rw [← hM1]; rfl))) (fun j => ?_) (fun j => ?_) (fun j => ?_) (fun a ha1 ha2 => ?_)
        · rw [← hM3, rI_ne (by omega), rI_ne (by omega), rI_ne (by omega), rI, rI_ne (by omega), row 177 (by omega) (by omega)]; simp only [true_and]
        · rw [← hM3, rI_ne (by omega), rI_ne (by omega), rI, rI_ne (by omega), rI_ne (by omega), row 178 (by omega) (by omega)]; simp only [true_and]
        · rw [← hM3, rI_ne (by omega), rI, rI_ne (by omega), rI_ne (by omega), rI_ne (by omega), row 179 (by omega) (by omega)]; simp only [true_and]
        · rw [Fr_row f3 a (fun j => by simp only [Bool.or_eq_false_iff, Bool.and_eq_false_iff, beq_eq_false_iff_ne]; omega), row a (by omega) (by omega)]
      refine an_ok rfl (hK _ (V_ho hV f13 (hous_of hS3 hM3' (fun j hj => ?_)) (tell_of (tl := tl2) hS3 (fun i hi => ?_) b2)))
      · rw [Fr_row f3 183 (fun j => rfl), row 183 (by omega) (by omega)]; exact h183 j hj
      · rw [Fr_row f3 129 (fun j => rfl)]; exact T2 i hi
  · have : ¬ nc < 12 := fun z => hge (show nI nc < nI 12 from nI_lt z (by omega))
    omega
theorem op35 (p1 p2 p3 p4 : Int32) (M : Mm) (K : Mm → Prop) (hV : V M) (hK : ∀ m, V m → K m) : OP35 p1 p2 p3 p4 M K := by
  have hF := hV.1
  have ne1 : ¬ (1 : Int32) = 0 := by decide
  have hV' := hV
  obtain ⟨h1, h2, h3, h4, h5, h6, h7, h8, h9, h10, h11, h12, h13, h14, h15, h16, h17, h18, h19⟩ := hV'
  obtain ⟨nc, nl, hS, hMo⟩ := hs_of h18
  obtain ⟨tl, hT, htl⟩ := tt_of hS h19
  have h183 := h183_of h18 hMo
  have n12 := hS.2.1
  have hend : ∀ r, AN r K r (stI M 142 0 0) := fun r => an_ok rfl (hK _ (V_thr _ hV))
  have e74 : (stI M 142 0 0).1 142 74 = nI nl := hMo.2.2.2.1
  show f_X10_letter S0 0 p1 p2 p3 p4 M (fun r m1 => f_X11_letter_ S0 142 p1 p2 p3 p4 m1 (AN r K))
  have j63 : f_X11_letter__J63 S0 142 p1 p2 p3 p4 (stI M 142 0 0) (AN (-1) K) := by
    unfold f_X11_letter__J63 f_X11_letter__J64
    exact ⟨fun _ => hend _, fun z => absurd rfl z⟩
  have ref : (p1 < 0 ∨ (5 : Int32) < p1 ∨ p2 < 0 ∨ (5 : Int32) < p2 ∨ p1 = p2 ∨ p3 < 0 ∨ (99 : Int32) < p3 ∨ p4 < 0 ∨ (50 : Int32) < p4 ∨ nl = 12) → f_X11_letter_ S0 142 p1 p2 p3 p4 M (AN (-1) K) := by
    intro hx
    unfold f_X11_letter_
    simp only [forall_eq]
    refine f_in 5 rfl (fun a b => ⟨fun z => absurd z ne1, fun _ => ?_⟩) (fun _ => ⟨fun _ => j63, fun z => absurd rfl z⟩)
    refine f_in 5 rfl (fun a2 b2 => ⟨fun z => absurd z ne1, fun _ => ⟨fun _ => j63, fun ne => ?_⟩⟩) (fun _ => ⟨fun _ => j63, fun z => absurd rfl z⟩)
    refine f_in 99 rfl (fun a3 b3 => ⟨fun z => absurd z ne1, fun _ => ?_⟩) (fun _ => ⟨fun _ => j63, fun z => absurd rfl z⟩)
    refine f_in 50 rfl (fun a4 b4 => ⟨fun z => absurd z ne1, fun _ => ?_⟩) (fun _ => ⟨fun _ => j63, fun z => absurd rfl z⟩)
    unfold f_X11_letter__J64
    refine ⟨fun z => absurd z ne1, fun _ => ⟨fun _ => hend _, fun z => absurd ?_ z⟩⟩
    rcases hx with h | h | h | h | h | h | h | h | h | h
    · exact absurd h a
    · exact absurd h b
    · exact absurd h a2
    · exact absurd h b2
    · exact absurd h ne
    · exact absurd h a3
    · exact absurd h b3
    · exact absurd h a4
    · exact absurd h b4
    · rw [e74, h]; rfl
  unfold f_X10_letter
  refine isH_ok (fun g1 g2 => ⟨fun z => absurd z ne1, fun _ => ?_⟩) (fun h => ⟨fun _ => ref (h.elim Or.inl (fun h => Or.inr (Or.inl h))), fun z => absurd rfl z⟩)
  refine isH_ok (fun g3 g4 => ⟨fun z => absurd z ne1, fun _ => ⟨fun h => ref (Or.inr (Or.inr (Or.inr (Or.inr (Or.inl h))))), fun g5 => ⟨fun h => ref (Or.inr (Or.inr (Or.inr (Or.inr (Or.inr (Or.inl h)))))), fun g6 => ⟨fun h => ref (Or.inr (Or.inr (Or.inr (Or.inr (Or.inr (Or.inr (Or.inl h))))))), fun g7 => ⟨fun h => ref (Or.inr (Or.inr (Or.inr (Or.inr (Or.inr (Or.inr (Or.inr (Or.inl h)))))))), fun g8 => ⟨fun g9 => ?_, fun h => ref (Or.inr (Or.inr (Or.inr (Or.inr (Or.inr (Or.inr (Or.inr (Or.inr (Or.inl (Int32.not_le.mp h))))))))))⟩⟩⟩⟩⟩⟩) (fun h => ⟨fun _ => ref (h.elim (fun h => Or.inr (Or.inr (Or.inl h))) (fun h => Or.inr (Or.inr (Or.inr (Or.inl h))))), fun z => absurd rfl z⟩)
  obtain ⟨f, hf, rfl⟩ := nI_le' (n := 5) (by decide) rfl g1 g2
  obtain ⟨t, ht, rfl⟩ := nI_le' (n := 5) (by decide) rfl g3 g4
  obtain ⟨s, hs, rfl⟩ := nI_le' (n := 99) (by decide) rfl g6 g7
  obtain ⟨wk, hwk, rfl⟩ := nI_le' (n := 50) (by decide) rfl g8 (Int32.not_lt.mpr g9)
  simp only [fx_0_8 hF, ex_some, s0_121, true_and]
  unfold f_X1_addLetter
  rw [hS.2.2.2.1]
  refine ⟨fun hlt => ?_, fun hge => ref (Or.inr (Or.inr (Or.inr (Or.inr (Or.inr (Or.inr (Or.inr (Or.inr (Or.inr ?_)))))))))⟩
  · have hn : nl < 12 := (nI_ltI (by omega) (by omega)).mp (show nI nl < nI 12 from hlt)
    have hin : vp_in (nI nl) 12 := vp_in_nI hn (by omega)
    have hcl : (nI nl).toNatClampNeg = nl := nI_clamp (by omega)
    have r1 : (stI M 125 nl (nI f)).1 121 9 = nI nl := hS.2.2.2.1
    have r2 : (stI (stI M 125 nl (nI f)) 126 nl (nI t)).1 121 9 = nI nl := hS.2.2.2.1
    have r3 : (stI (stI (stI M 125 nl (nI f)) 126 nl (nI t)) 127 nl (nI s)).1 121 9 = nI nl := hS.2.2.2.1
    have r4 : (stI (stI (stI (stI M 125 nl (nI f)) 126 nl (nI t)) 127 nl (nI s)) 128 nl (nI (s + wk))).1 121 9 = nI nl := hS.2.2.2.1
    have r5 : (stI (stI (stI (stI (stI M 125 nl (nI f)) 126 nl (nI t)) 127 nl (nI s)) 128 nl (nI (s + wk))) 129 nl 0).1 121 9 = nI nl := hS.2.2.2.1
    simp only [fx_121_3 hF, fx_121_4 hF, fx_121_5 hF, fx_121_6 hF, fx_121_7 hF, rIr, ex_some, s0_125, s0_126, s0_127, s0_128, s0_129, ex_sh, hin, hcl, true_and, forall_eq, nI_add, r1, r2, r3, r4, r5, nI_1]
    generalize hM1 : stI (stI (stI (stI (stI (stI M 125 nl (nI f)) 126 nl (nI t)) 127 nl (nI s)) 128 nl (nI (s + wk))) 129 nl 0) 121 9 (nI (nl + 1)) = M1
    have f1 : Fr dHo eN M M1 := by rw [← hM1]; exact Fr_I rfl (Fr_I rfl (Fr_I rfl (Fr_I rfl (Fr_I rfl (Fr_I rfl (Fr_refl _ _ _))))))
    have hS1 : HS M1 nc (nl + 1) (adL (hxM M) nl f t s (s + wk)) := by
      refine HS_let hS hn (by omega) (by omega) (by omega) (by omega) (by rw [← hM1]; exact rI_eq) (by rw [← hM1]; rfl) (fun j => ?_) (fun j => ?_) (fun j => ?_) (fun j => ?_) (fun a ha1 ha2 => ?_)
      · rw [← hM1, rI_ne (by omega), rI_ne (by omega), rI_ne (by omega), rI_ne (by omega), rI_ne (by omega), rI]; simp only [true_and]
      · rw [← hM1, rI_ne (by omega), rI_ne (by omega), rI_ne (by omega), rI_ne (by omega), rI, rI_ne (by omega)]; simp only [true_and]
      · rw [← hM1, rI_ne (by omega), rI_ne (by omega), rI_ne (by omega), rI, rI_ne (by omega), rI_ne (by omega)]; simp only [true_and]
      · rw [← hM1, rI_ne (by omega), rI_ne (by omega), rI, rI_ne (by omega), rI_ne (by omega), rI_ne (by omega)]; simp only [true_and]
      · rw [← hM1, stI_row (by omega), stI_row (by omega), stI_row (by omega), stI_row (by omega), stI_row (by omega), stI_row (by omega)]
    have hT1 : TT M1 (nl + 1) (upn tl nl 0) := fun i hi => by
      rw [← hM1, rI_ne (by omega), rI]
      by_cases e : i = nl
      · rw [if_pos ⟨rfl, e⟩, e, upn_eq]; exact ⟨rfl, by omega⟩
      · rw [if_neg (by omega), upn_ne e, rI_ne (by omega), rI_ne (by omega), rI_ne (by omega), rI_ne (by omega)]; exact hT i (by omega)
    refine settle_ok (FX_fr f1 hF) hS1 hT1 (fun i hi c hc => ?_) (fun M2 tl2 f2 T2 b2 => ?_)
    · by_cases e : i = nl
      · rw [e, upn_eq] at hc; simp at hc
      · rw [upn_ne e] at hc
        obtain ⟨q1, k, q2⟩ := (htl i (by omega) c).mp hc
        exact ⟨q1, k, tq_imp (H := hxM M) (H' := adL (hxM M) nl f t s (s + wk)) (Nat.le_succ _) rfl rfl (fun i hi => ⟨upn_ne (by omega), upn_ne (by omega), upn_ne (by omega), upn_ne (by omega)⟩) k i (by omega) q2⟩
    · have hS2 := HS_129 f2 hS1
      have f12 : Fr dHo eN M M2 := Fr_tr f1 (Fr_mono (fun b j hd => by unfold dHo at hd; unfold d129; simp only [Bool.or_eq_false_iff, Bool.and_eq_false_iff, beq_eq_false_iff_ne, decide_eq_false_iff_not] at *; omega) (fun b hd => rfl) f2)
      have hF2 := FX_fr f12 hF
      have m74 : M2.1 142 74 = nI nl := by rw [f2.1 142 74 rfl, ← hM1]; exact hMo.2.2.2.1
      rw [hS2.2.2.2.1]
      unfold f_X11_letter_
      simp only [forall_eq]
      refine f_in 5 rfl (fun a b => ⟨fun z => absurd z ne1, fun _ => ?_⟩) (fun q => (q.elim g1 g2).elim)
      refine f_in 5 rfl (fun a b => ⟨fun z => absurd z ne1, fun _ => ⟨fun z => absurd z g5, fun _ => ?_⟩⟩) (fun q => (q.elim g3 g4).elim)
      refine f_in 99 rfl (fun a b => ⟨fun z => absurd z ne1, fun _ => ?_⟩) (fun q => (q.elim g6 g7).elim)
      refine f_in 50 rfl (fun a b => ⟨fun z => absurd z ne1, fun _ => ?_⟩) (fun q => (q.elim g8 (Int32.not_lt.mpr g9)).elim)
      unfold f_X11_letter__J64
      refine ⟨fun z => absurd z ne1, fun _ => ?_⟩
      have s0 : (stI M2 142 0 0).1 142 74 = nI nl := m74
      have s1 : (stI (stI M2 142 0 0) 180 nl (nI f)).1 142 74 = nI nl := m74
      have s2 : (stI (stI (stI M2 142 0 0) 180 nl (nI f)) 181 nl (nI t)).1 142 74 = nI nl := m74
      have s3 : (stI (stI (stI (stI M2 142 0 0) 180 nl (nI f)) 181 nl (nI t)) 182 nl (nI s)).1 142 74 = nI nl := m74
      have s4 : (stI (stI (stI (stI (stI M2 142 0 0) 180 nl (nI f)) 181 nl (nI t)) 182 nl (nI s)) 183 nl (nI wk)).1 142 74 = nI nl := m74
      rw [s0]
      refine ⟨fun z => absurd ((nI_eq (by omega) (by omega)).mp (show nI nl = nI 12 from z)) (by omega), fun _ => ?_⟩
      simp only [fx_142_75 hF2, fx_142_76 hF2, fx_142_77 hF2, fx_142_78 hF2, rIr, ex_some, s0_180, s0_181, s0_182, s0_183, ex_sh, hin, hcl, true_and, forall_eq, s1, s2, s3, s4, nI_1]
      generalize hM3 : stI (stI (stI (stI (stI (stI M2 142 0 0) 180 nl (nI f)) 181 nl (nI t)) 182 nl (nI s)) 183 nl (nI wk)) 142 74 (nI (nl + 1)) = M3
      have f3 : Fr (fun b j => (b == 142 && (j == 0 || j == 74)) || b == 180 || b == 181 || b == 182 || b == 183) eN M2 M3 := by rw [← hM3]; exact Fr_I rfl (Fr_I rfl (Fr_I rfl (Fr_I rfl (Fr_I rfl (Fr_I rfl (Fr_refl _ _ _))))))
      have f13 : Fr dHo eN M M3 := Fr_tr f12 (Fr_mono (fun b j hd => by unfold dHo at hd; simp only [Bool.or_eq_false_iff, Bool.and_eq_false_iff, beq_eq_false_iff_ne, decide_eq_false_iff_not] at *; omega) (fun b hd => rfl) f3)
      have e3 : M3.1 142 74 = nI (nl + 1) := by rw [← hM3]; exact rI_eq
      rw [e3]
      have row : ∀ a, 177 ≤ a → a ≤ 183 → M2.1 a = M.1 a := fun a ha1 ha2 => by
        rw [Fr_row f2 a (fun j => by unfold d129; simp only [beq_eq_false_iff_ne]; omega), ← hM1, stI_row (by omega), stI_row (by omega), stI_row (by omega), stI_row (by omega), stI_row (by omega), stI_row (by omega)]
      have hS3 : HS M3 nc (nl + 1) (adL (hxM M) nl f t s (s + wk)) := HS_fr f3 rfl rfl (fun a j h1 h2 => by simp only [Bool.or_eq_false_iff, Bool.and_eq_false_iff, beq_eq_false_iff_ne]; omega) hS2
      have w183 : ∀ j, M3.1 183 j = if j = nl then nI wk else M.1 183 j := fun j => by
        rw [← hM3, rI_ne (by omega), rI, rI_ne (by omega), rI_ne (by omega), rI_ne (by omega), rI_ne (by omega), row 183 (by omega) (by omega)]; simp only [true_and]
      have hM3' : HMo M3 nc (nl + 1) (adL (hxM M) nl f t s (s + wk)) := by
        refine HMo_let hMo hn (by omega) (by omega) (by omega) hwk e3 ((f3.1 142 70 rfl).trans ((f2.1 142 70 rfl).trans (by rw [← hM1]; rfl))) (fun j => ?_) (fun j => ?_) (fun j => ?_) w183 (fun a ha1 ha2 => ?_)
        · rw [← hM3, rI_ne (by omega), rI_ne (by omega), rI_ne (by omega), rI_ne (by omega), rI, rI_ne (by omega), row 180 (by omega) (by omega)]; simp only [true_and]
        · rw [← hM3, rI_ne (by omega), rI_ne (by omega), rI_ne (by omega), rI, rI_ne (by omega), rI_ne (by omega), row 181 (by omega) (by omega)]; simp only [true_and]
        · rw [← hM3, rI_ne (by omega), rI_ne (by omega), rI, rI_ne (by omega), rI_ne (by omega), rI_ne (by omega), row 182 (by omega) (by omega)]; simp only [true_and]
        · rw [Fr_row f3 a (fun j => by simp only [Bool.or_eq_false_iff, Bool.and_eq_false_iff, beq_eq_false_iff_ne]; omega), row a (by omega) (by omega)]
      refine an_ok rfl (hK _ (V_ho hV f13 (hous_of hS3 hM3' (fun j hj => ?_)) (tell_of (tl := tl2) hS3 (fun i hi => ?_) b2)))
      · rw [w183]
        by_cases e : j = nl
        · rw [if_pos e]; exact ⟨wk, by omega, rfl⟩
        · rw [if_neg e]; exact h183 j (by omega)
      · rw [Fr_row f3 129 (fun j => rfl)]; exact T2 i hi
  · have : ¬ nl < 12 := fun z => hge (show nI nl < nI 12 from nI_lt z (by omega))
    omega
