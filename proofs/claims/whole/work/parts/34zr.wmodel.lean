/-! weights of runs: the model's steps -/
def EdP (M : Mm) (G : Gx) (w : Nat) (x : Int32) (s m : Nat) : Prop := M.1 168 (20 * s + m) = nI (gT G (s * w + m)) ∧ M.1 169 (20 * s + m) = (if gB G (s * w + m) = true then 1 else 0) ∧ (M.1 170 (20 * s + m) = x ↔ gS G (s * w + m) = true)
def dQs (s : Nat) : Nat → Nat → Bool := fun b j => dQ b j || ((b == 168 || b == 169 || b == 170) && (20 * s ≤ j && j < 20 * s + 20 : Bool))
def dQw : Nat → Nat → Bool := fun b j => dQ b j || b == 168 || b == 169 || b == 170
theorem dQs_dQw {s : Nat} {M M' : Mm} (h : Fr (dQs s) eP M M') : Fr dQw eP M M' :=
  Fr_mono (fun b j hd => by unfold dQw at hd; unfold dQs; simp only [Bool.or_eq_false_iff, Bool.and_eq_false_iff, beq_eq_false_iff_ne] at *; exact ⟨hd.1.1.1, Or.inl ⟨⟨hd.1.1.2, hd.1.2⟩, hd.2⟩⟩) (fun b hd => hd) h
theorem dQ_dQs {s : Nat} {M M' : Mm} (h : Fr dQ eP M M') : Fr (dQs s) eP M M' :=
  Fr_mono (fun b j hd => by unfold dQs at hd; simp only [Bool.or_eq_false_iff] at hd; exact hd.1) (fun b hd => hd) h
theorem CM_dQw {C : Cf} {M M' : Mm} (h : Fr dQw eP M M') (hC : CM M C) : CM M' C :=
  CM_ag (h.1 _ _ rfl) (h.1 _ _ rfl) (h.1 _ _ rfl) (h.1 _ _ rfl) (h.1 _ _ rfl) (Fr_row h _ (fun _ => rfl)) (Fr_row h _ (fun _ => rfl)) (Fr_row h _ (fun _ => rfl)) (Fr_row h _ (fun _ => rfl)) (Fr_row h _ (fun _ => rfl)) (Fr_row h _ (fun _ => rfl)) (Fr_row h _ (fun _ => rfl)) (Fr_row h _ (fun _ => rfl)) hC
theorem BM_dQw {C : Cf} {ky : Nat} {M M' : Mm} (h : Fr dQw eP M M') (hb : BM C ky M) : BM C ky M' := ⟨FX_fr h hb.1, CM_dQw h hb.2.1, (h.1 _ _ rfl).trans hb.2.2⟩
theorem mM_dQw {mu : Option (List Nat)} {M M' : Mm} (h : Fr dQw eP M M') (hm : mM M mu) : mM M' mu := mM_ag (Fr_row h _ fun _ => rfl) (Fr_row h _ fun _ => rfl) (h.1 _ _ rfl) hm
theorem i20 (s m : Nat) : (20 : Int32) * nI s + nI m = nI (20 * s + m) := by rw [show (20 : Int32) = nI 20 from rfl, pk_mul, nI_add]
/-- the steps as they are gone through -/
def HG (C : Cf) (ky w A0 B0 n : Nat) (mu : Option (List Nat)) (x : Int32) (G : Gx) : Prop := ∀ k, k < Ed C ky w A0 B0 n * w → ld C ky w A0 B0 k (gT G k) ∧ gB G k = pB C ky w A0 B0 mu k ∧ gS G k = decide ((nx C ky w (bf C ky w A0 B0 k) k).2.2.1.2.2.1 = x)
theorem wg25 {C : Cf} {ky w A0 B0 n s : Nat} {mu : Option (List Nat)} {G : Gx} {x x2 x3 x4 : Int32} {EK K : Mm → Prop} (hky : ky < 5) (hw : w = cT C * (ky + 1)) (hT : 0 < cT C) (h0 : SI C A0 B0) (hn : n ≤ 20) (hsn : s < Ed C ky w A0 B0 n) (hl4 : (bf C ky w A0 B0 (Ed C ky w A0 B0 n * w)).length ≤ 4000) (hG : HG C ky w A0 B0 n mu x G) :
    ∀ (r m : Nat) (M : Mm), m + r = w → BM C ky M → mM M mu → WM M (bf C ky w A0 B0 (Ed C ky w A0 B0 n * w)) 0 → WD M (bf C ky w A0 B0 (Ed C ky w A0 B0 n * w)) → (∀ m', m' < m → EdP M G w x s m') → (∀ M', Fr (dQs s) eP M M' → WM M' (bf C ky w A0 B0 (Ed C ky w A0 B0 n * w)) 0 → WD M' (bf C ky w A0 B0 (Ed C ky w A0 B0 n * w)) → (∀ m', m' < w → EdP M' G w x s m') → EK M') → f_X11_weighs_L25 S0 142 (nI n) x2 x3 x4 (nI w) (nI s) EK K (r + 1) (nI m) M
  | 0, m, M, hm, hB, hI, hW, hD, hP, hK => by
    unfold f_X11_weighs_L25 f_X11_weighs_B25
    obtain ⟨b1, b2, b3⟩ := hB
    have c1 := b2.1.1
    have hw20 : w ≤ 20 := by
      rw [hw]
      have : cT C * (ky + 1) ≤ 4 * 5 := Nat.mul_le_mul c1 (by omega)
      omega
    have e : m = w := by omega
    subst e
    exact ⟨fun _ => hK M (Fr_refl _ _ _) hW hD hP, fun z => absurd (nI_le (Nat.le_refl _) (by omega)) z⟩
  | r + 1, m, M, hm, hB, hI, hW, hD, hP, hK => by
    have hB' := hB
    obtain ⟨b1, b2, b3⟩ := hB
    have c1 := b2.1.1
    have hw20 : w ≤ 20 := by
      rw [hw]
      have : cT C * (ky + 1) ≤ 4 * 5 := Nat.mul_le_mul c1 (by omega)
      omega
    obtain ⟨d1, d2⟩ := divk (s := s) (show m < w by omega)
    obtain ⟨t1, t2⟩ := mv_t hw (show m < w by omega)
    have hEn : (s + 1) * w ≤ Ed C ky w A0 B0 n * w := Nat.mul_le_mul_right _ hsn
    rw [Nat.add_mul, Nat.one_mul] at hEn
    have hlen0 := bf_sl hsn
    have hlenk : s < (bf C ky w A0 B0 (s * w + m)).length := Nat.lt_of_lt_of_le hlen0 (bf_mono (by omega))
    have hlen : s < (bf C ky w A0 B0 (Ed C ky w A0 B0 n * w)).length := Nat.lt_of_lt_of_le hlen0 (bf_mono (by omega))
    have hdp := (dp_lt (by omega) hlen (Nat.le_refl _)).mpr hsn
    have hins : vp_in (nI s) 4001 := vp_in_nI (by omega) (by omega)
    have hcls : (nI s).toNatClampNeg = s := nI_clamp (by omega)
    have hsi := bf_si b2.1 hky hw hT h0 (Ed C ky w A0 B0 n * w) s hlen
    have enx : nx C ky w (bf C ky w A0 B0 (s * w + m)) (s * w + m) = stp C (gt (bf C ky w A0 B0 (Ed C ky w A0 B0 n * w)) s).1 (gt (bf C ky w A0 B0 (Ed C ky w A0 B0 n * w)) s).2.1 (m / (ky + 1)) (m % (ky + 1)) := by
      unfold nx; rw [d1, d2, bf_gt (show s * w + m ≤ Ed C ky w A0 B0 n * w by omega) hlenk]
    obtain ⟨g1, g2, g3⟩ := hG (s * w + m) (by omega)
    unfold pB at g2
    unfold ld isE at g1
    rw [enx] at g1 g2 g3
    obtain ⟨g1a, g1b, g1c⟩ := g1
    have hle2 : (bf C ky w A0 B0 (s * w + m + 1)).length ≤ (bf C ky w A0 B0 (Ed C ky w A0 B0 n * w)).length := bf_mono (by omega)
    rw [← bf_gt (show s * w + m + 1 ≤ Ed C ky w A0 B0 n * w by omega) g1a] at g1b g1c
    have hbd := stp_bd (key := m % (ky + 1)) b2.1 t1 hsi.2.2 (by omega) hsi.1 hsi.2.1
    unfold f_X11_weighs_L25 f_X11_weighs_B25
    refine ⟨fun z => absurd z (nI_ge (by omega) (by omega)), fun _ => ?_⟩
    simp only [fx_142_42 b1, ex_some, shp_ne (show (164 : Nat) ≠ 100000 by decide), s0_164, ex_sh, hins, hcls, true_and, (hD s hlen).1]
    refine ⟨fun z => absurd z (nI_ge hdp (by omega)), fun _ => ?_⟩
    simp only [fx_142_55 b1, ex_some]
    unfold f_X11_after
    refine goes_ok (t := m / (ky + 1)) (key := m % (ky + 1)) b1 b2 b3 hky hW hlen hsi.2.2 t1 (by omega) (by rw [Nat.mul_comm]; exact (Nat.div_add_mod m (ky + 1)).symm) (fun M1 f1 m1 mf1 z1 => ?_)
    generalize stp C (gt (bf C ky w A0 B0 (Ed C ky w A0 B0 n * w)) s).1 (gt (bf C ky w A0 B0 (Ed C ky w A0 B0 n * w)) s).2.1 (m / (ky + 1)) (m % (ky + 1)) = q at *
    have hF1 := FX_fr f1 b1
    refine packS_ok hF1 m1 (packR_ok hF1 m1 ?_)
    have W1 := WM_dD f1 hW
    have fd : Fr (dQs s) eP M M1 := dQ_dQs (dD_dQ f1)
    refine place_okM (L := bf C ky w A0 B0 (Ed C ky w A0 B0 n * w)) (lo := 0) (fs := 0) (fm := 0) (dp := 0) hF1 hbd.1 hbd.2 (Nat.zero_le _) hl4 W1 (fun s2 _ hs2 hE2 => ?_) (fun hno => absurd ⟨g1b, g1c⟩ (hno (gT G (s * w + m)) (Nat.zero_le _) (by omega)))
    have es2 : s2 = gT G (s * w + m) := bf_dis _ s2 _ hs2 (by omega) (hE2.1.trans g1b.symm) (hE2.2.trans g1c.symm)
    subst es2
    have hin : vp_in (nI (20 * s + m)) 80020 := vp_in_nI (by omega) (by omega)
    have hcl : (nI (20 * s + m)).toNatClampNeg = 20 * s + m := nI_clamp (by omega)
    have dd : ∀ b, b = 168 ∨ b = 169 ∨ b = 170 → dQs s b (20 * s + m) = true := by
      intro b hb
      unfold dQs
      simp only [Bool.or_eq_true, Bool.and_eq_true, beq_iff_eq, decide_eq_true_eq]
      omega
    simp only [s0_168, ex_sh, i20, hin, hcl, true_and, forall_eq, rIr, fx_142_56 hF1, ex_some]
    generalize hM2 : stI M1 168 (20 * s + m) (nI (gT G (s * w + m))) = M2
    have f2 : Fr (dQs s) eP M M2 := by rw [← hM2]; exact Fr_I (dd 168 (by omega)) fd
    refine breaksM_ok (A := q.1) (B := q.2.1) (F := q.2.2.1) (FX_fr f2 b1) (mM_dQw (dQs_dQw f2) hI) (by rw [← hM2]; exact MS_ag (M := M1) rfl rfl rfl rfl m1) (by rw [← hM2]; exact mf1) (fun M3 hE3 => ?_)
    have f3 : Fr (dQs s) eP M M3 := Fr_E1 (fun _ => rfl) f2 hE3
    rw [← g2]
    have hbn : vp_nar .boolean (if gB G (s * w + m) = true then (1 : Int32) else 0) = if gB G (s * w + m) = true then 1 else 0 := by
      split
      · exact vp_nar_b1
      · exact vp_nar_b0
    have hF3 := FX_fr f3 b1
    have i30 : ∀ v, (stI M3 169 (20 * s + m) v).1 142 30 = q.2.2.1.2.2.1 := fun v => by
      rw [rI_ne (by omega), hE3.1 142 (by omega), ← hM2, rI_ne (by omega)]; exact mf1.2.2.1
    simp only [s0_169, s0_170, ex_sh, hin, hcl, true_and, forall_eq, rIr, fx_142_57 hF3, ex_some, hbn, i30, nI_1]
    generalize hM5 : stI (stI M3 169 (20 * s + m) (if gB G (s * w + m) = true then 1 else 0)) 170 (20 * s + m) q.2.2.1.2.2.1 = M5
    have f5 : Fr (dQs s) eP M M5 := by rw [← hM5]; exact Fr_I (dd 170 (by omega)) (Fr_I (dd 169 (by omega)) f3)
    have W5 : WM M5 (bf C ky w A0 B0 (Ed C ky w A0 B0 n * w)) 0 := by
      refine WM_ag (M := M1) ?_ ?_ ?_ ?_ W1
      · rw [← hM5, rI_ne (by omega), rI_ne (by omega), hE3.1 142 (by omega), ← hM2, rI_ne (by omega)]
      · rw [← hM5]; show M3.2.1 160 = _; rw [hE3.2, ← hM2]; rfl
      · rw [← hM5]; show M3.2.1 161 = _; rw [hE3.2, ← hM2]; rfl
      · rw [← hM5, stI_row (by omega), stI_row (by omega), hE3.1 165 (by omega), ← hM2, stI_row (by omega)]
    have D5 : WD M5 (bf C ky w A0 B0 (Ed C ky w A0 B0 n * w)) := by
      have D1 := WD_dD f1 hD
      intro a ha
      rw [← hM5]
      simp only [rI, Nat.reduceEqDiff, false_and, if_false]
      rw [hE3.1 164 (by omega), hE3.1 162 (by omega), hE3.1 163 (by omega), ← hM2]
      simp only [rI, Nat.reduceEqDiff, false_and, if_false]
      exact D1 a ha
    have one : EdP M5 G w x s m := by
      unfold EdP
      rw [← hM5]
      refine ⟨?_, ?_, ?_⟩
      · rw [rI_ne (by omega), rI_ne (by omega), hE3.1 168 (by omega), ← hM2, rI_eq]
      · rw [rI_ne (by omega), rI_eq]
      · rw [rI_eq, g3, decide_eq_true_eq]
    have old : ∀ m', m' < m → EdP M5 G w x s m' := by
      intro m' hm'
      obtain ⟨o1, o2, o3⟩ := hP m' hm'
      unfold EdP
      have j1 : ∀ b, b = 168 ∨ b = 169 ∨ b = 170 → M5.1 b (20 * s + m') = M.1 b (20 * s + m') := by
        intro b hb
        rw [← hM5, rI_ne (by omega), rI_ne (by omega), hE3.1 b (by omega), ← hM2, rI_ne (by omega)]
        refine f1.1 b _ ?_
        unfold dD
        simp only [Bool.or_eq_false_iff, Bool.and_eq_false_iff, beq_eq_false_iff_ne]
        omega
      rw [j1 168 (by omega), j1 169 (by omega), j1 170 (by omega)]
      exact ⟨o1, o2, o3⟩
    refine wg25 hky hw hT h0 hn hsn hl4 hG r (m + 1) M5 (by omega) (BM_dQw (dQs_dQw f5) hB') (mM_dQw (dQs_dQw f5) hI) W5 D5 (fun m' hm' => ?_) (fun M' f' W' D' P' => hK M' (Fr_tr f5 f') W' D' P')
    rcases Nat.lt_or_ge m' m with z | z
    · exact old m' z
    · rw [show m' = m by omega]; exact one
theorem wg15 {C : Cf} {ky w A0 B0 n : Nat} {mu : Option (List Nat)} {G : Gx} {x x2 x3 : Int32} {EK K : Mm → Prop} (hky : ky < 5) (hw : w = cT C * (ky + 1)) (hT : 0 < cT C) (h0 : SI C A0 B0) (hn : n ≤ 20) (hl4 : (bf C ky w A0 B0 (Ed C ky w A0 B0 n * w)).length ≤ 4000) (hG : HG C ky w A0 B0 n mu x G) :
    ∀ (r s : Nat) (M : Mm), s + r = (bf C ky w A0 B0 (Ed C ky w A0 B0 n * w)).length → BM C ky M → mM M mu → WM M (bf C ky w A0 B0 (Ed C ky w A0 B0 n * w)) 0 → WD M (bf C ky w A0 B0 (Ed C ky w A0 B0 n * w)) → (∀ s', s' < s → s' < Ed C ky w A0 B0 n → ∀ m', m' < w → EdP M G w x s' m') → (∀ M', Fr dQw eP M M' → WM M' (bf C ky w A0 B0 (Ed C ky w A0 B0 n * w)) 0 → WD M' (bf C ky w A0 B0 (Ed C ky w A0 B0 n * w)) → (∀ s', s' < Ed C ky w A0 B0 n → ∀ m', m' < w → EdP M' G w x s' m') → EK M') → f_X11_weighs_L15 S0 142 (nI n) x2 x3 (nI (bf C ky w A0 B0 (Ed C ky w A0 B0 n * w)).length) (nI w) EK K (r + 1) (nI s) M
  | 0, s, M, hs, hB, hI, hW, hD, hP, hK => by
    unfold f_X11_weighs_L15 f_X11_weighs_B15
    have e : s = (bf C ky w A0 B0 (Ed C ky w A0 B0 n * w)).length := by omega
    have hE := Ed_mono (C := C) (ky := ky) (w := w) (A0 := A0) (B0 := B0) n
    rw [Ed_succ] at hE
    rw [← e]
    exact ⟨fun _ => hK M (Fr_refl _ _ _) hW hD (fun s' hs' => hP s' (by omega) hs'), fun z => absurd (nI_le (Nat.le_refl _) (by omega)) z⟩
  | r + 1, s, M, hs, hB, hI, hW, hD, hP, hK => by
    unfold f_X11_weighs_L15 f_X11_weighs_B15
    have hwp : 0 < w := by rw [hw]; exact Nat.mul_pos hT (by omega)
    have c1 := hB.2.1.1.1
    have hw20 : w ≤ 20 := by
      rw [hw]
      have : cT C * (ky + 1) ≤ 4 * 5 := Nat.mul_le_mul c1 (by omega)
      omega
    refine ⟨fun z => absurd z (nI_ge (by omega) (by omega)), fun _ => ?_⟩
    by_cases hsn : s < Ed C ky w A0 B0 n
    · refine ⟨w + 1, ?_⟩
      simp only [forall_eq, nI_1]
      refine wg25 hky hw hT h0 hn hsn hl4 hG w 0 M (by omega) hB hI hW hD (fun m' hm' => absurd hm' (by omega)) (fun M' f' W' D' P' => ?_)
      refine wg15 hky hw hT h0 hn hl4 hG r (s + 1) M' (by omega) (BM_dQw (dQs_dQw f') hB) (mM_dQw (dQs_dQw f') hI) W' D' (fun s' hs' hsE m' hm' => ?_) (fun M'' f'' W'' D'' P'' => hK M'' (Fr_tr (dQs_dQw f') f'') W'' D'' P'')
      rcases Nat.lt_or_ge s' s with z | z
      · obtain ⟨o1, o2, o3⟩ := hP s' z hsE m' hm'
        have j1 : ∀ b, b = 168 ∨ b = 169 ∨ b = 170 → M'.1 b (20 * s' + m') = M.1 b (20 * s' + m') := by
          intro b hb
          refine f'.1 b _ ?_
          unfold dQs dQ
          simp only [Bool.or_eq_false_iff, Bool.and_eq_false_iff, beq_eq_false_iff_ne, decide_eq_false_iff_not]
          omega
        unfold EdP
        rw [j1 168 (by omega), j1 169 (by omega), j1 170 (by omega)]
        exact ⟨o1, o2, o3⟩
      · rw [show s' = s by omega]; exact P' m' hm'
    · refine ⟨0 + 1, ?_⟩
      unfold f_X11_weighs_L25 f_X11_weighs_B25
      refine ⟨fun z => absurd z (nI_ge (show 0 < w by omega) (by omega)), fun _ => ?_⟩
      have hlen : s < (bf C ky w A0 B0 (Ed C ky w A0 B0 n * w)).length := by omega
      have hdp : n ≤ (gt (bf C ky w A0 B0 (Ed C ky w A0 B0 n * w)) s).2.2.2.2 := Nat.le_of_not_lt (fun z => hsn ((dp_lt hwp hlen (Nat.le_refl _)).mp z))
      have hdp2 := dp_le (n := n) hwp hlen (Nat.le_refl _)
      have hins : vp_in (nI s) 4001 := vp_in_nI (by omega) (by omega)
      have hcls : (nI s).toNatClampNeg = s := nI_clamp (by omega)
      simp only [fx_142_42 hB.1, ex_some, shp_ne (show (164 : Nat) ≠ 100000 by decide), s0_164, ex_sh, hins, hcls, true_and, (hD s hlen).1, forall_eq, nI_1]
      refine ⟨fun _ => ?_, fun z => absurd (nI_le hdp (by omega)) z⟩
      exact wg15 hky hw hT h0 hn hl4 hG r (s + 1) M (by omega) hB hI hW hD (fun s' hs' hsE m' hm' => hP s' (by omega) hsE m' hm') hK
