/-! the row of steps that is told; the model finds the first -/
/-! the row of steps that is told -/
def an (L : List En) (s : Nat) : Nat → Nat
  | 0 => s
  | j + 1 => (gt L (an L s j)).2.2.1
def TR (w : Nat) (L : List En) : Prop := (gt L 0).2.2.2.2 = 0 ∧ ∀ s, s < L.length → s ≠ 0 → (gt L s).2.2.1 < s ∧ (gt L s).2.2.2.1 < w ∧ (gt L s).2.2.2.2 = (gt L (gt L s).2.2.1).2.2.2.2 + 1
theorem bf_tr {C : Cf} {ky w A0 B0 : Nat} (hw : 0 < w) (k : Nat) : TR w (bf C ky w A0 B0 k) := by
  refine ⟨?_, fun s hs hz => ?_⟩
  · rw [bf_gt (show 0 ≤ k by omega) (by simp [bf])]; rfl
  · obtain ⟨pk, a1, a2, a3, a4, a5, a6, a7⟩ := bf_par hw k s hs hz
    rw [a2, a3]
    refine ⟨by omega, Nat.mod_lt _ hw, ?_⟩
    rw [a7, bf_gt (show pk ≤ k by omega) a6]
theorem an_lt {w : Nat} {L : List En} (hT : TR w L) {s : Nat} (hs : s < L.length) : ∀ j, j ≤ (gt L s).2.2.2.2 → an L s j < L.length ∧ (gt L (an L s j)).2.2.2.2 = (gt L s).2.2.2.2 - j
  | 0, _ => ⟨hs, by simp [an]⟩
  | j + 1, hj => by
    obtain ⟨h1, h2⟩ := an_lt hT hs j (by omega)
    have hz : an L s j ≠ 0 := fun e => by
      rw [e, hT.1] at h2; omega
    obtain ⟨b1, b2, b3⟩ := hT.2 _ h1 hz
    refine ⟨?_, ?_⟩
    · show (gt L (an L s j)).2.2.1 < L.length
      omega
    · show (gt L (gt L (an L s j)).2.2.1).2.2.2.2 = _
      omega
theorem an_z {w : Nat} {L : List En} (hT : TR w L) {s : Nat} (hs : s < L.length) : an L s (gt L s).2.2.2.2 = 0 := by
  obtain ⟨h1, h2⟩ := an_lt hT hs _ (Nat.le_refl _)
  apply Classical.byContradiction
  intro hz
  have := (hT.2 _ h1 hz).2.2
  omega
theorem an_nz {w : Nat} {L : List En} (hT : TR w L) {s j : Nat} (hs : s < L.length) (hj : j < (gt L s).2.2.2.2) : an L s j ≠ 0 := fun e => by
  obtain ⟨h1, h2⟩ := an_lt hT hs j (by omega)
  rw [e, hT.1] at h2; omega
/-- the move, j steps ahead of the last -/
def mvj (L : List En) (s bY : Nat) : Nat → Nat
  | 0 => bY
  | j + 1 => (gt L (an L s j)).2.2.2.1
def sj (L : List En) (s bY : Nat) : Nat → Int32
  | 0 => nI (32 * s + bY)
  | j + 1 => frm (an L s j) (gt L (an L s j))
theorem sj_n {w : Nat} {L : List En} (hT : TR w L) {s bY j : Nat} (hs : s < L.length) (hj : j ≤ (gt L s).2.2.2.2) : sj L s bY j = nI (32 * an L s j + mvj L s bY j) := by
  cases j with
  | zero => rfl
  | succ j =>
    show frm (an L s j) (gt L (an L s j)) = _
    unfold frm
    rw [if_neg (an_nz hT hs (by omega))]
    rfl
theorem sj_z {w : Nat} {L : List En} (hT : TR w L) {s bY : Nat} (hs : s < L.length) : sj L s bY ((gt L s).2.2.2.2 + 1) = -1 := by
  show frm (an L s _) (gt L (an L s _)) = _
  unfold frm
  rw [if_pos (an_z hT hs)]
theorem mvj_lt {w : Nat} {L : List En} (hT : TR w L) (hw : w ≤ 32) {s bY j : Nat} (hs : s < L.length) (hb : bY < 32) (hj : j ≤ (gt L s).2.2.2.2) : mvj L s bY j < 32 := by
  cases j with
  | zero => exact hb
  | succ j =>
    have h1 := (an_lt hT hs j (by omega)).1
    have := (hT.2 _ h1 (an_nz hT hs (by omega))).2.1
    show (gt L (an L s j)).2.2.2.1 < 32
    omega
theorem sh5 {a b : Nat} (ha : a < 4001) (hb : b < 32) : nI (32 * a + b) >>> ((5 : Int32) &&& 31) = nI a := by
  rw [pk_shrN (by omega) ((5 : Int32) &&& 31) 5 rfl]
  congr 1; omega
theorem an31 {a b : Nat} (ha : a < 4001) (hb : b < 32) : (nI (32 * a + b) &&& (31 : Int32)).toInt64 = lN b := by
  rw [pk_andN (by omega) (m := (31 : Int32)) 5 rfl, nI_l (by omega)]
  congr 1; omega
theorem cnt_L {w s bY : Nat} {x1 : Int32} {L : List En} {M : Mm} {EK : Int32 → Mm → Prop} {K : Mm → Prop} (hF : FX M) (hW : WK M L) (hT : TR w L) (hw : w ≤ 32) (hs : s < L.length) (hb : bY < 32) (hd : (gt L s).2.2.2.2 ≤ 19) (hK : EK (nI ((gt L s).2.2.2.2 + 1)) M) :
    ∀ (r j : Nat), j + r = (gt L s).2.2.2.2 + 1 → f_X9_tellSteps_L5 S0 10 x1 116 EK K (r + 1) (nI j) (sj L s bY j) M
  | 0, j, hj => by
    unfold f_X9_tellSteps_L5 f_X9_tellSteps_B5
    have e : j = (gt L s).2.2.2.2 + 1 := by omega
    subst e
    rw [sj_z hT hs]
    exact ⟨fun _ => hK, fun z => absurd (by decide) z⟩
  | r + 1, j, hj => by
    unfold f_X9_tellSteps_L5 f_X9_tellSteps_B5
    have h1 := (an_lt hT hs j (by omega)).1
    have hl := hW.2.1
    have h2 := mvj_lt (bY := bY) (j := j) hT hw hs hb (by omega)
    rw [sj_n hT hs (by omega)]
    have hin : vp_in (nI (an L s j)) 4000 := vp_in_nI (by omega) (by omega)
    have hcl : (nI (an L s j)).toNatClampNeg = an L s j := nI_clamp (by omega)
    refine ⟨fun z => absurd z (nI_pos (by omega)), fun _ => ⟨fun z => absurd z (show ¬ nI 20 ≤ nI j from nI_ge (by omega) (by decide)), fun _ => ?_⟩⟩
    rw [sh5 (by omega) h2]
    simp only [fx_10_4 hF, ex_some, shp_ne (show (107 : Nat) ≠ 100000 by decide), s0_107, ex_sh, hin, hcl, true_and, forall_eq, nI_1, (hW.2.2.1 _ h1).2.2.2.2]
    exact cnt_L hF hW hT hw hs hb hd hK r (j + 1) (by omega)
def dTd : Nat → Nat → Bool := fun b j => b == 116 && j == 1
def eTd : Nat → Bool := fun b => b == 117
theorem fil_L {w s bY : Nat} {L : List En} {M0 : Mm} {EK K : Mm → Prop} (hF0 : FX M0) (hW0 : WK M0 L) (hT : TR w L) (hw : w ≤ 32) (hs : s < L.length) (hb : bY < 32) (hd : (gt L s).2.2.2.2 ≤ 19) (hK : ∀ M', M'.1 = M0.1 → M'.2.2 = M0.2.2 → (∀ b, b ≠ 117 → M'.2.1 b = M0.2.1 b) → (∀ j, j ≤ (gt L s).2.2.2.2 → M'.2.1 117 ((gt L s).2.2.2.2 - j) = lN (mvj L s bY j)) → EK M') :
    ∀ (r j : Nat) (M : Mm), j + r = (gt L s).2.2.2.2 + 1 → M.1 = M0.1 → M.2.2 = M0.2.2 → (∀ b, b ≠ 117 → M.2.1 b = M0.2.1 b) → (∀ i, i < j → M.2.1 117 ((gt L s).2.2.2.2 - i) = lN (mvj L s bY i)) → f_X9_tellSteps_L46 S0 10 116 EK K (r + 1) (sj L s bY j) (nI r + (-1 : Int32)) M
  | 0, j, M, hj, h1, h2, h3, h4 => by
    unfold f_X9_tellSteps_L46 f_X9_tellSteps_B46
    exact ⟨fun _ => hK M h1 h2 h3 (fun i hi => h4 i (by omega)), fun z => absurd neg1 z⟩
  | r + 1, j, M, hj, h1, h2, h3, h4 => by
    unfold f_X9_tellSteps_L46 f_X9_tellSteps_B46
    have hF : FX M := FX_ag h2 hF0
    have a1 := (an_lt hT hs j (by omega)).1
    have hl := hW0.2.1
    have a2 := mvj_lt (bY := bY) (j := j) hT hw hs hb (by omega)
    rw [pk_m1, sj_n hT hs (by omega)]
    have hin : vp_in (nI (an L s j)) 4000 := vp_in_nI (by omega) (by omega)
    have hcl : (nI (an L s j)).toNatClampNeg = an L s j := nI_clamp (by omega)
    have hinr : vp_in (nI r) 20 := vp_in_nI (by omega) (by omega)
    have hclr : (nI r).toNatClampNeg = r := nI_clamp (by omega)
    refine ⟨fun z => absurd z (nI_pos (by omega)), fun _ => ⟨fun z => absurd z (nI_pos (by omega)), fun _ => ?_⟩⟩
    rw [sh5 (by omega) a2, an31 (by omega) a2]
    have e107 : ∀ x, (stJ M 117 r x).1 107 (an L s j) = frm (an L s j) (gt L (an L s j)) := fun x => by
      show M.1 107 _ = _
      rw [h1]; exact (hW0.2.2.1 _ a1).2.2.2.2
    simp only [rJr, fx_10_4 hF, fx_116_0 hF, ex_some, shp_ne (show (107 : Nat) ≠ 100000 by decide), s0_107, s0_117, ex_sh, hin, hcl, hinr, hclr, true_and, forall_eq, e107]
    refine fil_L hF0 hW0 hT hw hs hb hd hK r (j + 1) _ (by omega) h1 h2 (fun b hb => (stJ_row hb).trans (h3 b hb)) (fun i hi => ?_)
    by_cases e : i = j
    · subst e
      rw [rJ, if_pos ⟨rfl, by omega⟩]
    · rw [rJ, if_neg (by omega)]; exact h4 i (by omega)
theorem tellS_ok {w s bY : Nat} {L : List En} {M : Mm} {K : Mm → Prop} (hF : FX M) (hW : WK M L) (hT : TR w L) (hw : w ≤ 32) (hs : s < L.length) (hb : bY < 32) (hd : (gt L s).2.2.2.2 ≤ 19) (hK : ∀ M', Fr dTd eTd M M' → M'.1 116 1 = nI ((gt L s).2.2.2.2 + 1) → (∀ j, j ≤ (gt L s).2.2.2.2 → M'.2.1 117 ((gt L s).2.2.2.2 - j) = lN (mvj L s bY j)) → K M') : f_X9_tellSteps S0 10 (nI (32 * s + bY)) 116 M K := by
  unfold f_X9_tellSteps
  refine ⟨(gt L s).2.2.2.2 + 1 + 1, cnt_L (L := L) (s := s) (bY := bY) hF hW hT hw hs hb hd ?_ _ 0 (by omega)⟩
  simp only [forall_eq]
  refine ⟨(gt L s).2.2.2.2 + 1 + 1, ?_⟩
  have f1 : Fr dTd eTd M (stI M 116 1 (nI ((gt L s).2.2.2.2 + 1))) := Fr_I rfl (Fr_refl _ _ _)
  have W1 : WK (stI M 116 1 (nI ((gt L s).2.2.2.2 + 1))) L := WK_mo (fun b hb => stI_row (by omega)) (rI_ne (by omega)) (fun _ _ => rfl) hW
  have main := fil_L (bY := bY) (EK := fun m20 => K m20) (K := K) (M0 := stI M 116 1 (nI ((gt L s).2.2.2.2 + 1))) (FX_ag rfl hF) W1 hT hw hs hb hd (fun M' g1 g2 g3 g4 => hK M' ⟨fun b j hd => ?_, fun b hd => ?_, g2⟩ (by rw [g1]; exact rI_eq) g4) ((gt L s).2.2.2.2 + 1) 0 _ (by omega) rfl rfl (fun _ _ => rfl) (fun i hi => by omega)
  · rw [show nI ((gt L s).2.2.2.2 + 1) + (-1 : Int32) = nI ((gt L s).2.2.2.2 + 1) - 1 by rw [pk_m1, m1c]] at main
    exact main
  · rw [g1]; exact f1.1 b j hd
  · unfold eTd at hd
    rw [g3 b (by simpa using hd)]; rfl
theorem tellS_no {M : Mm} {K : Mm → Prop} (hK : ∀ M', Fr dTd eTd M M' → M'.1 116 1 = 0 → K M') : f_X9_tellSteps S0 10 (-1) 116 M K := by
  unfold f_X9_tellSteps
  refine ⟨0 + 1, ?_⟩
  unfold f_X9_tellSteps_L5 f_X9_tellSteps_B5
  refine ⟨fun _ => ?_, fun z => absurd (by decide) z⟩
  simp only [forall_eq]
  refine ⟨0 + 1, ?_⟩
  unfold f_X9_tellSteps_L46 f_X9_tellSteps_B46
  exact ⟨fun _ => hK _ (Fr_I rfl (Fr_refl _ _ _)) rI_eq, fun z => absurd (by decide) z⟩
/-- the model's way -/
theorem way_L {w s : Nat} {x2 x3 : Int32} {L : List En} {M0 : Mm} {EK K : Mm → Prop} (hF0 : FX M0) (hD0 : WD M0 L) (hlen : L.length ≤ 4000) (hT : TR w L) (hw : w ≤ 32) (hs : s < L.length) (hd : (gt L s).2.2.2.2 ≤ 20) (hK : ∀ M', M'.1 = M0.1 → M'.2.2 = M0.2.2 → (∀ b, b ≠ 143 → M'.2.1 b = M0.2.1 b) → (∀ j, j < (gt L s).2.2.2.2 → M'.2.1 143 ((gt L s).2.2.2.2 - 1 - j) = lN (gt L (an L s j)).2.2.2.1) → EK M') :
    ∀ (r j : Nat) (M : Mm), j + r = (gt L s).2.2.2.2 → M.1 = M0.1 → M.2.2 = M0.2.2 → (∀ b, b ≠ 143 → M.2.1 b = M0.2.1 b) → (∀ i, i < j → M.2.1 143 ((gt L s).2.2.2.2 - 1 - i) = lN (gt L (an L s i)).2.2.2.1) → f_X11_tellsWay_L20 S0 142 x2 x3 EK K (r + 1) (nI (an L s j)) (nI r + (-1 : Int32)) M
  | 0, j, M, hj, h1, h2, h3, h4 => by
    unfold f_X11_tellsWay_L20 f_X11_tellsWay_B20
    exact ⟨fun _ => hK M h1 h2 h3 (fun i hi => h4 i (by omega)), fun z => absurd neg1 z⟩
  | r + 1, j, M, hj, h1, h2, h3, h4 => by
    unfold f_X11_tellsWay_L20 f_X11_tellsWay_B20
    have hF : FX M := FX_ag h2 hF0
    have a1 := (an_lt hT hs j (by omega)).1
    have nz := an_nz hT hs (show j < (gt L s).2.2.2.2 by omega)
    have a2 := (hT.2 _ a1 nz).2.1
    obtain ⟨q1, q2⟩ := (hD0 _ a1).2 nz
    rw [pk_m1]
    have hin : vp_in (nI (an L s j)) 4001 := vp_in_nI (by omega) (by omega)
    have hcl : (nI (an L s j)).toNatClampNeg = an L s j := nI_clamp (by omega)
    have hinr : vp_in (nI r) 64 := vp_in_nI (by omega) (by omega)
    have hclr : (nI r).toNatClampNeg = r := nI_clamp (by omega)
    have e163 : M.1 163 (an L s j) = nI (gt L (an L s j)).2.2.2.1 := by rw [h1]; exact q2
    have e162 : ∀ x, (stJ M 143 r x).1 162 (an L s j) = nI (gt L (an L s j)).2.2.1 := fun x => by
      show M.1 162 _ = _
      rw [h1]; exact q1
    refine ⟨fun z => absurd z (nI_pos (by omega)), fun _ => ?_⟩
    simp only [rJr, fx_142_2 hF, fx_142_40 hF, fx_142_41 hF, ex_some, shp_ne (show (162 : Nat) ≠ 100000 by decide), shp_ne (show (163 : Nat) ≠ 100000 by decide), s0_143, s0_162, s0_163, ex_sh, hin, hcl, hinr, hclr, true_and, forall_eq, e163, e162, nI_l (show (gt L (an L s j)).2.2.2.1 < 2 ^ 31 by omega)]
    refine way_L hF0 hD0 hlen hT hw hs hd hK r (j + 1) _ (by omega) h1 h2 (fun b hb => (stJ_row hb).trans (h3 b hb)) (fun i hi => ?_)
    by_cases e : i = j
    · subst e
      rw [rJ, if_pos ⟨rfl, by omega⟩]
    · rw [rJ, if_neg (by omega)]; exact h4 i (by omega)
def dWy : Nat → Nat → Bool := fun b j => b == 142 && j == 1
def eWy : Nat → Bool := fun b => b == 143
/-- told: the way to s, and the step bY from there if there is one -/
theorem way_ok {w s bY : Nat} {x : Int32} {L : List En} {M : Mm} {K : Mm → Prop} (hF : FX M) (hD : WD M L) (hlen : L.length ≤ 4000) (hT : TR w L) (hw : w ≤ 32) (hs : s < L.length) (hd : (gt L s).2.2.2.2 ≤ 20) (hx : x = -1 ∨ (x = nI bY ∧ bY < 32))
    (hK : ∀ M', Fr dWy eWy M M' → (∀ j, j < (gt L s).2.2.2.2 → M'.2.1 143 ((gt L s).2.2.2.2 - 1 - j) = lN (gt L (an L s j)).2.2.2.1) → ((x = -1 ∧ M'.1 142 1 = nI (gt L s).2.2.2.2) ∨ (x = nI bY ∧ M'.1 142 1 = nI ((gt L s).2.2.2.2 + 1) ∧ M'.2.1 143 (gt L s).2.2.2.2 = lN bY)) → K M') : f_X11_tellsWay S0 142 (nI s) x M K := by
  unfold f_X11_tellsWay
  have hin : vp_in (nI s) 4001 := vp_in_nI (by omega) (by omega)
  have hcl : (nI s).toNatClampNeg = s := nI_clamp (by omega)
  have e164 : (stI M 142 1 0).1 164 s = nI (gt L s).2.2.2.2 := by rw [rI_ne (by omega)]; exact (hD s hs).1
  simp only [rIr, fx_142_42 hF, ex_some, shp_ne (show (164 : Nat) ≠ 100000 by decide), s0_164, ex_sh, hin, hcl, true_and, forall_eq, e164]
  have f1 : Fr dWy eWy M (stI M 142 1 0) := Fr_I rfl (Fr_refl _ _ _)
  have D1 : WD (stI M 142 1 0) L := by
    unfold WD at *
    rw [stI_row (by omega), stI_row (by omega), stI_row (by omega)]; exact hD
  refine ⟨(gt L s).2.2.2.2 + 1, ?_⟩
  have main := way_L (x2 := x) (x3 := nI (gt L s).2.2.2.2) (M0 := stI M 142 1 0) (EK := fun m16 => ((x < 0 → K (stI m16 142 1 (nI (gt L s).2.2.2.2))) ∧ (¬ x < 0 → f_X11_enters S0 142 x.toInt64 (stI m16 142 1 (nI (gt L s).2.2.2.2)) (fun m19 => K m19)))) (K := K) (FX_ag rfl hF) D1 hlen hT hw hs hd (fun M' g1 g2 g3 g4 => ?_) (gt L s).2.2.2.2 0 _ (by omega) rfl rfl (fun _ _ => rfl) (fun i hi => by omega)
  · rw [show nI (gt L s).2.2.2.2 + (-1 : Int32) = nI (gt L s).2.2.2.2 - 1 by
      rw [Int32.sub_eq_add_neg]] at main
    exact main
  · have f2 : Fr dWy eWy M (stI M' 142 1 (nI (gt L s).2.2.2.2)) := by
      refine Fr_I rfl ⟨fun b j hd => by rw [g1]; exact f1.1 b j hd, fun b hd => ?_, g2⟩
      unfold eWy at hd
      rw [g3 b (by simpa using hd)]; rfl
    have hF2 := FX_fr f2 hF
    refine ⟨fun z => ?_, fun z => ?_⟩
    · rcases hx with hx | ⟨hx, hb⟩
      · exact hK _ f2 g4 (Or.inl ⟨hx, rI_eq⟩)
      · rw [hx] at z; exact absurd z (nI_pos (by omega))
    · rcases hx with hx | ⟨hx, hb⟩
      · rw [hx] at z; exact absurd (by decide) z
      · unfold f_X11_enters
        have hinr : vp_in (nI (gt L s).2.2.2.2) 64 := vp_in_nI (by omega) (by omega)
        have hclr : (nI (gt L s).2.2.2.2).toNatClampNeg = (gt L s).2.2.2.2 := nI_clamp (by omega)
        have e1 : (stI M' 142 1 (nI (gt L s).2.2.2.2)).1 142 1 = nI (gt L s).2.2.2.2 := rI_eq
        have e2 : ∀ y, (stJ (stI M' 142 1 (nI (gt L s).2.2.2.2)) 143 (gt L s).2.2.2.2 y).1 142 1 = nI (gt L s).2.2.2.2 := fun y => e1
        rw [hx, nI_l (by omega)]
        simp only [fx_142_2 hF2, ex_some, s0_143, ex_sh, e1, hinr, hclr, true_and, forall_eq, e2, nI_1]
        refine hK _ (Fr_I rfl (Fr_J rfl f2)) (fun j hj => ?_) (Or.inr ⟨hx, rI_eq, ?_⟩)
        · show (stJ (stI M' 142 1 (nI (gt L s).2.2.2.2)) 143 (gt L s).2.2.2.2 (lN bY)).2.1 143 _ = _
          rw [rJ, if_neg (by omega)]; exact g4 j hj
        · show (stJ (stI M' 142 1 (nI (gt L s).2.2.2.2)) 143 (gt L s).2.2.2.2 (lN bY)).2.1 143 _ = _
          rw [stJ_get]
/-- told alike -/
theorem told_way {s bY : Nat} {L : List En} {M : Mm} (hd : (gt L s).2.2.2.2 ≤ 19) (c1 : M.1 116 1 = nI ((gt L s).2.2.2.2 + 1)) (c2 : ∀ j, j ≤ (gt L s).2.2.2.2 → M.2.1 117 ((gt L s).2.2.2.2 - j) = lN (mvj L s bY j)) (m1 : M.1 142 1 = nI ((gt L s).2.2.2.2 + 1)) (m2 : ∀ j, j < (gt L s).2.2.2.2 → M.2.1 143 ((gt L s).2.2.2.2 - 1 - j) = lN (gt L (an L s j)).2.2.2.1) (m3 : M.2.1 143 (gt L s).2.2.2.2 = lN bY) : V_told M := by
  refine ⟨(gt L s).2.2.2.2 + 1, by omega, c1, m1, fun i hi => ?_⟩
  have h1 := c2 ((gt L s).2.2.2.2 - i) (by omega)
  rw [show (gt L s).2.2.2.2 - ((gt L s).2.2.2.2 - i) = i by omega] at h1
  rw [h1]
  by_cases e : i = (gt L s).2.2.2.2
  · rw [e, Nat.sub_self, m3]; rfl
  · have h2 := m2 ((gt L s).2.2.2.2 - 1 - i) (by omega)
    rw [show (gt L s).2.2.2.2 - 1 - ((gt L s).2.2.2.2 - 1 - i) = i by omega] at h2
    rw [h2, show (gt L s).2.2.2.2 - i = ((gt L s).2.2.2.2 - 1 - i) + 1 by omega]
    rfl
theorem breaksM_ok {A B : Nat} {F : F4} {mu : Option (List Nat)} {M : Mm} {K : Int32 → Mm → Prop} (hF : FX M) (hmu : mM M mu) (hs : MS M A B) (hf : MF M F) (hK : ∀ M', E1 149 M M' → K (if brk mu A B F = true then 1 else 0) M') : f_X11_breaks S0 142 M K := by
  unfold f_X11_breaks
  rcases hmu with ⟨a, b⟩ | ⟨e, a, b, c, d⟩
  · rw [b]
    refine ⟨fun _ => ?_, fun z => absurd rfl z⟩
    have := hK M (E1_refl _ _)
    rw [a] at this
    exact this
  · rw [c]
    refine ⟨fun z => absurd z (by decide), fun _ => ?_⟩
    refine worked_ok (r := 69) (by omega) hF hs hf d b (fun M' hE => ?_)
    have := hK M' hE
    rw [a] at this
    unfold brk at this
    simp only [decide_eq_true_eq] at this
    refine ⟨fun z => ?_, fun z => ?_⟩
    · rw [if_pos z] at this; exact this
    · rw [if_neg z] at this; exact this
/-- what is looked for, and the model's code that finds it -/
def IFm (so : Nat → Nat → F4 → Nat → Bool) (M : Mm) : Prop := ∀ (M1 : Mm) (A B : Nat) (F : F4) (fl : Nat) (K : Int32 → Mm → Prop), Fr dD eN M M1 → MS M1 A B → MF M1 F → fl < 8 → M1.1 142 37 = nI fl → (F.2.1 = 0 → fl = 0) → (∀ M2, Fr dD eN M1 M2 → K (if so A B F fl = true then 1 else 0) M2) → f_X11_isFound S0 142 M1 K
theorem IFm_fr {so : Nat → Nat → F4 → Nat → Bool} {M M' : Mm} (h : Fr dD eN M M') (hi : IFm so M) : IFm so M' := fun M1 A B F fl K f => hi M1 A B F fl K (Fr_tr h f)
theorem mM_dD {mu : Option (List Nat)} {M M' : Mm} (h : Fr dD eN M M') (hm : mM M mu) : mM M' mu := mM_ag (Fr_row h _ fun _ => rfl) (Fr_row h _ fun _ => rfl) (h.1 _ _ rfl) hm
theorem IF_0 {mu : Option (List Nat)} {M : Mm} (hF : FX M) (hm : mM M mu) (h51 : M.1 142 51 = 0) : IFm (fun A B F _ => brk mu A B F) M := by
  intro M1 A B F fl K f hs hf hfl h37 hz hK
  unfold f_X11_isFound
  rw [f.1 142 51 rfl, h51]
  refine ⟨fun _ => breaksM_ok (FX_fr f hF) (mM_dD f hm) hs hf (fun M2 hE => ⟨?_, hK M2 (E1_Fr hE (fun _ => rfl))⟩), fun z => absurd rfl z⟩
  split
  · exact Or.inr rfl
  · exact Or.inl rfl
theorem IF_2 {mu : Option (List Nat)} {M : Mm} {b : Nat} (hF : FX M) (hm : mM M mu) (h51 : M.1 142 51 = 2) (h52 : M.1 142 52 = nI b) (hb : b < 3) : IFm (soH mu b) M := by
  intro M1 A B F fl K f hs hf hfl h37 hz hK
  unfold f_X11_isFound
  rw [f.1 142 51 rfl, h51, f.1 142 52 rfl, h52, hf.2.1, h37, pw_bit fl hfl b hb]
  refine ⟨fun z => absurd z (by decide), fun _ => ⟨fun z => absurd z (by decide), fun _ => ⟨fun z => ?_, fun z => ⟨fun y => ?_, fun y => ?_⟩⟩⟩⟩
  · have := hK M1 (Fr_refl _ _ _)
    unfold soH at this
    have h0 := hz z
    have hp : 0 < 2 ^ b := Nat.two_pow_pos b
    simp only [Bool.and_eq_true, decide_eq_true_eq] at this
    rw [if_neg (fun q => by have := q.1; omega)] at this
    exact this
  · simp only [forall_eq]
    have f2 : Fr dD eN M1 (stI (stI M1 142 28 1) 142 29 0) := Fr_I rfl (Fr_I rfl (Fr_refl _ _ _))
    refine breaksM_ok (F := (1, 0, F.2.2.1, F.2.2.2)) (FX_fr (Fr_tr f f2) hF) (mM_dD (Fr_tr f f2) hm) hs ⟨?_, rI_eq, ?_, ?_⟩ (fun M2 hE => ?_)
    · rw [rI_ne (by omega), rI_eq]
    · rw [rI_ne (by omega), rI_ne (by omega)]; exact hf.2.2.1
    · rw [rI_ne (by omega), rI_ne (by omega)]; exact hf.2.2.2
    · have := hK M2 (Fr_E1 (fun _ => rfl) f2 hE)
      unfold soH at this
      simp only [Bool.and_eq_true, decide_eq_true_eq] at this
      by_cases hbr : brk mu A B (1, 0, F.2.2.1, F.2.2.2) = true
      · rw [if_pos ⟨y, hbr⟩] at this
        rw [if_pos hbr]
        exact ⟨Or.inr rfl, this⟩
      · rw [if_neg (fun q => hbr q.2)] at this
        rw [if_neg hbr]
        exact ⟨Or.inl rfl, this⟩
  · have := hK M1 (Fr_refl _ _ _)
    unfold soH at this
    simp only [Bool.and_eq_true, decide_eq_true_eq] at this
    rw [if_neg (fun q => y q.1)] at this
    exact this
theorem stp_hz {C : Cf} {A B t key : Nat} : (stp C A B t key).2.2.1.2.1 = 0 → (stp C A B t key).2.2.2 = 0 := by
  unfold stp
  split
  · exact fun _ => rfl
  · split
    · exact fun _ => rfl
    · split
      · exact fun _ => rfl
      · split
        · exact fun _ => rfl
        · split
          · exact fun _ => rfl
          · intro h
            split at h
            · assumption
            · exact absurd h (show ¬ (1 : Int32) = 0 by decide)
theorem WM_dD {M M' : Mm} {L : List En} {lo : Nat} (f : Fr dD eN M M') (h : WM M L lo) : WM M' L lo := WM_ag (f.1 _ _ rfl) (f.2.1 _ rfl) (f.2.1 _ rfl) (Fr_row f _ fun _ => rfl) h
theorem WD_dD {M M' : Mm} {L : List En} (f : Fr dD eN M M') (h : WD M L) : WD M' L := by
  unfold WD at *
  rw [Fr_row f 162 (fun _ => rfl), Fr_row f 163 (fun _ => rfl), Fr_row f 164 (fun _ => rfl)]; exact h
theorem BM_dD {C : Cf} {ky : Nat} {M M' : Mm} (h : Fr dD eN M M') (hb : BM C ky M) : BM C ky M' := BM_fr (dD_dQ h) hb
/-- where the model finds it -/
def FW (L : List En) (s bY : Nat) (M : Mm) : Prop := M.1 142 1 = nI ((gt L s).2.2.2.2 + 1) ∧ (∀ j, j < (gt L s).2.2.2.2 → M.2.1 143 ((gt L s).2.2.2.2 - 1 - j) = lN (gt L (an L s j)).2.2.2.1) ∧ M.2.1 143 (gt L s).2.2.2.2 = lN bY
theorem bf_sl {C : Cf} {ky w A0 B0 n s : Nat} (hs : s < Ed C ky w A0 B0 n) : s < (bf C ky w A0 B0 (s * w)).length := by
  obtain ⟨d, a1, a2, a3⟩ := Ed_find n hs
  exact Nat.lt_of_lt_of_le a3 (bf_mono (Nat.mul_le_mul_right _ a2))
theorem fd29 {C : Cf} {ky w A0 B0 n s : Nat} {so : Nat → Nat → F4 → Nat → Bool} {x2 : Int32} {EK : Mm → Prop} {K : Int32 → Mm → Prop} (hky : ky < 5) (hw : w = cT C * (ky + 1)) (hT : 0 < cT C) (h0 : SI C A0 B0) (hn : n ≤ 20) (hsn : s < Ed C ky w A0 B0 n) (hl4 : (bf C ky w A0 B0 (Ed C ky w A0 B0 n * w)).length ≤ 4000) :
    ∀ (r m : Nat) (M : Mm), m + r = w → BM C ky M → IFm so M → WM M (bf C ky w A0 B0 (Ed C ky w A0 B0 n * w)) 0 → WD M (bf C ky w A0 B0 (Ed C ky w A0 B0 n * w)) → (∀ k, k < s * w + m → pS C ky w A0 B0 so k = false) → (∀ M', Fr dD eN M M' → (∀ k, k < s * w + w → pS C ky w A0 B0 so k = false) → EK M') → (∀ k, k < Ed C ky w A0 B0 n * w → pS C ky w A0 B0 so k = true → (∀ j, j < k → pS C ky w A0 B0 so j = false) → ∀ M1 M', Fr dD eN M M1 → Fr dWy eWy M1 M' → FW (bf C ky w A0 B0 (Ed C ky w A0 B0 n * w)) (k / w) (k % w) M' → K (nI ((gt (bf C ky w A0 B0 (Ed C ky w A0 B0 n * w)) (k / w)).2.2.2.2 + 1)) M') → f_X11_finds_L29 S0 142 (nI n) x2 (nI s) EK K (r + 1) (nI m) M
  | 0, m, M, hm, hB, hI, hW, hD, hP, hK, hFd => by
    unfold f_X11_finds_L29 f_X11_finds_B29 f_X11_width
    obtain ⟨b1, b2, b3⟩ := hB
    have c1 := b2.1.1
    have hw20 : w ≤ 20 := by
      rw [hw]
      have : cT C * (ky + 1) ≤ 4 * 5 := Nat.mul_le_mul c1 (by omega)
      omega
    have e : m = w := by omega
    subst e
    rw [b2.2.1, b3, nI_1 ky, pk_mul, ← hw]
    exact ⟨fun _ => hK M (Fr_refl _ _ _) hP, fun z => absurd (nI_le (Nat.le_refl _) (by omega)) z⟩
  | r + 1, m, M, hm, hB, hI, hW, hD, hP, hK, hFd => by
    have hB' := hB
    obtain ⟨b1, b2, b3⟩ := hB
    have c1 := b2.1.1
    have hw20 : w ≤ 20 := by
      rw [hw]
      have : cT C * (ky + 1) ≤ 4 * 5 := Nat.mul_le_mul c1 (by omega)
      omega
    obtain ⟨d1, d2⟩ := divk (s := s) (show m < w by omega)
    obtain ⟨t1, t2⟩ := mv_t hw (show m < w by omega)
    have hEn : (s + 1) * w ≤ Ed C ky w A0 B0 n * w := Nat.mul_le_mul_right _ hsn
    rw [Nat.add_mul, Nat.one_mul] at hEn
    have hlen0 := bf_sl hsn
    have hlenk : s < (bf C ky w A0 B0 (s * w + m)).length := Nat.lt_of_lt_of_le hlen0 (bf_mono (by omega))
    have hlen : s < (bf C ky w A0 B0 (Ed C ky w A0 B0 n * w)).length := Nat.lt_of_lt_of_le hlen0 (bf_mono (by omega))
    have hdp := (dp_lt (by omega) hlen (Nat.le_refl _)).mpr hsn
    have hins : vp_in (nI s) 4001 := vp_in_nI (by omega) (by omega)
    have hcls : (nI s).toNatClampNeg = s := nI_clamp (by omega)
    have hsi := bf_si b2.1 hky hw hT h0 (Ed C ky w A0 B0 n * w) s hlen
    have enx : nx C ky w (bf C ky w A0 B0 (s * w + m)) (s * w + m) = stp C (gt (bf C ky w A0 B0 (Ed C ky w A0 B0 n * w)) s).1 (gt (bf C ky w A0 B0 (Ed C ky w A0 B0 n * w)) s).2.1 (m / (ky + 1)) (m % (ky + 1)) := by
      unfold nx; rw [d1, d2, bf_gt (show s * w + m ≤ Ed C ky w A0 B0 n * w by omega) hlenk]
    have hps : pS C ky w A0 B0 so (s * w + m) = so (stp C (gt (bf C ky w A0 B0 (Ed C ky w A0 B0 n * w)) s).1 (gt (bf C ky w A0 B0 (Ed C ky w A0 B0 n * w)) s).2.1 (m / (ky + 1)) (m % (ky + 1))).1 (stp C (gt (bf C ky w A0 B0 (Ed C ky w A0 B0 n * w)) s).1 (gt (bf C ky w A0 B0 (Ed C ky w A0 B0 n * w)) s).2.1 (m / (ky + 1)) (m % (ky + 1))).2.1 (stp C (gt (bf C ky w A0 B0 (Ed C ky w A0 B0 n * w)) s).1 (gt (bf C ky w A0 B0 (Ed C ky w A0 B0 n * w)) s).2.1 (m / (ky + 1)) (m % (ky + 1))).2.2.1 (stp C (gt (bf C ky w A0 B0 (Ed C ky w A0 B0 n * w)) s).1 (gt (bf C ky w A0 B0 (Ed C ky w A0 B0 n * w)) s).2.1 (m / (ky + 1)) (m % (ky + 1))).2.2.2 := by
      unfold pS; rw [enx]
    unfold f_X11_finds_L29 f_X11_finds_B29 f_X11_width
    rw [b2.2.1, b3, nI_1 ky, pk_mul, ← hw]
    refine ⟨fun z => absurd z (nI_ge (by omega) (by omega)), fun _ => ?_⟩
    simp only [fx_142_42 b1, ex_some, shp_ne (show (164 : Nat) ≠ 100000 by decide), s0_164, ex_sh, hins, hcls, true_and, (hD s hlen).1]
    refine ⟨fun z => absurd z (nI_ge hdp (by omega)), fun _ => ?_⟩
    refine goes_ok (t := m / (ky + 1)) (key := m % (ky + 1)) b1 b2 b3 hky hW hlen hsi.2.2 t1 (by omega) (by rw [Nat.mul_comm]; exact (Nat.div_add_mod m (ky + 1)).symm) (fun M1 f1 m1 mf1 z1 => ?_)
    refine hI M1 _ _ _ _ _ f1 m1 mf1 (stp_fl b2.1) z1 stp_hz (fun M2 f2 => ?_)
    have f12 := Fr_tr f1 f2
    rw [← hps]
    refine ⟨fun z => ?_, fun z => ?_⟩
    · have hpf : pS C ky w A0 B0 so (s * w + m) = false := by
        rcases hq : pS C ky w A0 B0 so (s * w + m) with _ | _
        · rfl
        · rw [hq] at z; exact absurd z (by decide)
      simp only [forall_eq, nI_1]
      refine fd29 hky hw hT h0 hn hsn hl4 r (m + 1) M2 (by omega) (BM_dD f12 hB') (IFm_fr f12 hI) (WM_dD f12 hW) (WD_dD f12 hD) (fun k hk => ?_) (fun M3 f3 => hK M3 (Fr_tr f12 f3)) (fun k a b c M3 M4 f3 => hFd k a b c M3 M4 (Fr_tr f12 f3))
      by_cases e : k = s * w + m
      · rw [e]; exact hpf
      · exact hP k (by omega)
    · have hpt : pS C ky w A0 B0 so (s * w + m) = true := by
        rcases hq : pS C ky w A0 B0 so (s * w + m) with _ | _
        · rw [hq] at z; exact absurd rfl z
        · rfl
      have hTr := bf_tr (C := C) (ky := ky) (A0 := A0) (B0 := B0) (show 0 < w by omega) (Ed C ky w A0 B0 n * w)
      refine way_ok (bY := m) (FX_fr f12 b1) (WD_dD f12 hD) hl4 hTr (by omega) hlen (by omega) (Or.inr ⟨rfl, by omega⟩) (fun M3 f3 g1 g2 => ?_)
      have hF3 := FX_fr f3 (FX_fr f12 b1)
      have e164 : M3.1 164 s = nI (gt (bf C ky w A0 B0 (Ed C ky w A0 B0 n * w)) s).2.2.2.2 := by
        rw [f3.1 164 s rfl]; exact (WD_dD f12 hD s hlen).1
      simp only [fx_142_42 hF3, ex_some, shp_ne (show (164 : Nat) ≠ 100000 by decide), s0_164, ex_sh, hins, hcls, true_and, e164, nI_1]
      have := hFd (s * w + m) (by omega) hpt hP M2 M3 f12 f3
      rw [d1, d2] at this
      refine this ?_
      rcases g2 with ⟨q1, q2⟩ | ⟨q1, q2, q3⟩
      · exact absurd q1 (by
          intro q1
          have := nI_pos (n := m) (by omega)
          rw [q1] at this
          exact this (by decide))
      · exact ⟨q2, g1, q3⟩
theorem fd21 {C : Cf} {ky w A0 B0 n : Nat} {so : Nat → Nat → F4 → Nat → Bool} {EK : Mm → Prop} {K : Int32 → Mm → Prop} (hky : ky < 5) (hw : w = cT C * (ky + 1)) (hT : 0 < cT C) (h0 : SI C A0 B0) (hn : n ≤ 20) (hl4 : (bf C ky w A0 B0 (Ed C ky w A0 B0 n * w)).length ≤ 4000) :
    ∀ (r s : Nat) (M : Mm), s + r = (bf C ky w A0 B0 (Ed C ky w A0 B0 n * w)).length → BM C ky M → IFm so M → WM M (bf C ky w A0 B0 (Ed C ky w A0 B0 n * w)) 0 → WD M (bf C ky w A0 B0 (Ed C ky w A0 B0 n * w)) → (∀ k, k < min s (Ed C ky w A0 B0 n) * w → pS C ky w A0 B0 so k = false) → (∀ M', Fr dD eN M M' → (∀ k, k < Ed C ky w A0 B0 n * w → pS C ky w A0 B0 so k = false) → EK M') → (∀ k, k < Ed C ky w A0 B0 n * w → pS C ky w A0 B0 so k = true → (∀ j, j < k → pS C ky w A0 B0 so j = false) → ∀ M1 M', Fr dD eN M M1 → Fr dWy eWy M1 M' → FW (bf C ky w A0 B0 (Ed C ky w A0 B0 n * w)) (k / w) (k % w) M' → K (nI ((gt (bf C ky w A0 B0 (Ed C ky w A0 B0 n * w)) (k / w)).2.2.2.2 + 1)) M') → f_X11_finds_L21 S0 142 (nI n) (nI (bf C ky w A0 B0 (Ed C ky w A0 B0 n * w)).length) EK K (r + 1) (nI s) M
  | 0, s, M, hr, hB, hI, hW, hD, hP, hK, hFd => by
    unfold f_X11_finds_L21 f_X11_finds_B21
    have hEn : Ed C ky w A0 B0 n ≤ s := by
      have := Ed_mono (C := C) (ky := ky) (w := w) (A0 := A0) (B0 := B0) n
      rw [Ed_succ] at this
      omega
    rw [Nat.min_eq_right hEn] at hP
    have e : s = (bf C ky w A0 B0 (Ed C ky w A0 B0 n * w)).length := by omega
    rw [← e]
    exact ⟨fun _ => hK M (Fr_refl _ _ _) hP, fun z => absurd (nI_le (Nat.le_refl _) (by omega)) z⟩
  | r + 1, s, M, hr, hB, hI, hW, hD, hP, hK, hFd => by
    have hB' := hB
    obtain ⟨b1, b2, b3⟩ := hB
    have c1 := b2.1.1
    have hwp : 0 < w := by rw [hw]; exact Nat.mul_pos hT (by omega)
    have hw20 : w ≤ 20 := by
      rw [hw]
      have : cT C * (ky + 1) ≤ 4 * 5 := Nat.mul_le_mul c1 (by omega)
      omega
    unfold f_X11_finds_L21 f_X11_finds_B21
    refine ⟨fun z => absurd z (nI_ge (by omega) (by omega)), fun _ => ?_⟩
    simp only [forall_eq, nI_1]
    rcases Nat.lt_or_ge s (Ed C ky w A0 B0 n) with q | q
    · rw [Nat.min_eq_left (by omega)] at hP
      refine ⟨w + 1, fd29 hky hw hT h0 hn q hl4 w 0 M (by omega) hB' hI hW hD hP (fun M1 f1 P1 => ?_) hFd⟩
      refine fd21 hky hw hT h0 hn hl4 r (s + 1) M1 (by omega) (BM_dD f1 hB') (IFm_fr f1 hI) (WM_dD f1 hW) (WD_dD f1 hD) (fun k hk => P1 k ?_) (fun M2 f2 => hK M2 (Fr_tr f1 f2)) (fun k a b c M2 M3 f2 => hFd k a b c M2 M3 (Fr_tr f1 f2))
      rw [Nat.min_eq_left (by omega), Nat.add_mul, Nat.one_mul] at hk
      exact hk
    · have hlen : s < (bf C ky w A0 B0 (Ed C ky w A0 B0 n * w)).length := by omega
      have hins : vp_in (nI s) 4001 := vp_in_nI (by omega) (by omega)
      have hcls : (nI s).toNatClampNeg = s := nI_clamp (by omega)
      have hdp : n ≤ (gt (bf C ky w A0 B0 (Ed C ky w A0 B0 n * w)) s).2.2.2.2 := by
        rcases Nat.lt_or_ge (gt (bf C ky w A0 B0 (Ed C ky w A0 B0 n * w)) s).2.2.2.2 n with z | z
        · have := (dp_lt hwp hlen (Nat.le_refl _)).mp z
          omega
        · exact z
      have hdp2 := dp_le (n := n) hwp hlen (Nat.le_refl _)
      have go := fd21 (EK := EK) (K := K) (so := so) hky hw hT h0 hn hl4 r (s + 1) M (by omega) hB' hI hW hD (fun k hk => hP k (by rw [Nat.min_eq_right (by omega)] at hk ⊢; exact hk)) hK hFd
      refine ⟨0 + 1, ?_⟩
      unfold f_X11_finds_L29 f_X11_finds_B29 f_X11_width
      rw [b2.2.1, b3, nI_1 ky, pk_mul, ← hw]
      refine ⟨fun z => absurd z (show ¬ nI w ≤ nI 0 from nI_ge (by omega) (by omega)), fun _ => ?_⟩
      simp only [fx_142_42 b1, ex_some, shp_ne (show (164 : Nat) ≠ 100000 by decide), s0_164, ex_sh, hins, hcls, true_and, (hD s hlen).1]
      exact ⟨fun _ => go, fun z => absurd (nI_le hdp (by omega)) z⟩
theorem finds_ok {C : Cf} {ky w A0 B0 n : Nat} {so : Nat → Nat → F4 → Nat → Bool} {M : Mm} {K : Int32 → Mm → Prop} (hB : BM C ky M) (hky : ky < 5) (hw : w = cT C * (ky + 1)) (hT : 0 < cT C) (h0 : SI C A0 B0) (e0 : M.2.1 142 45 = lN (PA A0)) (e1 : M.2.1 142 46 = lN (PB B0)) (hn : n ≤ 20) (hI : ∀ M', Fr dQ eP M M' → IFm so M')
    (h3 : 4000 < (bf C ky w A0 B0 (Ed C ky w A0 B0 n * w)).length → ∀ M', Fr dQ eP M M' → K (-3) M') (h2 : (bf C ky w A0 B0 (Ed C ky w A0 B0 n * w)).length ≤ 4000 → (∀ k, k < Ed C ky w A0 B0 n * w → pS C ky w A0 B0 so k = false) → ∀ M', Fr dQ eP M M' → K (-2) M')
    (h1 : (bf C ky w A0 B0 (Ed C ky w A0 B0 n * w)).length ≤ 4000 → ∀ k, k < Ed C ky w A0 B0 n * w → pS C ky w A0 B0 so k = true → (∀ j, j < k → pS C ky w A0 B0 so j = false) → ∀ M1 M', Fr dQ eP M M1 → Fr dWy eWy M1 M' → FW (bf C ky w A0 B0 (Ed C ky w A0 B0 n * w)) (k / w) (k % w) M' → K (nI ((gt (bf C ky w A0 B0 (Ed C ky w A0 B0 n * w)) (k / w)).2.2.2.2 + 1)) M') : f_X11_finds S0 142 (nI n) M K := by
  unfold f_X11_finds
  refine explores_ok (mo := 4000) hB hky hw hT h0 e0 e1 hn (by omega) (by omega) (fun hle M1 f1 W1 D1 => ⟨fun z => absurd z (by decide), fun _ => ?_⟩) (fun hgt M1 f1 => ⟨fun _ => h3 hgt M1 f1, fun z => absurd rfl z⟩)
  simp only [forall_eq]
  rw [W1.1]
  refine ⟨(bf C ky w A0 B0 (Ed C ky w A0 B0 n * w)).length + 1, ?_⟩
  have main := fd21 (so := so) (EK := fun m23 => K (-2) m23) (K := K) hky hw hT h0 hn hle (bf C ky w A0 B0 (Ed C ky w A0 B0 n * w)).length 0 M1 (by omega) (BM_fr f1 hB) (hI M1 f1) W1 D1 (fun k hk => by rw [Nat.zero_min, Nat.zero_mul] at hk; omega) (fun M2 f2 P2 => h2 hle P2 M2 (Fr_tr f1 (dD_dQ f2))) (fun k a b c M2 M3 f2 f3 g => h1 hle k a b c M2 M3 (Fr_tr f1 (dD_dQ f2)) f3 g)
  exact main
