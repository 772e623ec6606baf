/-! stuck -/
theorem ld_self {C : Cf} {ky w A0 B0 k K0 s : Nat} (hk : k + 1 ≤ K0) (hs : s < (bf C ky w A0 B0 k).length) : ld C ky w A0 B0 k s ↔ ((gt (bf C ky w A0 B0 K0) s).1 = (nx C ky w (bf C ky w A0 B0 k) k).1 ∧ (gt (bf C ky w A0 B0 K0) s).2.1 = (nx C ky w (bf C ky w A0 B0 k) k).2.1) := by
  have h1 : s < (bf C ky w A0 B0 (k + 1)).length := Nat.lt_of_lt_of_le hs (bf_mono (by omega))
  unfold ld isE
  rw [bf_gt hk h1]
  exact ⟨fun h => h.2, fun h => ⟨h1, h⟩⟩
theorem st79 {C : Cf} {ky w A0 B0 n s : Nat} {x1 x2 x3 : Int32} {EK : Int32 → Mm → Prop} {K : Int32 → Mm → Prop} (hky : ky < 5) (hw : w = cT C * (ky + 1)) (hT : 0 < cT C) (h0 : SI C A0 B0) (hsn : s < Ed C ky w A0 B0 n) (hl4 : (bf C ky w A0 B0 (Ed C ky w A0 B0 n * w)).length ≤ 4000) :
    ∀ (r m : Nat) (M : Mm), m + r = w → BM C ky M → WM M (bf C ky w A0 B0 (Ed C ky w A0 B0 n * w)) 0 → (∀ m', m' < m → ld C ky w A0 B0 (s * w + m') s) → (∀ M', Fr dD eN M M' → (stk C ky w A0 B0 s → EK 1 M') ∧ (¬ stk C ky w A0 B0 s → EK 0 M')) → f_X11_stuck_L79 S0 142 x1 x2 x3 (nI s) EK K (r + 1 + 1) (1 : Int32) (nI m) M
  | 0, m, M, hm, hB, hW, hP, hK => by
    unfold f_X11_stuck_L79 f_X11_stuck_B79 f_X11_width
    obtain ⟨b1, b2, b3⟩ := hB
    have c1 := b2.1.1
    have hw20 : w ≤ 20 := by
      rw [hw]
      have : cT C * (ky + 1) ≤ 4 * 5 := Nat.mul_le_mul c1 (by omega)
      omega
    have e : m = w := by omega
    subst e
    rw [b2.2.1, b3, nI_1 ky, pk_mul, ← hw]
    exact ⟨fun _ => (hK M (Fr_refl _ _ _)).1 hP, fun z => absurd (nI_le (Nat.le_refl _) (by omega)) z⟩
  | r + 1, m, M, hm, hB, hW, hP, hK => by
    have hB' := hB
    obtain ⟨b1, b2, b3⟩ := hB
    have c1 := b2.1.1
    have hw20 : w ≤ 20 := by
      rw [hw]
      have : cT C * (ky + 1) ≤ 4 * 5 := Nat.mul_le_mul c1 (by omega)
      omega
    obtain ⟨d1, d2⟩ := divk (s := s) (show m < w by omega)
    obtain ⟨t1, t2⟩ := mv_t hw (show m < w by omega)
    have hEn : (s + 1) * w ≤ Ed C ky w A0 B0 n * w := Nat.mul_le_mul_right _ hsn
    rw [Nat.add_mul, Nat.one_mul] at hEn
    have hlen0 := bf_sl hsn
    have hlenk : s < (bf C ky w A0 B0 (s * w + m)).length := Nat.lt_of_lt_of_le hlen0 (bf_mono (by omega))
    have hlen : s < (bf C ky w A0 B0 (Ed C ky w A0 B0 n * w)).length := Nat.lt_of_lt_of_le hlen0 (bf_mono (by omega))
    have hins : vp_in (nI s) 4001 := vp_in_nI (by omega) (by omega)
    have hcls : (nI s).toNatClampNeg = s := nI_clamp (by omega)
    have hsi := bf_si b2.1 hky hw hT h0 (Ed C ky w A0 B0 n * w) s hlen
    have enx : nx C ky w (bf C ky w A0 B0 (s * w + m)) (s * w + m) = stp C (gt (bf C ky w A0 B0 (Ed C ky w A0 B0 n * w)) s).1 (gt (bf C ky w A0 B0 (Ed C ky w A0 B0 n * w)) s).2.1 (m / (ky + 1)) (m % (ky + 1)) := by
      unfold nx; rw [d1, d2, bf_gt (show s * w + m ≤ Ed C ky w A0 B0 n * w by omega) hlenk]
    have hbd := stp_bd (A := (gt (bf C ky w A0 B0 (Ed C ky w A0 B0 n * w)) s).1) (key := m % (ky + 1)) b2.1 t1 hsi.2.2 (by omega) hsi.1 hsi.2.1
    rw [← enx] at hbd
    have lds := ld_self (C := C) (ky := ky) (w := w) (A0 := A0) (B0 := B0) (k := s * w + m) (K0 := Ed C ky w A0 B0 n * w) (s := s) (by omega) hlenk
    obtain ⟨y1, y2, y3, y4⟩ := hW.2.2.1 s hlen
    unfold f_X11_stuck_L79 f_X11_stuck_B79 f_X11_width
    rw [b2.2.1, b3, nI_1 ky, pk_mul, ← hw]
    refine ⟨fun z => absurd z (nI_ge (by omega) (by omega)), fun _ => ⟨fun z => absurd z (by decide), fun _ => ?_⟩⟩
    refine goes_ok (t := m / (ky + 1)) (key := m % (ky + 1)) b1 b2 b3 hky hW hlen hsi.2.2 t1 (by omega) (by rw [Nat.mul_comm]; exact (Nat.div_add_mod m (ky + 1)).symm) (fun M1 f1 m1 mf1 z1 => ?_)
    rw [← enx] at m1
    have hF1 := FX_fr f1 b1
    refine packS_ok hF1 m1 ?_
    have e160 : M1.2.1 160 s = lN (PA (gt (bf C ky w A0 B0 (Ed C ky w A0 B0 n * w)) s).1) := by rw [f1.2.1 160 rfl]; exact y1
    have e161 : M1.2.1 161 s = lN (PB (gt (bf C ky w A0 B0 (Ed C ky w A0 B0 n * w)) s).2.1) := by rw [f1.2.1 161 rfl]; exact y2
    simp only [fx_142_38 hF1, ex_some, s0_160, ex_sh, hins, hcls, true_and, forall_eq, e160, nI_1]
    have p1 := PA_lt (nx C ky w (bf C ky w A0 B0 (s * w + m)) (s * w + m)).1
    have p2 := PA_lt (gt (bf C ky w A0 B0 (Ed C ky w A0 B0 n * w)) s).1
    have p3 := PB_lt (nx C ky w (bf C ky w A0 B0 (s * w + m)) (s * w + m)).2.1
    have p4 := PB_lt (gt (bf C ky w A0 B0 (Ed C ky w A0 B0 n * w)) s).2.1
    have no : ¬ ld C ky w A0 B0 (s * w + m) s → f_X11_stuck_L79 S0 142 x1 x2 x3 (nI s) EK K (r + 1 + 1) (0 : Int32) (nI (m + 1)) M1 := by
      intro hne
      have hB1 := BM_dD f1 hB'
      unfold f_X11_stuck_L79 f_X11_stuck_B79 f_X11_width
      rw [hB1.2.1.2.1, hB1.2.2, nI_1 ky, pk_mul, ← hw]
      have hst : ¬ stk C ky w A0 B0 s := fun h => hne (h m (by omega))
      exact ⟨fun _ => (hK M1 f1).2 hst, fun _ => ⟨fun _ => (hK M1 f1).2 hst, fun z => absurd rfl z⟩⟩
    rw [lN_eq64 p1 p2]
    refine ⟨fun z => ?_, fun z => no (fun h => z (by rw [(lds.mp h).1]))⟩
    refine packR_ok hF1 m1 ?_
    simp only [fx_142_39 hF1, ex_some, s0_161, ex_sh, hins, hcls, true_and, forall_eq, e161, nI_1]
    rw [lN_eq64 (by omega) (by omega)]
    refine ⟨fun z2 => ?_, fun z2 => no (fun h => z2 (by rw [(lds.mp h).2]))⟩
    have e1 := PA_inj hbd.1 y3 z
    have e2 := PB_inj hbd.2 y4 z2
    have hl : ld C ky w A0 B0 (s * w + m) s := lds.mpr ⟨e1.symm, e2.symm⟩
    refine st79 hky hw hT h0 hsn hl4 r (m + 1) M1 (by omega) (BM_dD f1 hB') (WM_dD f1 hW) (fun m' hm' => ?_) (fun M2 f2 => hK M2 (Fr_tr f1 f2))
    by_cases e : m' = m
    · rw [e]; exact hl
    · exact hP m' (by omega)
/-- the model's told part of the way to s -/
def SW (L : List En) (s : Nat) (M : Mm) : Prop := M.1 142 1 = nI (gt L s).2.2.2.2 ∧ ∀ j, j < (gt L s).2.2.2.2 → M.2.1 143 ((gt L s).2.2.2.2 - 1 - j) = lN (gt L (an L s j)).2.2.2.1
theorem st46 {C : Cf} {ky w A0 B0 n : Nat} {EK : Int32 → Mm → Prop} {K : Int32 → Mm → Prop} (hky : ky < 5) (hw : w = cT C * (ky + 1)) (hT : 0 < cT C) (h0 : SI C A0 B0) (hn : n ≤ 20) (hl4 : (bf C ky w A0 B0 (Ed C ky w A0 B0 n * w)).length ≤ 4000) :
    ∀ (r s : Nat) (M : Mm), s + r = (bf C ky w A0 B0 (Ed C ky w A0 B0 n * w)).length → BM C ky M → WM M (bf C ky w A0 B0 (Ed C ky w A0 B0 n * w)) 0 → WD M (bf C ky w A0 B0 (Ed C ky w A0 B0 n * w)) → (∀ s', s' < s → s' < Ed C ky w A0 B0 n → ¬ stk C ky w A0 B0 s') → (∀ M', Fr dD eN M M' → (∀ s', s' < Ed C ky w A0 B0 n → ¬ stk C ky w A0 B0 s') → EK (-2) M') → (∀ s', s' < Ed C ky w A0 B0 n → stk C ky w A0 B0 s' → (∀ j, j < s' → ¬ stk C ky w A0 B0 j) → ∀ M1 M', Fr dD eN M M1 → Fr dWy eWy M1 M' → SW (bf C ky w A0 B0 (Ed C ky w A0 B0 n * w)) s' M' → EK (nI (gt (bf C ky w A0 B0 (Ed C ky w A0 B0 n * w)) s').2.2.2.2) M') → f_X11_stuck_L46 S0 142 (nI n) (nI (bf C ky w A0 B0 (Ed C ky w A0 B0 n * w)).length) EK K (r + 1 + 1) (-2 : Int32) (nI s) M
  | 0, s, M, hr, hB, hW, hD, hP, hK, hFd => by
    unfold f_X11_stuck_L46 f_X11_stuck_B46
    have e : s = (bf C ky w A0 B0 (Ed C ky w A0 B0 n * w)).length := by omega
    have hEn : Ed C ky w A0 B0 n ≤ s := by
      have := Ed_mono (C := C) (ky := ky) (w := w) (A0 := A0) (B0 := B0) n
      rw [Ed_succ] at this
      omega
    rw [← e]
    exact ⟨fun _ => hK M (Fr_refl _ _ _) (fun s' h => hP s' (by omega) h), fun z => absurd (nI_le (Nat.le_refl _) (by omega)) z⟩
  | r + 1, s, M, hr, hB, hW, hD, hP, hK, hFd => by
    have hB' := hB
    obtain ⟨b1, b2, b3⟩ := hB
    have c1 := b2.1.1
    have hwp : 0 < w := by rw [hw]; exact Nat.mul_pos hT (by omega)
    have hw20 : w ≤ 20 := by
      rw [hw]
      have : cT C * (ky + 1) ≤ 4 * 5 := Nat.mul_le_mul c1 (by omega)
      omega
    have hlen : s < (bf C ky w A0 B0 (Ed C ky w A0 B0 n * w)).length := by omega
    have hins : vp_in (nI s) 4001 := vp_in_nI (by omega) (by omega)
    have hcls : (nI s).toNatClampNeg = s := nI_clamp (by omega)
    have hdp2 := dp_le (n := n) hwp hlen (Nat.le_refl _)
    unfold f_X11_stuck_L46 f_X11_stuck_B46
    refine ⟨fun z => absurd z (nI_ge (by omega) (by omega)), fun _ => ⟨fun _ => ?_, fun z => absurd rfl z⟩⟩
    simp only [fx_142_42 b1, ex_some, shp_ne (show (164 : Nat) ≠ 100000 by decide), s0_164, ex_sh, hins, hcls, true_and, (hD s hlen).1, forall_eq, nI_1]
    have next : ∀ M1, Fr dD eN M M1 → (s < Ed C ky w A0 B0 n → ¬ stk C ky w A0 B0 s) → f_X11_stuck_L46 S0 142 (nI n) (nI (bf C ky w A0 B0 (Ed C ky w A0 B0 n * w)).length) EK K (r + 1 + 1) (-2 : Int32) (nI (s + 1)) M1 := by
      intro M1 f1 hno
      refine st46 hky hw hT h0 hn hl4 r (s + 1) M1 (by omega) (BM_dD f1 hB') (WM_dD f1 hW) (WD_dD f1 hD) (fun s' h1 h2 => ?_) (fun M2 f2 => hK M2 (Fr_tr f1 f2)) (fun s' a b c M2 M3 f2 => hFd s' a b c M2 M3 (Fr_tr f1 f2))
      by_cases e : s' = s
      · rw [e] at h2 ⊢; exact hno h2
      · exact hP s' (by omega) h2
    rw [nI_leI (by omega) (by omega)]
    refine ⟨fun z => ?_, fun z => ?_⟩
    · have hsn : ¬ s < Ed C ky w A0 B0 n := fun q => by
        have := (dp_lt hwp hlen (Nat.le_refl _)).mpr q
        omega
      refine ⟨0 + 1, ?_⟩
      unfold f_X11_stuck_L79 f_X11_stuck_B79 f_X11_width
      have go := next M (Fr_refl _ _ _) (fun q => absurd q hsn)
      rw [b2.2.1, b3, nI_1 ky, pk_mul, ← hw]
      exact ⟨fun _ => ⟨fun _ => go, fun y => absurd rfl y⟩, fun _ => ⟨fun _ => ⟨fun _ => go, fun y => absurd rfl y⟩, fun y => absurd rfl y⟩⟩
    · have hsn : s < Ed C ky w A0 B0 n := (dp_lt hwp hlen (Nat.le_refl _)).mp (by omega)
      refine ⟨w + 1 + 1, st79 hky hw hT h0 hsn hl4 w 0 M (by omega) hB' hW (fun m' h => by omega) (fun M1 f1 => ⟨fun hst => ⟨fun y => absurd y (by decide), fun _ => ?_⟩, fun hst => ⟨fun _ => next M1 f1 (fun _ => hst), fun y => absurd rfl y⟩⟩)⟩
      have hTr := bf_tr (C := C) (ky := ky) (A0 := A0) (B0 := B0) hwp (Ed C ky w A0 B0 n * w)
      refine way_ok (bY := 0) (FX_fr f1 b1) (WD_dD f1 hD) hl4 hTr (by omega) hlen (by omega) (Or.inl rfl) (fun M2 f2 g1 g2 => ?_)
      have hF2 := FX_fr f2 (FX_fr f1 b1)
      have e164 : M2.1 164 s = nI (gt (bf C ky w A0 B0 (Ed C ky w A0 B0 n * w)) s).2.2.2.2 := by
        rw [f2.1 164 s rfl]; exact (WD_dD f1 hD s hlen).1
      simp only [fx_142_42 hF2, ex_some, shp_ne (show (164 : Nat) ≠ 100000 by decide), s0_164, ex_sh, hins, hcls, true_and, e164]
      have hh := hFd s hsn hst (fun j hj => hP j hj (by omega)) M1 M2 f1 f2 ⟨by
        rcases g2 with ⟨q1, q2⟩ | ⟨q1, q2, q3⟩
        · exact q2
        · exact absurd q1 (by decide), g1⟩
      unfold f_X11_stuck_L46 f_X11_stuck_B46
      refine ⟨fun _ => hh, fun _ => ⟨fun y => ?_, fun _ => hh⟩⟩
      exfalso
      have hp := nI_pos (n := (gt (bf C ky w A0 B0 (Ed C ky w A0 B0 n * w)) s).2.2.2.2) (by omega)
      rw [y] at hp
      exact hp (by decide)
theorem an_fs {L : List En} {s : Nat} : ∀ j, an L s (j + 1) = an L (gt L s).2.2.1 j
  | 0 => rfl
  | j + 1 => by
    show (gt L (an L s (j + 1))).2.2.1 = (gt L (an L (gt L s).2.2.1 j)).2.2.1
    rw [an_fs j]
theorem mvj_an {L : List En} {s : Nat} (j : Nat) : mvj L (gt L s).2.2.1 (gt L s).2.2.2.1 j = (gt L (an L s j)).2.2.2.1 := by
  cases j with
  | zero => rfl
  | succ j => rw [an_fs]; rfl
theorem op16 (p1 : Int32) (M : Mm) (K : Mm → Prop) (hV : V M) (hK : ∀ m, V m → K m) : OP16 p1 M K := by
  have hF := hV.1
  obtain ⟨C, mu, ky, A, B, F, hC, hCM, hmC, hmM, hky, k13, k27, hm, hs, hf, hsi⟩ := run_of hV
  have c1 := hC.1.1
  have htd : V_told M := hV.2.2.2.2.2.2.1
  obtain ⟨w, hw⟩ : ∃ w, w = cT C * (ky + 1) := ⟨_, rfl⟩
  have hw20 : w ≤ 20 := by
    rw [hw]
    have : cT C * (ky + 1) ≤ 4 * 5 := Nat.mul_le_mul c1 (by omega)
    omega
  show f_X10_stuck S0 0 p1 M (fun r m1 => f_X11_stuck S0 142 p1 m1 (AN r K))
  unfold f_X10_stuck
  refine refuses_ok hF hC.2.1 c1 (fun g1 g2 g3 => ⟨fun _ => ?_, fun z => absurd rfl z⟩) (fun hx => ⟨fun z => absurd z (by decide), fun _ => ?_⟩)
  · obtain ⟨n, hn0, rfl⟩ := nI_of g1
    have hn : n ≤ 20 := by
      rcases Nat.lt_or_ge 20 n with z | z
      · exact absurd (show nI 20 < nI n from nI_lt z hn0) g2
      · exact z
    have hwp : 0 < w := by rw [hw]; exact Nat.mul_pos g3 (by omega)
    have hTr := bf_tr (C := C) (ky := ky) (A0 := A) (B0 := B) hwp (Ed C ky w A B n * w)
    have model : ∀ (M1 : Mm) (r : Int32), PM C ky A B F mu M M1 → (4000 < (bf C ky w A B (Ed C ky w A B n * w)).length → r = -3 ∧ V_told M1) → ((bf C ky w A B (Ed C ky w A B n * w)).length ≤ 4000 → (∀ s, s < Ed C ky w A B n → ¬ stk C ky w A B s) → r = -2 ∧ V_told M1) → ((bf C ky w A B (Ed C ky w A B n * w)).length ≤ 4000 → ∀ s, s < Ed C ky w A B n → stk C ky w A B s → (∀ j, j < s → ¬ stk C ky w A B j) → r = nI (gt (bf C ky w A B (Ed C ky w A B n * w)) s).2.2.2.2 ∧ M1.1 116 1 = nI (gt (bf C ky w A B (Ed C ky w A B n * w)) s).2.2.2.2 ∧ ∀ j, j < (gt (bf C ky w A B (Ed C ky w A B n * w)) s).2.2.2.2 → M1.2.1 117 ((gt (bf C ky w A B (Ed C ky w A B n * w)) s).2.2.2.2 - 1 - j) = lN (gt (bf C ky w A B (Ed C ky w A B n * w)) (an (bf C ky w A B (Ed C ky w A B n * w)) s j)).2.2.2.1) → f_X11_stuck S0 142 (nI n) M1 (AN r K) := by
      intro M1 r pm t3 t2 t1
      obtain ⟨p1', p2, p3, p4, p5, p6, p7, p8⟩ := pm
      unfold f_X11_stuck
      simp only [forall_eq]
      refine isRun_ok (nt := cT C) p3.2.1 c1 (fun _ _ _ => ⟨fun z => absurd z (by decide), fun _ => ?_⟩) (fun w => ?_)
      · refine runM2 (ky := ky) (A := A) (B := B) (F := F) p2 p3 p4 p5 p6 (fun M2 f2 b2 r2 => ?_)
        have w2 : V_walk M2 := walk_fr f2 rfl (fun _ => rfl) (fun _ => rfl) p8
        have f3 : Fr dRun eRun M M2 := Fr_tr p1' (dRm0_run f2)
        have cb : ∀ (M3 : Mm) (r8 : Int32), Fr dRun eRun M2 M3 → FX M3 → RM M3 A B F → V_walk M3 → V_told M3 → r = r8 → f_X11_comesBack S0 142 M3 (fun m9 => AN r K r8 m9) := by
          intro M3 r8 f3' hF3 rm3 w3 td3 er
          refine comes_ok hF3 rm3 (fun M4 f4 m4 mf4 z4 => an_ok er (hK _ ?_))
          refine V_run hV (Fr_tr f3 (Fr_tr f3' (dCb_run f4))) z4 hm m4 mf4 ?_ ?_
          · exact walk_fr f4 rfl (fun _ => rfl) (fun _ => rfl) w3
          · exact told_fr f4 rfl rfl rfl rfl td3
        refine explores_ok (mo := 4000) b2 hky hw g3 hsi r2.1 r2.2.1 hn (by omega) (by omega) (fun hle M3 f4 W3 D3 => ⟨fun z => absurd z (by decide), fun _ => ?_⟩) (fun hgt M3 f4 => ⟨fun _ => ?_, fun z => absurd rfl z⟩)
        · rw [W3.1]
          refine ⟨(bf C ky w A B (Ed C ky w A B n * w)).length + 1 + 1, ?_⟩
          have main := st46 (EK := fun v58 m59 => f_X11_comesBack S0 142 m59 (fun m60 => AN r K v58 m60)) (K := AN r K) hky hw g3 hsi hn hle (bf C ky w A B (Ed C ky w A B n * w)).length 0 M3 (by omega) (BM_fr f4 b2) W3 D3 (fun s' h => by omega) (fun M4 f5 hno => ?_) (fun s a b c M4 M5 f5 f6 sw => ?_)
          · exact main
          · have f45 := Fr_tr f4 (dD_dQ f5)
            exact cb M4 _ (dQ_run f45) (FX_fr f45 b2.1) (RM_dQ f45 r2) (walk_fr f45 rfl (fun _ => rfl) (fun _ => rfl) w2) (told_fr f45 rfl rfl rfl rfl (told_fr f2 rfl rfl rfl rfl (t2 hle hno).2)) (t2 hle hno).1
          · have f45 := Fr_tr f4 (dD_dQ f5)
            obtain ⟨y1, y2, y3⟩ := t1 hle s a b c
            have hlen : s < (bf C ky w A B (Ed C ky w A B n * w)).length := Nat.lt_of_lt_of_le (bf_sl a) (bf_mono (Nat.mul_le_mul_right _ (by omega)))
            have hdp := (dp_lt hwp hlen (Nat.le_refl _)).mpr a
            refine cb M5 _ (Fr_tr (dQ_run f45) (dWy_run f6)) (FX_fr f6 (FX_fr f45 b2.1)) (RM_fr (fun j _ _ => by unfold dWy; simp only [Bool.and_eq_false_iff, beq_eq_false_iff_ne]; omega) rfl f6 (RM_dQ f45 r2)) (walk_fr f6 rfl (fun _ => rfl) (fun _ => rfl) (walk_fr f45 rfl (fun _ => rfl) (fun _ => rfl) w2)) ?_ y1
            refine ⟨(gt (bf C ky w A B (Ed C ky w A B n * w)) s).2.2.2.2, by omega, ?_, sw.1, fun i hi => ?_⟩
            · rw [f6.1 116 1 rfl, f45.1 116 1 rfl, f2.1 116 1 rfl]; exact y2
            · have q1 := y3 ((gt (bf C ky w A B (Ed C ky w A B n * w)) s).2.2.2.2 - 1 - i) (by omega)
              have q2 := sw.2 ((gt (bf C ky w A B (Ed C ky w A B n * w)) s).2.2.2.2 - 1 - i) (by omega)
              rw [show (gt (bf C ky w A B (Ed C ky w A B n * w)) s).2.2.2.2 - 1 - ((gt (bf C ky w A B (Ed C ky w A B n * w)) s).2.2.2.2 - 1 - i) = i by omega] at q1 q2
              rw [f6.2.1 117 rfl, f45.2.1 117 rfl, f2.2.1 117 rfl, q1, q2]
        · refine ⟨0 + 1, ?_⟩
          unfold f_X11_stuck_L46 f_X11_stuck_B46
          have go := cb M3 (-3) (dQ_run f4) (FX_fr f4 b2.1) (RM_dQ f4 r2) (walk_fr f4 rfl (fun _ => rfl) (fun _ => rfl) w2) (told_fr f4 rfl rfl rfl rfl (told_fr f2 rfl rfl rfl rfl (t3 hgt).2)) (t3 hgt).1
          exact ⟨fun _ => go, fun _ => ⟨fun y => absurd y (by decide), fun _ => go⟩⟩
      · exact (w.elim g1 (fun w => w.elim g2 (fun w => by omega))).elim
    unfold f_X10_explored
    simp only [fx_0_1 hF, fx_0_3 hF, ex_some, s0_10, s0_113, true_and]
    refine seekC (so := fun _ _ _ _ => false) hV hC hmC k13 hky hw hm hsi hn (fun M' _ h12 _ => SO_0 h12) (fun hgt M1 f1 w1 => ?_) (fun M1 f1 w1 X1 T1 => ?_)
    · have pm := PM_1 hF hCM k27 hs hf hmM f1 w1
      refine model M1 _ pm (fun _ => ⟨rfl, told_fr f1 rfl rfl rfl rfl htd⟩) (fun h => by omega) (fun h => by omega)
    · have pm := PM_1 hF hCM k27 hs hf hmM f1 w1
      have hF1 := FX_fr f1 hF
      have hle := X1.2.2.2.2
      simp only [fx_0_1 hF1, fx_0_6 hF1, fx_10_4 hF1, ex_some, s0_10, s0_116, true_and]
      rcases T1 with ⟨a, b⟩ | ⟨s, a, b, c, d⟩
      · rw [b]
        refine ⟨fun z => absurd z (by decide), fun _ => ?_⟩
        exact model M1 _ pm (fun h => by omega) (fun _ _ => ⟨rfl, told_fr f1 rfl rfl rfl rfl htd⟩) (fun _ s a' b' => absurd b' (a s a'))
      · have hlen : s < (bf C ky w A B (Ed C ky w A B n * w)).length := Nat.lt_of_lt_of_le (bf_sl a) (bf_mono (Nat.mul_le_mul_right _ (by omega)))
        have hdp := (dp_lt hwp hlen (Nat.le_refl _)).mpr a
        rw [d]
        have hins : vp_in (nI s) 4000 := vp_in_nI (by omega) (by omega)
        have hcls : (nI s).toNatClampNeg = s := nI_clamp (by omega)
        refine ⟨fun _ => ?_, fun z => absurd (le0 (by omega)) z⟩
        simp only [shp_ne (show (107 : Nat) ≠ 100000 by decide), s0_107, ex_sh, hins, hcls, true_and, (X1.1.2.2.1 s hlen).2.2.2.2]
        have uq : ∀ s', s' < Ed C ky w A B n → stk C ky w A B s' → (∀ j, j < s' → ¬ stk C ky w A B j) → s' = s := by
          intro s' a' b' c'
          rcases Nat.lt_trichotomy s' s with l | l | l
          · exact absurd b' (c s' l)
          · exact l
          · exact absurd b (c' s l)
        unfold frm
        by_cases hz : s = 0
        · rw [if_pos hz]
          refine tellS_no (fun M2 f2 g => ?_)
          simp only [fx_0_6 (FX_fr f2 hF1), ex_some, s0_116, true_and]
          rw [g]
          have hd0 : (gt (bf C ky w A B (Ed C ky w A B n * w)) s).2.2.2.2 = 0 := by rw [hz]; exact hTr.1
          refine model M2 _ (PM_2 pm f2) (fun h => by omega) (fun _ h' => absurd b (h' s a)) (fun _ s' a' b' c' => ?_)
          rw [uq s' a' b' c', hd0]
          exact ⟨rfl, g, fun j hj => by omega⟩
        · rw [if_neg hz]
          obtain ⟨u1, u2, u3⟩ := hTr.2 s hlen hz
          refine tellS_ok hF1 X1.1 hTr (by omega) (s := (gt (bf C ky w A B (Ed C ky w A B n * w)) s).2.2.1) (by omega) (by omega) (by omega) (fun M2 f2 g h => ?_)
          simp only [fx_0_6 (FX_fr f2 hF1), ex_some, s0_116, true_and]
          rw [g, ← u3]
          refine model M2 _ (PM_2 pm f2) (fun h => by omega) (fun _ h' => absurd b (h' s a)) (fun _ s' a' b' c' => ?_)
          rw [uq s' a' b' c']
          refine ⟨rfl, by rw [g, ← u3], fun j hj => ?_⟩
          have := h j (by omega)
          rw [mvj_an] at this
          rw [u3, Nat.add_sub_cancel]
          exact this
  · unfold f_X11_stuck
    simp only [forall_eq]
    refine isRun_ok (nt := cT C) hCM.2.1 c1 (fun a b c => ?_) (fun _ => ⟨fun _ => an_ok rfl (hK _ (V_thr _ hV)), fun z => absurd rfl z⟩)
    exact (hx.elim a (fun w => w.elim b (fun w => by omega))).elim
