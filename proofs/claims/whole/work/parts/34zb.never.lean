/-! never, hid -/
theorem dWy_run {M M' : Mm} (h : Fr dWy eWy M M') : Fr dRun eRun M M' :=
  Fr_mono (fun b j hd => by unfold dRun at hd; unfold dWy; simp only [Bool.or_eq_false_iff, Bool.and_eq_false_iff, beq_eq_false_iff_ne, decide_eq_false_iff_not] at *; omega) (fun b hd => by unfold eRun at hd; unfold eWy; simp only [Bool.or_eq_false_iff, Bool.and_eq_false_iff, beq_eq_false_iff_ne, decide_eq_false_iff_not] at *; omega) h
theorem dTd_run {M M' : Mm} (h : Fr dTd eTd M M') : Fr dRun eRun M M' :=
  Fr_mono (fun b j hd => by unfold dRun at hd; unfold dTd; simp only [Bool.or_eq_false_iff, Bool.and_eq_false_iff, beq_eq_false_iff_ne, decide_eq_false_iff_not] at *; omega) (fun b hd => by unfold eRun at hd; unfold eTd; simp only [Bool.or_eq_false_iff, Bool.and_eq_false_iff, beq_eq_false_iff_ne, decide_eq_false_iff_not] at *; omega) h
theorem dD_run {M M' : Mm} (h : Fr dD eN M M') : Fr dRun eRun M M' := dQ_run (dD_dQ h)
/-- the class's told part of a found way -/
def CW (L : List En) (s bY : Nat) (M : Mm) : Prop := M.1 116 1 = nI ((gt L s).2.2.2.2 + 1) ∧ ∀ j, j ≤ (gt L s).2.2.2.2 → M.2.1 117 ((gt L s).2.2.2.2 - j) = lN (mvj L s bY j)
theorem findsBack {C : Cf} {ky w A B n : Nat} {F : F4} {so : Nat → Nat → F4 → Nat → Bool} {r : Int32} {M m6 : Mm} {K : Mm → Prop} (hV : V M) (hK : ∀ m, V m → K m) (fr : Fr dRun eRun M m6) (hB : BM C ky m6) (hr : RM m6 A B F) (hm : MO M 113 A B F) (hw6 : V_walk m6) (hky : ky < 5) (hw : w = cT C * (ky + 1)) (hT : 0 < cT C) (h0 : SI C A B) (hn : n ≤ 20) (hI : ∀ M', Fr dQ eP m6 M' → IFm so M')
    (t3 : 4000 < (bf C ky w A B (Ed C ky w A B n * w)).length → r = -3 ∧ V_told m6) (t2 : (bf C ky w A B (Ed C ky w A B n * w)).length ≤ 4000 → (∀ k, k < Ed C ky w A B n * w → pS C ky w A B so k = false) → r = -2 ∧ V_told m6)
    (t1 : (bf C ky w A B (Ed C ky w A B n * w)).length ≤ 4000 → ∀ k, k < Ed C ky w A B n * w → pS C ky w A B so k = true → (∀ j, j < k → pS C ky w A B so j = false) → r = nI ((gt (bf C ky w A B (Ed C ky w A B n * w)) (k / w)).2.2.2.2 + 1) ∧ CW (bf C ky w A B (Ed C ky w A B n * w)) (k / w) (k % w) m6) :
    f_X11_finds S0 142 (nI n) m6 (fun r8 m7 => f_X11_comesBack S0 142 m7 (fun m9 => AN r K r8 m9)) := by
  have hwp : 0 < w := by rw [hw]; exact Nat.mul_pos hT (by omega)
  have cb : ∀ (M3 : Mm) (r8 : Int32), Fr dRun eRun m6 M3 → FX M3 → RM M3 A B F → V_walk M3 → V_told M3 → r = r8 → f_X11_comesBack S0 142 M3 (fun m9 => AN r K r8 m9) := by
    intro M3 r8 f3 hF3 rm3 w3 td3 er
    refine comes_ok hF3 rm3 (fun M4 f4 m4 mf4 z4 => an_ok er (hK _ ?_))
    refine V_run hV (Fr_tr fr (Fr_tr f3 (dCb_run f4))) z4 hm m4 mf4 ?_ ?_
    · exact walk_fr f4 rfl (fun _ => rfl) (fun _ => rfl) w3
    · exact told_fr f4 rfl rfl rfl rfl td3
  refine finds_ok (so := so) hB hky hw hT h0 hr.1 hr.2.1 hn hI (fun hgt M1 f1 => ?_) (fun hle hno M1 f1 => ?_) (fun hle k hk hp hj M1 M2 f1 f2 g => ?_)
  · obtain ⟨a, b⟩ := t3 hgt
    exact cb M1 _ (dQ_run f1) (FX_fr f1 hB.1) (RM_dQ f1 hr) (walk_fr f1 rfl (fun _ => rfl) (fun _ => rfl) hw6) (told_fr f1 rfl rfl rfl rfl b) a
  · obtain ⟨a, b⟩ := t2 hle hno
    exact cb M1 _ (dQ_run f1) (FX_fr f1 hB.1) (RM_dQ f1 hr) (walk_fr f1 rfl (fun _ => rfl) (fun _ => rfl) hw6) (told_fr f1 rfl rfl rfl rfl b) a
  · obtain ⟨a, b1, b2⟩ := t1 hle k hk hp hj
    have hks : k / w < Ed C ky w A B n := (Nat.div_lt_iff_lt_mul hwp).mpr hk
    have hlen : k / w < (bf C ky w A B (Ed C ky w A B n * w)).length := Nat.lt_of_lt_of_le (bf_sl hks) (bf_mono (Nat.mul_le_mul_right _ (by omega)))
    have hdp := (dp_lt hwp hlen (Nat.le_refl _)).mpr hks
    refine cb M2 _ (Fr_tr (dQ_run f1) (dWy_run f2)) (FX_fr f2 (FX_fr f1 hB.1)) (RM_fr (fun j _ _ => by unfold dWy; simp only [Bool.and_eq_false_iff, beq_eq_false_iff_ne]; omega) rfl f2 (RM_dQ f1 hr)) (walk_fr f2 rfl (fun _ => rfl) (fun _ => rfl) (walk_fr f1 rfl (fun _ => rfl) (fun _ => rfl) hw6)) ?_ a
    refine told_way (bY := k % w) (by omega) ?_ (fun j hj => ?_) g.1 g.2.1 g.2.2
    · rw [f2.1 116 1 rfl, f1.1 116 1 rfl]; exact b1
    · rw [f2.2.1 117 rfl, f1.2.1 117 rfl]; exact b2 j hj
theorem tellTo {w K0 : Nat} {P : Nat → Bool} {x : Int32} {L : List En} {M : Mm} {K : Int32 → Mm → Prop} (hF : FX M) (hW : WK M L) (hT : TR w L) (hwp : 0 < w) (hw : w ≤ 20) (hx : FB w P K0 x) (hlen : ∀ k, k < K0 → k / w < L.length ∧ (gt L (k / w)).2.2.2.2 ≤ 19) (h2 : (∀ k, k < K0 → P k = false) → K (-2) M) (h1 : ∀ k, k < K0 → P k = true → (∀ j, j < k → P j = false) → ∀ M', Fr dTd eTd M M' → CW L (k / w) (k % w) M' → K (nI ((gt L (k / w)).2.2.2.2 + 1)) M') : f_X10_tellStepsTo S0 0 x M K := by
  unfold f_X10_tellStepsTo
  rcases hx with ⟨a, b⟩ | ⟨k, a, b, c, d⟩
  · rw [b]
    exact ⟨fun z => absurd z (by decide), fun _ => h2 a⟩
  · obtain ⟨l1, l2⟩ := hlen k a
    have hl := hW.2.1
    have hm : k % w < w := Nat.mod_lt _ hwp
    rw [d]
    refine ⟨fun _ => ?_, fun z => absurd (le0 (by omega)) z⟩
    simp only [fx_0_1 hF, fx_0_6 hF, ex_some, s0_10, s0_116, true_and]
    refine tellS_ok hF hW hT (by omega) l1 (by omega) l2 (fun M1 f1 g1 g2 => ?_)
    simp only [fx_0_6 (FX_fr f1 hF), ex_some, s0_116, true_and]
    rw [g1]
    exact h1 k a b c M1 f1 ⟨g1, g2⟩
/-- the class's calls that tell the first step found -/
theorem seekC {C : Cf} {ky w A B n : Nat} {mu : Option (List Nat)} {so : Nat → Nat → F4 → Nat → Bool} {F : F4} {x4 x5 : Int32} {M : Mm} {K3 : Mm → Prop} {KS : Mm → Prop} (hV : V M) (hC : CC M C) (hmC : mC M mu) (k13 : M.1 11 13 = nI ky) (hky : ky < 5) (hw : w = cT C * (ky + 1)) (hm : MO M 113 A B F) (hsi : SI C A B) (hn : n ≤ 20) (hso : ∀ M', Fr dE eG M M' → M'.1 10 12 = x4 → M'.1 10 13 = x5 → SO so M') (h3 : 4000 < (bf C ky w A B (Ed C ky w A B n * w)).length → ∀ M1, Fr dE eG M M1 → V_walk M1 → K3 M1) (h1 : ∀ M1, Fr dE eG M M1 → V_walk M1 → WX C ky w A B 4000 mu so M1 (Ed C ky w A B n * w) → FT C ky w A B (Ed C ky w A B n) (M1.1 10 16) → KS M1) : f_X9_explore S0 10 113 (nI n) (4000 : Int32) x4 x5 M (fun r m => (r = 0 ∨ r = 1) ∧ (r = 0 → K3 m) ∧ (¬ r = 0 → KS m)) := by
  have hwk : V_walk M := hV.2.2.2.2.2.2.2.2.2.2.2.2.2.2.2.2.1
  refine explore_ok (mo := 4000) hV.1 hwk hC hmC k13 hky hw (Or.inl rfl) hm.2.2.1 hm.2.2.2.1 hsi (by omega) (by omega) hn hso (fun M1 f1 X1 T1 => ⟨Or.inr rfl, fun z => absurd z (by decide), fun _ => ?_⟩) (fun hgt k' M1 f1 W1 => ⟨Or.inl rfl, fun _ => ?_, fun z => absurd rfl z⟩)
  · exact h1 M1 f1 (WK_walk X1.1 (by rw [f1.2.2]; exact hwk.2)) X1 T1
  · exact h3 hgt M1 f1 (WK_walk W1 (by rw [f1.2.2]; exact hwk.2))
theorem MS_dE {M M' : Mm} {A B : Nat} (f1 : Fr dE eG M M') (hs : MS M A B) : MS M' A B := MS_ag (Fr_row f1 _ fun _ => rfl) (Fr_row f1 _ fun _ => rfl) (Fr_row f1 _ fun _ => rfl) (Fr_row f1 _ fun _ => rfl) hs
theorem MS_dTd {M M' : Mm} {A B : Nat} (f1 : Fr dTd eTd M M') (hs : MS M A B) : MS M' A B := MS_ag (Fr_row f1 _ fun _ => rfl) (Fr_row f1 _ fun _ => rfl) (Fr_row f1 _ fun _ => rfl) (Fr_row f1 _ fun _ => rfl) hs
theorem CM_dTd {C : Cf} {M M' : Mm} (h : Fr dTd eTd M M') (hC : CM M C) : CM M' C :=
  CM_ag (h.1 _ _ rfl) (h.1 _ _ rfl) (h.1 _ _ rfl) (h.1 _ _ rfl) (h.1 _ _ rfl) (Fr_row h _ (fun _ => rfl)) (Fr_row h _ (fun _ => rfl)) (Fr_row h _ (fun _ => rfl)) (Fr_row h _ (fun _ => rfl)) (Fr_row h _ (fun _ => rfl)) (Fr_row h _ (fun _ => rfl)) (Fr_row h _ (fun _ => rfl)) (Fr_row h _ (fun _ => rfl)) hC
/-- the class's part of a call is over: what the model may go on from -/
def PM (C : Cf) (ky A B : Nat) (F : F4) (mu : Option (List Nat)) (M M1 : Mm) : Prop := Fr dRun eRun M M1 ∧ FX M1 ∧ CM M1 C ∧ M1.1 142 27 = nI ky ∧ MS M1 A B ∧ MF M1 F ∧ mM M1 mu ∧ V_walk M1
theorem PM_1 {C : Cf} {ky A B : Nat} {F : F4} {mu : Option (List Nat)} {M M1 : Mm} (hF : FX M) (hCM : CM M C) (k27 : M.1 142 27 = nI ky) (hs : MS M A B) (hf : MF M F) (hmM : mM M mu) (f1 : Fr dE eG M M1) (w1 : V_walk M1) : PM C ky A B F mu M M1 :=
  ⟨dE_run f1, FX_fr f1 hF, CM_dE f1 hCM, (f1.1 142 27 rfl).trans k27, MS_dE f1 hs, ⟨(f1.1 142 28 rfl).trans hf.1, (f1.1 142 29 rfl).trans hf.2.1, (f1.1 142 30 rfl).trans hf.2.2.1, (f1.1 142 31 rfl).trans hf.2.2.2⟩, mM_ag (Fr_row f1 _ fun _ => rfl) (Fr_row f1 _ fun _ => rfl) (f1.1 _ _ rfl) hmM, w1⟩
theorem PM_2 {C : Cf} {ky A B : Nat} {F : F4} {mu : Option (List Nat)} {M M1 M2 : Mm} (h : PM C ky A B F mu M M1) (f : Fr dTd eTd M1 M2) : PM C ky A B F mu M M2 := by
  obtain ⟨h1, h2, h3, h4, h5, h6, h7, h8⟩ := h
  exact ⟨Fr_tr h1 (dTd_run f), FX_fr f h2, CM_dTd f h3, (f.1 142 27 rfl).trans h4, MS_dTd f h5, ⟨(f.1 142 28 rfl).trans h6.1, (f.1 142 29 rfl).trans h6.2.1, (f.1 142 30 rfl).trans h6.2.2.1, (f.1 142 31 rfl).trans h6.2.2.2⟩, mM_ag (Fr_row f _ fun _ => rfl) (Fr_row f _ fun _ => rfl) (f.1 _ _ rfl) h7, walk_fr f rfl (fun _ => rfl) (fun _ => rfl) h8⟩
def dRm0 : Nat → Nat → Bool := fun b j => b == 142 && (j == 0 || (47 ≤ j && j ≤ 50 : Bool))
theorem dRm0_run {M M' : Mm} (h : Fr dRm0 e142 M M') : Fr dRun eRun M M' :=
  Fr_mono (fun b j hd => by unfold dRun at hd; unfold dRm0; simp only [Bool.or_eq_false_iff, Bool.and_eq_false_iff, beq_eq_false_iff_ne, decide_eq_false_iff_not] at *; omega) (fun b hd => by unfold eRun at hd; unfold e142; simp only [Bool.or_eq_false_iff, Bool.and_eq_false_iff, beq_eq_false_iff_ne, decide_eq_false_iff_not] at *; omega) h
theorem runM2 {C : Cf} {ky A B : Nat} {F : F4} {M : Mm} {K : Mm → Prop} (hF : FX M) (hC : CM M C) (h27 : M.1 142 27 = nI ky) (hs : MS M A B) (hf : MF M F) (hK : ∀ M', Fr dRm0 e142 M M' → BM C ky M' → RM M' A B F → K M') : f_X11_remembers S0 142 (stI M 142 0 0) K := by
  refine remem_ok (A := A) (B := B) (F := F) (FX_ag rfl hF) hs hf (fun M1 f1 r1 => ?_)
  have f0 : Fr dRm0 e142 M (stI M 142 0 0) := Fr_I rfl (Fr_refl _ _ _)
  have f1' : Fr dRm0 e142 M M1 := Fr_tr f0 (Fr_mono (fun b j hd => by unfold dRm0 at hd; unfold dRm; simp only [Bool.or_eq_false_iff, Bool.and_eq_false_iff, beq_eq_false_iff_ne, decide_eq_false_iff_not] at *; omega) (fun b hd => hd) f1)
  exact hK M1 f1' ⟨FX_fr f1' hF, CM_dRm f1 (CM_st hC), (f1.1 142 27 rfl).trans h27⟩ r1
theorem op14 (p1 : Int32) (M : Mm) (K : Mm → Prop) (hV : V M) (hK : ∀ m, V m → K m) : OP14 p1 M K := by
  have hF := hV.1
  obtain ⟨C, mu, ky, A, B, F, hC, hCM, hmC, hmM, hky, k13, k27, hm, hs, hf, hsi⟩ := run_of hV
  have c1 := hC.1.1
  have htd : V_told M := hV.2.2.2.2.2.2.1
  obtain ⟨w, hw⟩ : ∃ w, w = cT C * (ky + 1) := ⟨_, rfl⟩
  have hw20 : w ≤ 20 := by
    rw [hw]
    have : cT C * (ky + 1) ≤ 4 * 5 := Nat.mul_le_mul c1 (by omega)
    omega
  show f_X10_never S0 0 p1 M (fun r m1 => f_X11_never S0 142 p1 m1 (AN r K))
  unfold f_X10_never
  refine refuses_ok hF hC.2.1 c1 (fun g1 g2 g3 => ⟨fun _ => ?_, fun z => absurd rfl z⟩) (fun hx => ⟨fun z => absurd z (by decide), fun _ => ?_⟩)
  · obtain ⟨n, hn0, rfl⟩ := nI_of g1
    have hn : n ≤ 20 := by
      rcases Nat.lt_or_ge 20 n with z | z
      · exact absurd (show nI 20 < nI n from nI_lt z hn0) g2
      · exact z
    have hwp : 0 < w := by rw [hw]; exact Nat.mul_pos g3 (by omega)
    -- the model
    have model : ∀ (M1 : Mm) (r : Int32), PM C ky A B F mu M M1 → (4000 < (bf C ky w A B (Ed C ky w A B n * w)).length → r = -3 ∧ V_told M1) → ((bf C ky w A B (Ed C ky w A B n * w)).length ≤ 4000 → (∀ k, k < Ed C ky w A B n * w → pB C ky w A B mu k = false) → r = -2 ∧ V_told M1) → ((bf C ky w A B (Ed C ky w A B n * w)).length ≤ 4000 → ∀ k, k < Ed C ky w A B n * w → pB C ky w A B mu k = true → (∀ j, j < k → pB C ky w A B mu j = false) → r = nI ((gt (bf C ky w A B (Ed C ky w A B n * w)) (k / w)).2.2.2.2 + 1) ∧ CW (bf C ky w A B (Ed C ky w A B n * w)) (k / w) (k % w) M1) → f_X11_never S0 142 (nI n) M1 (AN r K) := by
      intro M1 r pm t3 t2 t1
      obtain ⟨p1', p2, p3, p4, p5, p6, p7, p8⟩ := pm
      unfold f_X11_never
      simp only [forall_eq]
      refine isRun_ok (nt := cT C) p3.2.1 c1 (fun _ _ _ => ⟨fun z => absurd z (by decide), fun _ => ?_⟩) (fun w => ?_)
      · refine runM2 (ky := ky) (A := A) (B := B) (F := F) p2 p3 p4 p5 p6 (fun M2 f2 b2 r2 => ?_)
        have w2 : V_walk M2 := walk_fr f2 rfl (fun _ => rfl) (fun _ => rfl) p8
        have t2' : V_told M1 → V_told M2 := fun h => told_fr f2 rfl rfl rfl rfl h
        have f3 : Fr dRun eRun M (stI M2 142 51 0) := Fr_I rfl (Fr_tr p1' (dRm0_run f2))
        refine findsBack (so := fun A B F _ => brk mu A B F) hV hK f3 ⟨FX_ag rfl b2.1, CM_ag (M := M2) rfl rfl rfl rfl rfl rfl rfl rfl rfl rfl rfl rfl rfl b2.2.1, b2.2.2⟩ ⟨r2.1, r2.2.1, r2.2.2.1, r2.2.2.2.1, r2.2.2.2.2.1, r2.2.2.2.2.2⟩ hm (V_walk_ag (M := M2) rfl rfl rfl rfl w2) hky hw g3 hsi hn (fun M' f' => ?_) ?_ ?_ ?_
        · refine IF_0 (mu := mu) (FX_fr f' (FX_ag rfl b2.1)) (mM_dQ f' ?_) ((f'.1 142 51 rfl).trans rfl)
          refine mM_ag (M := M1) ?_ ?_ ?_ p7
          · show M2.1 147 = _; exact Fr_row f2 _ (fun _ => rfl)
          · show M2.1 148 = _; exact Fr_row f2 _ (fun _ => rfl)
          · show M2.1 142 19 = _; exact f2.1 _ _ rfl
        · intro h
          exact ⟨(t3 h).1, V_told_ag (M := M2) rfl rfl rfl rfl (t2' (t3 h).2)⟩
        · intro h h'
          exact ⟨(t2 h h').1, V_told_ag (M := M2) rfl rfl rfl rfl (t2' (t2 h h').2)⟩
        · intro h k a b c
          obtain ⟨y1, y2, y3⟩ := t1 h k a b c
          refine ⟨y1, ?_, fun j hj => ?_⟩
          · show M2.1 116 1 = _
            rw [f2.1 116 1 rfl]; exact y2
          · show M2.2.1 117 _ = _
            rw [f2.2.1 117 rfl]; exact y3 j hj
      · exact (w.elim g1 (fun w => w.elim g2 (fun w => by omega))).elim
    unfold f_X10_explored
    simp only [fx_0_1 hF, fx_0_3 hF, ex_some, s0_10, s0_113, true_and]
    refine seekC (so := fun _ _ _ _ => false) hV hC hmC k13 hky hw hm hsi hn (fun M' _ h12 _ => SO_0 h12) (fun hgt M1 f1 w1 => ?_) (fun M1 f1 w1 X1 T1 => ?_)
    · have pm := PM_1 hF hCM k27 hs hf hmM f1 w1
      refine model M1 _ pm (fun _ => ⟨rfl, told_fr f1 rfl rfl rfl rfl htd⟩) (fun h => by omega) (fun h => by omega)
    · have pm := PM_1 hF hCM k27 hs hf hmM f1 w1
      have hF1 := FX_fr f1 hF
      simp only [fx_0_1 hF1, ex_some, s0_10, true_and]
      refine tellTo hF1 X1.1 (bf_tr hwp _) hwp hw20 X1.2.2.1 (fun k hk => ?_) (fun hno => ?_) (fun k a b c M2 f2 cw => ?_)
      · have hks : k / w < Ed C ky w A B n := (Nat.div_lt_iff_lt_mul hwp).mpr hk
        have hlen : k / w < (bf C ky w A B (Ed C ky w A B n * w)).length := Nat.lt_of_lt_of_le (bf_sl hks) (bf_mono (Nat.mul_le_mul_right _ (by omega)))
        have hdp := (dp_lt hwp hlen (Nat.le_refl _)).mpr hks
        exact ⟨hlen, by omega⟩
      · refine model M1 _ pm (fun h => by have := X1.2.2.2.2; omega) (fun _ _ => ⟨rfl, told_fr f1 rfl rfl rfl rfl htd⟩) (fun _ k a b => by rw [hno k a] at b; exact absurd b (by decide))
      · refine model M2 _ (PM_2 pm f2) (fun h => by have := X1.2.2.2.2; omega) (fun _ h' => by rw [h' k a] at b; exact absurd b (by decide)) (fun _ k' a' b' c' => ?_)
        have e : k' = k := by
          rcases Nat.lt_trichotomy k' k with l | l | l
          · rw [c k' l] at b'; exact absurd b' (by decide)
          · exact l
          · rw [c' k l] at b; exact absurd b (by decide)
        subst e
        exact ⟨rfl, cw⟩
  · unfold f_X11_never
    simp only [forall_eq]
    refine isRun_ok (nt := cT C) hCM.2.1 c1 (fun a b c => ?_) (fun _ => ⟨fun _ => an_ok rfl (hK _ (V_thr _ hV)), fun z => absurd rfl z⟩)
    exact (hx.elim a (fun w => w.elim b (fun w => by omega))).elim
theorem seekG {C : Cf} {ky w A B n q mo : Nat} {mu : Option (List Nat)} {so : Nat → Nat → F4 → Nat → Bool} {x4 x5 : Int32} {M : Mm} {K : Int32 → Mm → Prop} (hF : FX M) (hwk : V_walk M) (hC : CC M C) (hmC : mC M mu) (k13 : M.1 11 13 = nI ky) (hky : ky < 5) (hw : w = cT C * (ky + 1)) (hq : q = 113 ∨ q = 114) (e0 : M.2.1 q 0 = lN A) (e1 : M.2.1 q 1 = lN B) (hsi : SI C A B) (hmo : 1 ≤ mo) (hmo2 : mo ≤ 4000) (hn : n ≤ 20) (hso : ∀ M', Fr dE eG M M' → M'.1 10 12 = x4 → M'.1 10 13 = x5 → SO so M') (h3 : mo < (bf C ky w A B (Ed C ky w A B n * w)).length → ∀ M1, Fr dE eG M M1 → V_walk M1 → K 0 M1) (h1 : ∀ M1, Fr dE eG M M1 → V_walk M1 → WX C ky w A B mo mu so M1 (Ed C ky w A B n * w) → FT C ky w A B (Ed C ky w A B n) (M1.1 10 16) → K 1 M1) : f_X9_explore S0 10 q (nI n) (nI mo) x4 x5 M K :=
  explore_ok hF hwk hC hmC k13 hky hw hq e0 e1 hsi hmo hmo2 hn hso (fun M1 f1 X1 T1 => h1 M1 f1 (WK_walk X1.1 (by rw [f1.2.2]; exact hwk.2)) X1 T1) (fun hgt k' M1 f1 W1 => h3 hgt M1 f1 (WK_walk W1 (by rw [f1.2.2]; exact hwk.2)))
theorem op23 (p1 p2 : Int32) (M : Mm) (K : Mm → Prop) (hV : V M) (hK : ∀ m, V m → K m) : OP23 p1 p2 M K := by
  have hF := hV.1
  obtain ⟨C, mu, ky, A, B, F, hC, hCM, hmC, hmM, hky, k13, k27, hm, hs, hf, hsi⟩ := run_of hV
  have c1 := hC.1.1
  have c2 := hC.1.2.1
  have c3 := hC.1.2.2.1
  have htd : V_told M := hV.2.2.2.2.2.2.1
  have hwk : V_walk M := hV.2.2.2.2.2.2.2.2.2.2.2.2.2.2.2.2.1
  obtain ⟨w, hw⟩ : ∃ w, w = cT C * (ky + 1) := ⟨_, rfl⟩
  have hw20 : w ≤ 20 := by
    rw [hw]
    have : cT C * (ky + 1) ≤ 4 * 5 := Nat.mul_le_mul c1 (by omega)
    omega
  show f_X10_hid S0 0 p1 p2 M (fun r m1 => f_X11_hid S0 142 p1 p2 m1 (AN r K))
  have hend : AN (-1) K (-1) (stI M 142 0 0) := an_ok rfl (hK _ (V_thr _ hV))
  have ref : (p2 < 0 ∨ (20 : Int32) < p2 ∨ cT C = 0 ∨ p1 < 0 ∨ ¬ p1 < nI (cb C) ∨ ∃ b, p1 = nI b ∧ b < 3 ∧ (con C).testBit b = false) → f_X11_hid S0 142 p1 p2 M (AN (-1) K) := by
    intro hx
    unfold f_X11_hid
    simp only [forall_eq]
    refine isRun_ok (nt := cT C) hCM.2.1 c1 (fun a b c => ⟨fun z => absurd z (by decide), fun _ => ?_⟩) (fun _ => ⟨fun _ => hend, fun z => absurd rfl z⟩)
    rw [show (stI M 142 0 0).1 142 20 = nI (cb C) from hCM.2.2.1]
    refine f_in (nI (cb C) - 1) rfl (fun a2 b2 => ⟨fun z => absurd z (by decide), fun _ => ?_⟩) (fun _ => ⟨fun _ => hend, fun z => absurd rfl z⟩)
    rcases hx with h | h | h | h | h | ⟨b', h1, h2, h3⟩
    · exact absurd h a
    · exact absurd h b
    · omega
    · exact absurd h a2
    · exact absurd ((sub1_lt (by omega) a2).mpr h) b2
    · rw [show (stI M 142 0 0).1 142 21 = nI (con C) from hCM.2.2.2.1, h1]
      refine has_ok (by omega) (by omega) ?_
      rw [h3]
      exact ⟨fun _ => hend, fun z => absurd rfl z⟩
  unfold f_X10_hid
  refine refuses_ok hF hC.2.1 c1 (fun g1 g2 g3 => ⟨fun _ => ?_, fun z => absurd rfl z⟩) (fun hx => ⟨fun z => absurd z (by decide), fun _ => ref (hx.elim Or.inl (fun w => Or.inr (w.elim Or.inl (fun w => Or.inr (Or.inl w)))))⟩)
  refine ⟨fun h => ref (Or.inr (Or.inr (Or.inr (Or.inl h)))), fun g4 => ?_⟩
  simp only [fx_0_1 hF, fx_0_2 hF, fx_0_3 hF, ex_some, s0_10, s0_11, s0_113, true_and]
  rw [hC.2.2.1, hC.2.2.2.1]
  refine ⟨fun g5 => ?_, fun h => ref (Or.inr (Or.inr (Or.inr (Or.inr (Or.inl h)))))⟩
  obtain ⟨b, hb0, rfl⟩ := nI_of g4
  have hbc : b < cb C := (nI_ltI hb0 (by omega)).mp g5
  have hb3 : b < 3 := by omega
  rw [bit_on _ c3 b hb3]
  refine ⟨fun h => ref (Or.inr (Or.inr (Or.inr (Or.inr (Or.inr ⟨b, rfl, hb3, h⟩))))), fun g6 => ?_⟩
  have g6 : (con C).testBit b = true := by simpa using g6
  obtain ⟨n, hn0, rfl⟩ := nI_of g1
  have hn : n ≤ 20 := by
    rcases Nat.lt_or_ge 20 n with z | z
    · exact absurd (show nI 20 < nI n from nI_lt z hn0) g2
    · exact z
  have hwp : 0 < w := by rw [hw]; exact Nat.mul_pos g3 (by omega)
  have model : ∀ (M1 : Mm) (r : Int32), PM C ky A B F mu M M1 → (4000 < (bf C ky w A B (Ed C ky w A B n * w)).length → r = -3 ∧ V_told M1) → ((bf C ky w A B (Ed C ky w A B n * w)).length ≤ 4000 → (∀ k, k < Ed C ky w A B n * w → pS C ky w A B (soH mu b) k = false) → r = -2 ∧ V_told M1) → ((bf C ky w A B (Ed C ky w A B n * w)).length ≤ 4000 → ∀ k, k < Ed C ky w A B n * w → pS C ky w A B (soH mu b) k = true → (∀ j, j < k → pS C ky w A B (soH mu b) j = false) → r = nI ((gt (bf C ky w A B (Ed C ky w A B n * w)) (k / w)).2.2.2.2 + 1) ∧ CW (bf C ky w A B (Ed C ky w A B n * w)) (k / w) (k % w) M1) → f_X11_hid S0 142 (nI b) (nI n) M1 (AN r K) := by
    intro M1 r pm t3 t2 t1
    obtain ⟨p1', p2, p3, p4, p5, p6, p7, p8⟩ := pm
    unfold f_X11_hid
    simp only [forall_eq]
    refine isRun_ok (nt := cT C) p3.2.1 c1 (fun _ _ _ => ⟨fun z => absurd z (by decide), fun _ => ?_⟩) (fun w => ?_)
    · rw [show (stI M1 142 0 0).1 142 20 = nI (cb C) from p3.2.2.1]
      refine f_in (nI (cb C) - 1) rfl (fun a2 b2 => ⟨fun z => absurd z (by decide), fun _ => ?_⟩) (fun w => ?_)
      · rw [show (stI M1 142 0 0).1 142 21 = nI (con C) from p3.2.2.2.1]
        refine has_ok (by omega) (by omega) ?_
        rw [g6]
        refine ⟨fun z => absurd z (by decide), fun _ => ?_⟩
        refine runM2 (ky := ky) (A := A) (B := B) (F := F) p2 p3 p4 p5 p6 (fun M2 f2 b2 r2 => ?_)
        have w2 : V_walk M2 := walk_fr f2 rfl (fun _ => rfl) (fun _ => rfl) p8
        have t2' : V_told M1 → V_told M2 := fun h => told_fr f2 rfl rfl rfl rfl h
        have f3 : Fr dRun eRun M (stI (stI M2 142 51 2) 142 52 (nI b)) := Fr_I rfl (Fr_I rfl (Fr_tr p1' (dRm0_run f2)))
        refine findsBack (so := soH mu b) hV hK f3 ⟨FX_ag rfl b2.1, CM_ag (M := M2) rfl rfl rfl rfl rfl rfl rfl rfl rfl rfl rfl rfl rfl b2.2.1, b2.2.2⟩ ⟨r2.1, r2.2.1, r2.2.2.1, r2.2.2.2.1, r2.2.2.2.2.1, r2.2.2.2.2.2⟩ hm (V_walk_ag (M := M2) rfl rfl rfl rfl w2) hky hw g3 hsi hn (fun M' f' => ?_) ?_ ?_ ?_
        · refine IF_2 (mu := mu) (FX_fr f' (FX_ag rfl b2.1)) (mM_dQ f' ?_) ((f'.1 142 51 rfl).trans rfl) ((f'.1 142 52 rfl).trans rfl) hb3
          refine mM_ag (M := M1) ?_ ?_ ?_ p7
          · show M2.1 147 = _; exact Fr_row f2 _ (fun _ => rfl)
          · show M2.1 148 = _; exact Fr_row f2 _ (fun _ => rfl)
          · show M2.1 142 19 = _; exact f2.1 _ _ rfl
        · intro h
          exact ⟨(t3 h).1, V_told_ag (M := M2) rfl rfl rfl rfl (t2' (t3 h).2)⟩
        · intro h h'
          exact ⟨(t2 h h').1, V_told_ag (M := M2) rfl rfl rfl rfl (t2' (t2 h h').2)⟩
        · intro h k a b c
          obtain ⟨y1, y2, y3⟩ := t1 h k a b c
          refine ⟨y1, ?_, fun j hj => ?_⟩
          · show M2.1 116 1 = _
            rw [f2.1 116 1 rfl]; exact y2
          · show M2.2.1 117 _ = _
            rw [f2.2.1 117 rfl]; exact y3 j hj
      · exact (w.elim g4 (fun w => (sub1_lt (by omega) g4).mp w g5)).elim
    · exact (w.elim g1 (fun w => w.elim g2 (fun w => by omega))).elim
  refine seekG (mo := 4000) (so := soH mu b) hF hwk hC hmC k13 hky hw (Or.inl rfl) hm.2.2.1 hm.2.2.2.1 hsi (by omega) (by omega) hn (fun M' f' h12 h13 => SO_3 (FX_fr f' hF) (mC_dE f' hmC) h12 h13 hb3) (fun hgt M1 f1 w1 => ⟨fun _ => ?_, fun z => absurd rfl z⟩) (fun M1 f1 w1 X1 T1 => ⟨fun z => absurd z (by decide), fun _ => ?_⟩)
  · have pm := PM_1 hF hCM k27 hs hf hmM f1 w1
    refine model M1 _ pm (fun _ => ⟨rfl, told_fr f1 rfl rfl rfl rfl htd⟩) (fun h => by omega) (fun h => by omega)
  · have pm := PM_1 hF hCM k27 hs hf hmM f1 w1
    have hF1 := FX_fr f1 hF
    simp only [fx_0_1 hF1, ex_some, s0_10, true_and]
    refine tellTo hF1 X1.1 (bf_tr hwp _) hwp hw20 X1.2.2.2.1 (fun k hk => ?_) (fun hno => ?_) (fun k a b c M2 f2 cw => ?_)
    · have hks : k / w < Ed C ky w A B n := (Nat.div_lt_iff_lt_mul hwp).mpr hk
      have hlen : k / w < (bf C ky w A B (Ed C ky w A B n * w)).length := Nat.lt_of_lt_of_le (bf_sl hks) (bf_mono (Nat.mul_le_mul_right _ (by omega)))
      have hdp := (dp_lt hwp hlen (Nat.le_refl _)).mpr hks
      exact ⟨hlen, by omega⟩
    · refine model M1 _ pm (fun h => by have := X1.2.2.2.2; omega) (fun _ _ => ⟨rfl, told_fr f1 rfl rfl rfl rfl htd⟩) (fun _ k a b => by rw [hno k a] at b; exact absurd b (by decide))
    · refine model M2 _ (PM_2 pm f2) (fun h => by have := X1.2.2.2.2; omega) (fun _ h' => by rw [h' k a] at b; exact absurd b (by decide)) (fun _ k' a' b' c' => ?_)
      have e : k' = k := by
        rcases Nat.lt_trichotomy k' k with l | l | l
        · rw [c k' l] at b'; exact absurd b' (by decide)
        · exact l
        · rw [c' k l] at b; exact absurd b (by decide)
      subst e
      exact ⟨rfl, cw⟩
