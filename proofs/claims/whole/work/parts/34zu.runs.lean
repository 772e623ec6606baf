/-! runs, means -/
theorem wy_of {M : Mm} (h : V_walk M) : ∃ X Y, wy M X Y := by
  rcases h.2 with ⟨a, b⟩ | ⟨a, b⟩
  · exact ⟨111, 112, a, b, Or.inl ⟨rfl, rfl⟩⟩
  · exact ⟨112, 111, a, b, Or.inr ⟨rfl, rfl⟩⟩
theorem sum_const (c : Nat) : ∀ n, sumTo (fun _ => c) n = n * c
  | 0 => (Nat.zero_mul c).symm
  | n + 1 => by
    show sumTo (fun _ => c) n + c = (n + 1) * c
    rw [sum_const c n, Nat.add_mul, Nat.one_mul]
theorem nx_fg {C : Cf} {ky w A0 B0 n k : Nat} (hC : CO C) (hky : ky < 5) (hw : w = cT C * (ky + 1)) (hT : 0 < cT C) (h0 : SI C A0 B0) (hk : k < Ed C ky w A0 B0 n * w) : FG (nx C ky w (bf C ky w A0 B0 k) k).2.2.1 := by
  have hwp : 0 < w := by rw [hw]; exact Nat.mul_pos hT (by omega)
  have hm : k % w < w := Nat.mod_lt _ hwp
  obtain ⟨t1, t2⟩ := mv_t hw hm
  have hs : k / w < Ed C ky w A0 B0 n := by
    rw [Nat.div_lt_iff_lt_mul hwp]; exact hk
  have h1 := bf_sl hs
  have h2 : k / w * w ≤ k := Nat.div_mul_le_self k w
  have h3 : k / w < (bf C ky w A0 B0 k).length := Nat.lt_of_lt_of_le h1 (bf_mono h2)
  unfold nx
  exact stp_fg hC t1 (bf_si hC hky hw hT h0 k _ h3).2.2
theorem WR_of {C : Cf} {ky w A B n a3 mo : Nat} {mu : Option (List Nat)} {so : Nat → Nat → F4 → Nat → Bool} {G : Gx} {wk : Nat → Nat} {M1 : Mm} (hF : FX M1) (hC : CC M1 C) (k13 : M1.1 11 13 = nI ky) (hky : ky < 5) (hw : w = cT C * (ky + 1)) (hX : WX C ky w A B mo mu so M1 (Ed C ky w A B n * w)) (hG : ∀ k, k < Ed C ky w A B n * w → M1.1 110 k = nI (4 * gT G k + bts (gB G k) (gS G k)) ∧ gT G k < (bf C ky w A B (Ed C ky w A B n * w)).length) (h3 : shp S0 a3 = some (50, 5)) (hk : ∀ j, j < 5 → M1.1 a3 j = nI (wk j) ∧ wk j < 10) : WR M1 G w ky (cT C) (bf C ky w A B (Ed C ky w A B n * w)).length (Ed C ky w A B n) a3 wk := by
  have c1 := hC.1.1
  have hw20 : w ≤ 20 := by
    rw [hw]
    have : cT C * (ky + 1) ≤ 4 * 5 := Nat.mul_le_mul c1 (by omega)
    omega
  have hE := Ed_mono (C := C) (ky := ky) (w := w) (A0 := A) (B0 := B) n
  rw [Ed_succ] at hE
  exact ⟨hF, hC.2.1, k13, c1, hky, hw, hw20, hX.1.2.1, hE, hX.1.1, hG, h3, hk⟩
/-- what holds in the model behind its weighing -/
def CMm (C : Cf) (ky A B : Nat) (F : F4) (M M3 m : Mm) : Prop := Fw M m ∧ FX m ∧ RM m A B F ∧ V_walk m ∧ CM m C ∧ m.1 142 27 = nI ky ∧ m.1 116 1 = M3.1 116 1 ∧ m.2.1 117 = M3.2.1 117 ∧ (V_told M3 → V_told m) ∧ m.1 171 = M3.1 171
theorem modW {C : Cf} {ky w A B n N : Nat} {F : F4} {mu : Option (List Nat)} {G : Gx} {wt : Nat → Nat} {x2 x3 : Int32} {M M3 : Mm} {Z : Int32 → Mm → Prop} (hpm : PW C ky A B F mu M M3) (hky : ky < 5) (hw : w = cT C * (ky + 1)) (hT : 0 < cT C) (h0 : SI C A B) (hn : n ≤ 20) (hNe : N = (bf C ky w A B (Ed C ky w A B n * w)).length) (hG : N ≤ 4000 → HG C ky w A B n mu (x2 + 1) G) (hH : HWt M3 ky w x3 wt) (hs : N ≤ 4000 → ∀ d, d < n → ∀ s, WW false false G wt w N d s ≠ 0 → s < Ed C ky w A B n) (hc : N ≤ 4000 → ∀ d, d < n → ∀ s, s < N → WW false false G wt w N d s < 2 ^ 63)
    (z0 : 4000 < N → ∀ m, CMm C ky A B F M M3 m → Z 0 m) (z1 : N ≤ 4000 → ∀ m, CMm C ky A B F M M3 m → m.1 142 44 = nI N → (∀ t g, t < N → g < 4 → m.2.1 166 (4 * t + g) = lN (MM G wt w N n t g)) → Z 1 m) :
    f_X11_remembers S0 142 (stI M3 142 0 0) (fun m10 => f_X11_explores S0 142 (nI n) (4000 : Int32) m10 (fun r12 m11 => ((r12 = 0 → Z r12 m11) ∧ (¬ r12 = 0 → f_X11_weighs S0 142 (nI n) x2 x3 m11 (fun m25 => Z r12 m25))))) := by
  obtain ⟨q1, q2, q3, q4, q5, q6, q7, q8⟩ := hpm
  refine runM2 (ky := ky) (A := A) (B := B) (F := F) q2 q3 q4 q5 q6 (fun M4 f4 b4 r4 => ?_)
  have w4 : V_walk M4 := walk_fr f4 rfl (fun _ => rfl) (fun _ => rfl) q8
  have mm4 : mM M4 mu := mM_ag (Fr_row f4 _ fun _ => rfl) (Fr_row f4 _ fun _ => rfl) (f4.1 _ _ rfl) q7
  have fw4 : Fw M M4 := Fw_tr q1 (Fw_fr (dRm0_run f4))
  refine explores_ok (C := C) (w := w) (mo := 4000) b4 hky hw hT h0 r4.1 r4.2.1 hn (by omega) (by omega) (fun hle M5 f5 W5 D5 => ⟨fun z => absurd z (by decide), fun _ => ?_⟩) (fun hgt M5 f5 => ⟨fun _ => ?_, fun z => absurd rfl z⟩)
  · have hle' : N ≤ 4000 := by omega
    have hH5 : HWt M5 ky w x3 wt := by
      have i171 : M5.1 171 = M3.1 171 := (Fr_row f5 _ (fun _ => rfl)).trans (Fr_row f4 _ (fun _ => rfl))
      rcases hH with h | ⟨q, u1, u2, u3⟩
      · exact Or.inl h
      · exact Or.inr ⟨q, u1, u2, fun m hm => by rw [i171]; exact u3 m hm⟩
    refine weighs_ok (C := C) (A0 := A) (B0 := B) (N := N) (G := G) (wt := wt) (BM_fr f5 b4) (mM_dQ f5 mm4) hky hw hT h0 hn hNe hle' (hG hle') W5 D5 hH5 (hs hle') (hc hle') (fun M6 M7 f6 s7 W7 D7 v7 => z1 hle' M7 ?_ (by rw [W7.1, ← hNe]) v7)
    refine ⟨Fw_tr fw4 (Fw_tr (Fw_fr (dQ_run f5)) (Fw_tr (Fw_fr (dQw_run f6)) (Fw_fr (SM_run s7)))), FX_ag s7.2.1 (FX_fr f6 (FX_fr f5 b4.1)), ?_, ?_, ?_, ?_, ?_, ?_, fun td => ?_, ?_⟩
    · exact RM_run (fun j h1 h2 => by rw [s7.1]) (s7.2.2 142 (by omega) (by omega)) (RM_run (fun j h1 h2 => f6.1 142 j (by unfold dQw dQ; simp only [Bool.or_eq_false_iff, Bool.and_eq_false_iff, beq_eq_false_iff_ne, decide_eq_false_iff_not]; omega)) (f6.2.1 142 rfl) (RM_dQ f5 r4))
    · exact V_walk_ag (M := M6) (by rw [s7.1]) (by rw [s7.1]) (by rw [s7.1]) (by rw [s7.2.1]) (walk_fr f6 rfl (fun _ => rfl) (fun _ => rfl) (walk_fr f5 rfl (fun _ => rfl) (fun _ => rfl) w4))
    · exact CM_ag (M := M6) (by rw [s7.1]) (by rw [s7.1]) (by rw [s7.1]) (by rw [s7.1]) (by rw [s7.1]) (by rw [s7.1]) (by rw [s7.1]) (by rw [s7.1]) (by rw [s7.1]) (by rw [s7.1]) (by rw [s7.1]) (by rw [s7.1]) (by rw [s7.1]) (CM_dQw f6 (CM_dQ f5 b4.2.1))
    · rw [s7.1, f6.1 142 27 rfl, f5.1 142 27 rfl]; exact b4.2.2
    · rw [s7.1, f6.1 116 1 rfl, f5.1 116 1 rfl, f4.1 116 1 rfl]
    · rw [s7.2.2 117 (by omega) (by omega), f6.2.1 117 rfl, f5.2.1 117 rfl, f4.2.1 117 rfl]
    · exact V_told_ag (M := M6) (by rw [s7.1]) (by rw [s7.1]) (s7.2.2 117 (by omega) (by omega)) (s7.2.2 143 (by omega) (by omega)) (told_fr f6 rfl rfl rfl rfl (told_fr f5 rfl rfl rfl rfl (told_fr f4 rfl rfl rfl rfl td)))
    · rw [s7.1, Fr_row f6 _ (fun _ => rfl), Fr_row f5 _ (fun _ => rfl), Fr_row f4 _ (fun _ => rfl)]
  · refine z0 (by omega) M5 ⟨Fw_tr fw4 (Fw_fr (dQ_run f5)), FX_fr f5 b4.1, RM_dQ f5 r4, walk_fr f5 rfl (fun _ => rfl) (fun _ => rfl) w4, CM_dQ f5 b4.2.1, (f5.1 142 27 rfl).trans b4.2.2, ?_, ?_, fun td => told_fr f5 rfl rfl rfl rfl (told_fr f4 rfl rfl rfl rfl td), ?_⟩
    · rw [f5.1 116 1 rfl, f4.1 116 1 rfl]
    · rw [f5.2.1 117 rfl, f4.2.1 117 rfl]
    · rw [Fr_row f5 _ (fun _ => rfl), Fr_row f4 _ (fun _ => rfl)]
/-- back, in the model: what holds then -/
theorem backW {C : Cf} {ky A B : Nat} {F : F4} {M M3 m : Mm} {Q : Mm → Prop} (hV : V M) (hm : MO M 113 A B F) (hc : CMm C ky A B F M M3 m) (hQ : ∀ m', Fr dCb eN m m' → FX m' → m'.1 142 15 = nI (cT C) → m'.1 142 27 = nI ky → m'.1 116 1 = M3.1 116 1 → m'.2.1 117 = M3.2.1 117 → (V_told M3 → V_told m') → m'.1 171 = M3.1 171 → (∀ m'', Fr dWy eWy m' m'' → V_told m'' → V m'') → Q m') : f_X11_comesBack S0 142 m Q := by
  obtain ⟨c1, c2, c3, c4, c5, c6, c7, c8, c9, c10⟩ := hc
  refine comes_ok c2 c3 (fun m' f' ms' mf' z' => hQ m' f' (FX_fr f' c2) ((f'.1 142 15 rfl).trans c5.2.1) ((f'.1 142 27 rfl).trans c6) ((f'.1 116 1 rfl).trans c7) ((f'.2.1 117 rfl).trans c8) (fun td => told_fr f' rfl rfl rfl rfl (c9 td)) ((Fr_row f' _ (fun _ => rfl)).trans c10) (fun m'' f'' td => ?_))
  exact V_runW hV (Fw_tr c1 (Fw_tr (Fw_fr (dCb_run f')) (Fw_fr (dWy_run f'')))) ((f''.1 _ _ rfl).trans z') hm (MS_ag (Fr_row f'' _ fun _ => rfl) (Fr_row f'' _ fun _ => rfl) (Fr_row f'' _ fun _ => rfl) (Fr_row f'' _ fun _ => rfl) ms') ⟨(f''.1 _ _ rfl).trans mf'.1, (f''.1 _ _ rfl).trans mf'.2.1, (f''.1 _ _ rfl).trans mf'.2.2.1, (f''.1 _ _ rfl).trans mf'.2.2.2⟩ (walk_fr f'' rfl (fun _ => rfl) (fun _ => rfl) (walk_fr f' rfl (fun _ => rfl) (fun _ => rfl) c4)) td
theorem lN_cut {a b c : Nat} (h : a + b = c) : lN c - lN b = lN a := by
  rw [lN_subN (by omega)]
  congr 1; omega
theorem op17 (p1 : Int32) (M : Mm) (K : Mm → Prop) (hV : V M) (hK : ∀ m, V m → K m) : OP17 p1 M K := by
  have hF := hV.1
  obtain ⟨C, mu, ky, A, B, F, hC, hCM, hmC, hmM, hky, k13, k27, hm, hs, hf, hsi⟩ := run_of hV
  have c1 := hC.1.1
  have htd : V_told M := hV.2.2.2.2.2.2.1
  have hwk : V_walk M := hV.2.2.2.2.2.2.2.2.2.2.2.2.2.2.2.2.1
  have hwg : V_wgt M := hV.2.2.2.2.2.1
  obtain ⟨w, hw⟩ : ∃ w, w = cT C * (ky + 1) := ⟨_, rfl⟩
  have hw20 : w ≤ 20 := by
    rw [hw]
    have : cT C * (ky + 1) ≤ 4 * 5 := Nat.mul_le_mul c1 (by omega)
    omega
  have hend : ∀ r, AN r K r (stI M 142 0 0) := fun r => an_ok rfl (hK _ (V_thr _ hV))
  show f_X10_runs S0 0 p1 M (fun r m1 => f_X11_runs S0 142 p1 m1 (AN r K))
  unfold f_X10_runs
  refine refuses_ok hF hC.2.1 c1 (fun g1 g2 g3 => ⟨fun _ => ?_, fun z => absurd rfl z⟩) (fun hx => ⟨fun z => absurd z (by decide), fun _ => ?_⟩)
  · obtain ⟨n, hn, rfl⟩ := nI_le' (n := 20) (by decide) rfl g1 g2
    obtain ⟨N, hN⟩ : ∃ N, N = (bf C ky w A B (Ed C ky w A B n * w)).length := ⟨_, rfl⟩
    have hNp : 0 < N := by rw [hN]; exact bf_len _
    -- how the model begins
    have begin_ : ∀ (M1 : Mm) (r : Int32), FX M1 → M1.1 142 15 = nI (cT C) → M1.1 142 27 = nI ky → (10 ^ 12 < w ^ n → AN r K (-1) (stI M1 142 0 0)) → (w ^ n ≤ 10 ^ 12 → f_X11_remembers S0 142 (stI M1 142 0 0) (fun m10 => f_X11_explores S0 142 (nI n) (4000 : Int32) m10 (fun r12 m11 => ((r12 = 0 → f_X11_runs_J56 S0 142 (nI n) r12 m11 (AN r K)) ∧ (¬ r12 = 0 → f_X11_weighs S0 142 (nI n) (-2) (-1) m11 (fun m25 => f_X11_runs_J56 S0 142 (nI n) r12 m25 (AN r K))))))) → f_X11_runs S0 142 (nI n) M1 (AN r K) := by
      intro M1 r hF1 e15 e27 h2 h1
      unfold f_X11_runs
      simp only [forall_eq]
      refine isRun_ok (nt := cT C) e15 c1 (fun _ _ _ => ⟨fun z => absurd z (by decide), fun _ => ?_⟩) (fun q => (q.elim g1 (fun q => q.elim g2 (fun q => by omega))).elim)
      unfold f_X11_width
      have e15' : (stI M1 142 0 0).1 142 15 = nI (cT C) := e15
      have e27' : (stI M1 142 0 0).1 142 27 = nI ky := e27
      rw [e15', e27', nI_1, pk_mul, ← hw]
      refine powerM_ok (b := w) (nI_l (by omega)) (by omega) hn (fun hp => ⟨fun _ => h1 hp, fun z => absurd ?_ z⟩) (fun hp => ⟨fun z => absurd z ?_, fun _ => h2 hp⟩)
      · rw [show (1000000000000 : Int64) = lN (10 ^ 12) from rfl, pk_lLE (by omega) (by decide)]; exact hp
      · rw [show (1000000000000 : Int64) = lN (10 ^ 12) from rfl, pk_lLE (by decide) (by decide)]; decide
    simp only [fx_0_2 hF, ex_some, s0_11, true_and]
    rw [hC.2.1, k13, nI_1, pk_mul, ← hw]
    refine power_ok (b := w) (by omega) hn (fun hp => ⟨fun _ => ?_, fun z => absurd ?_ z⟩) (fun hp p p1 p2 => ⟨fun z => absurd z ?_, fun _ => begin_ M (-1) hF hCM.2.1 k27 (fun _ => hend _) (fun q => by omega)⟩)
    · unfold f_X10_explored
      simp only [fx_0_1 hF, fx_0_3 hF, ex_some, s0_10, s0_113, true_and]
      refine seekG (C := C) (w := w) (mo := 4000) (so := fun _ _ _ _ => false) hF hwk hC hmC k13 hky hw (Or.inl rfl) hm.2.2.1 hm.2.2.2.1 hsi (by omega) (by omega) hn (fun M' _ h12 _ => SO_0 h12) (fun hgt M1 f1 w1 => ⟨Or.inl rfl, fun _ => ?_, fun z => absurd rfl z⟩) (fun M1 f1 w1 X1 T1 => ⟨Or.inr rfl, fun z => absurd z (by decide), fun _ => ?_⟩)
      · have pm := PM_1 hF hCM k27 hs hf hmM f1 w1
        refine begin_ M1 (-3) pm.2.1 pm.2.2.1.2.1 pm.2.2.2.1 (fun q => by omega) (fun _ => modW (wt := fun _ => 1) (G := (fun _ => 0, fun _ => false, fun _ => false)) (PW_pm pm) hky hw g3 hsi hn hN (fun q => by omega) (Or.inl ⟨rfl, fun _ _ => rfl⟩) (fun q => by omega) (fun q => by omega) (fun _ m hcm => ?_) (fun q => by omega))
        unfold f_X11_runs_J56
        refine backW hV hm hcm (fun m' f' _ _ _ _ _ td _ vv => ⟨fun _ => an_ok rfl (hK _ (vv m' (Fr_refl _ _ _) (td (told_fr f1 rfl rfl rfl rfl htd)))), fun z => absurd rfl z⟩)
      · obtain ⟨G, hG⟩ := wx_G X1
        have hN4 : N ≤ 4000 := by rw [hN]; exact X1.2.2.2.2
        have hLY := G_LY (fun k hk => (hG k hk).1)
        rw [← hN] at hLY
        have hsum : sumTo (fun _ => 1) w = w := by rw [sum_const, Nat.mul_one]
        have hbd : ∀ b1 b2 d, d ≤ n → ∀ s, s < N → WW b1 b2 G (fun _ => 1) w N d s < 2 ^ 62 := fun b1 b2 => WW_bd hLY hNp (by rw [hsum]; exact hp)
        have hsup : ∀ b1 b2 d, d < n → ∀ s, WW b1 b2 G (fun _ => 1) w N d s ≠ 0 → s < Ed C ky w A B n := fun b1 b2 d hd s h => Nat.lt_of_lt_of_le (WW_sup hLY d s (by omega) h) (Ed_le (by omega))
        have hF1 := FX_fr f1 hF
        have hR : WR M1 G w ky (cT C) N (Ed C ky w A B n) 100000 (fun _ => 1) := by
          rw [hN]
          exact WR_of hF1 (CC_dE f1 hC) ((f1.1 _ _ rfl).trans k13) hky hw X1 (fun k hk => (hG k hk).2.2.2) rfl (fun j hj => ⟨(f1.1 100000 j rfl).trans (hwg j hj).2.2.2.2, by omega⟩)
        have tot : sumTo (WW false false G (fun _ => 1) w N n) N = w ^ n := by rw [WW_tot hLY hNp n (Nat.le_refl _), hsum]
        simp only [fx_0_6 hF1, fx_0_1 hF1, ex_some, s0_10, true_and]
        refine ww_ok (b1 := true) (b2 := false) (wt := fun _ => 1) rfl hR hNp (wy_of w1) hn (fun _ => rfl) (hsup _ _) (fun d hd s hs => Nat.lt_trans (hbd _ _ d (by omega) s hs) (by decide)) (fun M2 s2 wy2 => ⟨s0_116, ?_⟩)
        refine tell2_ok (FX_sw s2.2.2 hF1) (fun M3 f3 t1 t2 t3 => ?_)
        have pw := PW_td (PW_sw (PW_pm (PM_1 hF hCM k27 hs hf hmM f1 w1)) s2 wy2) f3
        refine begin_ M3 0 pw.2.1 pw.2.2.1.2.1 pw.2.2.2.1 (fun q => by omega) (fun _ => modW (wt := fun _ => 1) (G := G) pw hky hw g3 hsi hn hN (fun _ k hk => ⟨(hG k hk).1, (hG k hk).2.1, ?_⟩) (Or.inl ⟨rfl, fun _ _ => rfl⟩) (fun _ => hsup _ _) (fun _ d hd s hs => Nat.lt_trans (hbd _ _ d (by omega) s hs) (by decide)) (fun q => by omega) (fun _ m hcm h44 hv => ?_))
        · rw [(hG k hk).2.2.1]
          obtain ⟨-, -, q, q1, q2⟩ := nx_fg hC.1 hky hw g3 hsi hk
          rw [q2]
          have : ¬ nI q = (-2 + 1 : Int32) := fun e => absurd (show ¬ nI q < 0 from nI_pos (by omega)) (by rw [e]; decide)
          unfold pS
          simp only [this, decide_false]
        · unfold f_X11_runs_J56
          refine backW hV hm hcm (fun m' f' hF' e15 e27 i116 i117 td i171 vv => ⟨fun z => absurd z (by decide), fun _ => ?_⟩)
          simp only [forall_eq]
          have hF5 : FX (stI m' 142 1 0) := fx_I hF'
          refine sumOf_ok (N := N) (h := MM G (fun _ => 1) w N n) pk1 pk1_ok hF5 ((rI_ne (by omega)).trans ((f'.1 142 44 rfl).trans h44)) hN4 (fun s f hs' hf' => by show m'.2.1 166 _ = _; rw [f'.2.1 166 rfl]; exact hv s f hs' hf') ?_
          have s11 := sum_11 (G := G) (wt := fun _ => 1) (w := w) (N := N) (n := n) pk1 rfl rfl rfl rfl
          rw [tot] at s11
          refine enN (k := 0) hF5 rI_eq (by omega) (fun m6 f6 u1 u2 u3 => ?_)
          unfold f_X11_width
          have f6' : Fr dWy eWy m' m6 := Fr_tr (Fr_I rfl (Fr_refl _ _ _)) f6
          rw [f6'.1 142 15 rfl, f6'.1 142 27 rfl, e15, e27, nI_1, pk_mul, ← hw]
          refine powerM_ok (b := w) (nI_l (by omega)) (by omega) hn (fun _ => ?_) (fun q => by omega)
          refine enN (k := 1) (FX_fr f6' hF') u1 (by omega) (fun m7 f7 y1 y2 y3 => an_ok rfl (hK _ (vv m7 (Fr_tr f6' f7) ⟨2, by omega, ?_, y1, fun j hj => ?_⟩)))
          · rw [f7.1 116 1 rfl, f6'.1 116 1 rfl, i116]; exact t1
          · rw [f7.2.1 117 rfl, f6'.2.1 117 rfl, i117]
            have : j = 0 ∨ j = 1 := by omega
            rcases this with rfl | rfl
            · rw [t2, y2 0 (by omega), u3]; exact lN_cut s11
            · rw [t3, y3]
    · rw [show (1000000000000 : Int64) = lN (10 ^ 12) from rfl, pk_lLE (by omega) (by decide)]; exact hp
    · rw [show (1000000000000 : Int64) = lN (10 ^ 12) from rfl, pk_lLE (by omega) (by decide)]; omega
  · unfold f_X11_runs
    simp only [forall_eq]
    refine isRun_ok (nt := cT C) hCM.2.1 c1 (fun a b c => ?_) (fun _ => ⟨fun _ => hend _, fun z => absurd rfl z⟩)
    exact (hx.elim a (fun w => w.elim b (fun w => by omega))).elim
