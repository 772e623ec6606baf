/-! means -/
theorem i64_sw (x y z : Int64) : x - y + z = x + z - y := by
  rw [Int64.sub_eq_add_neg, Int64.sub_eq_add_neg, Int64.add_assoc, Int64.add_comm (-y) z, ← Int64.add_assoc]
theorem op22 (p1 p2 : Int32) (M : Mm) (K : Mm → Prop) (hV : V M) (hK : ∀ m, V m → K m) : OP22 p1 p2 M K := by
  have hF := hV.1
  have ne1 : ¬ (1 : Int32) = 0 := by decide
  obtain ⟨C, mu, ky, A, B, F, hC, hCM, hmC, hmM, hky, k13, k27, hm, hs, hf, hsi⟩ := run_of hV
  have c1 := hC.1.1
  have htd : V_told M := hV.2.2.2.2.2.2.1
  have hwk : V_walk M := hV.2.2.2.2.2.2.2.2.2.2.2.2.2.2.2.2.1
  have hwg : V_wgt M := hV.2.2.2.2.2.1
  obtain ⟨w, hw⟩ : ∃ w, w = cT C * (ky + 1) := ⟨_, rfl⟩
  have hw20 : w ≤ 20 := by
    rw [hw]
    have : cT C * (ky + 1) ≤ 4 * 5 := Nat.mul_le_mul c1 (by omega)
    omega
  have hend : ∀ r, AN r K r (stI M 142 0 0) := fun r => an_ok rfl (hK _ (V_thr _ hV))
  have ref : (p2 < 0 ∨ (20 : Int32) < p2 ∨ cT C = 0 ∨ p1 < 0 ∨ (99 : Int32) < p1) → f_X11_means S0 142 p1 p2 M (AN (-1) K) := by
    intro hx
    unfold f_X11_means
    simp only [forall_eq]
    refine isRun_ok (nt := cT C) hCM.2.1 c1 (fun a b c => ⟨fun z => absurd z ne1, fun _ => ?_⟩) (fun _ => ⟨fun _ => hend _, fun z => absurd rfl z⟩)
    refine f_in 99 rfl (fun a2 b2 => ?_) (fun _ => ⟨fun _ => hend _, fun z => absurd rfl z⟩)
    exact (hx.elim a (fun h => h.elim b (fun h => h.elim (fun h => by omega) (fun h => h.elim a2 b2)))).elim
  show f_X10_means S0 0 p1 p2 M (fun r m1 => f_X11_means S0 142 p1 p2 m1 (AN r K))
  unfold f_X10_means
  refine refuses_ok hF hC.2.1 c1 (fun g1 g2 g3 => ⟨fun _ => ⟨fun h => ref (Or.inr (Or.inr (Or.inr (Or.inl h)))), fun g4 => ⟨fun g5 => ?_, fun h => ref (Or.inr (Or.inr (Or.inr (Or.inr (Int32.not_le.mp h)))))⟩⟩, fun z => absurd rfl z⟩) (fun hx => ⟨fun z => absurd z (by decide), fun _ => ref (hx.elim Or.inl (fun h => h.elim (fun h => Or.inr (Or.inl h)) (fun h => Or.inr (Or.inr (Or.inl h)))))⟩)
  obtain ⟨n, hn, rfl⟩ := nI_le' (n := 20) (by decide) rfl g1 g2
  obtain ⟨nu, hnu, rfl⟩ := nI_le' (n := 99) (by decide) rfl g4 (Int32.not_lt.mpr g5)
  obtain ⟨N, hN⟩ : ∃ N, N = (bf C ky w A B (Ed C ky w A B n * w)).length := ⟨_, rfl⟩
  have hNp : 0 < N := by rw [hN]; exact bf_len _
  have begin_ : ∀ (M1 : Mm) (r : Int32), FX M1 → M1.1 142 15 = nI (cT C) → M1.1 142 27 = nI ky → (10 ^ 12 < w ^ n → AN r K (-1) (stI M1 142 0 0)) → (w ^ n ≤ 10 ^ 12 → f_X11_remembers S0 142 (stI M1 142 0 0) (fun m10 => f_X11_explores S0 142 (nI n) (4000 : Int32) m10 (fun r12 m11 => ((r12 = 0 → f_X11_means_J67 S0 142 r12 m11 (AN r K)) ∧ (¬ r12 = 0 → f_X11_weighs S0 142 (nI n) (nI nu) (-1) m11 (fun m25 => f_X11_means_J67 S0 142 r12 m25 (AN r K))))))) → f_X11_means S0 142 (nI nu) (nI n) M1 (AN r K) := by
    intro M1 r hF1 e15 e27 h2 h1
    unfold f_X11_means
    simp only [forall_eq]
    refine isRun_ok (nt := cT C) e15 c1 (fun _ _ _ => ⟨fun z => absurd z (by decide), fun _ => ?_⟩) (fun q => (q.elim g1 (fun q => q.elim g2 (fun q => by omega))).elim)
    refine f_in 99 rfl (fun _ _ => ⟨fun z => absurd z ne1, fun _ => ?_⟩) (fun q => (q.elim g4 (Int32.not_lt.mpr g5)).elim)
    unfold f_X11_width
    have e15' : (stI M1 142 0 0).1 142 15 = nI (cT C) := e15
    have e27' : (stI M1 142 0 0).1 142 27 = nI ky := e27
    rw [e15', e27', nI_1, pk_mul, ← hw]
    refine powerM_ok (b := w) (nI_l (by omega)) (by omega) hn (fun hp => ⟨fun _ => h1 hp, fun z => absurd ?_ z⟩) (fun hp => ⟨fun z => absurd z ?_, fun _ => h2 hp⟩)
    · rw [show (1000000000000 : Int64) = lN (10 ^ 12) from rfl, pk_lLE (by omega) (by decide)]; exact hp
    · rw [show (1000000000000 : Int64) = lN (10 ^ 12) from rfl, pk_lLE (by decide) (by decide)]; decide
  simp only [fx_0_2 hF, ex_some, s0_11, true_and]
  rw [hC.2.1, k13, nI_1, pk_mul, ← hw]
  refine power_ok (b := w) (by omega) hn (fun hp => ⟨fun _ => ?_, fun z => absurd ?_ z⟩) (fun hp p p1 p2 => ⟨fun z => absurd z ?_, fun _ => begin_ M (-1) hF hCM.2.1 k27 (fun _ => hend _) (fun q => by omega)⟩)
  · simp only [fx_0_1 hF, fx_0_3 hF, ex_some, s0_10, s0_113, true_and]
    refine seekG (C := C) (w := w) (mo := 4000) (so := fun _ _ F _ => decide (F.2.2.1 = nI (nu + 1))) hF hwk hC hmC k13 hky hw (Or.inl rfl) hm.2.2.1 hm.2.2.2.1 hsi (by omega) (by omega) hn (fun M' f' h12 h13 => SO_2 (FX_fr f' hF) h12 h13) (fun hgt M1 f1 w1 => ⟨fun _ => ?_, fun z => absurd rfl z⟩) (fun M1 f1 w1 X1 T1 => ⟨fun z => absurd z (by decide), fun _ => ?_⟩)
    · have pm := PM_1 hF hCM k27 hs hf hmM f1 w1
      refine begin_ M1 (-3) pm.2.1 pm.2.2.1.2.1 pm.2.2.2.1 (fun q => by omega) (fun _ => modW (wt := fun _ => 1) (G := (fun _ => 0, fun _ => false, fun _ => false)) (PW_pm pm) hky hw g3 hsi hn hN (fun q => by omega) (Or.inl ⟨rfl, fun _ _ => rfl⟩) (fun q => by omega) (fun q => by omega) (fun _ m hcm => ?_) (fun q => by omega))
      unfold f_X11_means_J67
      refine backW hV hm hcm (fun m' f' _ _ _ _ _ td _ vv => ⟨fun _ => an_ok rfl (hK _ (vv m' (Fr_refl _ _ _) (td (told_fr f1 rfl rfl rfl rfl htd)))), fun z => absurd rfl z⟩)
    · obtain ⟨G, hG⟩ := wx_G X1
      have hN4 : N ≤ 4000 := by rw [hN]; exact X1.2.2.2.2
      have hLY := G_LY (fun k hk => (hG k hk).1)
      rw [← hN] at hLY
      have hsum : sumTo (fun _ => 1) w = w := by rw [sum_const, Nat.mul_one]
      have hbd : ∀ b1 b2 d, d < n → ∀ s, s < N → WW b1 b2 G (fun _ => 1) w N d s < 2 ^ 63 := fun b1 b2 d hd s hs => Nat.lt_trans (WW_bd hLY hNp (by rw [hsum]; exact hp) d (by omega) s hs) (by decide)
      have hsup : ∀ b1 b2 d, d < n → ∀ s, WW b1 b2 G (fun _ => 1) w N d s ≠ 0 → s < Ed C ky w A B n := fun b1 b2 d hd s h => Nat.lt_of_lt_of_le (WW_sup hLY d s (by omega) h) (Ed_le (by omega))
      have hF1 := FX_fr f1 hF
      have hR : WR M1 G w ky (cT C) N (Ed C ky w A B n) 100000 (fun _ => 1) := by
        rw [hN]
        exact WR_of hF1 (CC_dE f1 hC) ((f1.1 _ _ rfl).trans k13) hky hw X1 (fun k hk => (hG k hk).2.2.2) rfl (fun j hj => ⟨(f1.1 100000 j rfl).trans (hwg j hj).2.2.2.2, by omega⟩)
      have tot : sumTo (WW false false G (fun _ => 1) w N n) N = w ^ n := by rw [WW_tot hLY hNp n (Nat.le_refl _), hsum]
      simp only [fx_0_1 hF1, ex_some, s0_10, true_and]
      refine ww_ok (b1 := false) (b2 := true) (wt := fun _ => 1) rfl hR hNp (wy_of w1) hn (fun _ => rfl) (hsup _ _) (hbd _ _) (fun M2 s2 wy2 => ?_)
      have hF2 := FX_sw s2.2.2 hF1
      simp only [fx_0_1 hF2, ex_some, s0_10, true_and]
      refine ww_ok (b1 := true) (b2 := false) (wt := fun _ => 1) rfl (WR_ag s2.1 hF2 hR) hNp wy2 hn (fun _ => rfl) (hsup _ _) (hbd _ _) (fun M2' s2' wy2' => ?_)
      have hF2' := FX_sw s2'.2.2 hF2
      simp only [fx_0_1 hF2', ex_some, s0_10, true_and]
      refine ww_ok (b1 := true) (b2 := true) (wt := fun _ => 1) rfl (WR_ag s2'.1 hF2' (WR_ag s2.1 hF2 hR)) hNp wy2' hn (fun _ => rfl) (hsup _ _) (hbd _ _) (fun M2'' s2'' wy2'' => ?_)
      have hF2'' := FX_sw s2''.2.2 hF2'
      simp only [fx_0_6 hF2'', ex_some, s0_116, true_and]
      refine tell2_ok hF2'' (fun M3 f3 t1 t2 t3 => ?_)
      have pw := PW_td (PW_sw (PW_sw (PW_sw (PW_pm (PM_1 hF hCM k27 hs hf hmM f1 w1)) s2 wy2) s2' wy2') s2'' wy2'') f3
      refine begin_ M3 0 pw.2.1 pw.2.2.1.2.1 pw.2.2.2.1 (fun q => by omega) (fun _ => modW (wt := fun _ => 1) (G := G) pw hky hw g3 hsi hn hN (fun _ k hk => ⟨(hG k hk).1, (hG k hk).2.1, ?_⟩) (Or.inl ⟨rfl, fun _ _ => rfl⟩) (fun _ => hsup _ _) (fun _ => hbd _ _) (fun q => by omega) (fun _ m hcm h44 hv => ?_))
      · rw [(hG k hk).2.2.1, nI_1]; rfl
      · unfold f_X11_means_J67
        refine backW hV hm hcm (fun m' f' hF' e15 e27 i116 i117 td i171 vv => ⟨fun z => absurd z (by decide), fun _ => ?_⟩)
        simp only [forall_eq]
        have hF5 : FX (stI m' 142 1 0) := fx_I hF'
        have hv' : ∀ s f, s < N → f < 4 → m'.2.1 166 (4 * s + f) = lN (MM G (fun _ => 1) w N n s f) := fun s f hs' hf' => by rw [f'.2.1 166 rfl]; exact hv s f hs' hf'
        refine sumOf_ok (N := N) (h := MM G (fun _ => 1) w N n) pk2 pk2_ok hF5 ((rI_ne (by omega)).trans ((f'.1 142 44 rfl).trans h44)) hN4 hv' ?_
        have s22 := sum_22 (G := G) (wt := fun _ => 1) (w := w) (N := N) (n := n) pk2 rfl rfl rfl rfl
        have s33 := sum_33 (G := G) (wt := fun _ => 1) (w := w) (N := N) (n := n) pk3 rfl rfl rfl rfl
        rw [tot] at s22 s33
        refine enN (k := 0) hF5 rI_eq (by omega) (fun m6 f6 u1 u2 u3 => ?_)
        have f6' : Fr dWy eWy m' m6 := Fr_tr (Fr_I rfl (Fr_refl _ _ _)) f6
        refine sumOf_ok (N := N) (h := MM G (fun _ => 1) w N n) pk3 pk3_ok (FX_fr f6' hF') ((f6'.1 142 44 rfl).trans ((f'.1 142 44 rfl).trans h44)) hN4 (fun s f hs' hf' => by rw [f6'.2.1 166 rfl]; exact hv' s f hs' hf') ?_
        refine enN (k := 1) (FX_fr f6' hF') u1 (by omega) (fun m7 f7 y1 y2 y3 => an_ok rfl (hK _ (vv m7 (Fr_tr f6' f7) ⟨2, by omega, ?_, y1, fun j hj => ?_⟩)))
        · rw [f7.1 116 1 rfl, f6'.1 116 1 rfl, i116]; exact t1
        · rw [f7.2.1 117 rfl, f6'.2.1 117 rfl, i117]
          have : j = 0 ∨ j = 1 := by omega
          rcases this with rfl | rfl
          · rw [t2, y2 0 (by omega), u3]; exact lN_cut s22
          · rw [t3, y3, lN_cut s22, i64_sw, lN_add]
            exact lN_cut (by omega)
  · rw [show (1000000000000 : Int64) = lN (10 ^ 12) from rfl, pk_lLE (by omega) (by decide)]; exact hp
  · rw [show (1000000000000 : Int64) = lN (10 ^ 12) from rfl, pk_lLE (by omega) (by decide)]; omega
