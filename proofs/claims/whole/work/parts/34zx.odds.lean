/-! odds, quick: hands -/
theorem wkf_of {M : Mm} (h : V_wgt M) : ∀ q, q < 2 → ∀ k, k < 5 → M.1 (131 + q) k = nI (ar M (131 + q) k) ∧ M.1 171 (5 * q + k) = nI (ar M (131 + q) k) ∧ ar M (131 + q) k < 10 := by
  intro q hq k hk
  obtain ⟨a1, a2, a3, a4, a5⟩ := h k hk
  have : q = 0 ∨ q = 1 := by omega
  rcases this with rfl | rfl
  · obtain ⟨u1, u2⟩ := isN_ar (by omega) a3
    exact ⟨u1, by rw [show 5 * 0 + k = k by omega, ← a1]; exact u1, u2⟩
  · obtain ⟨u1, u2⟩ := isN_ar (by omega) a4
    exact ⟨u1, by rw [show 5 * 1 + k = 5 + k by omega, ← a2]; exact u1, u2⟩
theorem sw_le {wk : Nat → Nat} {ky : Nat} (hky : ky < 5) (h : ∀ k, k < 5 → wk k < 10) : ∀ k, k ≤ ky + 1 → sumTo wk k ≤ 45 := by
  intro k hk
  have := sum_le (f := wk) (g := fun _ => 9) k (fun i hi => by have := h i (by omega); omega)
  rw [sum_const] at this
  omega
theorem wofL {T ky n a3 : Nat} {wk : Nat → Nat} {x2 : Int32} {M : Mm} {EK : Int32 → Mm → Prop} {K : Int64 → Mm → Prop} (hF : FX M) (k13 : M.1 11 13 = nI ky) (hky : ky < 5) (h3 : shp S0 a3 = some (50, 5)) (hwk : ∀ j, j < 5 → M.1 a3 j = nI (wk j) ∧ wk j < 10) (hK : EK (nI (sumTo wk (ky + 1))) M) :
    ∀ (r key : Nat), key + r = ky + 1 → f_X10_weightOfAll_L12 S0 0 x2 a3 EK K (r + 1) (nI (sumTo wk key)) (nI key) M
  | 0, key, hk => by
    unfold f_X10_weightOfAll_L12 f_X10_weightOfAll_B12
    simp only [fx_0_2 hF, ex_some, s0_11, true_and, k13]
    have e : key = ky + 1 := by omega
    subst e
    exact ⟨fun _ => hK, fun z => absurd (nI_lt (by omega) (by omega)) z⟩
  | r + 1, key, hk => by
    unfold f_X10_weightOfAll_L12 f_X10_weightOfAll_B12
    have hin : vp_in (nI key) 5 := vp_in_nI (by omega) (by omega)
    have hcl : (nI key).toNatClampNeg = key := nI_clamp (by omega)
    simp only [fx_0_2 hF, ex_some, s0_11, true_and, k13, h3, ex_sh, hin, hcl, forall_eq, (hwk key (by omega)).1, nI_1, nI_add]
    exact ⟨fun z => absurd z (nI_nlt (by omega) (by omega)), fun _ => wofL (T := T) (n := n) (EK := EK) (K := K) hF k13 hky h3 hwk hK r (key + 1) (by omega)⟩
theorem shp13 {q : Nat} (hq : q < 2) : shp S0 (131 + q) = some (50, 5) := by
  have : q = 0 ∨ q = 1 := by omega
  rcases this with rfl | rfl
  · exact (shp_ne (show (131 : Nat) ≠ 100000 by decide)).trans s0_131
  · exact (shp_ne (show (132 : Nat) ≠ 100000 by decide)).trans s0_132
theorem wof_ok {q : Nat} {M : Mm} {K : Nat → Mm → Prop} (hF : FX M) (hq : q < 2) (hK : K (131 + q) M) : f_X10_weightsOf S0 0 (nI q) M K := by
  unfold f_X10_weightsOf
  have : q = 0 ∨ q = 1 := by omega
  rcases this with rfl | rfl
  · simp only [fx_0_10 hF, ex_some]
    exact ⟨fun _ => hK, fun z => absurd rfl z⟩
  · simp only [fx_0_11 hF, ex_some]
    exact ⟨fun z => absurd z (by decide), fun _ => hK⟩
theorem woa_ok {T ky q n : Nat} {wk : Nat → Nat} {M : Mm} {K : Int64 → Mm → Prop} (hF : FX M) (k10 : M.1 11 10 = nI T) (hT : T ≤ 4) (k13 : M.1 11 13 = nI ky) (hky : ky < 5) (hq : q < 2) (hn : n ≤ 20) (hwk : ∀ j, j < 5 → M.1 (131 + q) j = nI (wk j) ∧ wk j < 10) (h0 : sumTo wk (ky + 1) = 0 → K (lN 0) M) (h1 : sumTo wk (ky + 1) ≠ 0 → (T * sumTo wk (ky + 1)) ^ n ≤ 10 ^ 12 → K (lN ((T * sumTo wk (ky + 1)) ^ n)) M) (h2 : sumTo wk (ky + 1) ≠ 0 → 10 ^ 12 < (T * sumTo wk (ky + 1)) ^ n → ∀ p, 10 ^ 12 < p → p < 2 ^ 62 → K (lN p) M) : f_X10_weightOfAll S0 0 (nI q) (nI n) M K := by
  unfold f_X10_weightOfAll
  have hs := sw_le hky (fun k hk => (hwk k hk).2) (ky + 1) (Nat.le_refl _)
  refine wof_ok hF hq ⟨ky + 1 + 1, wofL (T := T) (n := n) hF k13 hky (shp13 hq) hwk ⟨fun z => ?_, fun z => ?_⟩ (ky + 1) 0 (by omega)⟩
  · exact h0 ((nI_eq (by omega) (by omega)).mp (show nI _ = nI 0 from z))
  · have z' : sumTo wk (ky + 1) ≠ 0 := fun e => z (by rw [e]; rfl)
    simp only [fx_0_2 hF, ex_some, s0_11, true_and, k10, pk_mul]
    have hb : T * sumTo wk (ky + 1) ≤ 4 * 45 := Nat.mul_le_mul hT hs
    exact power_ok (b := T * sumTo wk (ky + 1)) (by omega) hn (h1 z') (h2 z')
theorem i5 (q k : Nat) : (5 : Int32) * nI q + nI k = nI (5 * q + k) := by rw [show (5 : Int32) = nI 5 from rfl, pk_mul, nI_add]
theorem awL {ky q : Nat} {wk : Nat → Nat} {x2 : Int32} {M : Mm} {EK K : Int64 → Mm → Prop} (hF : FX M) (k27 : M.1 142 27 = nI ky) (hky : ky < 5) (hq : q < 2) (hwk : ∀ j, j < 5 → M.1 171 (5 * q + j) = nI (wk j) ∧ wk j < 10) (hK : EK (lN (sumTo wk (ky + 1))) M) :
    ∀ (r key : Nat), key + r = ky + 1 → f_X11_allWeights_L5 S0 142 (nI q) x2 EK K (r + 1) (lN (sumTo wk key)) (nI key) M
  | 0, key, hk => by
    unfold f_X11_allWeights_L5 f_X11_allWeights_B5
    rw [k27]
    have e : key = ky + 1 := by omega
    subst e
    exact ⟨fun _ => hK, fun z => absurd (nI_lt (by omega) (by omega)) z⟩
  | r + 1, key, hk => by
    unfold f_X11_allWeights_L5 f_X11_allWeights_B5
    rw [k27]
    have hin : vp_in (nI (5 * q + key)) 10 := vp_in_nI (by omega) (by omega)
    have hcl : (nI (5 * q + key)).toNatClampNeg = 5 * q + key := nI_clamp (by omega)
    have hl := (hwk key (by omega)).2
    simp only [fx_142_58 hF, ex_some, shp_ne (show (171 : Nat) ≠ 100000 by decide), s0_171, ex_sh, i5, hin, hcl, true_and, forall_eq, (hwk key (by omega)).1, nI_1]
    rw [nI_l (by omega), lN_add]
    exact ⟨fun z => absurd z (nI_nlt (by omega) (by omega)), fun _ => awL (EK := EK) (K := K) hF k27 hky hq hwk hK r (key + 1) (by omega)⟩
theorem aw_ok {T ky q n : Nat} {wk : Nat → Nat} {M : Mm} {K : Int64 → Mm → Prop} (hF : FX M) (k15 : M.1 142 15 = nI T) (hT : T ≤ 4) (k27 : M.1 142 27 = nI ky) (hky : ky < 5) (hq : q < 2) (hn : n ≤ 20) (hwk : ∀ j, j < 5 → M.1 171 (5 * q + j) = nI (wk j) ∧ wk j < 10) (h1 : (T * sumTo wk (ky + 1)) ^ n ≤ 10 ^ 12 → K (lN ((T * sumTo wk (ky + 1)) ^ n)) M) (h2 : 10 ^ 12 < (T * sumTo wk (ky + 1)) ^ n → K (lN (10 ^ 12 + 1)) M) : f_X11_allWeights S0 142 (nI q) (nI n) M K := by
  unfold f_X11_allWeights
  have hs := sw_le hky (fun k hk => (hwk k hk).2) (ky + 1) (Nat.le_refl _)
  have hb : T * sumTo wk (ky + 1) ≤ 4 * 45 := Nat.mul_le_mul hT hs
  refine ⟨ky + 1 + 1, awL hF k27 hky hq hwk ?_ (ky + 1) 0 (by omega)⟩
  rw [k15]
  exact powerM_ok (b := T * sumTo wk (ky + 1)) (by rw [nI_l (by omega), lN_mul]) (by omega) hn h1 h2
theorem iwL {ky q : Nat} {wk : Nat → Nat} {M : Mm} {EK K : Int32 → Mm → Prop} (hF : FX M) (k27 : M.1 142 27 = nI ky) (hky : ky < 5) (hq : q < 2) (hwk : ∀ j, j < 5 → M.1 171 (5 * q + j) = nI (wk j) ∧ wk j < 10) (hK : EK (nI (sumTo wk (ky + 1))) M) :
    ∀ (r key : Nat), key + r = ky + 1 → f_X11_isWeightless_L4 S0 142 (nI q) EK K (r + 1) (nI (sumTo wk key)) (nI key) M
  | 0, key, hk => by
    unfold f_X11_isWeightless_L4 f_X11_isWeightless_B4
    rw [k27]
    have e : key = ky + 1 := by omega
    subst e
    exact ⟨fun _ => hK, fun z => absurd (nI_lt (by omega) (by omega)) z⟩
  | r + 1, key, hk => by
    unfold f_X11_isWeightless_L4 f_X11_isWeightless_B4
    rw [k27]
    have hin : vp_in (nI (5 * q + key)) 10 := vp_in_nI (by omega) (by omega)
    have hcl : (nI (5 * q + key)).toNatClampNeg = 5 * q + key := nI_clamp (by omega)
    simp only [fx_142_58 hF, ex_some, shp_ne (show (171 : Nat) ≠ 100000 by decide), s0_171, ex_sh, i5, hin, hcl, true_and, forall_eq, (hwk key (by omega)).1, nI_1, nI_add]
    exact ⟨fun z => absurd z (nI_nlt (by omega) (by omega)), fun _ => iwL (EK := EK) (K := K) hF k27 hky hq hwk hK r (key + 1) (by omega)⟩
theorem iw_ok {ky q : Nat} {wk : Nat → Nat} {M : Mm} {K : Int32 → Mm → Prop} (hF : FX M) (k27 : M.1 142 27 = nI ky) (hky : ky < 5) (hq : q < 2) (hwk : ∀ j, j < 5 → M.1 171 (5 * q + j) = nI (wk j) ∧ wk j < 10) (h1 : sumTo wk (ky + 1) = 0 → K 1 M) (h0 : sumTo wk (ky + 1) ≠ 0 → K 0 M) : f_X11_isWeightless S0 142 (nI q) M K := by
  unfold f_X11_isWeightless
  have hs := sw_le hky (fun k hk => (hwk k hk).2) (ky + 1) (Nat.le_refl _)
  refine ⟨ky + 1 + 1, iwL hF k27 hky hq hwk ⟨fun z => h1 ?_, fun z => h0 (fun e => z (by rw [e]; rfl))⟩ (ky + 1) 0 (by omega)⟩
  exact (nI_eq (by omega) (by omega)).mp (show nI _ = nI 0 from z)
theorem le12 {p : Nat} (hp : p < 2 ^ 63) : lN p ≤ (1000000000000 : Int64) ↔ p ≤ 10 ^ 12 := by
  rw [show (1000000000000 : Int64) = lN (10 ^ 12) from rfl, pk_lLE hp (by decide)]
theorem pow0_le (n : Nat) : 0 ^ n ≤ 10 ^ 12 := by
  rcases Nat.eq_zero_or_pos n with e | e
  · rw [e]; decide
  · rw [Nat.zero_pow e]; decide
theorem op19 (p1 p2 : Int32) (M : Mm) (K : Mm → Prop) (hV : V M) (hK : ∀ m, V m → K m) : OP19 p1 p2 M K := by
  have hF := hV.1
  have ne1 : ¬ (1 : Int32) = 0 := by decide
  obtain ⟨C, mu, ky, A, B, F, hC, hCM, hmC, hmM, hky, k13, k27, hm, hs, hf, hsi⟩ := run_of hV
  have c1 := hC.1.1
  have htd : V_told M := hV.2.2.2.2.2.2.1
  have hwk : V_walk M := hV.2.2.2.2.2.2.2.2.2.2.2.2.2.2.2.2.1
  have hwg : V_wgt M := hV.2.2.2.2.2.1
  obtain ⟨w, hw⟩ : ∃ w, w = cT C * (ky + 1) := ⟨_, rfl⟩
  have hw20 : w ≤ 20 := by
    rw [hw]
    have : cT C * (ky + 1) ≤ 4 * 5 := Nat.mul_le_mul c1 (by omega)
    omega
  have hend : ∀ r, AN r K r (stI M 142 0 0) := fun r => an_ok rfl (hK _ (V_thr _ hV))
  have ref : (p2 < 0 ∨ (20 : Int32) < p2 ∨ cT C = 0 ∨ p1 < 0 ∨ (1 : Int32) < p1) → f_X11_odds S0 142 p1 p2 M (AN (-1) K) := by
    intro hx
    unfold f_X11_odds
    simp only [forall_eq]
    refine isRun_ok (nt := cT C) hCM.2.1 c1 (fun a b c => ⟨fun z => absurd z ne1, fun _ => ?_⟩) (fun _ => ⟨fun _ => hend _, fun z => absurd rfl z⟩)
    refine f_in 1 rfl (fun a2 b2 => ?_) (fun _ => ⟨fun _ => hend _, fun z => absurd rfl z⟩)
    exact (hx.elim a (fun h => h.elim b (fun h => h.elim (fun h => by omega) (fun h => h.elim a2 b2)))).elim
  show f_X10_odds S0 0 p1 p2 M (fun r m1 => f_X11_odds S0 142 p1 p2 m1 (AN r K))
  unfold f_X10_odds
  refine refuses_ok hF hC.2.1 c1 (fun g1 g2 g3 => ⟨fun _ => ⟨fun h => ref (Or.inr (Or.inr (Or.inr (Or.inl h)))), fun g4 => ⟨fun g5 => ?_, fun h => ref (Or.inr (Or.inr (Or.inr (Or.inr (Int32.not_le.mp h)))))⟩⟩, fun z => absurd rfl z⟩) (fun hx => ⟨fun z => absurd z (by decide), fun _ => ref (hx.elim Or.inl (fun h => h.elim (fun h => Or.inr (Or.inl h)) (fun h => Or.inr (Or.inr (Or.inl h)))))⟩)
  obtain ⟨n, hn, rfl⟩ := nI_le' (n := 20) (by decide) rfl g1 g2
  obtain ⟨q, hq, rfl⟩ := nI_le' (n := 1) (by decide) rfl g4 (Int32.not_lt.mpr g5)
  obtain ⟨N, hN⟩ : ∃ N, N = (bf C ky w A B (Ed C ky w A B n * w)).length := ⟨_, rfl⟩
  have hNp : 0 < N := by rw [hN]; exact bf_len _
  obtain ⟨wk, hwkd⟩ : ∃ wk : Nat → Nat, wk = ar M (131 + q) := ⟨_, rfl⟩
  have hwc : ∀ j, j < 5 → M.1 (131 + q) j = nI (wk j) ∧ wk j < 10 := fun j hj => by
    obtain ⟨u1, u2, u3⟩ := wkf_of hwg q (by omega) j hj
    rw [hwkd]; exact ⟨u1, u3⟩
  have hwm : ∀ j, j < 5 → M.1 171 (5 * q + j) = nI (wk j) ∧ wk j < 10 := fun j hj => by
    obtain ⟨u1, u2, u3⟩ := wkf_of hwg q (by omega) j hj
    rw [hwkd]; exact ⟨u2, u3⟩
  obtain ⟨bs, hbs⟩ : ∃ bs, bs = cT C * sumTo wk (ky + 1) := ⟨_, rfl⟩
  obtain ⟨wt, hwt⟩ : ∃ wt : Nat → Nat, ∀ m, wt m = wk (m % (ky + 1)) := ⟨fun m => wk (m % (ky + 1)), fun _ => rfl⟩
  have hsum : sumTo wt w = bs := by
    rw [hw, hbs, ← sum_per (by omega) wk (cT C)]
    exact sum_ext _ (fun i _ => hwt i)
  have hH : ∀ M3 : Mm, M3.1 171 = M.1 171 → HWt M3 ky w (nI q) wt := fun M3 e => Or.inr ⟨q, by omega, rfl, fun m hm => by
    have hmd : m % (ky + 1) < ky + 1 := Nat.mod_lt _ (by omega)
    rw [e, hwt]; exact hwm _ (by omega)⟩
  have begin_ : ∀ (M1 : Mm) (r : Int32), FX M1 → M1.1 142 15 = nI (cT C) → M1.1 142 27 = nI ky → M1.1 171 = M.1 171 → (10 ^ 12 < bs ^ n → AN r K (-1) (stI M1 142 0 0)) → (bs ^ n ≤ 10 ^ 12 → f_X11_remembers S0 142 (stI M1 142 0 0) (fun m10 => f_X11_explores S0 142 (nI n) (4000 : Int32) m10 (fun r12 m11 => ((r12 = 0 → f_X11_odds_J63 S0 142 (nI q) (nI n) r12 m11 (AN r K)) ∧ (¬ r12 = 0 → f_X11_weighs S0 142 (nI n) (-2) (nI q) m11 (fun m25 => f_X11_odds_J63 S0 142 (nI q) (nI n) r12 m25 (AN r K))))))) → f_X11_odds S0 142 (nI q) (nI n) M1 (AN r K) := by
    intro M1 r hF1 e15 e27 e171 h2 h1
    unfold f_X11_odds
    simp only [forall_eq]
    refine isRun_ok (nt := cT C) e15 c1 (fun _ _ _ => ⟨fun z => absurd z (by decide), fun _ => ?_⟩) (fun q => (q.elim g1 (fun q => q.elim g2 (fun q => by omega))).elim)
    refine f_in 1 rfl (fun _ _ => ⟨fun z => absurd z ne1, fun _ => ?_⟩) (fun q => (q.elim g4 (Int32.not_lt.mpr g5)).elim)
    have e171' : (stI M1 142 0 0).1 171 = M.1 171 := e171
    refine aw_ok (T := cT C) (wk := wk) (fx_I hF1) e15 c1 e27 hky (by omega) hn (fun j hj => by rw [e171']; exact hwm j hj) (fun hp => ⟨fun _ => h1 (by rw [hbs]; exact hp), fun z => absurd ((le12 (by omega)).mpr hp) z⟩) (fun hp => ⟨fun z => absurd ((le12 (by decide)).mp z) (by decide), fun _ => h2 (by rw [hbs]; exact hp)⟩)
  -- behind the model's weighing, where there is nothing to tell
  have j63n : ∀ (r : Int32) (x3 : Int32) (M3 m : Mm), CMm C ky A B F M M3 m → M3.1 171 = M.1 171 → V_told M3 → ((x3 = 0 ∧ r = -3) ∨ (x3 = 1 ∧ sumTo wk (ky + 1) = 0 ∧ r = -2)) → f_X11_odds_J63 S0 142 (nI q) (nI n) x3 m (AN r K) := by
    intro r x3 M3 m hcm e171 td3 hcase
    unfold f_X11_odds_J63
    refine backW hV hm hcm (fun m' f' hF' e15 e27 i116 i117 td i171 vv => ?_)
    have hwm' : ∀ j, j < 5 → m'.1 171 (5 * q + j) = nI (wk j) ∧ wk j < 10 := fun j hj => by rw [i171, e171]; exact hwm j hj
    have fin : ∀ y : Int64, ((x3 = 0 → f_X11_odds_J87 S0 x3 m' (AN r K)) ∧ (¬ x3 = 0 → f_X11_isWeightless S0 142 (nI q) m' (fun (r21 : Int32) (m20 : Mm) => ((r21 = 0 → f_X11_sumOf S0 142 (1 : Int32) (1 : Int32) m20 (fun (r24 : Int64) (m23 : Mm) => f_X11_common S0 r24 y m23 (fun (r26 : Int64) (m25 : Mm) => ∀ m27 : Mm, m27 = stI m25 142 1 (0 : Int32) → ¬ r26 = 0 ∧ f_X11_enters S0 142 (r24 / r26) m27 (fun (m29 : Mm) => ¬ r26 = 0 ∧ f_X11_enters S0 142 (y / r26) m29 (fun (m31 : Mm) => (AN r K) (0 : Int32) m31))))) ∧ (¬ r21 = 0 → f_X11_odds_J87 S0 x3 m20 (AN r K)))))) := by
      intro y
      unfold f_X11_odds_J87
      rcases hcase with ⟨e3, er⟩ | ⟨e3, es, er⟩
      · exact ⟨fun _ => ⟨fun _ => an_ok er (hK _ (vv m' (Fr_refl _ _ _) (td td3))), fun z => absurd e3 z⟩, fun z => absurd e3 z⟩
      · refine ⟨fun z => absurd z (by rw [e3]; decide), fun _ => iw_ok hF' e27 hky (by omega) hwm' (fun _ => ⟨fun z => absurd z ne1, fun _ => ⟨fun z => absurd z (by rw [e3]; decide), fun _ => an_ok er (hK _ (vv m' (Fr_refl _ _ _) (td td3)))⟩⟩) (fun z => absurd es z)⟩
    exact aw_ok (T := cT C) (wk := wk) hF' e15 c1 e27 hky (by omega) hn hwm' (fun _ => fin _) (fun _ => fin _)
  have nofit : ∀ M1, Fr dE eG M M1 → V_walk M1 → 4000 < N → bs ^ n ≤ 10 ^ 12 → f_X11_odds S0 142 (nI q) (nI n) M1 (AN (-3) K) := by
    intro M1 f1 w1 hgt hp
    have pm := PM_1 hF hCM k27 hs hf hmM f1 w1
    have e171 : M1.1 171 = M.1 171 := Fr_row f1 _ (fun _ => rfl)
    exact begin_ M1 (-3) pm.2.1 pm.2.2.1.2.1 pm.2.2.2.1 e171 (fun q => by omega) (fun _ => modW (wt := wt) (G := (fun _ => 0, fun _ => false, fun _ => false)) (PW_pm pm) hky hw g3 hsi hn hN (fun q => by omega) (hH _ e171) (fun q => by omega) (fun q => by omega) (fun _ m hcm => j63n (-3) 0 M1 m hcm e171 (told_fr f1 rfl rfl rfl rfl htd) (Or.inl ⟨rfl, rfl⟩)) (fun q => by omega))
  -- a walk gone through: its steps
  have steps : ∀ M1, Fr dE eG M M1 → WX C ky w A B 4000 mu (fun _ _ _ _ => false) M1 (Ed C ky w A B n * w) → bs ^ n ≤ 10 ^ 12 → ∃ G : Gx, N ≤ 4000 ∧ HG C ky w A B n mu (-2 + 1) G ∧ (∀ b1 b2 d, d < n → ∀ s, s < N → WW b1 b2 G wt w N d s < 2 ^ 63) ∧ (∀ b1 b2 d, d < n → ∀ s, WW b1 b2 G wt w N d s ≠ 0 → s < Ed C ky w A B n) ∧ WR M1 G w ky (cT C) N (Ed C ky w A B n) (131 + q) wk ∧ sumTo (WW false false G wt w N n) N = bs ^ n := by
    intro M1 f1 X1 hp
    obtain ⟨G, hG⟩ := wx_G X1
    have hN4 : N ≤ 4000 := by rw [hN]; exact X1.2.2.2.2
    have hLY := G_LY (fun k hk => (hG k hk).1)
    rw [← hN] at hLY
    refine ⟨G, hN4, fun k hk => ⟨(hG k hk).1, (hG k hk).2.1, ?_⟩, fun b1 b2 d hd s hs => Nat.lt_trans (WW_bd hLY hNp (by rw [hsum]; exact hp) d (by omega) s hs) (by decide), fun b1 b2 d hd s h => Nat.lt_of_lt_of_le (WW_sup hLY d s (by omega) h) (Ed_le (by omega)), ?_, by rw [WW_tot hLY hNp n (Nat.le_refl _), hsum]⟩
    · rw [(hG k hk).2.2.1]
      obtain ⟨-, -, u, u1, u2⟩ := nx_fg hC.1 hky hw g3 hsi hk
      rw [u2]
      have : ¬ nI u = (-2 + 1 : Int32) := fun e => absurd (show ¬ nI u < 0 from nI_pos (by omega)) (by rw [e]; decide)
      unfold pS
      simp only [this, decide_false]
    · rw [hN]
      refine WR_of (FX_fr f1 hF) (CC_dE f1 hC) ((f1.1 _ _ rfl).trans k13) hky hw X1 (fun k hk => (hG k hk).2.2.2) (shp13 (by omega)) (fun j hj => ?_)
      have : M1.1 (131 + q) j = M.1 (131 + q) j := f1.1 _ _ (by unfold dE; simp only [Bool.or_eq_false_iff, Bool.and_eq_false_iff, beq_eq_false_iff_ne, decide_eq_false_iff_not]; omega)
      rw [this]; exact hwc j hj
  refine woa_ok (T := cT C) (wk := wk) hF hC.2.1 c1 k13 hky (by omega) hn hwc (fun e0 => ⟨fun _ => ?_, fun z => absurd ((le12 (by omega)).mpr (by omega)) z⟩) (fun ne hp => ⟨fun _ => ?_, fun z => absurd ((le12 (by omega)).mpr hp) z⟩) (fun ne hp p p1 p2 => ⟨fun z => absurd ((le12 (by omega)).mp z) (by omega), fun _ => begin_ M (-1) hF hCM.2.1 k27 rfl (fun _ => hend _) (fun q => by rw [hbs] at q; omega)⟩)
  · have hp : bs ^ n ≤ 10 ^ 12 := by rw [hbs, e0, Nat.mul_zero]; exact pow0_le n
    unfold f_X10_explored
    simp only [fx_0_1 hF, fx_0_3 hF, ex_some, s0_10, s0_113, true_and]
    refine seekG (C := C) (w := w) (mo := 4000) (so := fun _ _ _ _ => false) hF hwk hC hmC k13 hky hw (Or.inl rfl) hm.2.2.1 hm.2.2.2.1 hsi (by omega) (by omega) hn (fun M' _ h12 _ => SO_0 h12) (fun hgt M1 f1 w1 => ⟨Or.inl rfl, fun _ => nofit M1 f1 w1 (by omega) hp, fun z => absurd rfl z⟩) (fun M1 f1 w1 X1 T1 => ⟨Or.inr rfl, fun z => absurd z (by decide), fun _ => ⟨fun _ => ?_, fun z => absurd rfl z⟩⟩)
    obtain ⟨G, hN4, hG, hbd, hsup, hR, tot⟩ := steps M1 f1 X1 hp
    have pm := PM_1 hF hCM k27 hs hf hmM f1 w1
    have e171 : M1.1 171 = M.1 171 := Fr_row f1 _ (fun _ => rfl)
    exact begin_ M1 (-2) pm.2.1 pm.2.2.1.2.1 pm.2.2.2.1 e171 (fun q => by omega) (fun _ => modW (wt := wt) (G := G) (PW_pm pm) hky hw g3 hsi hn hN (fun _ => hG) (hH _ e171) (fun _ => hsup _ _) (fun _ => hbd _ _) (fun q => by omega) (fun _ m hcm _ _ => j63n (-2) 1 M1 m hcm e171 (told_fr f1 rfl rfl rfl rfl htd) (Or.inr ⟨rfl, e0, rfl⟩)))
  · rw [← hbs] at hp ⊢
    have hall : 0 < bs ^ n := by
      have : 0 < bs := by rw [hbs]; exact Nat.mul_pos g3 (by omega)
      exact Nat.pow_pos this
    unfold f_X10_explored
    simp only [fx_0_1 hF, fx_0_3 hF, ex_some, s0_10, s0_113, true_and]
    refine seekG (C := C) (w := w) (mo := 4000) (so := fun _ _ _ _ => false) hF hwk hC hmC k13 hky hw (Or.inl rfl) hm.2.2.1 hm.2.2.2.1 hsi (by omega) (by omega) hn (fun M' _ h12 _ => SO_0 h12) (fun hgt M1 f1 w1 => ⟨Or.inl rfl, fun _ => nofit M1 f1 w1 (by omega) hp, fun z => absurd rfl z⟩) (fun M1 f1 w1 X1 T1 => ⟨Or.inr rfl, fun z => absurd z (by decide), fun _ => ⟨fun z => ?_, fun _ => ?_⟩⟩)
    · rw [l0 (by omega)] at z; omega
    · obtain ⟨G, hN4, hG, hbd, hsup, hR, tot⟩ := steps M1 f1 X1 hp
      have hF1 := FX_fr f1 hF
      simp only [fx_0_1 hF1, ex_some]
      refine wof_ok hF1 (by omega) ⟨s0_10, ?_⟩
      refine ww_ok (b1 := true) (b2 := false) (wt := wt) rfl hR hNp (wy_of w1) hn hwt (hsup _ _) (hbd _ _) (fun M2 s2 wy2 => ?_)
      have hF2 := FX_sw s2.2.2 hF1
      have s11 := sum_11 (G := G) (wt := wt) (w := w) (N := N) (n := n) pk1 rfl rfl rfl rfl
      rw [tot] at s11
      simp only [forall_eq]
      rw [lN_cut s11]
      generalize hS : sumTo (fun s => sumTo (fun f => if pk1 f = true then MM G wt w N n s f else 0) 4) N = S at s11
      have hg0 : 0 < Nat.gcd (bs ^ n) S := Nat.gcd_pos_of_pos_left S hall
      have hgl : Nat.gcd (bs ^ n) S ≤ bs ^ n := Nat.gcd_le_left S hall
      have ng : ¬ lN (Nat.gcd (bs ^ n) S) = (0 : Int64) := fun z => by rw [l0 (by omega)] at z; omega
      refine cd_ok (by omega) hp hall ?_
      simp only [fx_0_6 hF2, ex_some]
      refine ⟨ng, ng, s0_116, tell2_ok hF2 (fun M3 f3 t1 t2 t3 => ?_)⟩
      rw [pk_lDiv (by omega) hg0 (by omega)] at t2 t3
      have pw := PW_td (PW_sw (PW_pm (PM_1 hF hCM k27 hs hf hmM f1 w1)) s2 wy2) f3
      have e171 : M3.1 171 = M.1 171 := by rw [Fr_row f3 _ (fun _ => rfl), s2.1, Fr_row f1 _ (fun _ => rfl)]
      refine begin_ M3 0 pw.2.1 pw.2.2.1.2.1 pw.2.2.2.1 e171 (fun q => by omega) (fun _ => modW (wt := wt) (G := G) pw hky hw g3 hsi hn hN (fun _ => hG) (hH _ e171) (fun _ => hsup _ _) (fun _ => hbd _ _) (fun q => by omega) (fun _ m hcm h44 hv => ?_))
      unfold f_X11_odds_J63
      refine backW hV hm hcm (fun m' f' hF' e15 e27 i116 i117 td i171 vv => ?_)
      have hwm' : ∀ j, j < 5 → m'.1 171 (5 * q + j) = nI (wk j) ∧ wk j < 10 := fun j hj => by rw [i171, e171]; exact hwm j hj
      refine aw_ok (T := cT C) (wk := wk) hF' e15 c1 e27 hky (by omega) hn hwm' (fun _ => ⟨fun z => absurd z ne1, fun _ => ?_⟩) (fun q => by rw [← hbs] at q; omega)
      rw [← hbs]
      refine iw_ok hF' e27 hky (by omega) hwm' (fun z => absurd z ne) (fun _ => ⟨fun _ => ?_, fun z => absurd rfl z⟩)
      refine sumOf_ok (N := N) (h := MM G wt w N n) pk1 pk1_ok hF' ((f'.1 142 44 rfl).trans h44) hN4 (fun s f hs' hf' => by rw [f'.2.1 166 rfl]; exact hv s f hs' hf') ?_
      rw [hS]
      refine cm_ok (by omega) (by omega) ?_
      simp only [forall_eq]
      rw [Nat.gcd_comm]
      refine ⟨ng, ?_⟩
      have hF5 : FX (stI m' 142 1 0) := fx_I hF'
      refine enN (k := 0) hF5 rI_eq (by omega) (fun m6 f6 u1 u2 u3 => ⟨ng, ?_⟩)
      have f6' : Fr dWy eWy m' m6 := Fr_tr (Fr_I rfl (Fr_refl _ _ _)) f6
      refine enN (k := 1) (FX_fr f6' hF') u1 (by omega) (fun m7 f7 y1 y2 y3 => an_ok rfl (hK _ (vv m7 (Fr_tr f6' f7) ⟨2, by omega, ?_, y1, fun j hj => ?_⟩)))
      · rw [f7.1 116 1 rfl, f6'.1 116 1 rfl, i116]; exact t1
      · rw [f7.2.1 117 rfl, f6'.2.1 117 rfl, i117]
        have : j = 0 ∨ j = 1 := by omega
        rcases this with rfl | rfl
        · rw [t2, y2 0 (by omega), u3, pk_lDiv (by omega) hg0 (by omega)]
        · rw [t3, y3, pk_lDiv (by omega) hg0 (by omega)]
