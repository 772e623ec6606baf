/-! weights of runs: the model's masses and sums -/
/-- a hand's weights, by the step's number -/
def HWt (M : Mm) (ky w : Nat) (x3 : Int32) (wt : Nat → Nat) : Prop := (x3 = -1 ∧ ∀ m, m < w → wt m = 1) ∨ ∃ h, h < 2 ∧ x3 = nI h ∧ ∀ m, m < w → M.1 171 (5 * h + m % (ky + 1)) = nI (wt m) ∧ wt m < 10
/-- what the model's weighing reads -/
def MR (M : Mm) (G : Gx) (ky w N E1 : Nat) (x2 x3 : Int32) (wt : Nat → Nat) : Prop := FX M ∧ M.1 142 27 = nI ky ∧ ky < 5 ∧ w ≤ 20 ∧ N ≤ 4000 ∧ E1 ≤ N ∧ (∀ s, s < E1 → ∀ m, m < w → EdP M G w (x2 + 1) s m ∧ gT G (s * w + m) < N) ∧ HWt M ky w x3 wt
theorem MR_ag {M M' : Mm} {G : Gx} {ky w N E1 : Nat} {x2 x3 : Int32} {wt : Nat → Nat} (h1 : M'.1 = M.1) (h2 : M'.2.2 = M.2.2) (h : MR M G ky w N E1 x2 x3 wt) : MR M' G ky w N E1 x2 x3 wt := by
  obtain ⟨r1, r2, r3, r4, r5, r6, r7, r8⟩ := h
  refine ⟨FX_ag h2 r1, by rw [h1]; exact r2, r3, r4, r5, r6, fun s hs m hm => ?_, ?_⟩
  · obtain ⟨⟨e1, e2, e3⟩, e4⟩ := r7 s hs m hm
    exact ⟨⟨by rw [h1]; exact e1, by rw [h1]; exact e2, by rw [h1]; exact e3⟩, e4⟩
  · rcases r8 with h | ⟨q, q1, q2, q3⟩
    · exact Or.inl h
    · exact Or.inr ⟨q, q1, q2, fun m hm => by rw [h1]; exact q3 m hm⟩
theorem flg : ∀ f, f < 4 → ∀ x y : Bool, (nI f ||| (if (if x = true then (1 : Int32) else 0) = 0 then 0 else 1)) ||| (if y = true then (2 : Int32) else 0) = nI (f ||| bts x y) ∧ (f ||| bts x y) < 4 := by decide +kernel
theorem i4 (s f : Nat) : (4 : Int32) * nI s + nI f = nI (4 * s + f) := by rw [show (4 : Int32) = nI 4 from rfl, pk_mul, nI_add]
theorem wg214 {G : Gx} {wt : Nat → Nat} {av : Nat → Nat → Nat} {ky w N E1 s f c0 : Nat} {x1 x2 x3 x4 x6 : Int32} {M0 : Mm} {EK K : Mm → Prop} (hR : MR M0 G ky w N E1 x2 x3 wt) (hf : f < 4) (hs : c0 ≠ 0 → s < E1) (hc : c0 < 2 ^ 63) (hK : ∀ M', SP 167 M0 M' → (∀ t g, t < N → g < 4 → M'.2.1 167 (4 * t + g) = lN (av t g + c0 * DF G wt w s f t g w)) → EK M') :
    ∀ (r m : Nat) (M : Mm), m + r = w → SP 167 M0 M → (∀ t g, t < N → g < 4 → M.2.1 167 (4 * t + g) = lN (av t g + c0 * DF G wt w s f t g m)) → f_X11_weighs_L214 S0 142 x1 x2 x3 x4 (nI w) x6 (nI s) (nI f) (lN c0) EK K (r + 1) (nI m) M
  | 0, m, M, hm, hS, hv => by
    unfold f_X11_weighs_L214 f_X11_weighs_B214
    obtain ⟨r1, r2, r3, r4, r5, r6, r7, r8⟩ := hR
    have e : m = w := by omega
    subst e
    exact ⟨fun _ => hK M hS hv, fun z => absurd (nI_le (Nat.le_refl _) (by omega)) z⟩
  | r + 1, m, M, hm, hS, hv => by
    unfold f_X11_weighs_L214 f_X11_weighs_B214
    have hR' := hR
    obtain ⟨r1, r2, r3, r4, r5, r6, r7, r8⟩ := hR'
    refine ⟨fun z => absurd z (nI_ge (by omega) (by omega)), fun _ => ?_⟩
    have hle : lN c0 ≤ (0 : Int64) ↔ c0 = 0 := by
      rw [show (0 : Int64) = lN 0 from rfl, pk_lLE hc (by omega)]; omega
    rw [hle]
    refine ⟨fun z => hK M hS (fun t g ht hg => ?_), fun z => ?_⟩
    · rw [hv t g ht hg, z, Nat.zero_mul, Nat.zero_mul]
    · have hsE := hs z
      have hF : FX M := FX_ag hS.2.1 r1
      obtain ⟨⟨e1, e2, e3⟩, e4⟩ := r7 s hsE m (by omega)
      have hin : vp_in (nI (20 * s + m)) 80020 := vp_in_nI (by omega) (by omega)
      have hcl : (nI (20 * s + m)).toNatClampNeg = 20 * s + m := nI_clamp (by omega)
      have i168 : M.1 168 (20 * s + m) = nI (gT G (s * w + m)) := by rw [hS.1]; exact e1
      have i169 : M.1 169 (20 * s + m) = if gB G (s * w + m) = true then 1 else 0 := by rw [hS.1]; exact e2
      have i170 : M.1 170 (20 * s + m) = x2 + 1 ↔ gS G (s * w + m) = true := by rw [hS.1]; exact e3
      have i27 : M.1 142 27 = nI ky := by rw [hS.1]; exact r2
      obtain ⟨fl1, fl2⟩ := flg f hf (gB G (s * w + m)) (gS G (s * w + m))
      simp only [fx_142_56 hF, fx_142_57 hF, ex_some, shp_ne (show (170 : Nat) ≠ 100000 by decide), s0_169, s0_170, ex_sh, i20, hin, hcl, true_and, i169]
      refine tr_ok ?_
      simp only [fx_142_57 hF, ex_some, shp_ne (show (170 : Nat) ≠ 100000 by decide), s0_170, ex_sh, hin, hcl, true_and]
      rw [i170]
      have fin : ∀ t0 : Int32, (nI f ||| (if (if gB G (s * w + m) = true then (1 : Int32) else 0) = 0 then 0 else 1)) ||| t0 = nI (f ||| bts (gB G (s * w + m)) (gS G (s * w + m))) → f_X11_weighs_J271 S0 142 x1 x2 x3 x4 (nI w) x6 (nI s) (nI f) (lN c0) (nI m) t0 (nI f ||| (if (if gB G (s * w + m) = true then (1 : Int32) else 0) = 0 then 0 else 1)) M (fun x11 M => f_X11_weighs_L214 S0 142 x1 x2 x3 x4 (nI w) x6 (nI s) (nI f) (lN c0) EK K (r + 1) x11 M) K := by
        intro t0 ht0
        unfold f_X11_weighs_J271
        generalize hv57 : f ||| bts (gB G (s * w + m)) (gS G (s * w + m)) = v at ht0 fl1 fl2
        have hin2 : vp_in (nI (4 * gT G (s * w + m) + v)) 16004 := vp_in_nI (by omega) (by omega)
        have hcl2 : (nI (4 * gT G (s * w + m) + v)).toNatClampNeg = 4 * gT G (s * w + m) + v := nI_clamp (by omega)
        have iY := hv _ v e4 fl2
        simp only [forall_eq, ht0, fx_142_54 hF, fx_142_55 hF, ex_some, shp_ne (show (168 : Nat) ≠ 100000 by decide), s0_168, s0_167, ex_sh, i20, hin, hcl, i168, i4, hin2, hcl2, true_and, iY]
        have go : ∀ y : Int64, y = lN (wt m) → f_X11_weighs_L214 S0 142 x1 x2 x3 x4 (nI w) x6 (nI s) (nI f) (lN c0) EK K (r + 1) (nI (m + 1)) (stJ M 167 (4 * gT G (s * w + m) + v) (lN (av (gT G (s * w + m)) v + c0 * DF G wt w s f (gT G (s * w + m)) v m) + lN c0 * y)) := by
          intro y hy
          rw [hy, lN_mul, lN_add]
          refine wg214 hR hf hs hc hK r (m + 1) _ (by omega) (SP_st hS) (fun t g ht hg => ?_)
          rw [rJ]
          have eD : DF G wt w s f t g (m + 1) = DF G wt w s f t g m + (if gT G (s * w + m) = t ∧ v = g then wt m else 0) := by
            rw [← hv57]; rfl
          rw [eD]
          by_cases ej : gT G (s * w + m) = t ∧ v = g
          · rw [if_pos ⟨rfl, by rw [ej.1, ej.2]⟩, if_pos ej, ej.1, ej.2, Nat.mul_add, Nat.add_assoc]
          · rw [if_neg (fun q => ej (by omega)), if_neg ej, Nat.add_zero]; exact hv t g ht hg
        rcases r8 with ⟨h3, h4⟩ | ⟨h, h1, h3, h4⟩
        · refine ⟨fun q => absurd q (by rw [h3]; decide), fun _ => ?_⟩
          simp only [nI_1]
          exact go _ (by rw [h4 m (by omega)]; rfl)
        · obtain ⟨h5, h6⟩ := h4 m (by omega)
          refine ⟨fun _ => ?_, fun q => absurd (by rw [h3]; exact le0 (by omega)) q⟩
          have hmd : m % (ky + 1) < ky + 1 := Nat.mod_lt _ (by omega)
          have ix : (5 : Int32) * x3 + (nI m - nI m / nI (ky + 1) * nI (ky + 1)) = nI (5 * h + m % (ky + 1)) := by
            rw [h3, pk_rem (by omega) (by omega) (by omega), show (5 : Int32) = nI 5 from rfl, pk_mul, nI_add]
          have hin5 : vp_in (nI (5 * h + m % (ky + 1))) 10 := vp_in_nI (by omega) (by omega)
          have hcl5 : (nI (5 * h + m % (ky + 1))).toNatClampNeg = 5 * h + m % (ky + 1) := nI_clamp (by omega)
          have hne : ¬ nI (ky + 1) = 0 := nI_ne0 (by omega) (by omega)
          have i171 : M.1 171 (5 * h + m % (ky + 1)) = nI (wt m) := by rw [hS.1]; exact h5
          simp only [fx_142_58 hF, ex_some, shp_ne (show (171 : Nat) ≠ 100000 by decide), s0_171, i27, ix, ex_sh, hin5, hcl5, hne, not_false_eq_true, true_and, i171, nI_1]
          exact go _ (nI_l (by omega))
      refine ⟨fun q => fin 2 ?_, fun q => fin 0 ?_⟩
      · rw [if_pos q] at fl1; exact fl1
      · rw [if_neg q] at fl1; exact fl1
theorem wg191 {G : Gx} {wt : Nat → Nat} {av : Nat → Nat → Nat} {cf : Nat → Nat} {ky w N E1 s : Nat} {x1 x2 x3 x4 x6 : Int32} {M0 : Mm} {EK K : Mm → Prop} (hR : MR M0 G ky w N E1 x2 x3 wt) (hsN : s < N) (hs : ∀ f, f < 4 → cf f ≠ 0 → s < E1) (hc : ∀ f, f < 4 → cf f < 2 ^ 63) (h6 : ∀ f, f < 4 → M0.2.1 166 (4 * s + f) = lN (cf f)) (hK : ∀ M', SP 167 M0 M' → (∀ t g, t < N → g < 4 → M'.2.1 167 (4 * t + g) = lN (av t g + sumTo (fun f => cf f * DF G wt w s f t g w) 4)) → EK M') :
    ∀ (r f : Nat) (M : Mm), f + r = 4 → SP 167 M0 M → (∀ t g, t < N → g < 4 → M.2.1 167 (4 * t + g) = lN (av t g + sumTo (fun f => cf f * DF G wt w s f t g w) f)) → f_X11_weighs_L191 S0 142 x1 x2 x3 x4 (nI w) x6 (nI s) EK K (r + 1) (nI f) M
  | 0, f, M, hf, hS, hv => by
    unfold f_X11_weighs_L191 f_X11_weighs_B191
    have e : f = 4 := by omega
    subst e
    exact ⟨fun _ => hK M hS hv, fun z => absurd (show nI 4 ≤ nI 4 from nI_le (Nat.le_refl _) (by omega)) z⟩
  | r + 1, f, M, hf, hS, hv => by
    unfold f_X11_weighs_L191 f_X11_weighs_B191
    have hR' := hR
    obtain ⟨r1, r2, r3, r4, r5, r6, r7, r8⟩ := hR'
    have hF : FX M := FX_ag hS.2.1 r1
    refine ⟨fun z => absurd (show nI 4 ≤ nI f from z) (nI_ge (by omega) (by omega)), fun _ => ?_⟩
    have hin2 : vp_in (nI (4 * s + f)) 16004 := vp_in_nI (by omega) (by omega)
    have hcl2 : (nI (4 * s + f)).toNatClampNeg = 4 * s + f := nI_clamp (by omega)
    have i166 : M.2.1 166 (4 * s + f) = lN (cf f) := by rw [hS.2.2 166 (by omega)]; exact h6 f (by omega)
    simp only [fx_142_53 hF, ex_some, s0_166, ex_sh, i4, hin2, hcl2, true_and, forall_eq, i166, nI_1]
    refine ⟨w + 1, wg214 (av := fun t g => av t g + sumTo (fun f => cf f * DF G wt w s f t g w) f) (MR_ag hS.1 hS.2.1 hR) (by omega) (hs f (by omega)) (hc f (by omega)) (fun M' S' v' => ?_) w 0 M (by omega) ⟨rfl, rfl, fun _ _ => rfl⟩ (fun t g ht hg => ?_)⟩
    · exact wg191 hR hsN hs hc h6 hK r (f + 1) M' (by omega) (SP_tr hS S') (fun t g ht hg => by rw [v' t g ht hg, Nat.add_assoc]; rfl)
    · rw [hv t g ht hg]
      show _ = lN (_ + cf f * 0)
      rw [Nat.mul_zero, Nat.add_zero]
theorem MM_b {G : Gx} {wt : Nat → Nat} {w N d s f : Nat} (hf : f < 4) : MM G wt w N d s f ≤ WW false false G wt w N d s := by
  rw [← MM_prj d s]
  unfold prj
  simp only [Bool.false_eq_true, if_false, Bool.or_self]
  have : f = 0 ∨ f = 1 ∨ f = 2 ∨ f = 3 := by omega
  rcases this with rfl | rfl | rfl | rfl <;> omega
theorem wg181 {G : Gx} {wt : Nat → Nat} {ky w N E1 d : Nat} {x1 x2 x3 x6 : Int32} {M0 : Mm} {EK K : Mm → Prop} (hR : MR M0 G ky w N E1 x2 x3 wt) (hs : ∀ s, WW false false G wt w N d s ≠ 0 → s < E1) (hc : ∀ s, s < N → WW false false G wt w N d s < 2 ^ 63) (h6 : ∀ s f, s < N → f < 4 → M0.2.1 166 (4 * s + f) = lN (MM G wt w N d s f)) (hK : ∀ M', SP 167 M0 M' → (∀ t g, t < N → g < 4 → M'.2.1 167 (4 * t + g) = lN (MM G wt w N (d + 1) t g)) → EK M') :
    ∀ (r s : Nat) (M : Mm), s + r = N → SP 167 M0 M → (∀ t g, t < N → g < 4 → M.2.1 167 (4 * t + g) = lN (sumTo (fun s => sumTo (fun f => MM G wt w N d s f * DF G wt w s f t g w) 4) s)) → f_X11_weighs_L181 S0 142 x1 x2 x3 (nI N) (nI w) x6 EK K (r + 1) (nI s) M
  | 0, s, M, hsr, hS, hv => by
    unfold f_X11_weighs_L181 f_X11_weighs_B181
    have := hR.2.2.2.2.1
    have e : s = N := by omega
    subst e
    exact ⟨fun _ => hK M hS hv, fun z => absurd (nI_le (Nat.le_refl _) (by omega)) z⟩
  | r + 1, s, M, hsr, hS, hv => by
    unfold f_X11_weighs_L181 f_X11_weighs_B181
    have := hR.2.2.2.2.1
    refine ⟨fun z => absurd z (nI_ge (by omega) (by omega)), fun _ => ⟨4 + 1, ?_⟩⟩
    simp only [forall_eq, nI_1]
    refine wg191 (av := fun t g => sumTo (fun s => sumTo (fun f => MM G wt w N d s f * DF G wt w s f t g w) 4) s) (cf := MM G wt w N d s) (MR_ag hS.1 hS.2.1 hR) (by omega) (fun f hf hne => hs s (fun z => hne (by have := MM_b (G := G) (wt := wt) (w := w) (N := N) (d := d) (s := s) hf; omega))) (fun f hf => Nat.lt_of_le_of_lt (MM_b hf) (hc s (by omega))) (fun f hf => by rw [hS.2.2 166 (by omega)]; exact h6 s f (by omega) hf) (fun M' S' v' => ?_) 4 0 M (by omega) ⟨rfl, rfl, fun _ _ => rfl⟩ (fun t g ht hg => by rw [hv t g ht hg]; rfl)
    exact wg181 hR hs hc h6 hK r (s + 1) M' (by omega) (SP_tr hS S') v'
def SM (M0 M : Mm) : Prop := M.1 = M0.1 ∧ M.2.2 = M0.2.2 ∧ ∀ b, b ≠ 166 → b ≠ 167 → M.2.1 b = M0.2.1 b
theorem SM_sp {M0 M M' : Mm} {Y : Nat} (hy : Y = 166 ∨ Y = 167) (h : SM M0 M) (h' : SP Y M M') : SM M0 M' := ⟨h'.1.trans h.1, h'.2.1.trans h.2.1, fun b b1 b2 => (h'.2.2 b (by omega)).trans (h.2.2 b b1 b2)⟩
theorem wgz {N : Nat} {x1 x2 x3 x5 x6 : Int32} {M0 : Mm} {EK K : Mm → Prop} (hF0 : FX M0) (hN : N ≤ 4000) (hK : ∀ M', SP 167 M0 M' → (∀ j, j < 4 * N → M'.2.1 167 j = 0) → EK M') :
    ∀ (r j : Nat) (M : Mm), j + r = 4 * N → SP 167 M0 M → (∀ i, i < j → M.2.1 167 i = 0) → f_X11_weighs_L155 S0 142 x1 x2 x3 (nI N) x5 x6 EK K (r + 1) (nI j) M
  | 0, j, M, hj, hS, hv => by
    unfold f_X11_weighs_L155 f_X11_weighs_B155
    rw [show (4 : Int32) = nI 4 from rfl, pk_mul]
    have e : j = 4 * N := by omega
    subst e
    exact ⟨fun _ => hK M hS hv, fun z => absurd (nI_le (Nat.le_refl _) (by omega)) z⟩
  | r + 1, j, M, hj, hS, hv => by
    unfold f_X11_weighs_L155 f_X11_weighs_B155
    have hF : FX M := FX_ag hS.2.1 hF0
    have hin2 : vp_in (nI j) 16004 := vp_in_nI (by omega) (by omega)
    have hcl2 : (nI j).toNatClampNeg = j := nI_clamp (by omega)
    rw [show (4 : Int32) = nI 4 from rfl, pk_mul]
    refine ⟨fun z => absurd z (nI_ge (by omega) (by omega)), fun _ => ?_⟩
    simp only [fx_142_54 hF, ex_some, s0_167, ex_sh, hin2, hcl2, true_and, forall_eq, nI_1]
    refine wgz hF0 hN hK r (j + 1) _ (by omega) (SP_st hS) (fun i hi => ?_)
    rw [rJ]
    by_cases e : i = j
    · rw [if_pos ⟨rfl, e⟩]
    · rw [if_neg (fun z => e z.2)]; exact hv i (by omega)
theorem wgz6 {N : Nat} {x1 x2 x3 x5 : Int32} {M0 : Mm} {EK K : Mm → Prop} (hF0 : FX M0) (hN : N ≤ 4000) (hK : ∀ M', SP 166 M0 M' → (∀ j, j < 4 * N → M'.2.1 166 j = 0) → EK M') :
    ∀ (r j : Nat) (M : Mm), j + r = 4 * N → SP 166 M0 M → (∀ i, i < j → M.2.1 166 i = 0) → f_X11_weighs_L113 S0 142 x1 x2 x3 (nI N) x5 EK K (r + 1) (nI j) M
  | 0, j, M, hj, hS, hv => by
    unfold f_X11_weighs_L113 f_X11_weighs_B113
    rw [show (4 : Int32) = nI 4 from rfl, pk_mul]
    have e : j = 4 * N := by omega
    subst e
    exact ⟨fun _ => hK M hS hv, fun z => absurd (nI_le (Nat.le_refl _) (by omega)) z⟩
  | r + 1, j, M, hj, hS, hv => by
    unfold f_X11_weighs_L113 f_X11_weighs_B113
    have hF : FX M := FX_ag hS.2.1 hF0
    have hin2 : vp_in (nI j) 16004 := vp_in_nI (by omega) (by omega)
    have hcl2 : (nI j).toNatClampNeg = j := nI_clamp (by omega)
    rw [show (4 : Int32) = nI 4 from rfl, pk_mul]
    refine ⟨fun z => absurd z (nI_ge (by omega) (by omega)), fun _ => ?_⟩
    simp only [fx_142_53 hF, ex_some, s0_166, ex_sh, hin2, hcl2, true_and, forall_eq, nI_1]
    refine wgz6 hF0 hN hK r (j + 1) _ (by omega) (SP_st hS) (fun i hi => ?_)
    rw [rJ]
    by_cases e : i = j
    · rw [if_pos ⟨rfl, e⟩]
    · rw [if_neg (fun z => e z.2)]; exact hv i (by omega)
theorem wgc {N : Nat} {x1 x2 x3 x5 x6 : Int32} {M0 : Mm} {EK K : Mm → Prop} (hF0 : FX M0) (hN : N ≤ 4000) (hK : ∀ M', SP 166 M0 M' → (∀ j, j < 4 * N → M'.2.1 166 j = M0.2.1 167 j) → EK M') :
    ∀ (r j : Nat) (M : Mm), j + r = 4 * N → SP 166 M0 M → (∀ i, i < j → M.2.1 166 i = M0.2.1 167 i) → f_X11_weighs_L351 S0 142 x1 x2 x3 (nI N) x5 x6 EK K (r + 1) (nI j) M
  | 0, j, M, hj, hS, hv => by
    unfold f_X11_weighs_L351 f_X11_weighs_B351
    rw [show (4 : Int32) = nI 4 from rfl, pk_mul]
    have e : j = 4 * N := by omega
    subst e
    exact ⟨fun _ => hK M hS hv, fun z => absurd (nI_le (Nat.le_refl _) (by omega)) z⟩
  | r + 1, j, M, hj, hS, hv => by
    unfold f_X11_weighs_L351 f_X11_weighs_B351
    have hF : FX M := FX_ag hS.2.1 hF0
    have hin2 : vp_in (nI j) 16004 := vp_in_nI (by omega) (by omega)
    have hcl2 : (nI j).toNatClampNeg = j := nI_clamp (by omega)
    rw [show (4 : Int32) = nI 4 from rfl, pk_mul]
    refine ⟨fun z => absurd z (nI_ge (by omega) (by omega)), fun _ => ?_⟩
    simp only [fx_142_53 hF, fx_142_54 hF, ex_some, s0_166, s0_167, ex_sh, hin2, hcl2, true_and, forall_eq, nI_1]
    refine wgc hF0 hN hK r (j + 1) _ (by omega) (SP_st hS) (fun i hi => ?_)
    rw [rJ]
    by_cases e : i = j
    · rw [if_pos ⟨rfl, e⟩, hS.2.2 167 (by omega), e]
    · rw [if_neg (fun z => e z.2)]; exact hv i (by omega)
theorem wg146 {G : Gx} {wt : Nat → Nat} {ky w N E1 n : Nat} {x2 x3 : Int32} {M0 : Mm} {EK K : Mm → Prop} (hR : MR M0 G ky w N E1 x2 x3 wt) (hn : n ≤ 20) (hs : ∀ d, d < n → ∀ s, WW false false G wt w N d s ≠ 0 → s < E1) (hc : ∀ d, d < n → ∀ s, s < N → WW false false G wt w N d s < 2 ^ 63) (hK : ∀ M', SM M0 M' → (∀ t g, t < N → g < 4 → M'.2.1 166 (4 * t + g) = lN (MM G wt w N n t g)) → EK M') :
    ∀ (r d : Nat) (M : Mm), d + r = n → SM M0 M → (∀ t g, t < N → g < 4 → M.2.1 166 (4 * t + g) = lN (MM G wt w N d t g)) → f_X11_weighs_L146 S0 142 (nI n) x2 x3 (nI N) (nI w) EK K (r + 1) (nI d) M
  | 0, d, M, hd, hS, hv => by
    unfold f_X11_weighs_L146 f_X11_weighs_B146
    have e : d = n := by omega
    subst e
    exact ⟨fun _ => hK M hS hv, fun z => absurd (nI_le (Nat.le_refl _) (by omega)) z⟩
  | r + 1, d, M, hd, hS, hv => by
    unfold f_X11_weighs_L146 f_X11_weighs_B146
    have hRM := MR_ag hS.1 hS.2.1 hR
    have hN := hR.2.2.2.2.1
    refine ⟨fun z => absurd z (nI_ge (by omega) (by omega)), fun _ => ⟨4 * N + 1, wgz hRM.1 hN (fun M1 S1 v1 => ⟨N + 1, ?_⟩) (4 * N) 0 M (by omega) ⟨rfl, rfl, fun _ _ => rfl⟩ (fun j hj => absurd hj (by omega))⟩⟩
    refine wg181 (d := d) (MR_ag S1.1 S1.2.1 hRM) (hs d (by omega)) (hc d (by omega)) (fun s f hs hf => by rw [S1.2.2 166 (by omega)]; exact hv s f hs hf) (fun M2 S2 v2 => ⟨4 * N + 1, ?_⟩) N 0 M1 (by omega) ⟨rfl, rfl, fun _ _ => rfl⟩ (fun t g ht hg => by rw [v1 _ (by omega)]; rfl)
    simp only [forall_eq, nI_1]
    refine wgc (MR_ag S2.1 S2.2.1 (MR_ag S1.1 S1.2.1 hRM)).1 hN (fun M3 S3 v3 => ?_) (4 * N) 0 M2 (by omega) ⟨rfl, rfl, fun _ _ => rfl⟩ (fun j hj => absurd hj (by omega))
    exact wg146 hR hn hs hc hK r (d + 1) M3 (by omega) (SM_sp (by omega) (SM_sp (by omega) (SM_sp (by omega) hS S1) S2) S3) (fun t g ht hg => by rw [v3 _ (by omega)]; exact v2 t g ht hg)
/-- the model's weighing -/
theorem weighs_ok {C : Cf} {ky w A0 B0 n N : Nat} {mu : Option (List Nat)} {G : Gx} {wt : Nat → Nat} {x2 x3 : Int32} {M : Mm} {K : Mm → Prop} (hB : BM C ky M) (hI : mM M mu) (hky : ky < 5) (hw : w = cT C * (ky + 1)) (hT : 0 < cT C) (h0 : SI C A0 B0) (hn : n ≤ 20) (hNe : N = (bf C ky w A0 B0 (Ed C ky w A0 B0 n * w)).length) (hl4 : N ≤ 4000) (hG : HG C ky w A0 B0 n mu (x2 + 1) G) (hW : WM M (bf C ky w A0 B0 (Ed C ky w A0 B0 n * w)) 0) (hD : WD M (bf C ky w A0 B0 (Ed C ky w A0 B0 n * w))) (hH : HWt M ky w x3 wt)
    (hs : ∀ d, d < n → ∀ s, WW false false G wt w N d s ≠ 0 → s < Ed C ky w A0 B0 n) (hc : ∀ d, d < n → ∀ s, s < N → WW false false G wt w N d s < 2 ^ 63)
    (hK : ∀ M' M'', Fr dQw eP M M' → SM M' M'' → WM M'' (bf C ky w A0 B0 (Ed C ky w A0 B0 n * w)) 0 → WD M'' (bf C ky w A0 B0 (Ed C ky w A0 B0 n * w)) → (∀ t g, t < N → g < 4 → M''.2.1 166 (4 * t + g) = lN (MM G wt w N n t g)) → K M'') : f_X11_weighs S0 142 (nI n) x2 x3 M K := by
  unfold f_X11_weighs f_X11_width
  have hB' := hB
  obtain ⟨b1, b2, b3⟩ := hB'
  have c1 := b2.1.1
  have hw20 : w ≤ 20 := by
    rw [hw]
    have : cT C * (ky + 1) ≤ 4 * 5 := Nat.mul_le_mul c1 (by omega)
    omega
  have hE1 : Ed C ky w A0 B0 n ≤ N := by
    have := Ed_mono (C := C) (ky := ky) (w := w) (A0 := A0) (B0 := B0) n
    rw [Ed_succ] at this
    omega
  simp only [forall_eq]
  rw [hW.1, b2.2.1, b3, nI_1 ky, pk_mul, ← hw, ← hNe]
  have hin0 : vp_in (0 : Int32) 16004 := by unfold vp_in; decide
  have hcl0 : (0 : Int32).toNatClampNeg = 0 := by decide
  refine ⟨N + 1, ?_⟩
  have key := wg15 (x2 := x2) (x3 := x3) (K := K) (EK := fun m26 => ∃ n93 : Nat, f_X11_weighs_L113 S0 142 (nI n) x2 x3 (nI N) (nI w) (fun (m32 : Mm) => ∃ b33 : Nat, m32.2.2 142 53 = some b33 ∧ ∃ n34 : Nat, S0[b33]? = some (53, n34) ∧ vp_in (0 : Int32) n34 ∧ ∃ n92 : Nat, f_X11_weighs_L146 S0 142 (nI n) x2 x3 (nI N) (nI w) (fun (m91 : Mm) => K m91) K n92 (0 : Int32) (stJ m32 b33 (0 : Int32).toNatClampNeg (1 : Int64))) K n93 (0 : Int32) m26) hky hw hT h0 hn (by omega) hG N 0 M (by omega) hB hI hW hD (fun s' hs' => absurd hs' (by omega)) (fun M1 f1 W1 D1 P1 => ?_)
  · rw [← hNe] at key
    exact key
  · have hF1 := FX_fr f1 b1
    have i171 : M1.1 171 = M.1 171 := Fr_row f1 _ (fun _ => rfl)
    have hH1 : HWt M1 ky w x3 wt := by
      rcases hH with h | ⟨q, q1, q2, q3⟩
      · exact Or.inl h
      · exact Or.inr ⟨q, q1, q2, fun m hm => by rw [i171]; exact q3 m hm⟩
    have hR1 : MR M1 G ky w N (Ed C ky w A0 B0 n) x2 x3 wt := ⟨hF1, (f1.1 142 27 rfl).trans b3, hky, hw20, hl4, hE1, fun s hs m hm => ⟨P1 s hs m hm, by
      have hk : s * w + m < Ed C ky w A0 B0 n * w := by
        have : (s + 1) * w ≤ Ed C ky w A0 B0 n * w := Nat.mul_le_mul_right w hs
        rw [Nat.add_mul] at this; omega
      have h1 := (hG _ hk).1.1
      have h2 := bf_mono (C := C) (ky := ky) (w := w) (A0 := A0) (B0 := B0) (show s * w + m + 1 ≤ Ed C ky w A0 B0 n * w by omega)
      omega⟩, hH1⟩
    refine ⟨4 * N + 1, wgz6 hF1 hl4 (fun M2 S2 v2 => ?_) (4 * N) 0 M1 (by omega) ⟨rfl, rfl, fun _ _ => rfl⟩ (fun j hj => absurd hj (by omega))⟩
    have hF2 : FX M2 := FX_ag S2.2.1 hF1
    simp only [fx_142_53 hF2, ex_some, s0_166, ex_sh, hin0, hcl0, true_and]
    have S3 : SP 166 M1 (stJ M2 166 0 1) := SP_st S2
    have S3' : SM M1 (stJ M2 166 0 1) := SM_sp (Y := 166) (by omega) ⟨rfl, rfl, fun _ _ _ => rfl⟩ S3
    refine ⟨n + 1, wg146 hR1 hn hs hc (fun M4 S4 v4 => hK M1 M4 f1 S4 (WM_ag (by rw [S4.1]) (S4.2.2 160 (by omega) (by omega)) (S4.2.2 161 (by omega) (by omega)) (by rw [S4.1]) W1) (fun s hs => by rw [S4.1]; exact D1 s hs) v4) n 0 _ (by omega) S3' (fun t g ht hg => ?_)⟩
    rw [rJ]
    show _ = lN (if t = 0 ∧ g = 0 then 1 else 0)
    by_cases e : t = 0 ∧ g = 0
    · rw [if_pos ⟨rfl, by omega⟩, if_pos e]; rfl
    · rw [if_neg (fun z => e (by omega)), if_neg e, v2 _ (by omega)]; rfl
/-- the model's sums -/
theorem so17 {x1 x2 : Int32} {s : Nat} {h : Nat → Nat} {c : Nat} {M : Mm} {EK K : Int64 → Mm → Prop} (pk : Nat → Bool) (hpk : ∀ f, f < 4 → (nI f &&& x1 = x2 ↔ pk f = true)) (hF : FX M) (hs : s < 4000) (hv : ∀ f, f < 4 → M.2.1 166 (4 * s + f) = lN (h f)) (hK : EK (lN (c + sumTo (fun f => if pk f = true then h f else 0) 4)) M) :
    ∀ (r f : Nat), f + r = 4 → f_X11_sumOf_L17 S0 142 x1 x2 (nI s) EK K (r + 1) (lN (c + sumTo (fun f => if pk f = true then h f else 0) f)) (nI f) M
  | 0, f, hf => by
    unfold f_X11_sumOf_L17 f_X11_sumOf_B17
    have e : f = 4 := by omega
    subst e
    exact ⟨fun _ => hK, fun z => absurd (show nI 4 ≤ nI 4 from nI_le (Nat.le_refl _) (by omega)) z⟩
  | r + 1, f, hf => by
    unfold f_X11_sumOf_L17 f_X11_sumOf_B17
    refine ⟨fun z => absurd (show nI 4 ≤ nI f from z) (nI_ge (by omega) (by omega)), fun _ => ?_⟩
    have ih := so17 (EK := EK) (K := K) (c := c) pk hpk hF hs hv hK r (f + 1) (by omega)
    have hin2 : vp_in (nI (4 * s + f)) 16004 := vp_in_nI (by omega) (by omega)
    have hcl2 : (nI (4 * s + f)).toNatClampNeg = 4 * s + f := nI_clamp (by omega)
    rw [hpk f (by omega)]
    have es : sumTo (fun f => if pk f = true then h f else 0) (f + 1) = sumTo (fun f => if pk f = true then h f else 0) f + (if pk f = true then h f else 0) := rfl
    rw [es] at ih
    refine ⟨fun q => ?_, fun q => ?_⟩
    · simp only [fx_142_53 hF, ex_some, s0_166, ex_sh, i4, hin2, hcl2, true_and, forall_eq, hv f (by omega), lN_add, nI_1]
      rw [if_pos q, ← Nat.add_assoc] at ih
      exact ih
    · simp only [forall_eq, nI_1]
      rw [if_neg q, Nat.add_zero] at ih
      rw [show ∀ y : Nat, lN y + (0 : Int64) = lN y from fun y => by rw [show (0 : Int64) = lN 0 from rfl, lN_add, Nat.add_zero]]
      exact ih
theorem so5 {x1 x2 : Int32} {N : Nat} {h : Nat → Nat → Nat} {M : Mm} {EK K : Int64 → Mm → Prop} (pk : Nat → Bool) (hpk : ∀ f, f < 4 → (nI f &&& x1 = x2 ↔ pk f = true)) (hF : FX M) (h44 : M.1 142 44 = nI N) (hN : N ≤ 4000) (hv : ∀ s f, s < N → f < 4 → M.2.1 166 (4 * s + f) = lN (h s f)) (hK : EK (lN (sumTo (fun s => sumTo (fun f => if pk f = true then h s f else 0) 4) N)) M) :
    ∀ (r s : Nat), s + r = N → f_X11_sumOf_L5 S0 142 x1 x2 EK K (r + 1) (lN (sumTo (fun s => sumTo (fun f => if pk f = true then h s f else 0) 4) s)) (nI s) M
  | 0, s, hs => by
    unfold f_X11_sumOf_L5 f_X11_sumOf_B5
    rw [h44]
    have e : s = N := by omega
    subst e
    exact ⟨fun _ => hK, fun z => absurd (nI_le (Nat.le_refl _) (by omega)) z⟩
  | r + 1, s, hs => by
    unfold f_X11_sumOf_L5 f_X11_sumOf_B5
    rw [h44]
    refine ⟨fun z => absurd z (nI_ge (by omega) (by omega)), fun _ => ⟨4 + 1, ?_⟩⟩
    simp only [forall_eq, nI_1]
    have ih := so5 (EK := EK) (K := K) pk hpk hF h44 hN hv hK r (s + 1) (by omega)
    exact so17 (h := h s) (c := sumTo (fun s => sumTo (fun f => if pk f = true then h s f else 0) 4) s) pk hpk hF (by omega) (fun f hf => hv s f (by omega) hf) ih 4 0 (by omega)
theorem sumOf_ok {x1 x2 : Int32} {N : Nat} {h : Nat → Nat → Nat} {M : Mm} {K : Int64 → Mm → Prop} (pk : Nat → Bool) (hpk : ∀ f, f < 4 → (nI f &&& x1 = x2 ↔ pk f = true)) (hF : FX M) (h44 : M.1 142 44 = nI N) (hN : N ≤ 4000) (hv : ∀ s f, s < N → f < 4 → M.2.1 166 (4 * s + f) = lN (h s f)) (hK : K (lN (sumTo (fun s => sumTo (fun f => if pk f = true then h s f else 0) 4) N)) M) : f_X11_sumOf S0 142 x1 x2 M K := by
  unfold f_X11_sumOf
  exact ⟨N + 1, so5 pk hpk hF h44 hN hv hK N 0 (by omega)⟩
