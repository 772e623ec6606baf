/-! weights of runs: the class -/
theorem sh2 {a b : Nat} (ha : a < 4001) (hb : b < 4) : nI (4 * a + b) >>> ((2 : Int32) &&& 31) = nI a := by
  rw [pk_shrN (by omega) ((2 : Int32) &&& 31) 2 rfl]
  congr 1; omega
theorem bts_and : ∀ x y b1 b2 : Bool, (bts x y &&& bts b1 b2 = 0 ↔ (!(b1 && x) && !(b2 && y)) = true) := by decide
theorem led_and {a : Nat} {x y b1 b2 : Bool} (ha : a < 4001) : (nI (4 * a + bts x y) &&& nI (bts b1 b2)) = 0 ↔ (!(b1 && x) && !(b2 && y)) = true := by
  rw [and_nI]
  have h1 := bts_lt x y
  have h2 := bts_lt b1 b2
  have e : (4 * a + bts x y) &&& bts b1 b2 = bts x y &&& bts b1 b2 := by
    apply Nat.eq_of_testBit_eq
    intro j
    rw [Nat.testBit_and, Nat.testBit_and, show 4 * a = 2 ^ 2 * a from rfl, Nat.testBit_two_pow_mul_add _ (by omega)]
    by_cases hj : j < 2
    · rw [if_pos hj]
    · rw [if_neg hj, Nat.testBit_lt_two_pow (x := bts b1 b2) (Nat.lt_of_lt_of_le h2 (Nat.pow_le_pow_right (n := 2) (by omega) (show 2 ≤ j by omega))), Bool.and_false, Bool.and_false]
  rw [e, ← bts_and]
  have : bts x y &&& bts b1 b2 ≤ bts x y := Nat.and_le_left
  exact ⟨fun h => (nI_eq (by omega) (by omega)).mp (show nI _ = nI 0 from h), fun h => by rw [h]; rfl⟩
/-- the two rows of ways -/
def wy (M : Mm) (X Y : Nat) : Prop := M.2.2 10 8 = some X ∧ M.2.2 10 9 = some Y ∧ ((X = 111 ∧ Y = 112) ∨ (X = 112 ∧ Y = 111))
theorem wy_sh {M : Mm} {X Y : Nat} (h : wy M X Y) : S0[X]? = some (53, 4000) ∧ S0[Y]? = some (53, 4000) ∧ X ≠ Y := by
  rcases h.2.2 with ⟨rfl, rfl⟩ | ⟨rfl, rfl⟩
  · exact ⟨s0_111, s0_112, by omega⟩
  · exact ⟨s0_112, s0_111, by omega⟩
def SP (Y : Nat) (M0 M : Mm) : Prop := M.1 = M0.1 ∧ M.2.2 = M0.2.2 ∧ ∀ b, b ≠ Y → M.2.1 b = M0.2.1 b
theorem SP_st {Y k : Nat} {v : Int64} {M0 M : Mm} (h : SP Y M0 M) : SP Y M0 (stJ M Y k v) := ⟨h.1, h.2.1, fun b hb => by rw [stJ_row hb]; exact h.2.2 b hb⟩
theorem SP_tr {Y : Nat} {M M' M'' : Mm} (h : SP Y M M') (h' : SP Y M' M'') : SP Y M M'' := ⟨h'.1.trans h.1, h'.2.1.trans h.2.1, fun b hb => (h'.2.2 b hb).trans (h.2.2 b hb)⟩
/-- what the class's weighing reads -/
def WR (M : Mm) (G : Gx) (w ky T N E1 a3 : Nat) (wk : Nat → Nat) : Prop := FX M ∧ M.1 11 10 = nI T ∧ M.1 11 13 = nI ky ∧ T ≤ 4 ∧ ky < 5 ∧ w = T * (ky + 1) ∧ w ≤ 20 ∧ N ≤ 4000 ∧ E1 ≤ N ∧ M.1 10 10 = nI N ∧ (∀ k, k < E1 * w → M.1 110 k = nI (4 * gT G k + bts (gB G k) (gS G k)) ∧ gT G k < N) ∧ shp S0 a3 = some (50, 5) ∧ ∀ j, j < 5 → M.1 a3 j = nI (wk j) ∧ wk j < 10
theorem WR_ag {M M' : Mm} {G : Gx} {w ky T N E1 a3 : Nat} {wk : Nat → Nat} (h1 : M'.1 = M.1) (h2 : FX M') (h : WR M G w ky T N E1 a3 wk) : WR M' G w ky T N E1 a3 wk := by
  unfold WR at *
  rw [h1]
  exact ⟨h2, h.2⟩
theorem spr39 {b1 b2 : Bool} {G : Gx} {wt wk av : Nat → Nat} {w ky T N E1 s t X Y a3 Wv : Nat} {x5 : Int32} {M0 : Mm} {EK : Int32 → Mm → Prop} {K : Mm → Prop} (hR : WR M0 G w ky T N E1 a3 wk) (hXY : wy M0 X Y) (hs : s < E1) (ht : t < T) (hX : M0.2.1 X s = lN Wv) (hwt : ∀ m, wt m = wk (m % (ky + 1)))
    (hK : ∀ M', SP Y M0 M' → (∀ j, j < N → M'.2.1 Y j = lN (av j + Wv * DD b1 b2 G wt w s j ((t + 1) * (ky + 1)))) → EK (nI (s * w + (t + 1) * (ky + 1))) M') :
    ∀ (r key : Nat) (M : Mm), key + r = ky + 1 → SP Y M0 M → (∀ j, j < N → M.2.1 Y j = lN (av j + Wv * DD b1 b2 G wt w s j (t * (ky + 1) + key))) → f_X9_spread_L39 S0 10 (nI s) (nI (bts b1 b2)) a3 x5 EK K (r + 1) (nI (s * w + (t * (ky + 1) + key))) (nI key) M
  | 0, key, M, hk, hS, hv => by
    unfold f_X9_spread_L39 f_X9_spread_B39
    obtain ⟨r1, r2, r3, r4, r5, r6, r7, r8, r9, r10, r11, r12, r13⟩ := hR
    have hF : FX M := FX_ag hS.2.1 r1
    have k13 : M.1 11 13 = nI ky := by rw [hS.1]; exact r3
    have e : t * (ky + 1) + key = (t + 1) * (ky + 1) := by rw [Nat.add_mul]; omega
    simp only [fx_10_0 hF, ex_some, s0_11, true_and, k13]
    refine ⟨fun _ => ?_, fun z => absurd (nI_lt (by omega) (by omega)) z⟩
    rw [e] at hv ⊢
    exact hK M hS hv
  | r + 1, key, M, hk, hS, hv => by
    unfold f_X9_spread_L39 f_X9_spread_B39
    have hR' := hR
    obtain ⟨r1, r2, r3, r4, r5, r6, r7, r8, r9, r10, r11, r12, r13⟩ := hR'
    have hF : FX M := FX_ag hS.2.1 r1
    have k13 : M.1 11 13 = nI ky := by rw [hS.1]; exact r3
    obtain ⟨sX, sY, nXY⟩ := wy_sh hXY
    simp only [fx_10_0 hF, ex_some, s0_11, true_and, k13]
    refine ⟨fun z => absurd z (nI_nlt (by omega) (by omega)), fun _ => ?_⟩
    generalize hm : t * (ky + 1) + key = m
    have hmw : m < w := by
      have : (t + 1) * (ky + 1) ≤ T * (ky + 1) := Nat.mul_le_mul_right _ ht
      rw [← r6, Nat.add_mul] at this
      omega
    have hk1 : s * w + m < E1 * w := by
      have : (s + 1) * w ≤ E1 * w := Nat.mul_le_mul_right w hs
      rw [Nat.add_mul] at this; omega
    have hk2 : E1 * w ≤ 4000 * 20 := Nat.mul_le_mul (by omega) r7
    obtain ⟨e1, e2⟩ := r11 _ hk1
    have bl := bts_lt (gB G (s * w + m)) (gS G (s * w + m))
    have i110 : M.1 110 (s * w + m) = nI (4 * gT G (s * w + m) + bts (gB G (s * w + m)) (gS G (s * w + m))) := by rw [hS.1]; exact e1
    have hin : vp_in (nI (s * w + m)) 80000 := vp_in_nI (by omega) (by omega)
    have hcl : (nI (s * w + m)).toNatClampNeg = s * w + m := nI_clamp (by omega)
    have hin2 : vp_in (nI (gT G (s * w + m))) 4000 := vp_in_nI (by omega) (by omega)
    have hcl2 : (nI (gT G (s * w + m))).toNatClampNeg = gT G (s * w + m) := nI_clamp (by omega)
    have hin3 : vp_in (nI s) 4000 := vp_in_nI (by omega) (by omega)
    have hcl3 : (nI s).toNatClampNeg = s := nI_clamp (by omega)
    have hin4 : vp_in (nI key) 5 := vp_in_nI (by omega) (by omega)
    have hcl4 : (nI key).toNatClampNeg = key := nI_clamp (by omega)
    obtain ⟨a1, a2⟩ := r13 key (by omega)
    have ia3 : M.1 a3 key = nI (wk key) := by rw [hS.1]; exact a1
    have iX : M.2.1 X s = lN Wv := by rw [hS.2.2 X nXY]; exact hX
    have r98 : M.2.2 10 8 = some X := by rw [hS.2.1]; exact hXY.1
    have r99 : M.2.2 10 9 = some Y := by rw [hS.2.1]; exact hXY.2.1
    have iY := hv _ e2
    rw [hm] at hv iY
    simp only [fx_10_7 hF, ex_some, shp_ne (show (110 : Nat) ≠ 100000 by decide), s0_110, ex_sh, hin, hcl, true_and, forall_eq, i110, nI_1]
    rw [led_and (by omega), sh2 (by omega) bl]
    have hwm : wt m = wk key := by
      rw [hwt, ← hm, Nat.mul_comm, Nat.mul_add_mod, Nat.mod_eq_of_lt (by omega)]
    refine ⟨fun ho => ?_, fun ho => ?_⟩
    · simp only [r98, r99, ex_some, sX, sY, r12, ex_sh, hin2, hcl2, hin3, hcl3, hin4, hcl4, true_and, forall_eq, iX, ia3, iY]
      rw [nI_l (by omega), lN_mul, lN_add, show s * w + m + 1 = s * w + (t * (ky + 1) + (key + 1)) by omega]
      refine spr39 hR hXY hs ht hX hwt hK r (key + 1) _ (by omega) (SP_st hS) (fun j hj => ?_)
      rw [rJ, show t * (ky + 1) + (key + 1) = m + 1 by omega, DD_s]
      by_cases ej : j = gT G (s * w + m)
      · rw [if_pos ⟨rfl, ej⟩, if_pos ⟨ej.symm, ho⟩, hwm, ej, Nat.mul_add, Nat.add_assoc]
      · rw [if_neg (fun z => ej z.2), if_neg (fun z => ej z.1.symm), Nat.add_zero]; exact hv j hj
    · rw [show s * w + m + 1 = s * w + (t * (ky + 1) + (key + 1)) by omega]
      refine spr39 hR hXY hs ht hX hwt hK r (key + 1) M (by omega) hS (fun j hj => ?_)
      rw [show t * (ky + 1) + (key + 1) = m + 1 by omega, DD_s, if_neg (fun z => ho z.2), Nat.add_zero]
      exact hv j hj
theorem spr24 {b1 b2 : Bool} {G : Gx} {wt wk av : Nat → Nat} {w ky T N E1 s X Y a3 Wv : Nat} {M0 : Mm} {EK : Mm → Prop} {K : Mm → Prop} (hR : WR M0 G w ky T N E1 a3 wk) (hXY : wy M0 X Y) (hs : s < E1) (hX : M0.2.1 X s = lN Wv) (hwt : ∀ m, wt m = wk (m % (ky + 1)))
    (hK : ∀ M', SP Y M0 M' → (∀ j, j < N → M'.2.1 Y j = lN (av j + Wv * DD b1 b2 G wt w s j w)) → EK M') :
    ∀ (r t : Nat) (M : Mm), t + r = T → SP Y M0 M → (∀ j, j < N → M.2.1 Y j = lN (av j + Wv * DD b1 b2 G wt w s j (t * (ky + 1)))) → f_X9_spread_L24 S0 10 (nI s) (nI (bts b1 b2)) a3 EK K (r + 1) (nI (s * w + t * (ky + 1))) (nI t) M
  | 0, t, M, ht, hS, hv => by
    unfold f_X9_spread_L24 f_X9_spread_B24
    obtain ⟨r1, r2, r3, r4, r5, r6, r7, r8, r9, r10, r11, r12, r13⟩ := hR
    have hF : FX M := FX_ag hS.2.1 r1
    have k10 : M.1 11 10 = nI T := by rw [hS.1]; exact r2
    simp only [fx_10_0 hF, ex_some, s0_11, true_and, k10]
    have e : t = T := by omega
    subst e
    rw [← r6] at hv
    exact ⟨fun _ => hK M hS hv, fun z => absurd (nI_le (Nat.le_refl _) (by omega)) z⟩
  | r + 1, t, M, ht, hS, hv => by
    unfold f_X9_spread_L24 f_X9_spread_B24
    have hR' := hR
    obtain ⟨r1, r2, r3, r4, r5, r6, r7, r8, r9, r10, r11, r12, r13⟩ := hR'
    have hF : FX M := FX_ag hS.2.1 r1
    have k10 : M.1 11 10 = nI T := by rw [hS.1]; exact r2
    simp only [fx_10_0 hF, ex_some, s0_11, true_and, k10]
    refine ⟨fun z => absurd z (nI_ge (by omega) (by omega)), fun _ => ⟨ky + 1 + 1, ?_⟩⟩
    simp only [forall_eq, nI_1]
    exact spr39 (t := t) (av := av) hR hXY hs (by omega) hX hwt (fun M' S' v' => spr24 hR hXY hs hX hwt hK r (t + 1) M' (by omega) S' v') (ky + 1) 0 M (by omega) hS hv
theorem spread_ok {b1 b2 : Bool} {G : Gx} {wt wk av : Nat → Nat} {w ky T N E1 s X Y a3 Wv : Nat} {M : Mm} {K : Mm → Prop} (hR : WR M G w ky T N E1 a3 wk) (hXY : wy M X Y) (hs : s < E1) (hX : M.2.1 X s = lN Wv) (hwt : ∀ m, wt m = wk (m % (ky + 1))) (hv : ∀ j, j < N → M.2.1 Y j = lN (av j))
    (hK : ∀ M', SP Y M M' → (∀ j, j < N → M'.2.1 Y j = lN (av j + Wv * DD b1 b2 G wt w s j w)) → K M') : f_X9_spread S0 10 (nI s) (nI (bts b1 b2)) a3 M K := by
  unfold f_X9_spread
  have hR' := hR
  obtain ⟨r1, r2, r3, r4, r5, r6, r7, r8, r9, r10, r11, r12, r13⟩ := hR'
  simp only [fx_10_0 r1, ex_some, s0_11, true_and, r2, r3, nI_1, pk_mul, forall_eq]
  refine ⟨T + 1, ?_⟩
  have e : s * T * (ky + 1) = s * w + 0 * (ky + 1) := by rw [Nat.mul_assoc, ← r6]; omega
  rw [e]
  exact spr24 (av := av) hR hXY hs hX hwt hK T 0 M (by omega) ⟨rfl, rfl, fun _ _ => rfl⟩ (fun j hj => by
    rw [hv j hj, Nat.zero_mul]
    show _ = lN (av j + Wv * 0)
    rw [Nat.mul_zero, Nat.add_zero])
theorem ww45 {N X Y : Nat} {x1 x2 x4 : Int32} {a3 : Nat} {M0 : Mm} {EK : Mm → Prop} {K : Int64 → Mm → Prop} (h10 : M0.1 10 10 = nI N) (hN : N ≤ 4000) (hXY : wy M0 X Y) (hK : ∀ M', SP Y M0 M' → (∀ j, j < N → M'.2.1 Y j = 0) → EK M') :
    ∀ (r s : Nat) (M : Mm), s + r = N → SP Y M0 M → (∀ j, j < s → M.2.1 Y j = 0) → f_X9_weightWithout_L45 S0 10 x1 x2 a3 x4 EK K (r + 1) (nI s) M
  | 0, s, M, hs, hS, hv => by
    unfold f_X9_weightWithout_L45 f_X9_weightWithout_B45
    have e : s = N := by omega
    subst e
    rw [hS.1, h10]
    exact ⟨fun _ => hK M hS hv, fun z => absurd (nI_le (Nat.le_refl _) (by omega)) z⟩
  | r + 1, s, M, hs, hS, hv => by
    unfold f_X9_weightWithout_L45 f_X9_weightWithout_B45
    obtain ⟨sX, sY, nXY⟩ := wy_sh hXY
    have r99 : M.2.2 10 9 = some Y := by rw [hS.2.1]; exact hXY.2.1
    have i10 : M.1 10 10 = nI N := by rw [hS.1]; exact h10
    have hin3 : vp_in (nI s) 4000 := vp_in_nI (by omega) (by omega)
    have hcl3 : (nI s).toNatClampNeg = s := nI_clamp (by omega)
    rw [i10]
    refine ⟨fun z => absurd z (nI_ge (by omega) (by omega)), fun _ => ?_⟩
    simp only [r99, ex_some, sY, ex_sh, hin3, hcl3, true_and, forall_eq, nI_1]
    refine ww45 h10 hN hXY hK r (s + 1) _ (by omega) (SP_st hS) (fun j hj => ?_)
    rw [rJ]
    by_cases e : j = s
    · rw [if_pos ⟨rfl, e⟩]
    · rw [if_neg (fun z => e z.2)]; exact hv j (by omega)
theorem ww71 {b1 b2 : Bool} {G : Gx} {wt wk : Nat → Nat} {w ky T N E1 X Y a3 d : Nat} {x2 x4 : Int32} {M0 : Mm} {EK : Mm → Prop} {K : Int64 → Mm → Prop} (hR : WR M0 G w ky T N E1 a3 wk) (hXY : wy M0 X Y) (hwt : ∀ m, wt m = wk (m % (ky + 1))) (hX : ∀ s, s < N → M0.2.1 X s = lN (WW b1 b2 G wt w N d s)) (hsup : ∀ s, WW b1 b2 G wt w N d s ≠ 0 → s < E1) (hbd : ∀ s, s < N → WW b1 b2 G wt w N d s < 2 ^ 63)
    (hK : ∀ M', SP Y M0 M' → (∀ j, j < N → M'.2.1 Y j = lN (WW b1 b2 G wt w N (d + 1) j)) → EK M') :
    ∀ (r s : Nat) (M : Mm), s + r = N → SP Y M0 M → (∀ j, j < N → M.2.1 Y j = lN (sumTo (fun s => WW b1 b2 G wt w N d s * DD b1 b2 G wt w s j w) s)) → f_X9_weightWithout_L71 S0 10 (nI (bts b1 b2)) x2 a3 x4 EK K (r + 1) (nI s) M
  | 0, s, M, hs, hS, hv => by
    unfold f_X9_weightWithout_L71 f_X9_weightWithout_B71
    obtain ⟨r1, r2, r3, r4, r5, r6, r7, r8, r9, r10, r11, r12, r13⟩ := hR
    have e : s = N := by omega
    subst e
    rw [hS.1, r10]
    exact ⟨fun _ => hK M hS hv, fun z => absurd (nI_le (Nat.le_refl _) (by omega)) z⟩
  | r + 1, s, M, hs, hS, hv => by
    unfold f_X9_weightWithout_L71 f_X9_weightWithout_B71
    have hR' := hR
    obtain ⟨r1, r2, r3, r4, r5, r6, r7, r8, r9, r10, r11, r12, r13⟩ := hR'
    obtain ⟨sX, sY, nXY⟩ := wy_sh hXY
    have r98 : M.2.2 10 8 = some X := by rw [hS.2.1]; exact hXY.1
    have i10 : M.1 10 10 = nI N := by rw [hS.1]; exact r10
    have iX : M.2.1 X s = lN (WW b1 b2 G wt w N d s) := by rw [hS.2.2 X nXY]; exact hX s (by omega)
    have hin3 : vp_in (nI s) 4000 := vp_in_nI (by omega) (by omega)
    have hcl3 : (nI s).toNatClampNeg = s := nI_clamp (by omega)
    have hb := hbd s (by omega)
    rw [i10]
    refine ⟨fun z => absurd z (nI_ge (by omega) (by omega)), fun _ => ?_⟩
    simp only [r98, ex_some, sX, ex_sh, hin3, hcl3, true_and, forall_eq, nI_1, iX]
    refine ⟨fun z => ?_, fun z => ?_⟩
    · have e0 : WW b1 b2 G wt w N d s = 0 := (lN_eq64 (by omega) (by omega)).mp (show lN _ = lN 0 from z)
      refine ww71 hR hXY hwt hX hsup hbd hK r (s + 1) M (by omega) hS (fun j hj => ?_)
      show _ = lN (sumTo (fun s => WW b1 b2 G wt w N d s * DD b1 b2 G wt w s j w) s + WW b1 b2 G wt w N d s * DD b1 b2 G wt w s j w)
      rw [e0, Nat.zero_mul, Nat.add_zero]
      exact hv j hj
    · have e0 : WW b1 b2 G wt w N d s ≠ 0 := fun e => z (by rw [e]; rfl)
      refine spread_ok (av := fun j => sumTo (fun s => WW b1 b2 G wt w N d s * DD b1 b2 G wt w s j w) s) (WR_ag hS.1 (FX_ag hS.2.1 r1) hR) ⟨r98, by rw [hS.2.1]; exact hXY.2.1, hXY.2.2⟩ (hsup s e0) iX hwt hv (fun M' S' v' => ?_)
      exact ww71 hR hXY hwt hX hsup hbd hK r (s + 1) M' (by omega) (SP_tr hS S') v'
def SWp (M0 M : Mm) : Prop := M.1 = M0.1 ∧ (∀ b, b ≠ 111 → b ≠ 112 → M.2.1 b = M0.2.1 b) ∧ ∀ b j, ¬ (b = 10 ∧ (j = 8 ∨ j = 9)) → M.2.2 b j = M0.2.2 b j
theorem fins10 : ∀ q ∈ fins, ¬ (q.1 = 10 ∧ (q.2.1 = 8 ∨ q.2.1 = 9)) := by decide +kernel
theorem FX_sw {M m : Mm} (h : ∀ b j, ¬ (b = 10 ∧ (j = 8 ∨ j = 9)) → m.2.2 b j = M.2.2 b j) (hF : FX M) : FX m := fun q hq => by
  rw [h q.1 q.2.1 (fins10 q hq)]; exact hF q hq
theorem SP_sw {M0 M M' : Mm} {X Y : Nat} (h : SWp M0 M) (hy : Y = 111 ∨ Y = 112) (h' : SP Y M M') : SWp M0 M' := ⟨h'.1.trans h.1, fun b b1 b2 => (h'.2.2 b (by omega)).trans (h.2.1 b b1 b2), fun b j hbj => by rw [h'.2.1]; exact h.2.2 b j hbj⟩
theorem ww36 {b1 b2 : Bool} {G : Gx} {wt wk : Nat → Nat} {w ky T N E1 a3 n : Nat} {M0 : Mm} {EK : Mm → Prop} {K : Int64 → Mm → Prop} (hR : WR M0 G w ky T N E1 a3 wk) (hn : n ≤ 20) (hwt : ∀ m, wt m = wk (m % (ky + 1))) (hsup : ∀ d, d < n → ∀ s, WW b1 b2 G wt w N d s ≠ 0 → s < E1) (hbd : ∀ d, d < n → ∀ s, s < N → WW b1 b2 G wt w N d s < 2 ^ 63)
    (hK : ∀ M' X Y, SWp M0 M' → wy M' X Y → (∀ s, s < N → M'.2.1 X s = lN (WW b1 b2 G wt w N n s)) → EK M') :
    ∀ (r d X Y : Nat) (M : Mm), d + r = n → SWp M0 M → wy M X Y → (∀ s, s < N → M.2.1 X s = lN (WW b1 b2 G wt w N d s)) → f_X9_weightWithout_L36 S0 10 (nI (bts b1 b2)) (nI n) a3 EK K (r + 1) (nI d) M
  | 0, d, X, Y, M, hd, hS, hXY, hv => by
    unfold f_X9_weightWithout_L36 f_X9_weightWithout_B36
    have e : d = n := by omega
    subst e
    exact ⟨fun _ => hK M X Y hS hXY hv, fun z => absurd (nI_le (Nat.le_refl _) (by omega)) z⟩
  | r + 1, d, X, Y, M, hd, hS, hXY, hv => by
    unfold f_X9_weightWithout_L36 f_X9_weightWithout_B36
    have hRM : WR M G w ky T N E1 a3 wk := WR_ag hS.1 (FX_sw hS.2.2 hR.1) hR
    obtain ⟨r1, r2, r3, r4, r5, r6, r7, r8, r9, r10, r11, r12, r13⟩ := hRM
    obtain ⟨sX, sY, nXY⟩ := wy_sh hXY
    have hy : Y = 111 ∨ Y = 112 := by rcases hXY.2.2 with z | z <;> omega
    refine ⟨fun z => absurd z (nI_ge (by omega) (by omega)), fun _ => ⟨N + 1, ?_⟩⟩
    refine ww45 r10 r8 hXY (fun M1 S1 v1 => ⟨N + 1, ?_⟩) N 0 M (by omega) ⟨rfl, rfl, fun _ _ => rfl⟩ (fun j hj => absurd hj (by omega))
    have hXY1 : wy M1 X Y := ⟨by rw [S1.2.1]; exact hXY.1, by rw [S1.2.1]; exact hXY.2.1, hXY.2.2⟩
    refine ww71 (d := d) (WR_ag S1.1 (FX_ag S1.2.1 r1) (WR_ag hS.1 r1 hR)) hXY1 hwt (fun s hs => by rw [S1.2.2 X nXY]; exact hv s hs) (hsup d (by omega)) (hbd d (by omega)) (fun M2 S2 v2 => ?_) N 0 M1 (by omega) ⟨rfl, rfl, fun _ _ => rfl⟩ (fun j hj => by rw [v1 j hj]; rfl)
    have hXY2 : wy M2 X Y := ⟨by rw [S2.2.1]; exact hXY1.1, by rw [S2.2.1]; exact hXY1.2.1, hXY1.2.2⟩
    simp only [hXY2.1, hXY2.2.1, ex_some, forall_eq, nI_1]
    have hS2 : SWp M0 M2 := SP_sw (X := X) (SP_sw (X := X) hS hy S1) hy S2
    refine ww36 hR hn hwt hsup hbd hK r (d + 1) Y X _ (by omega) ⟨hS2.1, hS2.2.1, fun b j hbj => ?_⟩ ⟨?_, ?_, ?_⟩ v2
    · rw [rR, if_neg (fun z => hbj ⟨z.1, by omega⟩), rR, if_neg (fun z => hbj ⟨z.1, by omega⟩)]; exact hS2.2.2 b j hbj
    · rw [rR, if_neg (by omega), rR, if_pos ⟨rfl, rfl⟩]
    · rw [rR, if_pos ⟨rfl, rfl⟩]
    · rcases hXY.2.2 with z | z <;> omega
theorem ww138 {N X Y : Nat} {f : Nat → Nat} {M : Mm} {EK K : Int64 → Mm → Prop} (h10 : M.1 10 10 = nI N) (hN : N ≤ 4000) (hXY : wy M X Y) (hv : ∀ s, s < N → M.2.1 X s = lN (f s)) (hK : EK (lN (sumTo f N)) M) :
    ∀ (r s : Nat), s + r = N → f_X9_weightWithout_L138 S0 10 EK K (r + 1) (lN (sumTo f s)) (nI s) M
  | 0, s, hs => by
    unfold f_X9_weightWithout_L138 f_X9_weightWithout_B138
    have e : s = N := by omega
    subst e
    rw [h10]
    exact ⟨fun _ => hK, fun z => absurd (nI_le (Nat.le_refl _) (by omega)) z⟩
  | r + 1, s, hs => by
    unfold f_X9_weightWithout_L138 f_X9_weightWithout_B138
    obtain ⟨sX, sY, nXY⟩ := wy_sh hXY
    have hin3 : vp_in (nI s) 4000 := vp_in_nI (by omega) (by omega)
    have hcl3 : (nI s).toNatClampNeg = s := nI_clamp (by omega)
    rw [h10]
    refine ⟨fun z => absurd z (nI_ge (by omega) (by omega)), fun _ => ?_⟩
    simp only [hXY.1, ex_some, sX, ex_sh, hin3, hcl3, true_and, forall_eq, nI_1, hv s (by omega), lN_add]
    exact ww138 (EK := EK) (K := K) h10 hN hXY hv hK r (s + 1) (by omega)
theorem ww3 {N X Y : Nat} {x1 x2 : Int32} {a3 : Nat} {M0 : Mm} {EK : Mm → Prop} {K : Int64 → Mm → Prop} (h10 : M0.1 10 10 = nI N) (hN : N ≤ 4000) (hXY : wy M0 X Y) (hK : ∀ M', SP X M0 M' → (∀ j, j < N → M'.2.1 X j = 0) → EK M') :
    ∀ (r s : Nat) (M : Mm), s + r = N → SP X M0 M → (∀ j, j < s → M.2.1 X j = 0) → f_X9_weightWithout_L3 S0 10 x1 x2 a3 EK K (r + 1) (nI s) M
  | 0, s, M, hs, hS, hv => by
    unfold f_X9_weightWithout_L3 f_X9_weightWithout_B3
    have e : s = N := by omega
    subst e
    rw [hS.1, h10]
    exact ⟨fun _ => hK M hS hv, fun z => absurd (nI_le (Nat.le_refl _) (by omega)) z⟩
  | r + 1, s, M, hs, hS, hv => by
    unfold f_X9_weightWithout_L3 f_X9_weightWithout_B3
    obtain ⟨sX, sY, nXY⟩ := wy_sh hXY
    have r98 : M.2.2 10 8 = some X := by rw [hS.2.1]; exact hXY.1
    have i10 : M.1 10 10 = nI N := by rw [hS.1]; exact h10
    have hin3 : vp_in (nI s) 4000 := vp_in_nI (by omega) (by omega)
    have hcl3 : (nI s).toNatClampNeg = s := nI_clamp (by omega)
    rw [i10]
    refine ⟨fun z => absurd z (nI_ge (by omega) (by omega)), fun _ => ?_⟩
    simp only [r98, ex_some, sX, ex_sh, hin3, hcl3, true_and, forall_eq, nI_1]
    refine ww3 h10 hN hXY hK r (s + 1) _ (by omega) (SP_st hS) (fun j hj => ?_)
    rw [rJ]
    by_cases e : j = s
    · rw [if_pos ⟨rfl, e⟩]
    · rw [if_neg (fun z => e z.2)]; exact hv j (by omega)
/-- the class's weight of all runs without the bits -/
theorem ww_ok {b1 b2 : Bool} {G : Gx} {wt wk : Nat → Nat} {w ky T N E1 a3 n : Nat} {bits : Int32} {M : Mm} {K : Int64 → Mm → Prop} (hbits : bits = nI (bts b1 b2)) (hR : WR M G w ky T N E1 a3 wk) (hN : 0 < N) (hwy : ∃ X Y, wy M X Y) (hn : n ≤ 20) (hwt : ∀ m, wt m = wk (m % (ky + 1))) (hsup : ∀ d, d < n → ∀ s, WW b1 b2 G wt w N d s ≠ 0 → s < E1) (hbd : ∀ d, d < n → ∀ s, s < N → WW b1 b2 G wt w N d s < 2 ^ 63)
    (hK : ∀ M', SWp M M' → (∃ X Y, wy M' X Y) → K (lN (sumTo (WW b1 b2 G wt w N n) N)) M') : f_X9_weightWithout S0 10 bits (nI n) a3 M K := by
  unfold f_X9_weightWithout
  subst hbits
  obtain ⟨X, Y, hXY⟩ := hwy
  have hR' := hR
  obtain ⟨r1, r2, r3, r4, r5, r6, r7, r8, r9, r10, r11, r12, r13⟩ := hR'
  obtain ⟨sX, sY, nXY⟩ := wy_sh hXY
  have hx : X = 111 ∨ X = 112 := by rcases hXY.2.2 with z | z <;> omega
  have hin0 : vp_in (0 : Int32) 4000 := by unfold vp_in; decide
  have hcl0 : (0 : Int32).toNatClampNeg = 0 := by decide
  refine ⟨N + 1, ww3 r10 r8 hXY (fun M1 S1 v1 => ?_) N 0 M (by omega) ⟨rfl, rfl, fun _ _ => rfl⟩ (fun j hj => absurd hj (by omega))⟩
  have r98 : M1.2.2 10 8 = some X := by rw [S1.2.1]; exact hXY.1
  simp only [r98, ex_some, sX, ex_sh, hin0, hcl0, true_and, forall_eq]
  have S2 : SP X M (stJ M1 X 0 1) := SP_st S1
  have S2' : SWp M (stJ M1 X 0 1) := SP_sw (X := X) (M := M) ⟨rfl, fun _ _ _ => rfl, fun _ _ _ => rfl⟩ hx S2
  refine ⟨n + 1, ww36 hR hn hwt hsup hbd (fun M3 X3 Y3 S3 hXY3 v3 => ⟨N + 1, ?_⟩) n 0 X Y _ (by omega) S2' ⟨by rw [S2.2.1]; exact hXY.1, by rw [S2.2.1]; exact hXY.2.1, hXY.2.2⟩ (fun s hs => ?_)⟩
  · rw [rJ]
    show _ = lN (if s = 0 then 1 else 0)
    by_cases e : s = 0
    · rw [if_pos ⟨rfl, e⟩, if_pos e]; rfl
    · rw [if_neg (fun z => e z.2), if_neg e]; exact v1 s hs
  · exact ww138 (f := WW b1 b2 G wt w N n) (by rw [S3.1]; exact r10) r8 hXY3 v3 (hK M3 S3 ⟨X3, Y3, hXY3⟩) N 0 (by omega)
