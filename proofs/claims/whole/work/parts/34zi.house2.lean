/-! houses: the model's weeks; given, letter, knew, enough -/
def d184 : Nat → Nat → Bool := fun b _ => b == 184
theorem HMo_fr {D : Nat → Nat → Bool} {E : Nat → Bool} {M M' : Mm} {nc nl : Nat} {H : HX} (f : Fr D E M M') (h1 : D 142 70 = false) (h2 : D 142 74 = false) (h3 : ∀ a j, 177 ≤ a → a ≤ 183 → D a j = false) (h : HMo M nc nl H) : HMo M' nc nl H := by
  obtain ⟨a1, a2, a3, a4, a5, a6⟩ := h
  refine ⟨a1, a2, (f.1 _ _ h1).trans a3, (f.1 _ _ h2).trans a4, fun j hj => ?_, fun j hj => ?_⟩
  · obtain ⟨b1, b2, b3, b4⟩ := a5 j hj
    exact ⟨(f.1 _ _ (h3 _ _ (by omega) (by omega))).trans b1, (f.1 _ _ (h3 _ _ (by omega) (by omega))).trans b2, (f.1 _ _ (h3 _ _ (by omega) (by omega))).trans b3, b4⟩
  · obtain ⟨b1, b2, b3, b4, b5⟩ := a6 j hj
    refine ⟨(f.1 _ _ (h3 _ _ (by omega) (by omega))).trans b1, (f.1 _ _ (h3 _ _ (by omega) (by omega))).trans b2, (f.1 _ _ (h3 _ _ (by omega) (by omega))).trans b3, ?_, b5⟩
    rw [f.1 182 j (h3 _ _ (by omega) (by omega)), f.1 183 j (h3 _ _ (by omega) (by omega))]; exact b4
theorem HMo_184 {M M' : Mm} {nc nl : Nat} {H : HX} (f : Fr d184 eN M M') (h : HMo M nc nl H) : HMo M' nc nl H :=
  HMo_fr f rfl rfl (fun a j h1 h2 => by unfold d184; simp only [beq_eq_false_iff_ne]; omega) h
/-- the model's weeks -/
def SCf (M : Mm) (nc : Nat) (g : Nat → Nat → Nat) : Prop := ∀ h, h < 6 → ∀ c, c < nc → M.1 184 (12 * h + c) = nI (g h c) ∧ g h c ≤ 1000
def g0 (H : HX) (h c : Nat) : Nat := if hch H c = h then hcw H c else 1000
theorem ix12 (h c : Nat) : (12 : Int32) * nI h + nI c = nI (12 * h + c) := by rw [show (12 : Int32) = nI 12 from rfl, pk_mul, nI_add]
theorem tel10 {nc nl h : Nat} {H : HX} {M0 : Mm} {EK K : Mm → Prop} (hF0 : FX M0) (hS0 : HMo M0 nc nl H) (hh : h < 6) (hK : ∀ M', Fr d184 eN M0 M' → (∀ h', h' < h + 1 → ∀ c, c < nc → M'.1 184 (12 * h' + c) = nI (g0 H h' c)) → EK M') :
    ∀ (r c : Nat) (M : Mm), c + r = nc → Fr d184 eN M0 M → (∀ h', h' < h → ∀ c, c < nc → M.1 184 (12 * h' + c) = nI (g0 H h' c)) → (∀ c', c' < c → M.1 184 (12 * h + c') = nI (g0 H h c')) → f_X11_tells_L10 S0 142 (nI h) EK K (r + 1) (nI c) M
  | 0, c, M, hc, hf, h1, h2 => by
    unfold f_X11_tells_L10 f_X11_tells_B10
    have e : c = nc := by omega
    subst e
    have := hS0.1
    rw [(HMo_184 hf hS0).2.2.1]
    refine ⟨fun _ => hK M hf (fun h' hh' c' hc' => ?_), fun z => absurd (nI_le (Nat.le_refl _) (by omega)) z⟩
    rcases Nat.lt_or_ge h' h with z | z
    · exact h1 h' z c' hc'
    · rw [show h' = h by omega]; exact h2 c' hc'
  | r + 1, c, M, hc, hf, h1, h2 => by
    unfold f_X11_tells_L10 f_X11_tells_B10
    have hS := HMo_184 hf hS0
    have hF := FX_fr hf hF0
    have n12 := hS.1
    rw [hS.2.2.1]
    refine ⟨fun z => absurd z (nI_ge (by omega) (by omega)), fun _ => ?_⟩
    obtain ⟨c1, c2, c3, c4, c5, c6⟩ := hS.2.2.2.2.1 c (by omega)
    have hin : vp_in (nI c) 12 := vp_in_nI (by omega) (by omega)
    have hcl : (nI c).toNatClampNeg = c := nI_clamp (by omega)
    have hin2 : vp_in (nI (12 * h + c)) 72 := vp_in_nI (by omega) (by omega)
    have hcl2 : (nI (12 * h + c)).toNatClampNeg = 12 * h + c := nI_clamp (by omega)
    simp only [fx_142_79 hF, fx_142_71 hF, fx_142_72 hF, ex_some, shp_ne (show (177 : Nat) ≠ 100000 by decide), shp_ne (show (178 : Nat) ≠ 100000 by decide), s0_177, s0_178, s0_184, ex_sh, hin, hcl, ix12, hin2, hcl2, true_and, forall_eq, nI_1, c1, c2]
    rw [nI_eq (by omega) (by omega)]
    have go : ∀ v, v = g0 H h c → f_X11_tells_L10 S0 142 (nI h) EK K (r + 1) (nI (c + 1)) (stI M 184 (12 * h + c) (nI v)) := by
      intro v hv
      refine tel10 hF0 hS0 hh hK r (c + 1) _ (by omega) (Fr_I rfl hf) (fun h' hh' c' hc' => ?_) (fun c' hc' => ?_)
      · rw [rI_ne (by omega)]; exact h1 h' hh' c' hc'
      · rw [rI]
        by_cases e : c' = c
        · rw [if_pos ⟨rfl, by rw [e]⟩, hv, e]
        · rw [if_neg (by omega)]; exact h2 c' (by omega)
    refine ⟨fun e => go _ (by unfold g0; rw [if_pos e]), fun e => ?_⟩
    exact go 1000 (by unfold g0; rw [if_neg e])
theorem tel2 {nc nl : Nat} {H : HX} {M0 : Mm} {EK K : Mm → Prop} (hF0 : FX M0) (hS0 : HMo M0 nc nl H) (hK : ∀ M', Fr d184 eN M0 M' → (∀ h', h' < 6 → ∀ c, c < nc → M'.1 184 (12 * h' + c) = nI (g0 H h' c)) → EK M') :
    ∀ (r h : Nat) (M : Mm), h + r = 6 → Fr d184 eN M0 M → (∀ h', h' < h → ∀ c, c < nc → M.1 184 (12 * h' + c) = nI (g0 H h' c)) → f_X11_tells_L2 S0 142 EK K (r + 1) (nI h) M
  | 0, h, M, hh, hf, h1 => by
    unfold f_X11_tells_L2 f_X11_tells_B2
    have e : h = 6 := by omega
    subst e
    exact ⟨fun _ => hK M hf h1, fun z => absurd (show nI 6 ≤ nI 6 from nI_le (Nat.le_refl _) (by omega)) z⟩
  | r + 1, h, M, hh, hf, h1 => by
    unfold f_X11_tells_L2 f_X11_tells_B2
    refine ⟨fun z => absurd (show nI 6 ≤ nI h from z) (nI_ge (by omega) (by omega)), fun _ => ⟨nc + 1, ?_⟩⟩
    simp only [forall_eq, nI_1]
    exact tel10 (FX_fr hf hF0) (HMo_184 hf hS0) (by omega) (fun M' f' g' => tel2 hF0 hS0 hK r (h + 1) M' (by omega) (Fr_tr hf f') g') nc 0 M (by omega) (Fr_refl _ _ _) h1 (fun c' hc' => absurd hc' (by omega))
/-- what holds of the weeks: none is wrong, cases are known from their week on -/
def GB (H : HX) (nc nl : Nat) (g : Nat → Nat → Nat) : Prop := ∀ h, h < 6 → ∀ c, c < nc → (g h c = 1000 ∨ kq H nl h (g h c) c) ∧ (hch H c = h → g h c ≤ hcw H c)
def GD (H : HX) (nc nl r : Nat) (g : Nat → Nat → Nat) : Prop := ∀ i, i < nl → ∀ c, c < nc → tq H nl r i c → g (hlr H i) c ≤ hlc H i
theorem tel85 {nc nl l rd : Nat} {H : HX} {x1 : Int32} {M0 : Mm} {EK K : Mm → Prop} (hF0 : FX M0) (hS0 : HMo M0 nc nl H) (hl : l < nl) (hK : ∀ M' g', Fr d184 eN M0 M' → SCf M' nc g' → GB H nc nl g' → GD H nc nl rd g' → (∀ l', l' < l + 1 → ∀ c, c < nc → tq H nl (rd + 1) l' c → g' (hlr H l') c ≤ hlc H l') → EK M') :
    ∀ (r c : Nat) (g : Nat → Nat → Nat) (M : Mm), c + r = nc → Fr d184 eN M0 M → SCf M nc g → GB H nc nl g → GD H nc nl rd g → (∀ l', l' < l → ∀ c, c < nc → tq H nl (rd + 1) l' c → g (hlr H l') c ≤ hlc H l') → (∀ c', c' < c → tq H nl (rd + 1) l c' → g (hlr H l) c' ≤ hlc H l) → f_X11_tells_L85 S0 142 x1 (nI l) EK K (r + 1) (nI c) M
  | 0, c, g, M, hc, hf, hs, hB, hD, h1, h2 => by
    unfold f_X11_tells_L85 f_X11_tells_B85
    have e : c = nc := by omega
    subst e
    have := hS0.1
    rw [(HMo_184 hf hS0).2.2.1]
    refine ⟨fun _ => hK M g hf hs hB hD (fun l' hl' c' hc' hq => ?_), fun z => absurd (nI_le (Nat.le_refl _) (by omega)) z⟩
    rcases Nat.lt_or_ge l' l with z | z
    · exact h1 l' z c' hc' hq
    · have e : l' = l := by omega
      subst e; exact h2 c' hc' hq
  | r + 1, c, g, M, hc, hf, hs, hB, hD, h1, h2 => by
    unfold f_X11_tells_L85 f_X11_tells_B85
    have hS := HMo_184 hf hS0
    have hF := FX_fr hf hF0
    have n12 := hS.1
    have m12 := hS.2.1
    rw [hS.2.2.1]
    refine ⟨fun z => absurd z (nI_ge (by omega) (by omega)), fun _ => ?_⟩
    obtain ⟨l1, l2, l3, l4, l5, l6, l7, l8⟩ := hS.2.2.2.2.2 l hl
    obtain ⟨s1, s2⟩ := hs (hls H l) l5 c (by omega)
    obtain ⟨s3, s4⟩ := hs (hlr H l) l6 c (by omega)
    have hin : vp_in (nI l) 12 := vp_in_nI (by omega) (by omega)
    have hcl : (nI l).toNatClampNeg = l := nI_clamp (by omega)
    have hin2 : vp_in (nI (12 * hls H l + c)) 72 := vp_in_nI (by omega) (by omega)
    have hcl2 : (nI (12 * hls H l + c)).toNatClampNeg = 12 * hls H l + c := nI_clamp (by omega)
    have hin3 : vp_in (nI (12 * hlr H l + c)) 72 := vp_in_nI (by omega) (by omega)
    have hcl3 : (nI (12 * hlr H l + c)).toNatClampNeg = 12 * hlr H l + c := nI_clamp (by omega)
    simp only [fx_142_79 hF, fx_142_75 hF, fx_142_76 hF, fx_142_77 hF, fx_142_78 hF, ex_some, shp_ne (show (180 : Nat) ≠ 100000 by decide), shp_ne (show (181 : Nat) ≠ 100000 by decide), shp_ne (show (182 : Nat) ≠ 100000 by decide), shp_ne (show (183 : Nat) ≠ 100000 by decide), shp_ne (show (184 : Nat) ≠ 100000 by decide), s0_180, s0_181, s0_182, s0_183, s0_184, ex_sh, hin, hcl, l4, l1, l2, ix12, hin2, hcl2, hin3, hcl3, true_and, forall_eq, nI_1, s1, s3]
    rw [l3, nI_ltI (by omega) (by omega)]
    refine ⟨fun z => ?_, fun z => ?_⟩
    · refine tel85 hF0 hS0 hl hK r (c + 1) g M (by omega) hf hs hB hD h1 (fun c' hc' hq => ?_)
      rcases Nat.lt_or_ge c' c with y | y
      · exact h2 c' y hq
      · have e : c' = c := by omega
        subst e
        exfalso
        rcases tq_s.mp hq with ⟨q1, q2⟩ | ⟨i', q1, q2, q3, q4⟩
        · have := (hB (hls H l) l5 c' (by omega)).2 q1; omega
        · have := hD i' q1 c' (by omega) q4
          rw [q2] at this; omega
    · have ev : (if nI (hlc H l) < nI (g (hlr H l) c) then nI (hlc H l) else nI (g (hlr H l) c)) = nI (min (hlc H l) (g (hlr H l) c)) := by
        by_cases e : hlc H l < g (hlr H l) c
        · rw [if_pos (nI_lt e (by omega)), Nat.min_eq_left (by omega)]
        · rw [if_neg (nI_nlt (by omega) (by omega)), Nat.min_eq_right (by omega)]
      rw [ev]
      have hTL : ∃ k, tq H nl k l c := by
        rw [tq_fix]
        rcases (hB (hls H l) l5 c (by omega)).1 with q | q
        · omega
        · exact kq_mono (by omega) q
      obtain ⟨g', hg'⟩ : ∃ g' : Nat → Nat → Nat, ∀ h c', g' h c' = if h = hlr H l ∧ c' = c then min (hlc H l) (g (hlr H l) c) else g h c' := ⟨_, fun _ _ => rfl⟩
      have gle : ∀ h c', g' h c' ≤ g h c' := by
        intro h c'
        rw [hg']
        by_cases e : h = hlr H l ∧ c' = c
        · rw [if_pos e, e.1, e.2]; exact Nat.min_le_right _ _
        · rw [if_neg e]; exact Nat.le_refl _
      refine tel85 hF0 hS0 hl hK r (c + 1) g' _ (by omega) (Fr_I rfl hf) (fun h hh c' hc' => ?_) (fun h hh c' hc' => ⟨?_, fun q => Nat.le_trans (gle h c') ((hB h hh c' hc').2 q)⟩) (fun i hi c' hc' hq => Nat.le_trans (gle _ _) (hD i hi c' hc' hq)) (fun l' hl' c' hc' hq => Nat.le_trans (gle _ _) (h1 l' hl' c' hc' hq)) (fun c' hc' hq => ?_)
      · rw [rI, hg']
        by_cases e : h = hlr H l ∧ c' = c
        · rw [if_pos ⟨rfl, by rw [e.1, e.2]⟩, if_pos e]
          exact ⟨rfl, Nat.le_trans (Nat.min_le_right _ _) s4⟩
        · rw [if_neg (by omega), if_neg e]; exact hs h hh c' hc'
      · rw [hg']
        by_cases e : h = hlr H l ∧ c' = c
        · rw [if_pos e]
          rcases Nat.lt_or_ge (hlc H l) (g (hlr H l) c) with y | y
          · rw [Nat.min_eq_left (by omega)]
            refine Or.inr (Or.inr ⟨l, hl, e.1.symm, Nat.le_refl _, ?_⟩)
            rw [e.2]; exact hTL
          · rw [Nat.min_eq_right (by omega)]
            have := (hB (hlr H l) l6 c (by omega)).1
            rw [e.1, e.2]; exact this
        · rw [if_neg e]; exact (hB h hh c' hc').1
      · rcases Nat.lt_or_ge c' c with y | y
        · exact Nat.le_trans (gle _ _) (h2 c' y hq)
        · have e : c' = c := by omega
          rw [hg', if_pos ⟨rfl, e⟩]
          exact Nat.min_le_left _ _
theorem tel75 {nc nl rd : Nat} {H : HX} {x1 : Int32} {M0 : Mm} {EK K : Mm → Prop} (hF0 : FX M0) (hS0 : HMo M0 nc nl H) (hK : ∀ M' g', Fr d184 eN M0 M' → SCf M' nc g' → GB H nc nl g' → GD H nc nl (rd + 1) g' → EK M') :
    ∀ (r l : Nat) (g : Nat → Nat → Nat) (M : Mm), l + r = nl → Fr d184 eN M0 M → SCf M nc g → GB H nc nl g → GD H nc nl rd g → (∀ l', l' < l → ∀ c, c < nc → tq H nl (rd + 1) l' c → g (hlr H l') c ≤ hlc H l') → f_X11_tells_L75 S0 142 x1 EK K (r + 1) (nI l) M
  | 0, l, g, M, hl, hf, hs, hB, hD, h1 => by
    unfold f_X11_tells_L75 f_X11_tells_B75
    have e : l = nl := by omega
    subst e
    have := hS0.2.1
    rw [(HMo_184 hf hS0).2.2.2.1]
    exact ⟨fun _ => hK M g hf hs hB (fun i hi => h1 i hi), fun z => absurd (nI_le (Nat.le_refl _) (by omega)) z⟩
  | r + 1, l, g, M, hl, hf, hs, hB, hD, h1 => by
    unfold f_X11_tells_L75 f_X11_tells_B75
    have n12 := hS0.2.1
    rw [(HMo_184 hf hS0).2.2.2.1]
    refine ⟨fun z => absurd z (nI_ge (by omega) (by omega)), fun _ => ⟨nc + 1, ?_⟩⟩
    simp only [forall_eq, nI_1]
    exact tel85 (rd := rd) (FX_fr hf hF0) (HMo_184 hf hS0) (by omega) (fun M' g' f' s' B' D' q' => tel75 hF0 hS0 hK r (l + 1) g' M' (by omega) (Fr_tr hf f') s' B' D' q') nc 0 g M (by omega) (Fr_refl _ _ _) hs hB hD h1 (fun c' hc' => absurd hc' (by omega))
theorem tel65 {nc nl : Nat} {H : HX} {M0 : Mm} {EK K : Mm → Prop} (hF0 : FX M0) (hS0 : HMo M0 nc nl H) (hK : ∀ M' g', Fr d184 eN M0 M' → SCf M' nc g' → GB H nc nl g' → GD H nc nl (nl + 1) g' → EK M') :
    ∀ (r t : Nat) (g : Nat → Nat → Nat) (M : Mm), t + r = nl + 1 → Fr d184 eN M0 M → SCf M nc g → GB H nc nl g → GD H nc nl t g → f_X11_tells_L65 S0 142 EK K (r + 1) (nI t) M
  | 0, t, g, M, ht, hf, hs, hB, hD => by
    unfold f_X11_tells_L65 f_X11_tells_B65
    have e : t = nl + 1 := by omega
    subst e
    have := hS0.2.1
    rw [(HMo_184 hf hS0).2.2.2.1]
    exact ⟨fun _ => hK M g hf hs hB hD, fun z => absurd (nI_lt (by omega) (by omega)) z⟩
  | r + 1, t, g, M, ht, hf, hs, hB, hD => by
    unfold f_X11_tells_L65 f_X11_tells_B65
    have n12 := hS0.2.1
    rw [(HMo_184 hf hS0).2.2.2.1]
    refine ⟨fun z => absurd z (nI_nlt (by omega) (by omega)), fun _ => ⟨nl + 1, ?_⟩⟩
    simp only [forall_eq, nI_1]
    exact tel75 (rd := t) (FX_fr hf hF0) (HMo_184 hf hS0) (fun M' g' f' s' B' D' => tel65 hF0 hS0 hK r (t + 1) g' M' (by omega) (Fr_tr hf f') s' B' D') nl 0 g M (by omega) (Fr_refl _ _ _) hs hB hD (fun c' hc' => absurd hc' (by omega))
/-- the model's weeks say who knows what when -/
theorem tells_ok {nc nl : Nat} {H : HX} {M : Mm} {K : Mm → Prop} (hF : FX M) (hS : HMo M nc nl H) (hK : ∀ M' g, Fr d184 eN M M' → SCf M' nc g → (∀ h, h < 6 → ∀ c, c < nc → ∀ w, w < 1000 → (g h c ≤ w ↔ kq H nl h w c)) → K M') : f_X11_tells S0 142 M K := by
  unfold f_X11_tells
  refine ⟨6 + 1, tel2 hF hS (fun M1 f1 g1 => ⟨nl + 1 + 1, ?_⟩) 6 0 M (by omega) (Fr_refl _ _ _) (fun h' hh' => absurd hh' (by omega))⟩
  refine tel65 (FX_fr f1 hF) (HMo_184 f1 hS) (fun M2 g2 f2 s2 B2 D2 => hK M2 g2 (Fr_tr f1 f2) s2 (fun h hh c hc w hw => ⟨fun q => ?_, fun q => ?_⟩)) (nl + 1) 0 (g0 H) M1 (by omega) (Fr_refl _ _ _) (fun h hh c hc => ⟨g1 h hh c hc, ?_⟩) (fun h hh c hc => ⟨?_, fun e => ?_⟩) (fun i hi c hc hq => absurd hq tq_0)
  · rcases (B2 h hh c hc).1 with e | e
    · omega
    · exact kq_mono q e
  · rcases q with ⟨q1, q2⟩ | ⟨i, q1, q2, q3, k, q4⟩
    · exact Nat.le_trans ((B2 h hh c hc).2 q1) q2
    · have := D2 i q1 c hc (tq_mono1 _ _ (tq_bound q1 q4))
      rw [q2] at this; omega
  · unfold g0
    have := (hS.2.2.2.2.1 c hc).2.2.2.2.1
    split <;> omega
  · unfold g0
    by_cases e : hch H c = h
    · rw [if_pos e]; exact Or.inr (Or.inl ⟨e, Nat.le_refl _⟩)
    · rw [if_neg e]; exact Or.inl rfl
  · unfold g0; rw [if_pos e]; exact Nat.le_refl _
/-- the class's letters, out of V -/
theorem tt_of {M : Mm} {nc nl : Nat} (hS : HS M nc nl (hxM M)) (h : V_tell M) : ∃ tl, TT M nl tl ∧ ∀ i, i < nl → ∀ c, (tl i).testBit c = true ↔ (c < nc ∧ ∃ k, tq (hxM M) nl k i c) := by
  have n1 := hS.1
  have n2 := hS.2.1
  have e8 : (M.1 121 8).toNatClampNeg = nc := by rw [hS.2.2.1, nI_clamp (by omega)]
  have e9 : (M.1 121 9).toNatClampNeg = nl := by rw [hS.2.2.2.1, nI_clamp (by omega)]
  have ch : ∀ i, ∃ t, i < nl → (t < 4096 ∧ M.1 129 i = nI t ∧ ∀ c, t.testBit c = true ↔ (c < nc ∧ ∃ k, tq (hxM M) nl k i c)) := by
    intro i
    by_cases hi : i < nl
    · obtain ⟨t, t1, t2, t3⟩ := h i (by omega) (by rw [hS.2.2.2.1]; exact nI_lt hi (by omega))
      rw [e8, e9] at t3
      exact ⟨t, fun _ => ⟨t1, t2, t3⟩⟩
    · exact ⟨0, fun z => absurd z hi⟩
  obtain ⟨tl, htl⟩ := Classical.skolem.mp ch
  exact ⟨tl, fun i hi => ⟨(htl i hi).2.1, (htl i hi).1⟩, fun i hi => (htl i hi).2.2⟩
/-- known: just who knows -/
theorem knownX {nc nl h w : Nat} {H : HX} {tl : Nat → Nat} {M : Mm} {K : Int32 → Mm → Prop} (hF : FX M) (hS : HS M nc nl H) (hT : TT M nl tl) (hb : ∀ i, i < nl → ∀ c, (tl i).testBit c = true ↔ (c < nc ∧ ∃ k, tq H nl k i c)) (hh : h < 6) (hw : w < 1000) (hK : ∀ t, t < 4096 → (∀ c, t.testBit c = true ↔ (c < nc ∧ kq H nl h w c)) → K (nI t) M) : f_X1_known S0 121 (nI h) (nI w) M K := by
  refine known_ok hF hS hT (fun i hi c hc => ((hb i hi c).mp hc).1) hh hw (fun t ht h1 => hK t ht (fun c => ?_))
  rw [h1 c]
  constructor
  · rintro ⟨a, (b | ⟨i, b, d, e, f⟩)⟩
    · exact ⟨a, Or.inl b⟩
    · exact ⟨a, Or.inr ⟨i, b, d, e, ((hb i b c).mp f).2⟩⟩
  · rintro ⟨a, (b | ⟨i, b, d, e, f⟩)⟩
    · exact ⟨a, Or.inl b⟩
    · exact ⟨a, Or.inr ⟨i, b, d, e, (hb i b c).mpr ⟨a, f⟩⟩⟩
theorem isH_ok {S : Ss} {x : Int32} {M : Mm} {K : Int32 → Mm → Prop} (h1 : ¬ x < 0 → ¬ (5 : Int32) < x → K 1 M) (h0 : (x < 0 ∨ (5 : Int32) < x) → K 0 M) : f_X1_isHouse S x M K := by
  unfold f_X1_isHouse
  have l65 : ¬ x < 0 → ((6 : Int32) ≤ x ↔ (5 : Int32) < x) := fun h => by
    obtain ⟨k, hk, rfl⟩ := nI_of h
    rw [show (6 : Int32) = nI 6 from rfl, show (5 : Int32) = nI 5 from rfl, nI_leI (by omega) hk, nI_ltI (by omega) hk]
    omega
  exact ⟨fun h => h0 (Or.inl h), fun h => ⟨fun z => h0 (Or.inr ((l65 h).mp z)), fun z => h1 h (fun y => z ((l65 h).mpr y))⟩⟩
theorem nI_le' {x hi : Int32} {n : Nat} (hn : n < 2 ^ 31) (hhi : hi = nI n) (h0 : ¬ x < 0) (h1 : ¬ hi < x) : ∃ k, k ≤ n ∧ x = nI k := by
  obtain ⟨q, h, e⟩ := isN_of hn hhi h0 h1
  exact ⟨q, by omega, e⟩
theorem kn40 {nc h w : Nat} {x1 x2 : Int32} {g : Nat → Nat → Nat} {M : Mm} {EK K : Int32 → Mm → Prop} (hF : FX M) (h70 : M.1 142 70 = nI nc) (hnc : nc ≤ 12) (hs : SCf M nc g) (hh : h < 6) (hw : w < 1000) (hK : ∀ t, t < 4096 → (∀ c, t.testBit c = true ↔ (c < nc ∧ g h c ≤ w)) → EK (nI t) M) :
    ∀ (r i t : Nat), i + r = nc → t < 4096 → (∀ c, t.testBit c = true ↔ (c < i ∧ g h c ≤ w)) → f_X11_knew_L40 S0 142 (nI h) (nI w) EK K (r + 1) (nI t) (nI i) M
  | 0, i, t, hi, ht, hb => by
    unfold f_X11_knew_L40 f_X11_knew_B40
    have e : i = nc := by omega
    subst e
    rw [h70]
    exact ⟨fun _ => hK t ht hb, fun z => absurd (nI_le (Nat.le_refl _) (by omega)) z⟩
  | r + 1, i, t, hi, ht, hb => by
    unfold f_X11_knew_L40 f_X11_knew_B40
    rw [h70]
    refine ⟨fun z => absurd z (nI_ge (by omega) (by omega)), fun _ => ?_⟩
    obtain ⟨s1, s2⟩ := hs h hh i (by omega)
    have hin2 : vp_in (nI (12 * h + i)) 72 := vp_in_nI (by omega) (by omega)
    have hcl2 : (nI (12 * h + i)).toNatClampNeg = 12 * h + i := nI_clamp (by omega)
    simp only [fx_142_79 hF, ex_some, shp_ne (show (184 : Nat) ≠ 100000 by decide), s0_184, ex_sh, ix12, hin2, hcl2, true_and, forall_eq, nI_1, s1, or0']
    rw [nI_ltI (by omega) (by omega), sh12 i (by omega), or_nI]
    refine ⟨fun z => kn40 (x1 := x1) (x2 := x2) hF h70 hnc hs hh hw hK r (i + 1) t (by omega) ht (fun c => ?_), fun z => ?_⟩
    · rw [hb c]
      constructor
      · rintro ⟨a, b⟩; exact ⟨by omega, b⟩
      · rintro ⟨a, b⟩
        refine ⟨?_, b⟩
        rcases Nat.lt_or_ge c i with y | y
        · exact y
        · have e : c = i := by omega
          rw [e] at b; omega
    · have h2 : 2 ^ i < 4096 := Nat.pow_lt_pow_right (by omega) (show i < 12 by omega)
      refine kn40 (x1 := x1) (x2 := x2) hF h70 hnc hs hh hw hK r (i + 1) (t ||| 2 ^ i) (by omega) (or_4096 ht h2) (fun c => ?_)
      rw [Nat.testBit_or, Nat.testBit_two_pow, Bool.or_eq_true, hb c, decide_eq_true_eq]
      constructor
      · rintro (⟨a, b⟩ | a)
        · exact ⟨by omega, b⟩
        · subst a; exact ⟨by omega, by omega⟩
      · rintro ⟨a, b⟩
        rcases Nat.lt_or_ge c i with y | y
        · exact Or.inl ⟨y, b⟩
        · exact Or.inr (by omega)
theorem d184_tl {M M' : Mm} (h : Fr d184 eN M M') : Fr dTl eTl M M' :=
  Fr_mono (fun b j hd => by unfold dTl at hd; unfold d184; simp only [Bool.or_eq_false_iff, Bool.and_eq_false_iff, beq_eq_false_iff_ne] at *; omega) (fun b hd => rfl) h
theorem op36 (p1 p2 : Int32) (M : Mm) (K : Mm → Prop) (hV : V M) (hK : ∀ m, V m → K m) : OP36 p1 p2 M K := by
  have hF := hV.1
  have ne1 : ¬ (1 : Int32) = 0 := by decide
  have hV' := hV
  obtain ⟨h1, h2, h3, h4, h5, h6, h7, h8, h9, h10, h11, h12, h13, h14, h15, h16, h17, h18, h19⟩ := hV'
  obtain ⟨nc, nl, hS, hMo⟩ := hs_of h18
  obtain ⟨tl, hT, htl⟩ := tt_of hS h19
  have hend : ∀ r, AN r K r (stI M 142 0 0) := fun r => an_ok rfl (hK _ (V_thr _ hV))
  show f_X10_knew S0 0 p1 p2 M (fun r m1 => f_X11_knew S0 142 p1 p2 m1 (AN r K))
  have ref : (p1 < 0 ∨ (5 : Int32) < p1 ∨ p2 < 0 ∨ (200 : Int32) < p2) → f_X11_knew S0 142 p1 p2 M (AN (-1) K) := by
    intro hx
    unfold f_X11_knew
    simp only [forall_eq]
    refine f_in 5 rfl (fun a b => ⟨fun z => absurd z ne1, fun _ => ?_⟩) (fun _ => ⟨fun _ => hend _, fun z => absurd rfl z⟩)
    refine f_in 200 rfl (fun a2 b2 => ?_) (fun _ => ⟨fun _ => hend _, fun z => absurd rfl z⟩)
    rcases hx with h | h | h | h
    · exact absurd h a
    · exact absurd h b
    · exact absurd h a2
    · exact absurd h b2
  unfold f_X10_knew
  refine isH_ok (fun g1 g2 => ⟨fun z => absurd z ne1, fun _ => ⟨fun h => ref (Or.inr (Or.inr (Or.inl h))), fun g3 => ⟨fun g4 => ?_, fun h => ref (Or.inr (Or.inr (Or.inr (Int32.not_le.mp h))))⟩⟩⟩) (fun h => ⟨fun _ => ref (h.elim Or.inl (fun h => Or.inr (Or.inl h))), fun z => absurd rfl z⟩)
  obtain ⟨h, hh, rfl⟩ := nI_le' (n := 5) (by decide) rfl g1 g2
  obtain ⟨w, hw, rfl⟩ := nI_le' (n := 200) (by decide) rfl g3 (Int32.not_lt.mpr g4)
  simp only [fx_0_8 hF, ex_some, s0_121, true_and]
  refine knownX hF hS hT htl (by omega) (by omega) (fun t ht hb => ?_)
  unfold f_X11_knew
  simp only [forall_eq]
  refine f_in 5 rfl (fun a b => ⟨fun z => absurd z ne1, fun _ => ?_⟩) (fun q => (q.elim g1 g2).elim)
  refine f_in 200 rfl (fun a b => ⟨fun z => absurd z ne1, fun _ => ?_⟩) (fun q => (q.elim g3 (Int32.not_lt.mpr g4)).elim)
  have f1 : Fr dTl eTl M (stI M 142 0 0) := Fr_I rfl (Fr_refl _ _ _)
  refine tells_ok (FX_fr f1 hF) (HMo_fr f1 rfl rfl (fun a j h1 h2 => by unfold dTl; simp only [Bool.or_eq_false_iff, Bool.and_eq_false_iff, beq_eq_false_iff_ne]; omega) hMo) (fun M2 g f2 s2 k2 => ⟨nc + 1, ?_⟩)
  have f12 : Fr dTl eTl M M2 := Fr_tr f1 (d184_tl f2)
  refine kn40 (x1 := 0) (x2 := 0) (FX_fr f12 hF) ((f12.1 142 70 rfl).trans hMo.2.2.1) hS.1 s2 (by omega) (by omega) (fun t' ht' hb' => an_ok ?_ (hK _ (V_tl hV f12 (told_fr f2 rfl rfl rfl rfl (V_told_ag (M := M) rfl rfl rfl rfl h7))))) nc 0 0 (by omega) (by omega) (fun c => by simp)
  have e : t = t' := by
    apply Nat.eq_of_testBit_eq
    intro c
    have q : t.testBit c = true ↔ t'.testBit c = true := by
      rw [hb c, hb' c]
      constructor
      · rintro ⟨a, b⟩; exact ⟨a, (k2 h (by omega) c a w (by omega)).mpr b⟩
      · rintro ⟨a, b⟩; exact ⟨a, (k2 h (by omega) c a w (by omega)).mp b⟩
    rcases q1 : t.testBit c with _ | _ <;> rcases q2 : t'.testBit c with _ | _
    · rfl
    · rw [q1, q2] at q; exact absurd (q.mpr rfl) (by decide)
    · rw [q1, q2] at q; exact absurd (q.mp rfl) (by decide)
    · rfl
  rw [e]
