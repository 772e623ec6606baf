/-! houses: enough, given, letter -/
def clT (kn : Nat → Bool) (cm : Nat → Nat) (mk : Int32) : Nat → Int32
  | 0 => 0
  | i + 1 => clT kn cm mk i ||| (if kn i = true then nI (cm i) &&& mk else 0)
def clN (kn : Nat → Bool) (cm : Nat → Nat) (mk : Int32) : Nat → Int32
  | 0 => 0
  | i + 1 => clN kn cm mk i + (if kn i = true ∧ ¬ (nI (cm i) &&& mk) = 0 then 1 else 0)
def mdT (kn : Nat → Bool) (cm : Nat → Nat) : Nat → Int32
  | 0 => 0
  | i + 1 => mdT kn cm i ||| (if kn i = true then nI (cm i) else 0)
theorem orand (a b m : Int32) : (a ||| b) &&& m = (a &&& m) ||| (b &&& m) := by
  apply Int32.toBitVec_inj.mp
  simp only [Int32.toBitVec_and, Int32.toBitVec_or]
  apply BitVec.eq_of_getLsbD_eq
  intro j hj
  simp only [BitVec.getLsbD_and, BitVec.getLsbD_or, Bool.and_or_distrib_right]
theorem and0 (m : Int32) : 0 &&& m = 0 := by
  apply Int32.toBitVec_inj.mp
  rw [Int32.toBitVec_and]
  apply BitVec.eq_of_getLsbD_eq
  intro j hj
  simp
theorem cl_md (kn : Nat → Bool) (cm : Nat → Nat) (mk : Int32) : ∀ i, clT kn cm mk i = mdT kn cm i &&& mk
  | 0 => (and0 mk).symm
  | i + 1 => by
    unfold clT mdT
    rw [orand, cl_md kn cm mk i]
    by_cases h : kn i = true
    · rw [if_pos h, if_pos h]
    · rw [if_neg h, if_neg h, and0]
theorem clT_ext {kn kn' : Nat → Bool} {cm : Nat → Nat} {mk : Int32} : ∀ n, (∀ i, i < n → kn i = kn' i) → clT kn cm mk n = clT kn' cm mk n ∧ clN kn cm mk n = clN kn' cm mk n
  | 0, _ => ⟨rfl, rfl⟩
  | n + 1, h => by
    obtain ⟨h1, h2⟩ := clT_ext (cm := cm) (mk := mk) n (fun i hi => h i (by omega))
    constructor
    · unfold clT; rw [h1, h n (by omega)]
    · unfold clN; rw [h2, h n (by omega)]
noncomputable def kb (H : HX) (nl h w : Nat) : Nat → Bool := fun c => @decide (kq H nl h w c) (Classical.propDecidable _)
theorem kb_iff {H : HX} {nl h w c : Nat} : kb H nl h w c = true ↔ kq H nl h w c := by unfold kb; simp
/-- house h has enough in week w -/
noncomputable def EnB (H : HX) (nc nl : Nat) (mk c2 : Int32) (h w : Nat) : Bool := decide (clT (kb H nl h w) (hcm H) mk nc = mk ∧ ¬ clN (kb H nl h w) (hcm H) mk nc < c2)
theorem has9 {nc nl t : Nat} {H : HX} {mk c2 : Int32} {M : Mm} {EK : Int32 → Int32 → Mm → Prop} {K : Int32 → Mm → Prop} (hF : FX M) (hS : HS M nc nl H) (ht : t < 4096) (hK : EK (clT t.testBit (hcm H) mk nc) (clN t.testBit (hcm H) mk nc) M) :
    ∀ (r i : Nat), i + r = nc → f_X1_hasEnough_L9 S0 121 (nI t) mk c2 EK K (r + 1) (clT t.testBit (hcm H) mk i) (clN t.testBit (hcm H) mk i) (nI i) M
  | 0, i, hi => by
    unfold f_X1_hasEnough_L9 f_X1_hasEnough_B9
    have e : i = nc := by omega
    subst e
    have := hS.1
    rw [hS.2.2.1]
    exact ⟨fun _ => hK, fun z => absurd (nI_le (Nat.le_refl _) (by omega)) z⟩
  | r + 1, i, hi => by
    unfold f_X1_hasEnough_L9 f_X1_hasEnough_B9
    have n12 := hS.1
    rw [hS.2.2.1]
    refine ⟨fun z => absurd z (nI_ge (by omega) (by omega)), fun _ => ?_⟩
    obtain ⟨c1, c2', c3, c4, c5, c6⟩ := hS.2.2.2.2.1 i (by omega)
    have hin : vp_in (nI i) 12 := vp_in_nI (by omega) (by omega)
    have hcl : (nI i).toNatClampNeg = i := nI_clamp (by omega)
    rw [bt12 ht (by omega)]
    have ih := has9 (EK := EK) (K := K) (c2 := c2) hF hS ht hK r (i + 1) (by omega)
    refine ⟨fun q => ?_, fun q => ?_⟩
    · unfold f_X1_hasEnough_J40
      simp only [forall_eq, nI_1]
      refine ⟨fun _ => ?_, fun z => absurd trivial z⟩
      have e1 : clT t.testBit (hcm H) mk (i + 1) = clT t.testBit (hcm H) mk i ||| 0 := by conv => lhs; unfold clT; rw [if_neg (by rw [q]; decide)]
      have e2 : clN t.testBit (hcm H) mk (i + 1) = clN t.testBit (hcm H) mk i + 0 := by conv => lhs; unfold clN; rw [if_neg (by rw [q]; rintro ⟨z, _⟩; exact absurd z (by decide))]
      rw [e1, e2] at ih
      exact ih
    · have q' : t.testBit i = true := by
        rcases hq : t.testBit i with _ | _
        · exact absurd hq q
        · rfl
      simp only [fx_121_2 hF, ex_some, shp_ne (show (124 : Nat) ≠ 100000 by decide), s0_124, ex_sh, hin, hcl, true_and, c3]
      unfold f_X1_hasEnough_J40
      simp only [forall_eq, nI_1]
      have e1 : clT t.testBit (hcm H) mk (i + 1) = clT t.testBit (hcm H) mk i ||| (nI (hcm H i) &&& mk) := by conv => lhs; unfold clT; rw [if_pos q']
      refine ⟨fun z => ?_, fun z => ?_⟩
      · have e2 : clN t.testBit (hcm H) mk (i + 1) = clN t.testBit (hcm H) mk i + 0 := by conv => lhs; unfold clN; rw [if_neg (fun y => y.2 z)]
        rw [e1, e2] at ih
        exact ih
      · have e2 : clN t.testBit (hcm H) mk (i + 1) = clN t.testBit (hcm H) mk i + 1 := by conv => lhs; unfold clN; rw [if_pos ⟨q', z⟩]
        rw [e1, e2] at ih
        exact ih
theorem hasEn_ok {nc nl t h w : Nat} {H : HX} {mk c2 : Int32} {M : Mm} {K : Int32 → Mm → Prop} (hF : FX M) (hS : HS M nc nl H) (ht : t < 4096) (hb : ∀ c, t.testBit c = true ↔ (c < nc ∧ kq H nl h w c)) (h1 : EnB H nc nl mk c2 h w = true → K 1 M) (h0 : EnB H nc nl mk c2 h w = false → K 0 M) : f_X1_hasEnough S0 121 (nI t) mk c2 M K := by
  unfold f_X1_hasEnough
  have ex : ∀ i, i < nc → t.testBit i = kb H nl h w i := by
    intro i hi
    have q := hb i
    rcases q1 : t.testBit i with _ | _ <;> rcases q2 : kb H nl h w i with _ | _
    · rfl
    · have := q.mpr ⟨hi, kb_iff.mp q2⟩; rw [q1] at this; exact absurd this (by decide)
    · have := kb_iff.mpr (q.mp q1).2; rw [q2] at this; exact absurd this (by decide)
    · rfl
  obtain ⟨x1, x2⟩ := clT_ext (cm := hcm H) (mk := mk) nc ex
  refine ⟨nc + 1, has9 hF hS ht ?_ nc 0 (by omega)⟩
  rw [x1, x2]
  refine ⟨fun e => ⟨fun z => h0 ?_, fun z => h1 ?_⟩, fun e => h0 ?_⟩
  · unfold EnB; simp only [decide_eq_false_iff_not]; exact fun y => y.2 z
  · unfold EnB; simp only [decide_eq_true_eq]; exact ⟨e, z⟩
  · unfold EnB; simp only [decide_eq_false_iff_not]; exact fun y => e y.1
theorem enC35 {nc nl w : Nat} {H : HX} {tl : Nat → Nat} {mk c2 : Int32} {M : Mm} {EK : Mm → Prop} {K : Int32 → Mm → Prop} (hF : FX M) (hS : HS M nc nl H) (hT : TT M nl tl) (htl : ∀ i, i < nl → ∀ c, (tl i).testBit c = true ↔ (c < nc ∧ ∃ k, tq H nl k i c)) (hw : w ≤ 200) (h1 : ∀ h, h < 6 → EnB H nc nl mk c2 h w = true → (∀ h', h' < h → EnB H nc nl mk c2 h' w = false) → f_X7_tellOne S0 116 (nI h).toInt64 M (fun m => K (nI w) m)) (h0 : (∀ h', h' < 6 → EnB H nc nl mk c2 h' w = false) → EK M) :
    ∀ (r h : Nat), h + r = 6 → (∀ h', h' < h → EnB H nc nl mk c2 h' w = false) → f_X10_enough_L35 S0 0 mk c2 (nI w) EK K (r + 1) (nI h) M
  | 0, h, hh, hp => by
    unfold f_X10_enough_L35 f_X10_enough_B35
    have e : h = 6 := by omega
    subst e
    exact ⟨fun _ => h0 hp, fun z => absurd (show nI 6 ≤ nI 6 from nI_le (Nat.le_refl _) (by omega)) z⟩
  | r + 1, h, hh, hp => by
    unfold f_X10_enough_L35 f_X10_enough_B35
    refine ⟨fun z => absurd (show nI 6 ≤ nI h from z) (nI_ge (by omega) (by omega)), fun _ => ?_⟩
    simp only [fx_0_8 hF, ex_some, s0_121, true_and]
    refine knownX hF hS hT htl (by omega) (by omega) (fun t ht hb => hasEn_ok hF hS ht hb (fun e => ⟨fun z => absurd z (by decide), fun _ => ?_⟩) (fun e => ⟨fun _ => ?_, fun z => absurd rfl z⟩))
    · simp only [fx_0_6 hF, ex_some, s0_116, true_and]
      exact h1 h (by omega) e hp
    · simp only [forall_eq, nI_1]
      refine enC35 hF hS hT htl hw h1 h0 r (h + 1) (by omega) (fun h' hh' => ?_)
      rcases Nat.lt_or_ge h' h with z | z
      · exact hp h' z
      · rw [show h' = h by omega]; exact e
/-- the first week, and in it the first house -/
def FSt (E : Nat → Nat → Bool) (w h : Nat) : Prop := E h w = true ∧ (∀ h', h' < h → E h' w = false) ∧ ∀ w', w' < w → ∀ h', h' < 6 → E h' w' = false
theorem FSt_uq {E : Nat → Nat → Bool} {w h w' h' : Nat} (hh : h < 6) (hh' : h' < 6) (a : FSt E w h) (b : FSt E w' h') : w = w' ∧ h = h' := by
  rcases Nat.lt_trichotomy w w' with z | z | z
  · have := b.2.2 w z h hh; rw [a.1] at this; exact absurd this (by decide)
  · subst z
    refine ⟨rfl, ?_⟩
    rcases Nat.lt_trichotomy h h' with z | z | z
    · have := b.2.1 h z; rw [a.1] at this; exact absurd this (by decide)
    · exact z
    · have := a.2.1 h' z; rw [b.1] at this; exact absurd this (by decide)
  · have := a.2.2 w' z h' hh'; rw [b.1] at this; exact absurd this (by decide)
theorem enC25 {nc nl : Nat} {H : HX} {tl : Nat → Nat} {mk c2 : Int32} {M : Mm} {EK : Mm → Prop} {K : Int32 → Mm → Prop} (hF : FX M) (hS : HS M nc nl H) (hT : TT M nl tl) (htl : ∀ i, i < nl → ∀ c, (tl i).testBit c = true ↔ (c < nc ∧ ∃ k, tq H nl k i c)) (h1 : ∀ w h, w ≤ 200 → h < 6 → FSt (EnB H nc nl mk c2) w h → f_X7_tellOne S0 116 (nI h).toInt64 M (fun m => K (nI w) m)) (h0 : (∀ w, w ≤ 200 → ∀ h', h' < 6 → EnB H nc nl mk c2 h' w = false) → EK M) :
    ∀ (r w : Nat), w + r = 201 → (∀ w', w' < w → ∀ h', h' < 6 → EnB H nc nl mk c2 h' w' = false) → f_X10_enough_L25 S0 0 mk c2 EK K (r + 1) (nI w) M
  | 0, w, hw, hp => by
    unfold f_X10_enough_L25 f_X10_enough_B25
    exact ⟨fun _ => h0 (fun w' hw' => hp w' (by omega)), fun z => absurd (show nI 200 < nI w from nI_lt (by omega) (by omega)) z⟩
  | r + 1, w, hw, hp => by
    unfold f_X10_enough_L25 f_X10_enough_B25
    refine ⟨fun z => absurd (show nI 200 < nI w from z) (nI_nlt (by omega) (by omega)), fun _ => ⟨6 + 1, ?_⟩⟩
    simp only [forall_eq, nI_1]
    refine enC35 hF hS hT htl (by omega) (fun h hh e he => h1 w h (by omega) hh ⟨e, he, hp⟩) (fun he => enC25 hF hS hT htl h1 h0 r (w + 1) (by omega) (fun w' hw' h' hh' => ?_)) 6 0 (by omega) (fun h' hh' => absurd hh' (by omega))
    rcases Nat.lt_or_ge w' w with z | z
    · exact hp w' z h' hh'
    · rw [show w' = w by omega]; exact he h' hh'
theorem enM63 {nc nl h w : Nat} {H : HX} {g : Nat → Nat → Nat} {mk c2 : Int32} {M : Mm} {EK : Int32 → Int32 → Mm → Prop} {K : Int32 → Mm → Prop} (hF : FX M) (hS : HMo M nc nl H) (hs : SCf M nc g) (hg : ∀ h, h < 6 → ∀ c, c < nc → ∀ w, w < 1000 → (g h c ≤ w ↔ kq H nl h w c)) (hh : h < 6) (hw : w ≤ 200) (hK : EK (mdT (kb H nl h w) (hcm H) nc) (clN (kb H nl h w) (hcm H) mk nc) M) :
    ∀ (r i : Nat), i + r = nc → f_X11_enough_L63 S0 142 mk c2 (nI w) (nI h) EK K (r + 1) (mdT (kb H nl h w) (hcm H) i) (clN (kb H nl h w) (hcm H) mk i) (nI i) M
  | 0, i, hi => by
    unfold f_X11_enough_L63 f_X11_enough_B63
    have e : i = nc := by omega
    subst e
    have := hS.1
    rw [hS.2.2.1]
    exact ⟨fun _ => hK, fun z => absurd (nI_le (Nat.le_refl _) (by omega)) z⟩
  | r + 1, i, hi => by
    unfold f_X11_enough_L63 f_X11_enough_B63
    have n12 := hS.1
    rw [hS.2.2.1]
    refine ⟨fun z => absurd z (nI_ge (by omega) (by omega)), fun _ => ?_⟩
    obtain ⟨c1, c2', c3, c4, c5, c6⟩ := hS.2.2.2.2.1 i (by omega)
    obtain ⟨s1, s2⟩ := hs h hh i (by omega)
    have hin : vp_in (nI i) 12 := vp_in_nI (by omega) (by omega)
    have hcl : (nI i).toNatClampNeg = i := nI_clamp (by omega)
    have hin2 : vp_in (nI (12 * h + i)) 72 := vp_in_nI (by omega) (by omega)
    have hcl2 : (nI (12 * h + i)).toNatClampNeg = 12 * h + i := nI_clamp (by omega)
    simp only [fx_142_79 hF, ex_some, shp_ne (show (184 : Nat) ≠ 100000 by decide), s0_184, ex_sh, ix12, hin2, hcl2, true_and, s1]
    rw [nI_ltI (by omega) (by omega)]
    have ih := enM63 (EK := EK) (K := K) (c2 := c2) hF hS hs hg hh hw hK r (i + 1) (by omega)
    have hq := hg h hh i (by omega) w (by omega)
    refine ⟨fun z => ?_, fun z => ?_⟩
    · have q : ¬ kb H nl h w i = true := by rw [kb_iff, ← hq]; omega
      unfold f_X11_enough_J94 f_X11_enough_J114 f_X11_enough_J140 f_X11_enough_J141
      refine ⟨fun _ => ?_, fun z => absurd rfl z⟩
      simp only [forall_eq, nI_1]
      refine ⟨fun _ => tr_ok ?_, fun z => absurd trivial z⟩
      have e1 : mdT (kb H nl h w) (hcm H) (i + 1) = mdT (kb H nl h w) (hcm H) i ||| 0 := by conv => lhs; unfold mdT; rw [if_neg q]
      have e2 : clN (kb H nl h w) (hcm H) mk (i + 1) = clN (kb H nl h w) (hcm H) mk i + 0 := by conv => lhs; unfold clN; rw [if_neg (fun y => q y.1)]
      rw [e1, e2] at ih
      simp only [forall_eq, if_true]
      exact ih
    · have q : kb H nl h w i = true := by rw [kb_iff, ← hq]; omega
      have e1 : mdT (kb H nl h w) (hcm H) (i + 1) = mdT (kb H nl h w) (hcm H) i ||| nI (hcm H i) := by conv => lhs; unfold mdT; rw [if_pos q]
      unfold f_X11_enough_J94
      refine ⟨fun z => absurd z (by decide), fun _ => ?_⟩
      simp only [fx_142_73 hF, ex_some, shp_ne (show (179 : Nat) ≠ 100000 by decide), s0_179, ex_sh, hin, hcl, true_and, c3]
      unfold f_X11_enough_J114
      simp only [forall_eq]
      refine ⟨fun z => absurd z (by decide), fun _ => ?_⟩
      simp only [fx_142_73 hF, ex_some, shp_ne (show (179 : Nat) ≠ 100000 by decide), s0_179, ex_sh, hin, hcl, true_and, c3]
      refine ⟨fun z => ?_, fun z => ?_⟩
      · unfold f_X11_enough_J140 f_X11_enough_J141
        refine tr_ok ?_
        simp only [forall_eq, nI_1, if_true]
        have e2 : clN (kb H nl h w) (hcm H) mk (i + 1) = clN (kb H nl h w) (hcm H) mk i + 0 := by conv => lhs; unfold clN; rw [if_neg (fun y => y.2 z)]
        rw [e1, e2] at ih
        exact ih
      · unfold f_X11_enough_J141
        refine tr_ok ?_
        rw [if_neg (by decide)]
        simp only [forall_eq, nI_1]
        have e2 : clN (kb H nl h w) (hcm H) mk (i + 1) = clN (kb H nl h w) (hcm H) mk i + 1 := by conv => lhs; unfold clN; rw [if_pos ⟨q, z⟩]
        rw [e1, e2] at ih
        exact ih
theorem enM47 {nc nl w : Nat} {H : HX} {g : Nat → Nat → Nat} {mk c2 : Int32} {M : Mm} {EK : Mm → Prop} {K : Int32 → Mm → Prop} (hF : FX M) (hS : HMo M nc nl H) (hs : SCf M nc g) (hg : ∀ h, h < 6 → ∀ c, c < nc → ∀ w, w < 1000 → (g h c ≤ w ↔ kq H nl h w c)) (hw : w ≤ 200) (h1 : ∀ h, h < 6 → EnB H nc nl mk c2 h w = true → (∀ h', h' < h → EnB H nc nl mk c2 h' w = false) → f_X11_enters S0 142 (nI h).toInt64 (stI M 142 1 0) (fun m => K (nI w) m)) (h0 : (∀ h', h' < 6 → EnB H nc nl mk c2 h' w = false) → EK M) :
    ∀ (r h : Nat), h + r = 6 → (∀ h', h' < h → EnB H nc nl mk c2 h' w = false) → f_X11_enough_L47 S0 142 mk c2 (nI w) EK K (r + 1) (nI h) M
  | 0, h, hh, hp => by
    unfold f_X11_enough_L47 f_X11_enough_B47
    have e : h = 6 := by omega
    subst e
    exact ⟨fun _ => h0 hp, fun z => absurd (show nI 6 ≤ nI 6 from nI_le (Nat.le_refl _) (by omega)) z⟩
  | r + 1, h, hh, hp => by
    unfold f_X11_enough_L47 f_X11_enough_B47
    refine ⟨fun z => absurd (show nI 6 ≤ nI h from z) (nI_ge (by omega) (by omega)), fun _ => ⟨nc + 1, enM63 hF hS hs hg (by omega) hw ?_ nc 0 (by omega)⟩⟩
    rw [← cl_md]
    simp only [forall_eq, nI_1]
    have skip : EnB H nc nl mk c2 h w = false → f_X11_enough_L47 S0 142 mk c2 (nI w) EK K (r + 1) (nI (h + 1)) M := by
      intro e
      refine enM47 hF hS hs hg hw h1 h0 r (h + 1) (by omega) (fun h' hh' => ?_)
      rcases Nat.lt_or_ge h' h with z | z
      · exact hp h' z
      · rw [show h' = h by omega]; exact e
    refine ⟨fun e => ⟨fun z => skip ?_, fun z => h1 h (by omega) ?_ hp⟩, fun e => skip ?_⟩
    · unfold EnB; simp only [decide_eq_false_iff_not]; exact fun y => y.2 z
    · unfold EnB; simp only [decide_eq_true_eq]; exact ⟨e, z⟩
    · unfold EnB; simp only [decide_eq_false_iff_not]; exact fun y => e y.1
theorem enM37 {nc nl : Nat} {H : HX} {g : Nat → Nat → Nat} {mk c2 : Int32} {M : Mm} {EK : Mm → Prop} {K : Int32 → Mm → Prop} (hF : FX M) (hS : HMo M nc nl H) (hs : SCf M nc g) (hg : ∀ h, h < 6 → ∀ c, c < nc → ∀ w, w < 1000 → (g h c ≤ w ↔ kq H nl h w c)) (h1 : ∀ w h, w ≤ 200 → h < 6 → FSt (EnB H nc nl mk c2) w h → f_X11_enters S0 142 (nI h).toInt64 (stI M 142 1 0) (fun m => K (nI w) m)) (h0 : (∀ w, w ≤ 200 → ∀ h', h' < 6 → EnB H nc nl mk c2 h' w = false) → EK M) :
    ∀ (r w : Nat), w + r = 201 → (∀ w', w' < w → ∀ h', h' < 6 → EnB H nc nl mk c2 h' w' = false) → f_X11_enough_L37 S0 142 mk c2 EK K (r + 1) (nI w) M
  | 0, w, hw, hp => by
    unfold f_X11_enough_L37 f_X11_enough_B37
    exact ⟨fun _ => h0 (fun w' hw' => hp w' (by omega)), fun z => absurd (show nI 200 < nI w from nI_lt (by omega) (by omega)) z⟩
  | r + 1, w, hw, hp => by
    unfold f_X11_enough_L37 f_X11_enough_B37
    refine ⟨fun z => absurd (show nI 200 < nI w from z) (nI_nlt (by omega) (by omega)), fun _ => ⟨6 + 1, ?_⟩⟩
    simp only [forall_eq, nI_1]
    refine enM47 hF hS hs hg (by omega) (fun h hh e he => h1 w h (by omega) hh ⟨e, he, hp⟩) (fun he => enM37 hF hS hs hg h1 h0 r (w + 1) (by omega) (fun w' hw' h' hh' => ?_)) 6 0 (by omega) (fun h' hh' => absurd hh' (by omega))
    rcases Nat.lt_or_ge w' w with z | z
    · exact hp w' z h' hh'
    · rw [show w' = w by omega]; exact he h' hh'
theorem op37 (p1 p2 : Int32) (M : Mm) (K : Mm → Prop) (hV : V M) (hK : ∀ m, V m → K m) : OP37 p1 p2 M K := by
  have hF := hV.1
  have ne1 : ¬ (1 : Int32) = 0 := by decide
  have hV' := hV
  obtain ⟨h1, h2, h3, h4, h5, h6, h7, h8, h9, h10, h11, h12, h13, h14, h15, h16, h17, h18, h19⟩ := hV'
  obtain ⟨nc, nl, hS, hMo⟩ := hs_of h18
  obtain ⟨tl, hT, htl⟩ := tt_of hS h19
  have hend : ∀ r, AN r K r (stI M 142 0 0) := fun r => an_ok rfl (hK _ (V_thr _ hV))
  show f_X10_enough S0 0 p1 p2 M (fun r m1 => f_X11_enough S0 142 p1 p2 m1 (AN r K))
  have ref : (p1 < 0 ∨ (255 : Int32) < p1 ∨ p2 < 0 ∨ (12 : Int32) < p2) → f_X11_enough S0 142 p1 p2 M (AN (-1) K) := by
    intro hx
    unfold f_X11_enough
    simp only [forall_eq]
    refine f_in 255 rfl (fun a b => ⟨fun z => absurd z ne1, fun _ => ?_⟩) (fun _ => ⟨fun _ => hend _, fun z => absurd rfl z⟩)
    refine f_in 12 rfl (fun a2 b2 => ?_) (fun _ => ⟨fun _ => hend _, fun z => absurd rfl z⟩)
    rcases hx with h | h | h | h
    · exact absurd h a
    · exact absurd h b
    · exact absurd h a2
    · exact absurd h b2
  unfold f_X10_enough
  refine ⟨fun h => ref (Or.inl h), fun g1 => ⟨fun h => ref (Or.inr (Or.inl h)), fun g2 => ⟨fun h => ref (Or.inr (Or.inr (Or.inl h))), fun g3 => ⟨fun g4 => ?_, fun h => ref (Or.inr (Or.inr (Or.inr (Int32.not_le.mp h))))⟩⟩⟩⟩
  have model : ∀ (M1 : Mm) (r : Int32), Fr dTd eTd M M1 → ((∀ w, w ≤ 200 → ∀ h', h' < 6 → EnB (hxM M) nc nl p1 p2 h' w = false) → r = -2 ∧ V_told M1) → (∀ w h, w ≤ 200 → h < 6 → FSt (EnB (hxM M) nc nl p1 p2) w h → r = nI w ∧ M1.1 116 1 = nI 1 ∧ M1.2.1 117 0 = lN h) → f_X11_enough S0 142 p1 p2 M1 (AN r K) := by
    intro M1 r f1 t0 t1
    unfold f_X11_enough
    simp only [forall_eq]
    refine f_in 255 rfl (fun a b => ⟨fun z => absurd z ne1, fun _ => ?_⟩) (fun q => (q.elim g1 g2).elim)
    refine f_in 12 rfl (fun a b => ⟨fun z => absurd z ne1, fun _ => ?_⟩) (fun q => (q.elim g3 (Int32.not_lt.mpr g4)).elim)
    have f2 : Fr dTl eTl M (stI M1 142 0 0) := Fr_I rfl (dTd_tl f1)
    refine tells_ok (FX_fr f2 hF) (HMo_fr f2 rfl rfl (fun a j h1 h2 => by unfold dTl; simp only [Bool.or_eq_false_iff, Bool.and_eq_false_iff, beq_eq_false_iff_ne]; omega) hMo) (fun M3 g f3 s3 k3 => ⟨201 + 1, ?_⟩)
    have f23 : Fr dTl eTl M M3 := Fr_tr f2 (d184_tl f3)
    have hM3 : HMo M3 nc nl (hxM M) := HMo_fr f23 rfl rfl (fun a j h1 h2 => by unfold dTl; simp only [Bool.or_eq_false_iff, Bool.and_eq_false_iff, beq_eq_false_iff_ne]; omega) hMo
    refine enM37 (FX_fr f23 hF) hM3 s3 k3 (fun w h hw hh hf => ?_) (fun hn => ?_) 201 0 (by omega) (fun w' hw' => absurd hw' (by omega))
    · obtain ⟨e1, e2, e3⟩ := t1 w h hw hh hf
      refine ent_ok (FX_fr f23 hF) (fun M4 f4 q1 q2 => an_ok e1 (hK _ (V_tl hV (Fr_tr f23 (dWy_tl f4)) ⟨1, by omega, ?_, q1, fun j hj => ?_⟩)))
      · rw [f4.1 116 1 rfl, f3.1 116 1 rfl, rI_ne (by omega)]; exact e2
      · have ej : j = 0 := by omega
        subst ej
        rw [q2, f4.2.1 117 rfl, f3.2.1 117 rfl, nI_l (by omega)]
        exact e3
    · obtain ⟨e1, e2⟩ := t0 hn
      exact an_ok e1 (hK _ (V_tl hV f23 (told_fr f3 rfl rfl rfl rfl (V_told_ag (M := M1) rfl rfl rfl rfl e2))))
  refine ⟨201 + 1, enC25 hF hS hT htl (fun w h hw hh hf => ?_) (fun hn => model M (-2) (Fr_refl _ _ _) (fun _ => ⟨rfl, h7⟩) (fun w h hw hh hf => ?_)) 201 0 (by omega) (fun w' hw' => absurd hw' (by omega))⟩
  · unfold f_X7_tellOne
    simp only [forall_eq]
    have f1 : Fr dTd eTd M (stI M 116 1 0) := Fr_I rfl (Fr_refl _ _ _)
    refine tlN (k := 0) (FX_fr f1 hF) rI_eq (by omega) (fun M2 f2 q1 q2 q3 => model M2 (nI w) (Fr_tr f1 f2) (fun hn => ?_) (fun w' h' hw' hh' hf' => ?_))
    · have := hn w hw h hh
      rw [hf.1] at this; exact absurd this (by decide)
    · obtain ⟨e1, e2⟩ := FSt_uq hh hh' hf hf'
      exact ⟨by rw [e1], q1, by rw [q3, nI_l (by omega), e2]⟩
  · have := hn w hw h hh
    rw [hf.1] at this; exact absurd this (by decide)
/-- V of a memory where only the houses differ -/
def dHo : Nat → Nat → Bool := fun b j => (121 ≤ b && b ≤ 129 : Bool) || (b == 142 && (j == 0 || j == 70 || j == 74)) || (177 ≤ b && b ≤ 183 : Bool)
theorem V_ho {M M' : Mm} (h : V M) (fr : Fr dHo eN M M') (w1 : V_hous M') (w2 : V_tell M') : V M' := by
  obtain ⟨h1, h2, h3, h4, h5, h6, h7, h8, h9, h10, h11, h12, h13, h14, h15, h16, h17, h18, h19⟩ := h
  have R : ∀ a, (∀ j, dHo a j = false) → M'.1 a = M.1 a := fun a ha => Fr_row fr a ha
  have I : ∀ a j, dHo a j = false → M'.1 a j = M.1 a j := fr.1
  have rr := fr.2.2
  have rg : ∀ a, (a < 121 ∨ (129 < a ∧ a < 142) ∨ (142 < a ∧ a < 177) ∨ 183 < a) → M'.1 a = M.1 a := fun a ha => R a (fun j => by unfold dHo; simp only [Bool.or_eq_false_iff, Bool.and_eq_false_iff, beq_eq_false_iff_ne, decide_eq_false_iff_not]; omega)
  have ep : ∀ a, prc a → M'.1 a = M.1 a := fun a ha => rg a (by unfold prc at ha; omega)
  have jg : ∀ a, M'.2.1 a = M.2.1 a := fun a => fr.2.1 a rfl
  exact ⟨FX_ag rr h1, V_txt_ag (I _ _ rfl) (I _ _ rfl) (rg _ (by omega)) (rg _ (by omega)) h2, V_typ_ag (I _ _ rfl) (I _ _ rfl) (rg _ (by omega)) (rg _ (by omega)) h3, V_spd_ag (rg _ (by omega)) (rg _ (by omega)) h4, V_key_ag (I _ _ rfl) (I _ _ rfl) h5, V_wgt_ag (rg _ (by omega)) (rg _ (by omega)) (rg _ (by omega)) (rg _ (by omega)) h6, V_told_ag (I _ _ rfl) (I _ _ rfl) (jg _) (jg _) h7, V_last_ag (I _ _ rfl) (I _ _ rfl) (rg _ (by omega)) (I _ _ rfl) (I _ _ rfl) (I _ _ rfl) (I _ _ rfl) h8, V_cnt_ag (I _ _ rfl) (I _ _ rfl) (I _ _ rfl) (I _ _ rfl) (I _ _ rfl) (I _ _ rfl) (I _ _ rfl) (I _ _ rfl) (I _ _ rfl) h9, V_prg_ag rr h10, V_task_ag (by rw [rr]) ep (I _ _ rfl) (rg _ (by omega)) (rg _ (by omega)) (rg _ (by omega)) (rg _ (by omega)) (rg _ (by omega)) (rg _ (by omega)) (rg _ (by omega)) h11, V_must_ag (by rw [rr]) ep (I _ _ rfl) (rg _ (by omega)) (rg _ (by omega)) h12, V_bolt_ag (by rw [rr]) ep (I _ _ rfl) (rg _ (by omega)) (rg _ (by omega)) h13, V_ptch_ag (M := M) (M' := M') (by rw [rr]) ep (I _ _ rfl) (I _ _ rfl) (rg _ (by omega)) (rg _ (by omega)) (rg _ (by omega)) (rg _ (by omega)) (rg _ (by omega)) (rg _ (by omega)) (rg _ (by omega)) (rg _ (by omega)) h14, V_now_ag (rg _ (by omega)) (rg _ (by omega)) (rg _ (by omega)) (rg _ (by omega)) (jg _) (I _ _ rfl) (rg _ (by omega)) h15, V_kept_ag (fun a h1 h2 => ⟨rg a (by omega), jg a⟩) (fun a h1 h2 => ⟨rg a (by omega), jg a⟩) (I _ _ rfl) (I _ _ rfl) (rg _ (by omega)) h16, V_walk_ag (I _ _ rfl) (rg _ (by omega)) (rg _ (by omega)) (by rw [rr]) h17, w1, w2⟩
theorem hous_of {M : Mm} {nc nl : Nat} {H : HX} (hS : HS M nc nl H) (hM : HMo M nc nl H) (h183 : ∀ j, j < nl → isN (M.1 183 j) 51) : V_hous M := by
  refine ⟨nc, nl, hS.1, hS.2.1, hS.2.2.1, hM.2.2.1, hS.2.2.2.1, hM.2.2.2.1, fun j hj => ?_, fun j hj => ?_⟩
  · obtain ⟨a1, a2, a3, a4, a5, a6⟩ := hS.2.2.2.2.1 j hj
    obtain ⟨b1, b2, b3, -⟩ := hM.2.2.2.2.1 j hj
    exact ⟨a1.trans b1.symm, a2.trans b2.symm, a3.trans b3.symm, ⟨_, a4, a1⟩, ⟨_, a5, a2⟩, ⟨_, a6, a3⟩⟩
  · obtain ⟨a1, a2, a3, a4, a5, a6, a7, a8⟩ := hS.2.2.2.2.2 j hj
    obtain ⟨b1, b2, b3, b4, -⟩ := hM.2.2.2.2.2 j hj
    exact ⟨a1.trans b1.symm, a2.trans b2.symm, a3.trans b3.symm, a4.trans b4.symm, ⟨_, a5, a1⟩, ⟨_, a6, a2⟩, ⟨_, a7, a3⟩, h183 j hj⟩
theorem tell_of {M : Mm} {nc nl : Nat} {H : HX} {tl : Nat → Nat} (hS : HS M nc nl H) (hT : TT M nl tl) (htl : ∀ i, i < nl → ∀ c, (tl i).testBit c = true ↔ (c < nc ∧ ∃ k, tq H nl k i c)) : V_tell M := by
  have n1 := hS.1
  have n2 := hS.2.1
  have e8 : (M.1 121 8).toNatClampNeg = nc := by rw [hS.2.2.1, nI_clamp (by omega)]
  have e9 : (M.1 121 9).toNatClampNeg = nl := by rw [hS.2.2.2.1, nI_clamp (by omega)]
  have ec : ∀ c, c < nc → hch (hxM M) c = hch H c ∧ hcw (hxM M) c = hcw H c := fun c hc => by
    obtain ⟨a1, a2, a3, a4, a5, a6⟩ := hS.2.2.2.2.1 c hc
    exact ⟨by show ar M 122 c = _; unfold ar; rw [a1, nI_clamp (by omega)], by show ar M 123 c = _; unfold ar; rw [a2, nI_clamp (by omega)]⟩
  have el : ∀ i, i < nl → hls (hxM M) i = hls H i ∧ hlr (hxM M) i = hlr H i ∧ hlt (hxM M) i = hlt H i ∧ hlc (hxM M) i = hlc H i := fun i hi => by
    obtain ⟨a1, a2, a3, a4, a5, a6, a7, a8⟩ := hS.2.2.2.2.2 i hi
    exact ⟨by show ar M 125 i = _; unfold ar; rw [a1, nI_clamp (by omega)], by show ar M 126 i = _; unfold ar; rw [a2, nI_clamp (by omega)], by show ar M 127 i = _; unfold ar; rw [a3, nI_clamp (by omega)], by show ar M 128 i = _; unfold ar; rw [a4, nI_clamp (by omega)]⟩
  intro i hi12 hi
  rw [hS.2.2.2.1, nI_ltI (by omega) (by omega)] at hi
  refine ⟨tl i, (hT i hi).2, (hT i hi).1, fun c => ?_⟩
  rw [htl i hi c, e8, e9]
  refine ⟨fun ⟨a, k, b⟩ => ⟨a, k, ?_⟩, fun ⟨a, k, b⟩ => ⟨a, k, ?_⟩⟩
  · exact tq_imp (H := H) (H' := hxM M) (Nat.le_refl _) (ec c a).1 (ec c a).2 el k i hi b
  · exact tq_imp (H := hxM M) (H' := H) (Nat.le_refl _) (ec c a).1.symm (ec c a).2.symm (fun i hi => ⟨(el i hi).1.symm, (el i hi).2.1.symm, (el i hi).2.2.1.symm, (el i hi).2.2.2.symm⟩) k i hi b
