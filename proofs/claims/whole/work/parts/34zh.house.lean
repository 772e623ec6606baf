/-! houses: who tells whom of which case; the class settles it -/
def upn (f : Nat → Nat) (n v : Nat) : Nat → Nat := fun j => if j = n then v else f j
theorem upn_eq {f : Nat → Nat} {n v : Nat} : upn f n v n = v := if_pos rfl
theorem upn_ne {f : Nat → Nat} {n v j : Nat} (h : j ≠ n) : upn f n v j = f j := if_neg h
abbrev HX : Type := (Nat → Nat) × (Nat → Nat) × (Nat → Nat) × (Nat → Nat) × (Nat → Nat) × (Nat → Nat) × (Nat → Nat)
/-- of a case: house, week, marks; of a letter: sender, receiver, week sent, week of coming -/
def hch (H : HX) : Nat → Nat := H.1
def hcw (H : HX) : Nat → Nat := H.2.1
def hcm (H : HX) : Nat → Nat := H.2.2.1
def hls (H : HX) : Nat → Nat := H.2.2.2.1
def hlr (H : HX) : Nat → Nat := H.2.2.2.2.1
def hlt (H : HX) : Nat → Nat := H.2.2.2.2.2.1
def hlc (H : HX) : Nat → Nat := H.2.2.2.2.2.2
/-- letter i tells of case c, by a chain of at most k letters -/
def tq (H : HX) (nl k i c : Nat) : Prop := tlk (hch H) (hcw H) (hls H) (hlr H) (hlt H) (hlc H) nl k i c
theorem tq_0 {H : HX} {nl i c : Nat} : ¬ tq H nl 0 i c := fun h => h
theorem tq_s {H : HX} {nl k i c : Nat} : tq H nl (k + 1) i c ↔ ((hch H c = hls H i ∧ hcw H c ≤ hlt H i) ∨ ∃ i', i' < nl ∧ hlr H i' = hls H i ∧ hlc H i' ≤ hlt H i ∧ tq H nl k i' c) := Iff.rfl
theorem tq_mono1 {H : HX} {nl c : Nat} : ∀ k i, tq H nl k i c → tq H nl (k + 1) i c
  | 0, i, h => absurd h tq_0
  | k + 1, i, h => by
    rw [tq_s] at h ⊢
    rcases h with h | ⟨i', h1, h2, h3, h4⟩
    · exact Or.inl h
    · exact Or.inr ⟨i', h1, h2, h3, tq_mono1 k i' h4⟩
theorem tq_mono {H : HX} {nl c i : Nat} {k : Nat} : ∀ {k' : Nat}, k ≤ k' → tq H nl k i c → tq H nl k' i c := by
  intro k' h hk
  induction h with
  | refl => exact hk
  | step _ ih => exact tq_mono1 _ i ih
/-- house h knows case c in week w -/
def kq (H : HX) (nl h w c : Nat) : Prop := (hch H c = h ∧ hcw H c ≤ w) ∨ ∃ i, i < nl ∧ hlr H i = h ∧ hlc H i ≤ w ∧ ∃ k, tq H nl k i c
theorem kq_mono {H : HX} {nl h w w' c : Nat} (hw : w ≤ w') (h1 : kq H nl h w c) : kq H nl h w' c := by
  rcases h1 with ⟨a, b⟩ | ⟨i, a, b, d, e⟩
  · exact Or.inl ⟨a, by omega⟩
  · exact Or.inr ⟨i, a, b, by omega, e⟩
theorem tq_fix {H : HX} {nl i c : Nat} : (∃ k, tq H nl k i c) ↔ kq H nl (hls H i) (hlt H i) c := by
  constructor
  · rintro ⟨k, h⟩
    match k, h with
    | 0, h => exact absurd h tq_0
    | k + 1, h =>
      rw [tq_s] at h
      rcases h with h | ⟨i', h1, h2, h3, h4⟩
      · exact Or.inl h
      · exact Or.inr ⟨i', h1, h2, h3, k, h4⟩
  · rintro (h | ⟨i', h1, h2, h3, k, h4⟩)
    · exact ⟨1, tq_s.mpr (Or.inl h)⟩
    · exact ⟨k + 1, tq_s.mpr (Or.inr ⟨i', h1, h2, h3, h4⟩)⟩
theorem tq_chain {H : HX} {nl c : Nat} : ∀ d i, i < nl → tq H nl d i c → (∀ j, j < d → ¬ tq H nl j i c) → ∀ v, 1 ≤ v → v ≤ d → ∃ i', i' < nl ∧ tq H nl v i' c ∧ ∀ j, j < v → ¬ tq H nl j i' c
  | 0, i, hi, h, hm, v, h1, h2 => absurd h tq_0
  | d + 1, i, hi, h, hm, v, h1, h2 => by
    by_cases e : v = d + 1
    · subst e; exact ⟨i, hi, h, hm⟩
    · rcases tq_s.mp h with h' | ⟨i', a1, a2, a3, a4⟩
      · exact absurd (tq_s.mpr (Or.inl h') : tq H nl (0 + 1) i c) (hm 1 (by omega))
      · refine tq_chain d i' a1 a4 (fun j hj hq => ?_) v h1 (by omega)
        exact hm (j + 1) (by omega) (tq_s.mpr (Or.inr ⟨i', a1, a2, a3, hq⟩))
theorem tq_bound {H : HX} {nl c k i : Nat} (hi : i < nl) (h : tq H nl k i c) : tq H nl nl i c := by
  obtain ⟨d, hd, hmin⟩ := pk_least (fun k => tq H nl k i c) ⟨k, h⟩
  have ch : ∀ v, ∃ i', v < d → (i' < nl ∧ tq H nl (v + 1) i' c ∧ ∀ j, j < v + 1 → ¬ tq H nl j i' c) := by
    intro v
    by_cases hv : v < d
    · obtain ⟨i', h'⟩ := tq_chain d i hi hd hmin (v + 1) (by omega) (by omega)
      exact ⟨i', fun _ => h'⟩
    · exact ⟨0, fun z => absurd z hv⟩
  obtain ⟨g, hg⟩ := Classical.skolem.mp ch
  have : d ≤ nl := by
    refine pigeon nl d g (fun v hv => (hg v hv).1) (fun v v' hv hv' e => ?_)
    rcases Nat.lt_trichotomy v v' with z | z | z
    · have h1 := (hg v hv).2.1
      rw [e] at h1
      exact absurd h1 ((hg v' hv').2.2 (v + 1) (by omega))
    · exact z
    · have h1 := (hg v' hv').2.1
      rw [← e] at h1
      exact absurd h1 ((hg v hv).2.2 (v' + 1) (by omega))
  exact tq_mono this hd
/-- more cases or letters: what was told is told -/
theorem tq_imp {H H' : HX} {nl nl' c : Nat} (hn : nl ≤ nl') (e1 : hch H' c = hch H c) (e2 : hcw H' c = hcw H c) (el : ∀ i, i < nl → hls H' i = hls H i ∧ hlr H' i = hlr H i ∧ hlt H' i = hlt H i ∧ hlc H' i = hlc H i) : ∀ k i, i < nl → tq H nl k i c → tq H' nl' k i c
  | 0, i, _, h => absurd h tq_0
  | k + 1, i, hi, h => by
    obtain ⟨l1, l2, l3, l4⟩ := el i hi
    rcases tq_s.mp h with ⟨a, b⟩ | ⟨i', a1, a2, a3, a4⟩
    · exact tq_s.mpr (Or.inl ⟨by rw [e1, l1]; exact a, by rw [e2, l3]; exact b⟩)
    · obtain ⟨m1, m2, m3, m4⟩ := el i' a1
      exact tq_s.mpr (Or.inr ⟨i', by omega, by rw [m2, l1]; exact a2, by rw [m4, l3]; exact a3, tq_imp hn e1 e2 el k i' a1 a4⟩)
/-- the class's rows -/
def HS (M : Mm) (nc nl : Nat) (H : HX) : Prop := nc ≤ 12 ∧ nl ≤ 12 ∧ M.1 121 8 = nI nc ∧ M.1 121 9 = nI nl ∧ (∀ j, j < nc → M.1 122 j = nI (hch H j) ∧ M.1 123 j = nI (hcw H j) ∧ M.1 124 j = nI (hcm H j) ∧ hch H j < 6 ∧ hcw H j < 100 ∧ hcm H j < 256) ∧ ∀ j, j < nl → M.1 125 j = nI (hls H j) ∧ M.1 126 j = nI (hlr H j) ∧ M.1 127 j = nI (hlt H j) ∧ M.1 128 j = nI (hlc H j) ∧ hls H j < 6 ∧ hlr H j < 6 ∧ hlt H j < 100 ∧ hlc H j < 150
/-- the model's rows -/
def HMo (M : Mm) (nc nl : Nat) (H : HX) : Prop := nc ≤ 12 ∧ nl ≤ 12 ∧ M.1 142 70 = nI nc ∧ M.1 142 74 = nI nl ∧ (∀ j, j < nc → M.1 177 j = nI (hch H j) ∧ M.1 178 j = nI (hcw H j) ∧ M.1 179 j = nI (hcm H j) ∧ hch H j < 6 ∧ hcw H j < 100 ∧ hcm H j < 256) ∧ ∀ j, j < nl → M.1 180 j = nI (hls H j) ∧ M.1 181 j = nI (hlr H j) ∧ M.1 182 j = nI (hlt H j) ∧ M.1 182 j + M.1 183 j = nI (hlc H j) ∧ hls H j < 6 ∧ hlr H j < 6 ∧ hlt H j < 100 ∧ hlc H j < 150
/-- what letters tell, as numbers -/
def TT (M : Mm) (nl : Nat) (tl : Nat → Nat) : Prop := ∀ i, i < nl → M.1 129 i = nI (tl i) ∧ tl i < 4096
def hxM (M : Mm) : HX := (ar M 122, ar M 123, ar M 124, ar M 125, ar M 126, ar M 127, ar M 128)
theorem hs_of {M : Mm} (h : V_hous M) : ∃ nc nl, HS M nc nl (hxM M) ∧ HMo M nc nl (hxM M) := by
  obtain ⟨nc, nl, a1, a2, a3, a4, a5, a6, a7, a8⟩ := h
  have cs : ∀ j, j < nc → (M.1 122 j = nI (hch (hxM M) j) ∧ hch (hxM M) j < 6) ∧ (M.1 123 j = nI (hcw (hxM M) j) ∧ hcw (hxM M) j < 100) ∧ (M.1 124 j = nI (hcm (hxM M) j) ∧ hcm (hxM M) j < 256) := fun j hj => by
    obtain ⟨b1, b2, b3, b4, b5, b6⟩ := a7 j hj
    exact ⟨isN_ar (by omega) b4, isN_ar (by omega) b5, isN_ar (by omega) b6⟩
  have ls : ∀ j, j < nl → (M.1 125 j = nI (hls (hxM M) j) ∧ hls (hxM M) j < 6) ∧ (M.1 126 j = nI (hlr (hxM M) j) ∧ hlr (hxM M) j < 6) ∧ (M.1 127 j = nI (hlt (hxM M) j) ∧ hlt (hxM M) j < 100) ∧ (M.1 128 j = nI (hlc (hxM M) j) ∧ hlc (hxM M) j < 150) := fun j hj => by
    obtain ⟨b1, b2, b3, b4, b5, b6, b7, b8⟩ := a8 j hj
    refine ⟨isN_ar (by omega) b5, isN_ar (by omega) b6, isN_ar (by omega) b7, isN_ar (by omega) ?_⟩
    obtain ⟨u, u1, u2⟩ := b7
    obtain ⟨v, v1, v2⟩ := b8
    exact ⟨u + v, by omega, by rw [b4, ← b3, u2, v2, nI_add]⟩
  refine ⟨nc, nl, ⟨a1, a2, a3, a5, fun j hj => ?_, fun j hj => ?_⟩, ⟨a1, a2, a4, a6, fun j hj => ?_, fun j hj => ?_⟩⟩
  · obtain ⟨c1, c2, c3⟩ := cs j hj
    exact ⟨c1.1, c2.1, c3.1, c1.2, c2.2, c3.2⟩
  · obtain ⟨c1, c2, c3, c4⟩ := ls j hj
    exact ⟨c1.1, c2.1, c3.1, c4.1, c1.2, c2.2, c3.2, c4.2⟩
  · obtain ⟨c1, c2, c3⟩ := cs j hj
    obtain ⟨b1, b2, b3, -⟩ := a7 j hj
    exact ⟨b1 ▸ c1.1, b2 ▸ c2.1, b3 ▸ c3.1, c1.2, c2.2, c3.2⟩
  · obtain ⟨c1, c2, c3, c4⟩ := ls j hj
    obtain ⟨b1, b2, b3, b4, -⟩ := a8 j hj
    exact ⟨b1 ▸ c1.1, b2 ▸ c2.1, b3 ▸ c3.1, b4 ▸ c4.1, c1.2, c2.2, c3.2, c4.2⟩
theorem or_nI (x y : Nat) : nI x ||| nI y = nI (x ||| y) := by
  apply Int32.toBitVec_inj.mp
  rw [Int32.toBitVec_or]
  show BitVec.ofNat 32 x ||| BitVec.ofNat 32 y = BitVec.ofNat 32 (x ||| y)
  apply BitVec.eq_of_getLsbD_eq
  intro j hj
  simp only [BitVec.getLsbD_or, BitVec.getLsbD_ofNat, Nat.testBit_or, hj, decide_true, Bool.true_and]
theorem and_nI (x y : Nat) : nI x &&& nI y = nI (x &&& y) := by
  apply Int32.toBitVec_inj.mp
  rw [Int32.toBitVec_and]
  show BitVec.ofNat 32 x &&& BitVec.ofNat 32 y = BitVec.ofNat 32 (x &&& y)
  apply BitVec.eq_of_getLsbD_eq
  intro j hj
  simp only [BitVec.getLsbD_and, BitVec.getLsbD_ofNat, Nat.testBit_and, hj, decide_true, Bool.true_and]
theorem sh12 : ∀ i, i < 12 → (1 : Int32) <<< (nI i &&& 31) = nI (2 ^ i) := by decide +kernel
theorem bt12 {t i : Nat} (ht : t < 4096) (hi : i < 12) : (nI t &&& ((1 : Int32) <<< (nI i &&& 31))) = 0 ↔ t.testBit i = false := by
  rw [sh12 i hi, and_nI]
  have hle : t &&& 2 ^ i ≤ t := Nat.and_le_left
  constructor
  · intro h
    have h0 : t &&& 2 ^ i = 0 := (nI_eq (by omega) (by omega)).mp (show nI (t &&& 2 ^ i) = nI 0 from h)
    have h1 := congrArg (fun x => x.testBit i) h0
    simpa using h1
  · intro h
    have h0 : t &&& 2 ^ i = 0 := by
      apply Nat.eq_of_testBit_eq
      intro j
      rw [Nat.testBit_and, Nat.testBit_two_pow, Nat.zero_testBit]
      by_cases e : i = j
      · subst e; simp [h]
      · simp [e]
    rw [h0]; rfl
theorem or_4096 {x y : Nat} (hx : x < 4096) (hy : y < 4096) : x ||| y < 4096 := Nat.or_lt_two_pow (n := 12) hx hy
/-- what house h knows in week w, if the letters tell tl -/
def kt (H : HX) (nl h w : Nat) (tl : Nat → Nat) (c : Nat) : Prop := (hch H c = h ∧ hcw H c ≤ w) ∨ ∃ i, i < nl ∧ hlr H i = h ∧ hlc H i ≤ w ∧ (tl i).testBit c = true
theorem known5 {nc nl h w : Nat} {H : HX} {M : Mm} {EK K : Int32 → Mm → Prop} (hF : FX M) (hS : HS M nc nl H) (hh : h < 6) (hw : w < 1000) (hK : ∀ t, t < 4096 → (∀ c, t.testBit c = true ↔ (c < nc ∧ hch H c = h ∧ hcw H c ≤ w)) → EK (nI t) M) :
    ∀ (r i t : Nat), i + r = nc → t < 4096 → (∀ c, t.testBit c = true ↔ (c < i ∧ hch H c = h ∧ hcw H c ≤ w)) → f_X1_known_L5 S0 121 (nI h) (nI w) EK K (r + 1) (nI t) (nI i) M
  | 0, i, t, hi, ht, hb => by
    unfold f_X1_known_L5 f_X1_known_B5
    have e : i = nc := by omega
    subst e
    have := hS.1
    rw [hS.2.2.1]
    exact ⟨fun _ => hK t ht hb, fun z => absurd (nI_le (Nat.le_refl _) (by omega)) z⟩
  | r + 1, i, t, hi, ht, hb => by
    unfold f_X1_known_L5 f_X1_known_B5
    have n12 := hS.1
    rw [hS.2.2.1]
    refine ⟨fun z => absurd z (nI_ge (by omega) (by omega)), fun _ => ?_⟩
    obtain ⟨c1, c2, c3, c4, c5, c6⟩ := hS.2.2.2.2.1 i (by omega)
    have hin : vp_in (nI i) 12 := vp_in_nI (by omega) (by omega)
    have hcl : (nI i).toNatClampNeg = i := nI_clamp (by omega)
    simp only [fx_121_0 hF, fx_121_1 hF, ex_some, shp_ne (show (122 : Nat) ≠ 100000 by decide), shp_ne (show (123 : Nat) ≠ 100000 by decide), s0_122, s0_123, ex_sh, hin, hcl, true_and, forall_eq, nI_1, c1, c2]
    rw [nI_eq (by omega) (by omega), nI_ltI (by omega) (by omega)]
    have skip : ¬ (hch H i = h ∧ hcw H i ≤ w) → f_X1_known_L5 S0 121 (nI h) (nI w) EK K (r + 1) (nI t) (nI (i + 1)) M := by
      intro hn
      refine known5 hF hS hh hw hK r (i + 1) t (by omega) ht (fun c => ?_)
      rw [hb c]
      constructor
      · rintro ⟨a, b, d⟩; exact ⟨by omega, b, d⟩
      · rintro ⟨a, b, d⟩
        refine ⟨?_, b, d⟩
        rcases Nat.lt_or_ge c i with z | z
        · exact z
        · exact absurd (show hch H i = h ∧ hcw H i ≤ w by rw [show i = c by omega]; exact ⟨b, d⟩) hn
    refine ⟨fun e => ⟨fun z => skip (fun q => by omega), fun z => ?_⟩, fun e => skip (fun q => e q.1)⟩
    rw [sh12 i (by omega), or_nI]
    have h2 : 2 ^ i < 4096 := Nat.pow_lt_pow_right (by omega) (show i < 12 by omega)
    refine known5 hF hS hh hw hK r (i + 1) (t ||| 2 ^ i) (by omega) (or_4096 ht h2) (fun c => ?_)
    rw [Nat.testBit_or, Nat.testBit_two_pow, Bool.or_eq_true, hb c, decide_eq_true_eq]
    constructor
    · rintro (⟨a, b, d⟩ | a)
      · exact ⟨by omega, b, d⟩
      · subst a; exact ⟨by omega, e, by omega⟩
    · rintro ⟨a, b, d⟩
      rcases Nat.lt_or_ge c i with q | q
      · exact Or.inl ⟨q, b, d⟩
      · exact Or.inr (by omega)
theorem known52 {nc nl h w t0 : Nat} {H : HX} {tl : Nat → Nat} {M : Mm} {EK K : Int32 → Mm → Prop} (hF : FX M) (hS : HS M nc nl H) (hT : TT M nl tl) (hh : h < 6) (hw : w < 1000) (hK : ∀ t, t < 4096 → (∀ c, t.testBit c = true ↔ (t0.testBit c = true ∨ ∃ i, i < nl ∧ hlr H i = h ∧ hlc H i ≤ w ∧ (tl i).testBit c = true)) → EK (nI t) M) :
    ∀ (r i t : Nat), i + r = nl → t < 4096 → (∀ c, t.testBit c = true ↔ (t0.testBit c = true ∨ ∃ i', i' < i ∧ hlr H i' = h ∧ hlc H i' ≤ w ∧ (tl i').testBit c = true)) → f_X1_known_L52 S0 121 (nI h) (nI w) EK K (r + 1) (nI t) (nI i) M
  | 0, i, t, hi, ht, hb => by
    unfold f_X1_known_L52 f_X1_known_B52
    have e : i = nl := by omega
    subst e
    have := hS.2.1
    rw [hS.2.2.2.1]
    exact ⟨fun _ => hK t ht hb, fun z => absurd (nI_le (Nat.le_refl _) (by omega)) z⟩
  | r + 1, i, t, hi, ht, hb => by
    unfold f_X1_known_L52 f_X1_known_B52
    have n12 := hS.2.1
    rw [hS.2.2.2.1]
    refine ⟨fun z => absurd z (nI_ge (by omega) (by omega)), fun _ => ?_⟩
    obtain ⟨c1, c2, c3, c4, c5, c6, c7, c8⟩ := hS.2.2.2.2.2 i (by omega)
    obtain ⟨t1, t2⟩ := hT i (by omega)
    have hin : vp_in (nI i) 12 := vp_in_nI (by omega) (by omega)
    have hcl : (nI i).toNatClampNeg = i := nI_clamp (by omega)
    simp only [fx_121_4 hF, fx_121_6 hF, fx_121_7 hF, ex_some, shp_ne (show (126 : Nat) ≠ 100000 by decide), shp_ne (show (128 : Nat) ≠ 100000 by decide), shp_ne (show (129 : Nat) ≠ 100000 by decide), s0_126, s0_128, s0_129, ex_sh, hin, hcl, true_and, forall_eq, nI_1, c2, c4, t1]
    rw [nI_eq (by omega) (by omega), nI_ltI (by omega) (by omega), or_nI]
    have skip : ¬ (hlr H i = h ∧ hlc H i ≤ w) → f_X1_known_L52 S0 121 (nI h) (nI w) EK K (r + 1) (nI t) (nI (i + 1)) M := by
      intro hn
      refine known52 hF hS hT hh hw hK r (i + 1) t (by omega) ht (fun c => ?_)
      rw [hb c]
      constructor
      · rintro (a | ⟨i', a, b, d, e⟩)
        · exact Or.inl a
        · exact Or.inr ⟨i', by omega, b, d, e⟩
      · rintro (a | ⟨i', a, b, d, e⟩)
        · exact Or.inl a
        · refine Or.inr ⟨i', ?_, b, d, e⟩
          rcases Nat.lt_or_ge i' i with z | z
          · exact z
          · exact absurd (show hlr H i = h ∧ hlc H i ≤ w by rw [show i = i' by omega]; exact ⟨b, d⟩) hn
    refine ⟨fun e => ⟨fun z => skip (fun q => by omega), fun z => ?_⟩, fun e => skip (fun q => e q.1)⟩
    refine known52 hF hS hT hh hw hK r (i + 1) (t ||| tl i) (by omega) (or_4096 ht t2) (fun c => ?_)
    rw [Nat.testBit_or, Bool.or_eq_true, hb c]
    constructor
    · rintro ((a | ⟨i', a, b, d, e'⟩) | a)
      · exact Or.inl a
      · exact Or.inr ⟨i', by omega, b, d, e'⟩
      · exact Or.inr ⟨i, by omega, e, by omega, a⟩
    · rintro (a | ⟨i', a, b, d, e'⟩)
      · exact Or.inl (Or.inl a)
      · rcases Nat.lt_or_ge i' i with q | q
        · exact Or.inl (Or.inr ⟨i', q, b, d, e'⟩)
        · have : i' = i := by omega
          subst this; exact Or.inr e'
theorem known_ok {nc nl h w : Nat} {H : HX} {tl : Nat → Nat} {M : Mm} {K : Int32 → Mm → Prop} (hF : FX M) (hS : HS M nc nl H) (hT : TT M nl tl) (hb : ∀ i, i < nl → ∀ c, (tl i).testBit c = true → c < nc) (hh : h < 6) (hw : w < 1000) (hK : ∀ t, t < 4096 → (∀ c, t.testBit c = true ↔ (c < nc ∧ kt H nl h w tl c)) → K (nI t) M) : f_X1_known S0 121 (nI h) (nI w) M K := by
  unfold f_X1_known
  refine ⟨nc + 1, known5 hF hS hh hw (fun t ht h1 => ⟨nl + 1, known52 (t0 := t) hF hS hT hh hw (fun t2 ht2 h2 => hK t2 ht2 (fun c => ?_)) nl 0 t (by omega) ht (fun c => ⟨fun z => Or.inl z, fun z => z.elim (fun a => a) (fun ⟨i', a, _⟩ => absurd a (by omega))⟩)⟩) nc 0 0 (by omega) (by omega) (fun c => by simp)⟩
  rw [h2 c, h1 c]
  constructor
  · rintro (⟨a, b, d⟩ | ⟨i, a, b, d, e⟩)
    · exact ⟨a, Or.inl ⟨b, d⟩⟩
    · exact ⟨hb i a c e, Or.inr ⟨i, a, b, d, e⟩⟩
  · rintro ⟨a, (⟨b, d⟩ | ⟨i, b, d, e, f⟩)⟩
    · exact Or.inl ⟨a, b, d⟩
    · exact Or.inr ⟨i, b, d, e, f⟩
def d129 : Nat → Nat → Bool := fun b _ => b == 129
theorem HS_fr {D : Nat → Nat → Bool} {E : Nat → Bool} {M M' : Mm} {nc nl : Nat} {H : HX} (f : Fr D E M M') (h1 : D 121 8 = false) (h2 : D 121 9 = false) (h3 : ∀ a j, 122 ≤ a → a ≤ 128 → D a j = false) (h : HS M nc nl H) : HS M' nc nl H := by
  obtain ⟨a1, a2, a3, a4, a5, a6⟩ := h
  refine ⟨a1, a2, (f.1 _ _ h1).trans a3, (f.1 _ _ h2).trans a4, fun j hj => ?_, fun j hj => ?_⟩
  · obtain ⟨b1, b2, b3, b4⟩ := a5 j hj
    exact ⟨(f.1 _ _ (h3 _ _ (by omega) (by omega))).trans b1, (f.1 _ _ (h3 _ _ (by omega) (by omega))).trans b2, (f.1 _ _ (h3 _ _ (by omega) (by omega))).trans b3, b4⟩
  · obtain ⟨b1, b2, b3, b4, b5⟩ := a6 j hj
    exact ⟨(f.1 _ _ (h3 _ _ (by omega) (by omega))).trans b1, (f.1 _ _ (h3 _ _ (by omega) (by omega))).trans b2, (f.1 _ _ (h3 _ _ (by omega) (by omega))).trans b3, (f.1 _ _ (h3 _ _ (by omega) (by omega))).trans b4, b5⟩
theorem HS_129 {M M' : Mm} {nc nl : Nat} {H : HX} (f : Fr d129 eN M M') (h : HS M nc nl H) : HS M' nc nl H :=
  HS_fr f rfl rfl (fun a j h1 h2 => by unfold d129; simp only [beq_eq_false_iff_ne]; omega) h
/-- the letters tell nothing wrong -/
def snd_ (H : HX) (nc nl : Nat) (tl : Nat → Nat) : Prop := ∀ i, i < nl → ∀ c, (tl i).testBit c = true → c < nc ∧ ∃ k, tq H nl k i c
def low_ (H : HX) (nc nl t : Nat) (tl : Nat → Nat) : Prop := ∀ i, i < nl → ∀ c, c < nc → tq H nl t i c → (tl i).testBit c = true
theorem set12 {nc nl t : Nat} {H : HX} {x1 : Int32} {M0 : Mm} {EK K : Mm → Prop} (hF0 : FX M0) (hS0 : HS M0 nc nl H) (hK : ∀ M' tl', Fr d129 eN M0 M' → TT M' nl tl' → snd_ H nc nl tl' → low_ H nc nl (t + 1) tl' → EK M') :
    ∀ (r i : Nat) (tl : Nat → Nat) (M : Mm), i + r = nl → Fr d129 eN M0 M → TT M nl tl → snd_ H nc nl tl → low_ H nc nl t tl → (∀ i', i' < i → ∀ c, c < nc → tq H nl (t + 1) i' c → (tl i').testBit c = true) → f_X1_settle_L12 S0 121 x1 EK K (r + 1) (nI i) M
  | 0, i, tl, M, hi, hf, hT, hs, hl, hp => by
    unfold f_X1_settle_L12 f_X1_settle_B12
    have e : i = nl := by omega
    subst e
    have := hS0.2.1
    rw [(HS_129 hf hS0).2.2.2.1]
    exact ⟨fun _ => hK M tl hf hT hs (fun i' h' => hp i' h'), fun z => absurd (nI_le (Nat.le_refl _) (by omega)) z⟩
  | r + 1, i, tl, M, hi, hf, hT, hs, hl, hp => by
    unfold f_X1_settle_L12 f_X1_settle_B12
    have hS := HS_129 hf hS0
    have hF := FX_fr hf hF0
    have n12 := hS.2.1
    rw [hS.2.2.2.1]
    refine ⟨fun z => absurd z (nI_ge (by omega) (by omega)), fun _ => ?_⟩
    obtain ⟨c1, c2, c3, c4, c5, c6, c7, c8⟩ := hS.2.2.2.2.2 i (by omega)
    have hin : vp_in (nI i) 12 := vp_in_nI (by omega) (by omega)
    have hcl : (nI i).toNatClampNeg = i := nI_clamp (by omega)
    simp only [fx_121_3 hF, fx_121_5 hF, fx_121_7 hF, ex_some, shp_ne (show (125 : Nat) ≠ 100000 by decide), shp_ne (show (127 : Nat) ≠ 100000 by decide), s0_125, s0_127, s0_129, ex_sh, hin, hcl, true_and, forall_eq, nI_1, c1, c3]
    refine known_ok hF hS hT (fun i' h' c hc => (hs i' h' c hc).1) c5 (by omega) (fun t' ht' hb => ?_)
    have hb2 : ∀ c, t'.testBit c = true → c < nc ∧ ∃ k, tq H nl k i c := fun c hc => by
      obtain ⟨q1, q2⟩ := (hb c).mp hc
      refine ⟨q1, tq_fix.mpr ?_⟩
      rcases q2 with q2 | ⟨i', a, b, d, e⟩
      · exact Or.inl q2
      · exact Or.inr ⟨i', a, b, d, (hs i' a c e).2⟩
    have hb3 : ∀ c, c < nc → tq H nl (t + 1) i c → t'.testBit c = true := fun c hc hq => by
      rw [hb c]
      refine ⟨hc, ?_⟩
      rcases tq_s.mp hq with q | ⟨i', a1, a2, a3, a4⟩
      · exact Or.inl q
      · exact Or.inr ⟨i', a1, a2, a3, hl i' a1 c hc a4⟩
    refine set12 hF0 hS0 hK r (i + 1) (upn tl i t') _ (by omega) (Fr_I rfl hf) (fun s hsn => ?_) (fun s hsn c hc => ?_) (fun s hsn c hc hq => ?_) (fun s hsi c hc hq => ?_)
    · rw [rI]
      by_cases e : s = i
      · rw [if_pos ⟨rfl, e⟩, e, upn_eq]; exact ⟨rfl, ht'⟩
      · rw [if_neg (by omega), upn_ne e]; exact hT s hsn
    · by_cases e : s = i
      · subst e; rw [upn_eq] at hc; exact hb2 c hc
      · rw [upn_ne e] at hc; exact hs s hsn c hc
    · by_cases e : s = i
      · subst e; rw [upn_eq]; exact hb3 c hc (tq_mono1 _ _ hq)
      · rw [upn_ne e]; exact hl s hsn c hc hq
    · by_cases e : s = i
      · subst e; rw [upn_eq]; exact hb3 c hc hq
      · rw [upn_ne e]; exact hp s (by omega) c hc hq
theorem set2 {nc nl : Nat} {H : HX} {M0 : Mm} {EK K : Mm → Prop} (hF0 : FX M0) (hS0 : HS M0 nc nl H) (hK : ∀ M' tl', Fr d129 eN M0 M' → TT M' nl tl' → snd_ H nc nl tl' → low_ H nc nl nl tl' → EK M') :
    ∀ (r t : Nat) (tl : Nat → Nat) (M : Mm), t + r = nl → Fr d129 eN M0 M → TT M nl tl → snd_ H nc nl tl → low_ H nc nl t tl → f_X1_settle_L2 S0 121 EK K (r + 1) (nI t) M
  | 0, t, tl, M, ht, hf, hT, hs, hl => by
    unfold f_X1_settle_L2 f_X1_settle_B2
    have e : t = nl := by omega
    subst e
    have := hS0.2.1
    rw [(HS_129 hf hS0).2.2.2.1]
    exact ⟨fun _ => hK M tl hf hT hs hl, fun z => absurd (nI_le (Nat.le_refl _) (by omega)) z⟩
  | r + 1, t, tl, M, ht, hf, hT, hs, hl => by
    unfold f_X1_settle_L2 f_X1_settle_B2
    have n12 := hS0.2.1
    rw [(HS_129 hf hS0).2.2.2.1]
    refine ⟨fun z => absurd z (nI_ge (by omega) (by omega)), fun _ => ⟨nl + 1, ?_⟩⟩
    simp only [forall_eq, nI_1]
    exact set12 (t := t) (FX_fr hf hF0) (HS_129 hf hS0) (fun M' tl' f' T' s' l' => set2 hF0 hS0 hK r (t + 1) tl' M' (by omega) (Fr_tr hf f') T' s' l') nl 0 tl M (by omega) (Fr_refl _ _ _) hT hs hl (fun i' h' => absurd h' (by omega))
theorem settle_ok {nc nl : Nat} {H : HX} {tl : Nat → Nat} {M : Mm} {K : Mm → Prop} (hF : FX M) (hS : HS M nc nl H) (hT : TT M nl tl) (hs : snd_ H nc nl tl) (hK : ∀ M' tl', Fr d129 eN M M' → TT M' nl tl' → (∀ i, i < nl → ∀ c, (tl' i).testBit c = true ↔ (c < nc ∧ ∃ k, tq H nl k i c)) → K M') : f_X1_settle S0 121 M K := by
  unfold f_X1_settle
  refine ⟨nl + 1, set2 hF hS (fun M' tl' f' T' s' l' => hK M' tl' f' T' (fun i hi c => ⟨s' i hi c, fun ⟨h1, k, h2⟩ => l' i hi c h1 (tq_bound hi h2)⟩)) nl 0 tl M (by omega) (Fr_refl _ _ _) hT hs (fun i hi c hc hq => absurd hq tq_0)⟩
