/-! reading an expression: the model's small methods -/
def BMr (c : Nat → Nat) (len : Nat) (ak : Bool) (rw_ : Nat) (M : Mm) : Prop := FX M ∧ M.1 142 6 = nI len ∧ len ≤ 60 ∧ (∀ j, j < len → M.1 144 j = nI (c j) ∧ c j < 256) ∧ M.1 142 8 = akI ak ∧ M.1 142 13 = nI rw_ ∧ rw_ < 90
def dMx (rw_ : Nat) : Nat → Nat → Bool := fun b j => (b == 142 && (j == 5 || j == 7)) || (b == 147 && (64 * rw_ ≤ j && j < 64 * rw_ + 64 : Bool)) || (b == 148 && j == rw_)
theorem BMr_fr {c : Nat → Nat} {len rw_ : Nat} {ak : Bool} {M M' : Mm} (f : Fr (dMx rw_) eN M M') (h : BMr c len ak rw_ M) : BMr c len ak rw_ M' := by
  obtain ⟨h1, h2, h3, h4, h5, h6, h7⟩ := h
  refine ⟨FX_fr f h1, ?_, h3, fun j hj => ?_, ?_, ?_, h7⟩
  · rw [f.1 142 6 rfl]; exact h2
  · rw [f.1 144 j rfl]; exact h4 j hj
  · rw [f.1 142 8 rfl]; exact h5
  · rw [f.1 142 13 rfl]; exact h6
/-- where the model is: at p, d brackets open, e marked -/
def MSx (rw_ : Nat) (M : Mm) (p d : Nat) (e : List Nat) : Prop := M.1 142 5 = nI p ∧ M.1 142 7 = nI d ∧ RwM M rw_ e
theorem MS_pos {rw_ p q d : Nat} {e : List Nat} {M : Mm} (h : MSx rw_ M p d e) : MSx rw_ (stI M 142 5 (nI q)) q d e := by
  obtain ⟨h1, h2, h3, h4⟩ := h
  exact ⟨rI_eq, by rw [rI_ne (by omega)]; exact h2, by rw [rI_ne (by omega)]; exact h3, fun j hj => by rw [rI_ne (by omega)]; exact h4 j hj⟩
theorem MS_dep {rw_ p d d' : Nat} {e : List Nat} {M : Mm} (h : MSx rw_ M p d e) : MSx rw_ (stI M 142 7 (nI d')) p d' e := by
  obtain ⟨h1, h2, h3, h4⟩ := h
  exact ⟨by rw [rI_ne (by omega)]; exact h1, rI_eq, by rw [rI_ne (by omega)]; exact h3, fun j hj => by rw [rI_ne (by omega)]; exact h4 j hj⟩
theorem fMx_pos {rw_ : Nat} {M M' : Mm} {v : Int32} (f : Fr (dMx rw_) eN M M') : Fr (dMx rw_) eN M (stI M' 142 5 v) := Fr_I (by unfold dMx; simp) f
theorem fMx_dep {rw_ : Nat} {M M' : Mm} {v : Int32} (f : Fr (dMx rw_) eN M M') : Fr (dMx rw_) eN M (stI M' 142 7 v) := Fr_I (by unfold dMx; simp) f
theorem isAt_ok {c : Nat → Nat} {len rw_ p x : Nat} {ak : Bool} {M : Mm} {K : Int32 → Mm → Prop} (hB : BMr c len ak rw_ M) (hp5 : M.1 142 5 = nI p) (hp : p ≤ len) (hx : x < 256) (h1 : gcx c len p = x → K 1 M) (h0 : gcx c len p ≠ x → K 0 M) : f_X11_isAt S0 142 (nI x) M K := by
  obtain ⟨b1, b2, b3, b4, b5, b6, b7⟩ := hB
  unfold f_X11_isAt
  rw [b2, hp5, nI_leI (by omega) (by omega)]
  unfold gcx at h1 h0
  refine ⟨fun z => h0 (by rw [if_neg (by omega)]; omega), fun z => ?_⟩
  have hpl : p < len := by omega
  rw [if_pos hpl] at h1 h0
  have hin : vp_in (nI p) 100 := vp_in_nI (by omega) (by omega)
  have hcl : (nI p).toNatClampNeg = p := nI_clamp (by omega)
  obtain ⟨g1, g2⟩ := b4 p hpl
  simp only [fx_142_3 b1, ex_some, shp_ne (show (144 : Nat) ≠ 100000 by decide), s0_144, ex_sh, hin, hcl, true_and, g1]
  rw [nI_eq (by omega) (by omega)]
  exact ⟨h1, h0⟩
theorem comes_x {c : Nat → Nat} {len rw_ p d x : Nat} {ak : Bool} {e : List Nat} {M : Mm} {K : Int32 → Mm → Prop} (hB : BMr c len ak rw_ M) (h : MSx rw_ M p d e) (hp : p ≤ len) (hx : x < 256) (h1 : gcx c len p = x → ∀ M', Fr (dMx rw_) eN M M' → MSx rw_ M' (p + 1) d e → K 1 M') (h0 : gcx c len p ≠ x → ∀ M', Fr (dMx rw_) eN M M' → MSx rw_ M' p d e → K 0 M') : f_X11_comes S0 142 (nI x) M K := by
  unfold f_X11_comes
  refine isAt_ok hB h.1 hp hx (fun e1 => ?_) (fun e0 => ?_)
  · unfold f_X11_truth
    refine ⟨fun z => absurd z (by decide), fun _ => ?_⟩
    simp only [forall_eq]
    rw [h.1, nI_1]
    exact ⟨Or.inr trivial, h1 e1 _ (fMx_pos (Fr_refl _ _ _)) (MS_pos h)⟩
  · unfold f_X11_truth
    refine ⟨fun _ => ?_, fun z => absurd rfl z⟩
    simp only [forall_eq]
    rw [h.1, show nI p + (0 : Int32) = nI p from Int32.add_zero _]
    exact ⟨Or.inl trivial, h0 e0 _ (fMx_pos (Fr_refl _ _ _)) (MS_pos h)⟩
theorem marks_ok {c : Nat → Nat} {len rw_ p d x : Nat} {ak : Bool} {v : Int32} {e : List Nat} {M : Mm} {K : Mm → Prop} (hB : BMr c len ak rw_ M) (h : MSx rw_ M p d e) (hl : e.length < 64) (hv : v = nI (cmk x)) (hK : ∀ M', Fr (dMx rw_) eN M M' → MSx rw_ M' p d (e ++ [x]) → K M') : f_X11_marks S0 142 v M K := by
  obtain ⟨b1, b2, b3, b4, b5, b6, b7⟩ := hB
  obtain ⟨h1, h2, h3, h4⟩ := h
  subst hv
  unfold f_X11_marks
  have hin : vp_in (nI rw_) 90 := vp_in_nI b7 (by omega)
  have hcl : (nI rw_).toNatClampNeg = rw_ := nI_clamp (by omega)
  have ix : (64 : Int32) * nI rw_ + nI e.length = nI (64 * rw_ + e.length) := by rw [show (64 : Int32) = nI 64 from rfl, pk_mul, nI_add]
  have hin2 : vp_in (nI (64 * rw_ + e.length)) 5760 := vp_in_nI (by omega) (by omega)
  have hcl2 : (nI (64 * rw_ + e.length)).toNatClampNeg = 64 * rw_ + e.length := nI_clamp (by omega)
  have e13 : ∀ w, (stI M 147 (64 * rw_ + e.length) w).1 142 13 = nI rw_ := fun w => by rw [rI_ne (by omega)]; exact b6
  have e148 : ∀ w, (stI M 147 (64 * rw_ + e.length) w).1 148 rw_ = nI e.length := fun w => by rw [rI_ne (by omega)]; exact h3
  simp only [rIr, fx_142_11 b1, fx_142_12 b1, ex_some, shp_ne (show (148 : Nat) ≠ 100000 by decide), s0_147, s0_148, ex_sh, b6, e13, hin, hcl, h3, e148, ix, hin2, hcl2, true_and, forall_eq, nI_1]
  refine hK _ (Fr_I (by unfold dMx; simp) (Fr_I (by unfold dMx; simp; omega) (Fr_refl _ _ _))) ⟨?_, ?_, ?_, fun j hj => ?_⟩
  · rw [rI_ne (by omega), rI_ne (by omega)]; exact h1
  · rw [rI_ne (by omega), rI_ne (by omega)]; exact h2
  · rw [rI_eq]; simp
  · simp only [List.length_append, List.length_cons, List.length_nil] at hj
    rw [rI_ne (by omega), rI]
    by_cases ej : j = e.length
    · rw [if_pos ⟨rfl, by omega⟩, ej, gd_eq]
    · rw [if_neg (by omega), gd_lt (by omega)]; exact h4 j (by omega)
def inI (x lo hi : Int64) : Int32 := if x < lo ∨ hi < x then 0 else 1
theorem in_gen {S : Ss} {x lo hi : Int64} {M : Mm} {K : Int32 → Mm → Prop} (h : K (inI x lo hi) M) : f_X11_in S x lo hi M K := by
  unfold inI at h
  unfold f_X11_in
  refine ⟨fun z => ?_, fun z => ⟨fun y => ?_, fun y => ?_⟩⟩
  · rw [if_pos (Or.inl z)] at h; exact h
  · rw [if_pos (Or.inr y)] at h; exact h
  · rw [if_neg (fun q => q.elim z y)] at h; exact h
theorem inD_eq : ∀ x, x < 256 → inI (nI x).toInt64 48 57 = if dgx x = true then 1 else 0 := by decide +kernel
theorem isDM_ok {c : Nat → Nat} {len rw_ p : Nat} {ak : Bool} {M : Mm} {K : Int32 → Mm → Prop} (hB : BMr c len ak rw_ M) (hp5 : M.1 142 5 = nI p) (hp : p ≤ len) (h1 : dgx (gcx c len p) = true → K 1 M) (h0 : dgx (gcx c len p) = false → K 0 M) : f_X11_isDigit S0 142 M K := by
  obtain ⟨b1, b2, b3, b4, b5, b6, b7⟩ := hB
  unfold f_X11_isDigit
  rw [b2, hp5, nI_leI (by omega) (by omega)]
  unfold gcx at h1 h0
  refine ⟨fun z => h0 (by rw [if_neg (by omega)]; rfl), fun z => ?_⟩
  have hpl : p < len := by omega
  rw [if_pos hpl] at h1 h0
  have hin : vp_in (nI p) 100 := vp_in_nI (by omega) (by omega)
  have hcl : (nI p).toNatClampNeg = p := nI_clamp (by omega)
  obtain ⟨g1, g2⟩ := b4 p hpl
  simp only [fx_142_3 b1, ex_some, shp_ne (show (144 : Nat) ≠ 100000 by decide), s0_144, ex_sh, hin, hcl, true_and, g1]
  refine in_gen ?_
  rw [inD_eq _ g2]
  rcases hd : dgx (c p) with _ | _
  · exact ⟨fun _ => h0 hd, fun q => absurd rfl q⟩
  · exact ⟨fun q => absurd q (by decide), fun _ => h1 hd⟩
theorem dig_L {c : Nat → Nat} {len rw_ d kk : Nat} {ak : Bool} {e : List Nat} {M0 : Mm} {EK K : Int32 → Mm → Prop} (hkk : kk < 10) (hB0 : BMr c len ak rw_ M0) :
    ∀ (r i a p : Nat) (M : Mm), i + r = kk → p ≤ len → Fr (dMx rw_) eN M0 M → MSx rw_ M p d e → (∀ M', Fr (dMx rw_) eN M0 M' → MSx rw_ M' (nmv c len r p a).2 d e → EK (nI (nmv c len r p a).1) M') → f_X11_digits_L13 S0 142 (nI kk) EK K (r + 1) (nI a) (nI i) M
  | 0, i, a, p, M, hi, hp, hf, h, hK => by
    unfold f_X11_digits_L13 f_X11_digits_B13
    exact ⟨fun _ => hK M hf h, fun z => absurd (nI_le (by omega) (by omega)) z⟩
  | r + 1, i, a, p, M, hi, hp, hf, h, hK => by
    have hB := BMr_fr hf hB0
    unfold f_X11_digits_L13 f_X11_digits_B13
    unfold nmv at hK
    refine ⟨fun z => absurd z (nI_ge (by omega) (by omega)), fun _ => isDM_ok hB h.1 hp (fun hd => ⟨fun q => absurd q (by decide), fun _ => ?_⟩) (fun hd => ⟨fun _ => ?_, fun q => absurd rfl q⟩)⟩
    · rw [if_pos hd] at hK
      obtain ⟨b1, b2, b3, b4, b5, b6, b7⟩ := hB
      have hpl : p < len := gcx_lt (c := c) (fun z => by rw [z] at hd; simp [dgx] at hd)
      have hd' : 48 ≤ gcx c len p ∧ gcx c len p ≤ 57 := by simpa [dgx] using hd
      have eg : gcx c len p = c p := by unfold gcx; rw [if_pos hpl]
      have hin : vp_in (nI p) 100 := vp_in_nI (by omega) (by omega)
      have hcl : (nI p).toNatClampNeg = p := nI_clamp (by omega)
      obtain ⟨g1, g2⟩ := b4 p hpl
      have ev : (10 : Int32) * nI a + nI (c p) - (48 : Int32) = nI (10 * a + gcx c len p - 48) := by
        rw [← eg, show (10 : Int32) = nI 10 from rfl, pk_mul, nI_add]
        have e2 : 10 * a + gcx c len p = (10 * a + gcx c len p - 48) + 48 := by omega
        rw [e2, ← nI_add, show (48 : Int32) = nI 48 from rfl, show 10 * a + gcx c len p - 48 + 48 - 48 = 10 * a + gcx c len p - 48 by omega]
        rw [Int32.sub_eq_add_neg, Int32.add_assoc, show nI 48 + -nI 48 = 0 from rfl, Int32.add_zero]
      simp only [fx_142_3 b1, ex_some, shp_ne (show (144 : Nat) ≠ 100000 by decide), s0_144, ex_sh, h.1, hin, hcl, true_and, forall_eq, g1, ev, nI_1]
      exact dig_L hkk hB0 r (i + 1) _ (p + 1) _ (by omega) (by omega) (fMx_pos hf) (MS_pos h) hK
    · rw [if_neg (by rw [hd]; decide)] at hK
      exact hK M hf h
theorem digits_ok {c : Nat → Nat} {len rw_ p d kk : Nat} {ak : Bool} {e : List Nat} {M : Mm} {K : Int32 → Mm → Prop} (hkk : kk < 10) (hB : BMr c len ak rw_ M) (h : MSx rw_ M p d e) (hp : p ≤ len) (h1 : dgx (gcx c len p) = true → ∀ M', Fr (dMx rw_) eN M M' → MSx rw_ M' (nmv c len kk p 0).2 d e → K (nI (nmv c len kk p 0).1) M') (h0 : dgx (gcx c len p) = false → K (-1) M) : f_X11_digits S0 142 (nI kk) M K := by
  unfold f_X11_digits
  refine isDM_ok hB h.1 hp (fun hd => ⟨fun q => absurd q (by decide), fun _ => ?_⟩) (fun hd => ⟨fun _ => h0 hd, fun q => absurd rfl q⟩)
  exact ⟨kk + 1, dig_L hkk hB kk 0 0 p M (by omega) hp (Fr_refl _ _ _) h (h1 hd)⟩
def ltI (x0 x1 : Int32) : Int32 := if inI x0.toInt64 97 104 = 0 then (if inI x0.toInt64 65 68 = 0 then (if x1 = 0 then -1 else if x0 = 70 then 1020 else if x0 = 80 then 1021 else if x0 = 83 then 1022 else if x0 = 87 then 1023 else -1) else ((1010 : Int32) + x0) - (65 : Int32)) else ((1000 : Int32) + x0) - (97 : Int32)
theorem ltJ_gen {S : Ss} {x0 : Int32} {M : Mm} {K : Int32 → Mm → Prop} (h : K (ltI x0 (M.1 142 8)) M) : f_X11_letter_J24 S 142 x0 M K := by
  unfold ltI at h
  unfold f_X11_letter_J24
  refine in_gen ⟨fun a => in_gen ⟨fun b => ?_, fun b => ?_⟩, fun a => ?_⟩
  · rw [if_pos a, if_pos b] at h
    refine ⟨fun z => ?_, fun z => ⟨fun y => ?_, fun y => ⟨fun w => ?_, fun w => ⟨fun v => ?_, fun v => ⟨fun u => ?_, fun u => ?_⟩⟩⟩⟩⟩
    · rw [if_pos z] at h; exact h
    · rw [if_neg z, if_pos y] at h; exact h
    · rw [if_neg z, if_neg y, if_pos w] at h; exact h
    · rw [if_neg z, if_neg y, if_neg w, if_pos v] at h; exact h
    · rw [if_neg z, if_neg y, if_neg w, if_neg v, if_pos u] at h; exact h
    · rw [if_neg z, if_neg y, if_neg w, if_neg v, if_neg u] at h; exact h
  · rw [if_pos a, if_neg b] at h; exact h
  · rw [if_neg a] at h; exact h
theorem ltI_eq : ∀ ak : Bool, ∀ x, x < 256 → ltI (nI x) (akI ak) = if thx ak x = 0 then -1 else nI (thx ak x) := by decide +kernel
theorem letter_ok {c : Nat → Nat} {len rw_ p : Nat} {ak : Bool} {M : Mm} {K : Int32 → Mm → Prop} (hB : BMr c len ak rw_ M) (hp5 : M.1 142 5 = nI p) (hp : p ≤ len) (hK : K (if thx ak (gcx c len p) = 0 then -1 else nI (thx ak (gcx c len p))) M) : f_X11_letter S0 142 M K := by
  obtain ⟨b1, b2, b3, b4, b5, b6, b7⟩ := hB
  unfold f_X11_letter
  rw [b2, hp5, nI_leI (by omega) (by omega)]
  refine ⟨fun z => ltJ_gen ?_, fun z => ?_⟩
  · have eg : gcx c len p = 256 := by unfold gcx; rw [if_neg (by omega)]
    rw [eg] at hK
    rw [b5]
    have e1 : ltI 0 (akI ak) = -1 := by rcases ak with _ | _ <;> decide
    have e2 : thx ak 256 = 0 := by rcases ak with _ | _ <;> decide
    rw [e1]
    rw [e2] at hK
    exact hK
  · have hpl : p < len := by omega
    have eg : gcx c len p = c p := by unfold gcx; rw [if_pos hpl]
    rw [eg] at hK
    have hin : vp_in (nI p) 100 := vp_in_nI (by omega) (by omega)
    have hcl : (nI p).toNatClampNeg = p := nI_clamp (by omega)
    obtain ⟨g1, g2⟩ := b4 p hpl
    simp only [fx_142_3 b1, ex_some, shp_ne (show (144 : Nat) ≠ 100000 by decide), s0_144, ex_sh, hin, hcl, true_and, g1]
    refine ltJ_gen ?_
    rw [b5, ltI_eq ak _ g2]
    exact hK
