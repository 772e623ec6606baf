/-! the lines of a task: the model reads them -/
def dLl : Nat → Nat → Bool := fun b j => (b == 142 && (j == 5 || j == 7 || j == 13)) || ((b == 145 || b == 146 || b == 148) && (74 ≤ j : Bool)) || (b == 147 && (64 * 74 ≤ j : Bool))
theorem dLm_ll {r : Nat} (hr : 74 ≤ r) {M M' : Mm} (h : Fr (dLm r) eN M M') : Fr dLl eN M M' :=
  Fr_mono (fun b j hd => by unfold dLl at hd; unfold dLm; simp only [Bool.or_eq_false_iff, Bool.and_eq_false_iff, beq_eq_false_iff_ne, decide_eq_false_iff_not] at *; omega) (fun b hd => hd) h
theorem dLl_re {M M' : Mm} (h : Fr dLl eN M M') : Fr dRe eN M M' :=
  Fr_mono (fun b j hd => by unfold dRe at hd; unfold dLl; simp only [Bool.or_eq_false_iff, Bool.and_eq_false_iff, beq_eq_false_iff_ne, decide_eq_false_iff_not] at *; omega) (fun b hd => hd) h
def BLm (c : Nat → Nat) (len : Nat) (M : Mm) (p : Nat) : Prop := FX M ∧ M.1 142 6 = nI len ∧ (∀ j, j < len → M.1 144 j = nI (c j) ∧ c j < 256) ∧ M.1 142 8 = 0 ∧ M.1 142 5 = nI p ∧ M.1 142 7 = nI 0
theorem comesS_ok {c : Nat → Nat} {len p x : Nat} {M : Mm} {K : Int32 → Mm → Prop} (b1 : FX M) (b2 : M.1 142 6 = nI len) (b3 : len ≤ 60) (b4 : ∀ j, j < len → M.1 144 j = nI (c j) ∧ c j < 256) (hp5 : M.1 142 5 = nI p) (hp : p ≤ len) (hx : x < 256) (h1 : gcx c len p = x → K 1 (stI M 142 5 (nI (p + 1)))) (h0 : gcx c len p ≠ x → K 0 (stI M 142 5 (nI p))) : f_X11_comes S0 142 (nI x) M K := by
  unfold f_X11_comes f_X11_isAt
  have k1 : gcx c len p = x → f_X11_truth S0 (1 : Int32) M (fun r4 m3 => ∀ m5 : Mm, m5 = stI m3 142 5 ((M.1 142 5) + r4) → ((1 : Int32) = 0 ∨ (1 : Int32) = 1) ∧ K 1 m5) := fun e1 => by
    unfold f_X11_truth
    refine ⟨fun z => absurd z (by decide), fun _ => ?_⟩
    simp only [forall_eq]
    rw [hp5, nI_1]
    exact ⟨Or.inr trivial, h1 e1⟩
  have k0 : gcx c len p ≠ x → f_X11_truth S0 (0 : Int32) M (fun r4 m3 => ∀ m5 : Mm, m5 = stI m3 142 5 ((M.1 142 5) + r4) → ((0 : Int32) = 0 ∨ (0 : Int32) = 1) ∧ K 0 m5) := fun e0 => by
    unfold f_X11_truth
    refine ⟨fun _ => ?_, fun z => absurd rfl z⟩
    simp only [forall_eq]
    rw [hp5, show nI p + (0 : Int32) = nI p from Int32.add_zero _]
    exact ⟨Or.inl trivial, h0 e0⟩
  unfold gcx at k1 k0
  rw [b2]
  generalize hKK : (fun (r2 : Int32) (m1 : Mm) => f_X11_truth S0 r2 m1 (fun r4 m3 => ∀ m5 : Mm, m5 = stI m3 142 5 ((m1.1 142 5) + r4) → (r2 = 0 ∨ r2 = 1) ∧ K r2 m5)) = KK
  have k1' : (if p < len then c p else 256) = x → KK 1 M := fun e => by rw [← hKK]; exact k1 e
  have k0' : (if p < len then c p else 256) ≠ x → KK 0 M := fun e => by rw [← hKK]; exact k0 e
  rw [hp5, nI_leI (by omega) (by omega)]
  refine ⟨fun z => k0' (by rw [if_neg (by omega)]; omega), fun z => ?_⟩
  have hpl : p < len := by omega
  rw [if_pos hpl] at k1' k0'
  have hin : vp_in (nI p) 100 := vp_in_nI (by omega) (by omega)
  have hcl : (nI p).toNatClampNeg = p := nI_clamp (by omega)
  obtain ⟨g1, g2⟩ := b4 p hpl
  simp only [fx_142_3 b1, ex_some, shp_ne (show (144 : Nat) ≠ 100000 by decide), s0_144, ex_sh, hin, hcl, true_and, g1]
  rw [nI_eq (by omega) (by omega)]
  exact ⟨k1', k0'⟩
theorem LnM_fr {D : Nat → Nat → Bool} {r kd nu : Nat} {e : List Nat} {M M' : Mm} (f : Fr D eN M M') (d : ∀ b j, ((b = 145 ∨ b = 146 ∨ b = 148) ∧ j = r) ∨ (b = 147 ∧ 64 * r ≤ j ∧ j < 64 * r + 64) → D b j = false) (he : e.length ≤ 60) (h : LnM M r kd nu e) : LnM M' r kd nu e := by
  obtain ⟨h1, h2, h3, h4⟩ := h
  exact ⟨by rw [f.1 _ _ (d _ _ (by omega))]; exact h1, by rw [f.1 _ _ (d _ _ (by omega))]; exact h2, by rw [f.1 _ _ (d _ _ (by omega))]; exact h3, fun j hj => by rw [f.1 _ _ (d _ _ (by omega))]; exact h4 j hj⟩
theorem LnM_cp {r r' kd nu : Nat} {e : List Nat} {M M' : Mm} (c5 : M'.1 145 r' = M.1 145 r) (c6 : M'.1 146 r' = M.1 146 r) (c8 : M'.1 148 r' = M.1 148 r) (c7 : ∀ j, j < 64 → M'.1 147 (64 * r' + j) = M.1 147 (64 * r + j)) (he : e.length ≤ 60) (h : LnM M r kd nu e) : LnM M' r' kd nu e := ⟨by rw [c5]; exact h.1, by rw [c6]; exact h.2.1, Rw_cp c8 c7 he h.2.2⟩
theorem linesMB {c : Nat → Nat} {len m i : Nat} {ps qs kds nus : Nat → Nat} {bs : Nat → Bool} {es : Nat → List Nat} {x1 x2 : Int32} {M0 M : Mm} {BK : Int32 → Int32 → Int32 → Mm → Prop} {EK : Int32 → Int32 → Mm → Prop} {K : Int32 → Mm → Prop} (hL : LLs c len ps qs kds nus bs es m) (hl : len ≤ 60) (hi : i ≤ m) (hf : Fr dLl eN M0 M) (hB : BLm c len M (ps i)) (hR : ∀ j, j < i → LnM M (74 + j) (kds j) (nus j) (es j))
    (hgo : i < m → ∀ M', Fr dLl eN M0 M' → BLm c len M' (ps (i + 1)) → (∀ j, j < i + 1 → LnM M' (74 + j) (kds j) (nus j) (es j)) → BK (nI (i + 1)) 1 1 M')
    (hst : i = m → ∀ M', Fr dLl eN M0 M' → M'.1 142 5 = nI (qs m) → (bs m = true → ∀ j, j < m + 1 → LnM M' (74 + j) (kds j) (nus j) (es j)) → BK (nI (m + 1)) (if bs m = true then 1 else 0) 0 M') : f_X11_task_B40 S0 142 x1 x2 (nI i) 1 1 M BK EK K := by
  obtain ⟨g1, g6, gt, g8, g5, g7⟩ := hB
  have hm := hL.1
  have pb := LLs_bd hl hL i hi
  have bd := LX_bd hl pb.1 (hL.2.2.1 i)
  unfold f_X11_task_B40
  refine ⟨fun z => absurd z (by decide), fun _ => ⟨fun z => absurd z (by decide), fun _ => ?_⟩⟩
  rw [show (74 : Int32) = nI 74 from rfl, nI_add]
  have eL : ∀ j, j < i → (es j).length ≤ 60 := fun j hj => by
    have b0 := LLs_bd hl hL j (by omega)
    have := (LX_bd hl b0.1 (hL.2.2.1 j)).1 (hL.2.2.2.1 j (by omega)).1
    omega
  refine lineM_ok (r := 74 + i) (hL.2.2.1 i) (by omega) g1 g6 hl gt g8 g5 g7 pb.1 (fun hb M2 f2 p2 v11 ev => ⟨fun _ => ?_, fun z => absurd rfl z⟩) (fun hb M2 f2 p2 p7 y1 y2 y3 v11 ev => ⟨fun z => absurd z (by decide), fun _ => ?_⟩)
  · have em : i = m := Classical.byContradiction (fun z => by
      have := (hL.2.2.2.1 i (by omega)).1
      rw [hb] at this
      exact absurd this (by decide))
    subst em
    rw [ev, nI_1]
    have := hst rfl M2 (Fr_tr hf (dLm_ll (by omega) f2)) p2 (fun h => by rw [hb] at h; exact absurd h (by decide))
    rw [hb] at this
    exact this
  · have bt := bd.1 hb
    have f12 := Fr_tr hf (dLm_ll (r := 74 + i) (by omega) f2)
    have R2 : ∀ j, j < i + 1 → LnM M2 (74 + j) (kds j) (nus j) (es j) := fun j hj => by
      by_cases e : j = i
      · subst e; exact ⟨y1, y2, y3⟩
      · exact LnM_fr f2 (fun b j' h => by unfold dLm; simp only [Bool.or_eq_false_iff, Bool.and_eq_false_iff, beq_eq_false_iff_ne, decide_eq_false_iff_not]; omega) (eL j (by omega)) (hR j (by omega))
    subst ev
    rw [nI_1]
    have stop : i = m → ∀ M3, Fr dLl eN M0 M3 → M3.1 142 5 = nI (qs i) → (∀ j, j < i + 1 → LnM M3 (74 + j) (kds j) (nus j) (es j)) → BK (nI (i + 1)) 1 0 M3 := fun em M3 f3 p3 R3 => by
      subst em
      have := hst rfl M3 f3 p3 (fun _ => R3)
      rw [hb] at this
      exact this
    refine ⟨fun z => ?_, fun z => ?_⟩
    · have : 16 ≤ i + 1 := (nI_leI (by omega) (by omega)).mp (show nI 16 ≤ nI (i + 1) from z)
      exact stop (by omega) M2 f12 p2 R2
    · have h15 : i + 1 < 16 := Classical.byContradiction (fun y => z (show nI 16 ≤ nI (i + 1) from nI_le (by omega) (by omega)))
      have f23 : ∀ v, Fr dLl eN M0 (stI M2 142 5 v) := fun v => Fr_I rfl f12
      have R3 : ∀ v j, j < i + 1 → LnM (stI M2 142 5 v) (74 + j) (kds j) (nus j) (es j) := fun v j hj => by
        obtain ⟨u1, u2, u3, u4⟩ := R2 j hj
        exact ⟨by rw [rI_ne (by omega)]; exact u1, by rw [rI_ne (by omega)]; exact u2, by rw [rI_ne (by omega)]; exact u3, fun l hl => by rw [rI_ne (by omega)]; exact u4 l hl⟩
      have h6' : M2.1 142 6 = nI len := by rw [f2.1 142 6 rfl]; exact g6
      have ht' : ∀ j, j < len → M2.1 144 j = nI (c j) ∧ c j < 256 := fun j hj => by rw [f2.1 144 j rfl]; exact gt j hj
      refine comesS_ok (x := 59) (c := c) (FX_fr f2 g1) h6' hl ht' p2 (by omega) (by omega) (fun hg => ⟨fun z => absurd z (by decide), fun _ => ?_⟩) (fun hg => ⟨fun _ => ?_, fun z => absurd rfl z⟩)
      · have hlt : i < m := Classical.byContradiction (fun y => by
          have em : i = m := by omega
          rcases hL.2.2.2.2 with y1 | y1 | y1
          · rw [← em, hb] at y1; exact absurd y1 (by decide)
          · omega
          · rw [← em] at y1; exact y1 hg)
        refine hgo hlt _ (f23 _) ⟨fx_I (FX_fr f2 g1), by rw [rI_ne (by omega)]; exact h6', fun j hj => by rw [rI_ne (by omega)]; exact ht' j hj, by rw [rI_ne (by omega), f2.1 142 8 rfl]; exact g8, by rw [(hL.2.2.2.1 i hlt).2.2, rI_eq], by rw [rI_ne (by omega)]; exact p7⟩ (R3 _)
      · have em : i = m := Classical.byContradiction (fun z => hg (hL.2.2.2.1 i (by omega)).2.1)
        exact stop em _ (f23 _) rI_eq (R3 _)
theorem linesM_ok {c : Nat → Nat} {len m : Nat} {ps qs kds nus : Nat → Nat} {bs : Nat → Bool} {es : Nat → List Nat} {x1 x2 : Int32} {M0 : Mm} {EK : Int32 → Int32 → Mm → Prop} {K : Int32 → Mm → Prop} (hL : LLs c len ps qs kds nus bs es m) (hl : len ≤ 60) (hB : BLm c len M0 0)
    (hE : ∀ M', Fr dLl eN M0 M' → M'.1 142 5 = nI (qs m) → (bs m = true → ∀ j, j < m + 1 → LnM M' (74 + j) (kds j) (nus j) (es j)) → EK (nI (m + 1)) (if bs m = true then 1 else 0) M') : f_X11_task_L40 S0 142 x1 x2 EK K (m + 1 + 1) 0 1 1 M0 := by
  have hend : ∀ M', Fr dLl eN M0 M' → M'.1 142 5 = nI (qs m) → (bs m = true → ∀ j, j < m + 1 → LnM M' (74 + j) (kds j) (nus j) (es j)) → ∀ k, f_X11_task_L40 S0 142 x1 x2 EK K (k + 1) (nI (m + 1)) (if bs m = true then 1 else 0) 0 M' := fun M' f p r k => by
    unfold f_X11_task_L40 f_X11_task_B40
    exact ⟨fun _ => hE M' f p r, fun _ => ⟨fun _ => hE M' f p r, fun z => absurd rfl z⟩⟩
  have L : ∀ (k i : Nat) (M : Mm), i + k = m → Fr dLl eN M0 M → BLm c len M (ps i) → (∀ j, j < i → LnM M (74 + j) (kds j) (nus j) (es j)) → f_X11_task_L40 S0 142 x1 x2 EK K (k + 1 + 1) (nI i) 1 1 M := by
    intro k
    induction k with
    | zero =>
      intro i M hi hf hB hR
      unfold f_X11_task_L40
      exact linesMB hL hl (by omega) hf hB hR (fun z => by omega) (fun em M' f p r => hend M' f p r 0)
    | succ k ih =>
      intro i M hi hf hB hR
      unfold f_X11_task_L40
      exact linesMB hL hl (by omega) hf hB hR (fun z M' f b r => ih (i + 1) M' (by omega) f b r) (fun em => by omega)
  exact L m 0 M0 (by omega) (Fr_refl _ _ _) (by rw [hL.2.1]; exact hB) (fun j hj => absurd hj (by omega))
/-- rows 16t .. of the task's lines -/
def dTk (t : Nat) : Nat → Nat → Bool := fun b j => ((b == 145 || b == 146 || b == 148) && (16 * t ≤ j && j < 16 * t + 16 : Bool)) || (b == 147 && (1024 * t ≤ j && j < 1024 * t + 1024 : Bool))
theorem copL {t m : Nat} {kds nus : Nat → Nat} {es : Nat → List Nat} {M0 : Mm} {EK : Mm → Prop} {K : Int32 → Mm → Prop} (ht : t < 4) (hm : m ≤ 15) (he : ∀ j, j < m + 1 → (es j).length ≤ 60) (hF0 : FX M0) (h74 : ∀ j, j < m + 1 → LnM M0 (74 + j) (kds j) (nus j) (es j)) (hE : ∀ M', Fr (dTk t) eN M0 M' → (∀ j, j < m + 1 → LnM M' (16 * t + j) (kds j) (nus j) (es j)) → EK M') :
    ∀ (k i : Nat) (M : Mm), i + k = m + 1 → Fr (dTk t) eN M0 M → (∀ j, j < i → LnM M (16 * t + j) (kds j) (nus j) (es j)) → f_X11_task_L113 S0 142 (nI t) (nI (m + 1)) EK K (k + 1) (nI i) M
  | 0, i, M, hi, hf, hR => by
    unfold f_X11_task_L113 f_X11_task_B113
    have e : i = m + 1 := by omega
    subst e
    exact ⟨fun _ => hE M hf hR, fun z => absurd (nI_le (Nat.le_refl _) (by omega)) z⟩
  | k + 1, i, M, hi, hf, hR => by
    unfold f_X11_task_L113 f_X11_task_B113
    refine ⟨fun z => absurd z (nI_ge (by omega) (by omega)), fun _ => ?_⟩
    rw [show (74 : Int32) = nI 74 from rfl, show (16 : Int32) = nI 16 from rfl, pk_mul, nI_add, nI_add]
    refine copies_ok (r := 74 + i) (r' := 16 * t + i) (by omega) (by omega) (by omega) (FX_fr hf hF0) (fun M5 f6 c5 c6 c8 c7 v25 ev => ?_)
    subst ev
    rw [nI_1]
    have f7 : Fr (dTk t) eN M0 M5 := Fr_tr hf (Fr_mono (fun b j hd => by unfold dTk at hd; unfold dCp; simp only [Bool.or_eq_false_iff, Bool.and_eq_false_iff, beq_eq_false_iff_ne, decide_eq_false_iff_not] at *; omega) (fun b hd => hd) f6)
    refine copL ht hm he hF0 h74 hE k (i + 1) M5 (by omega) f7 (fun j hj => ?_)
    by_cases e : j = i
    · subst e
      refine LnM_cp c5 c6 c8 c7 (he j (by omega)) (LnM_fr hf (fun b j' h => ?_) (he j (by omega)) (h74 j (by omega)))
      unfold dTk; simp only [Bool.or_eq_false_iff, Bool.and_eq_false_iff, beq_eq_false_iff_ne, decide_eq_false_iff_not]; omega
    · refine LnM_fr f6 (fun b j' h => ?_) (he j (by omega)) (hR j (by omega))
      unfold dCp; simp only [Bool.or_eq_false_iff, Bool.and_eq_false_iff, beq_eq_false_iff_ne, decide_eq_false_iff_not]; omega
def dTx (t : Nat) : Nat → Nat → Bool := fun b j => b == 151 && (60 * t ≤ j && j < 60 * t + 60 : Bool)
theorem txtL {t len : Nat} {x3 : Int32} {c : Nat → Nat} {M0 : Mm} {EK : Mm → Prop} {K : Int32 → Mm → Prop} (ht : t < 4) (hl : len ≤ 60) (hF0 : FX M0) (h6 : M0.1 142 6 = nI len) (htx : ∀ j, j < len → M0.1 144 j = nI (c j)) (hE : ∀ M', Fr (dTx t) eN M0 M' → (∀ j, j < len → M'.1 151 (60 * t + j) = nI (c j)) → EK M') :
    ∀ (k i : Nat) (M : Mm), i + k = len → Fr (dTx t) eN M0 M → (∀ j, j < i → M.1 151 (60 * t + j) = nI (c j)) → f_X11_task_L144 S0 142 (nI t) x3 EK K (k + 1) (nI i) M
  | 0, i, M, hi, hf, hR => by
    unfold f_X11_task_L144 f_X11_task_B144
    have e : i = len := by omega
    subst e
    rw [hf.1 142 6 rfl, h6]
    exact ⟨fun _ => hE M hf hR, fun z => absurd (nI_le (Nat.le_refl _) (by omega)) z⟩
  | k + 1, i, M, hi, hf, hR => by
    unfold f_X11_task_L144 f_X11_task_B144
    rw [hf.1 142 6 rfl, h6]
    refine ⟨fun z => absurd z (nI_ge (by omega) (by omega)), fun _ => ?_⟩
    have hF := FX_fr hf hF0
    have ix : (60 : Int32) * nI t + nI i = nI (60 * t + i) := by rw [show (60 : Int32) = nI 60 from rfl, pk_mul, nI_add]
    have hin : vp_in (nI i) 100 := vp_in_nI (by omega) (by omega)
    have hcl : (nI i).toNatClampNeg = i := nI_clamp (by omega)
    have hin2 : vp_in (nI (60 * t + i)) 240 := vp_in_nI (by omega) (by omega)
    have hcl2 : (nI (60 * t + i)).toNatClampNeg = 60 * t + i := nI_clamp (by omega)
    have g1 : M.1 144 i = nI (c i) := by rw [hf.1 144 i rfl]; exact htx i (by omega)
    simp only [fx_142_17 hF, fx_142_3 hF, ex_some, shp_ne (show (144 : Nat) ≠ 100000 by decide), s0_144, s0_151, ex_sh, ix, hin, hcl, hin2, hcl2, true_and, forall_eq, nI_1, g1]
    refine txtL ht hl hF0 h6 htx hE k (i + 1) _ (by omega) (Fr_I (by unfold dTx; simp; omega) hf) (fun j hj => ?_)
    rw [rI]
    by_cases e : j = i
    · rw [if_pos ⟨rfl, by omega⟩, e]
    · rw [if_neg (by omega)]; exact hR j (by omega)
