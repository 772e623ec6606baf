/-! reading an expression alone: the model -/
def dBg : Nat → Nat → Bool := fun b j => b == 142 && (4 ≤ j && j ≤ 8 : Bool)
theorem begM_ok {n len : Nat} {ak : Bool} {M : Mm} {K : Int32 → Mm → Prop} (h4 : M.1 142 4 = nI n) (hn : n ≤ 100) (hlen : len = if 60 < n then 60 else n) (hK : ∀ M', Fr dBg eN M M' → M'.1 142 4 = 0 → M'.1 142 5 = nI 0 → M'.1 142 7 = nI 0 → M'.1 142 8 = akI ak → M'.1 142 6 = nI len → K (nI n) M') : f_X11_begins S0 142 (akI ak) M K := by
  unfold f_X11_begins
  rw [h4]
  intro v1 e1 m2 e2 m3 e3 m4 e4
  subst e1
  rw [min60 hn, ← hlen]
  refine ⟨by rcases ak with _ | _ <;> decide, fun m5 e5 m7 e7 => ?_⟩
  have f : Fr dBg eN M m7 := by
    rw [e7, e5, e4, e3, e2]
    exact Fr_I rfl (Fr_I rfl (Fr_I rfl (Fr_I rfl (Fr_I rfl (Fr_refl _ _ _)))))
  rw [e7, e5, e4, e3, e2] at *
  refine hK _ f ?_ ?_ ?_ ?_ rI_eq
  · rw [rI_ne (by omega), rI_ne (by omega), rI_ne (by omega), rI_ne (by omega), rI_eq]
  · rw [rI_ne (by omega), rI_ne (by omega), rI_ne (by omega), rI_eq]; rfl
  · rw [rI_ne (by omega), rI_ne (by omega), rI_eq]; rfl
  · rw [rI_ne (by omega), rI_eq]
theorem fault_ok {n len q : Nat} {b : Bool} {x2 : Int32} {M : Mm} {K : Int32 → Mm → Prop} (h5 : M.1 142 5 = nI q) (h6 : M.1 142 6 = nI len) (hq : q ≤ len) (hn : n ≤ 100) (hlen : len = if 60 < n then 60 else n) (hx : x2 = if b = true then 1 else 0) (hbad : (b = true → q ≠ len) → K ((-1 : Int32) - nI q) M) (hlong : b = true → q = len → 60 < n → K (-61) M) (hok : b = true → q = len → n ≤ 60 → K 0 M) : f_X11_fault S0 142 (nI n) x2 M K := by
  have hle : len ≤ 60 := by rw [hlen]; split <;> omega
  have j19 : (b = true → q ≠ len) → f_X11_fault_J19 S0 142 (nI n) M K := by
    intro hb
    have hK := hbad hb
    have j43 : f_X11_fault_J43 S0 142 0 M K := by
      unfold f_X11_fault_J43
      rw [h5]
      exact ⟨fun _ => hK, fun z => absurd rfl z⟩
    unfold f_X11_fault_J19 f_X11_fault_J20
    refine ⟨fun _ => j43, fun hgt => ⟨fun _ => ⟨fun _ => j43, fun h60 => ?_⟩, fun z => absurd rfl z⟩⟩
    rw [h5, show (60 : Int32) = nI 60 from rfl, nI_ltI (by omega) (by omega)] at h60
    have e : q = 60 := by omega
    subst e
    exact hK
  unfold f_X11_fault
  rw [hx, h5, h6, nI_eq (by omega) (by omega)]
  rcases b with _ | _
  · exact ⟨fun _ => j19 (fun z => absurd z (by decide)), fun z => absurd rfl z⟩
  · refine ⟨fun z => absurd z (by decide), fun _ => ⟨fun e => ?_, fun e => j19 (fun _ => e)⟩⟩
    unfold f_X11_fault_J20
    rw [show (60 : Int32) = nI 60 from rfl, nI_leI (by omega) (by omega)]
    refine ⟨fun h => ?_, fun h => ⟨fun z => absurd z (by decide), fun _ => hlong rfl e (by omega)⟩⟩
    unfold f_X11_fault_J43
    exact ⟨fun z => absurd z (by decide), fun _ => hok rfl e h⟩
def dRw (r : Nat) : Nat → Nat → Bool := fun b j => (b == 142 && (j == 5 || j == 7 || j == 13)) || (b == 147 && (64 * r ≤ j && j < 64 * r + 64 : Bool)) || (b == 148 && j == r)
theorem dMx_rw {r : Nat} {M M' : Mm} (h : Fr (dMx r) eN M M') : Fr (dRw r) eN M M' :=
  Fr_mono (fun b j hd => by unfold dRw at hd; unfold dMx; simp only [Bool.or_eq_false_iff, Bool.and_eq_false_iff, beq_eq_false_iff_ne, decide_eq_false_iff_not] at *; omega) (fun b hd => hd) h
/-- the model reads one expression into row 74, and says how it went -/
theorem readM_ok {c : Nat → Nat} {n len N q : Nat} {b : Bool} {e : List Nat} {M : Mm} {K : Int32 → Mm → Prop} (hR : RX c len true N 0 0 0 [] b q e) (hF : FX M) (hn : n ≤ 100) (hlen : len = if 60 < n then 60 else n) (htx : ∀ j, j < len → M.1 144 j = nI (c j) ∧ c j < 256) (h5 : M.1 142 5 = nI 0) (h7 : M.1 142 7 = nI 0) (h8 : M.1 142 8 = 1) (h6 : M.1 142 6 = nI len)
    (hbad : (b = true → q ≠ len) → ∀ M', Fr (dRw 74) eN M M' → K ((-1 : Int32) - nI q) M') (hlong : b = true → q = len → 60 < n → ∀ M', Fr (dRw 74) eN M M' → K (-61) M') (hok : b = true → q = len → n ≤ 60 → ∀ M', Fr (dRw 74) eN M M' → RwM M' 74 e → K 0 M') : ∀ m5 : Mm, m5 = stI M 142 13 (74 : Int32) → ∃ b6 : Nat, m5.2.2 142 12 = some b6 ∧ ∃ n7 : Nat, S0[b6]? = some (50, n7) ∧ vp_in (m5.1 142 13) n7 ∧ ∀ m8 : Mm, m8 = stI m5 b6 (m5.1 142 13).toNatClampNeg (0 : Int32) → f_X11_some_top S0 142 m8 (fun r10 m9 => f_X11_fault S0 142 (nI n) r10 m9 K) := by
  intro m5 e5
  subst e5
  have hle : len ≤ 60 := by rw [hlen]; split <;> omega
  have hF5 : FX (stI M 142 13 (74 : Int32)) := fx_I hF
  have e13 : (stI M 142 13 (74 : Int32)).1 142 13 = nI 74 := rI_eq
  have hin : vp_in (nI 74) 90 := vp_in_nI (by omega) (by omega)
  have hcl : (nI 74).toNatClampNeg = 74 := nI_clamp (by omega)
  simp only [fx_142_12 hF5, ex_some, s0_148, ex_sh, e13, hin, hcl, true_and, forall_eq]
  have f1 : Fr (dRw 74) eN M (stI (stI M 142 13 (74 : Int32)) 148 74 0) := Fr_I rfl (Fr_I rfl (Fr_refl _ _ _))
  have i1 : ∀ b j, ¬ (b = 142 ∧ j = 13) → ¬ (b = 148 ∧ j = 74) → (stI (stI M 142 13 (74 : Int32)) 148 74 0).1 b j = M.1 b j := fun b j x1 x2 => by rw [rI_ne (by omega), rI_ne (by omega)]
  have i13 : (stI (stI M 142 13 (74 : Int32)) 148 74 0).1 142 13 = nI 74 := by rw [rI_ne (by omega)]; exact e13
  have i148 : (stI (stI M 142 13 (74 : Int32)) 148 74 0).1 148 74 = nI 0 := rI_eq
  generalize stI (stI M 142 13 (74 : Int32)) 148 74 0 = M1 at *
  have B1 : BMr c len true 74 M1 := ⟨FX_fr f1 hF, by rw [i1 142 6 (by omega) (by omega)]; exact h6, hle, fun j hj => by rw [i1 144 j (by omega) (by omega)]; exact htx j hj, by rw [i1 142 8 (by omega) (by omega)]; exact h8, i13, by omega⟩
  have C1 : MSx 74 M1 0 0 [] := ⟨by rw [i1 142 5 (by omega) (by omega)]; exact h5, by rw [i1 142 7 (by omega) (by omega)]; exact h7, i148, fun j hj => absurd hj (by simp)⟩
  have bd := RX_bd _ _ _ _ _ _ _ _ hR
  have hq : q ≤ len := by
    rcases hb : b with _ | _
    · exact (bd.2.2 hb).2 (by omega)
    · exact (bd.1 (by omega) hb).2.1
  refine some_ok hR B1 C1 (by simp) (by omega) (fun hb M2 f2 c2 => ?_) (fun hb M2 f2 c2 => ?_)
  · have f12 := Fr_tr f1 (dMx_rw f2)
    exact fault_ok (b := b) c2 ((BMr_fr f2 B1).2.1) hq hn hlen (by rw [hb]; rfl) (fun h => hbad h M2 f12) (fun h => by rw [hb] at h; exact absurd h (by decide)) (fun h => by rw [hb] at h; exact absurd h (by decide))
  · have f12 := Fr_tr f1 (dMx_rw f2)
    rw [List.nil_append] at c2
    exact fault_ok (b := b) c2.1 ((BMr_fr f2 B1).2.1) hq hn hlen (by rw [hb]; rfl) (fun h => hbad h M2 f12) (fun h1 h2 h3 => hlong h1 h2 h3 M2 f12) (fun h1 h2 h3 => hok h1 h2 h3 M2 f12 c2.2.2)
def dCp (r : Nat) : Nat → Nat → Bool := fun b j => ((b == 145 || b == 146 || b == 148) && j == r) || (b == 147 && (64 * r ≤ j && j < 64 * r + 64 : Bool))
theorem cop_L {r r' : Nat} {M0 : Mm} {EK K : Mm → Prop} (hr : r < 90) (hr' : r' < 90) (hne : r ≠ r') (hF0 : FX M0) (hK : ∀ M', Fr (dCp r') eN M0 M' → (∀ b, b ≠ 147 → M'.1 b = M0.1 b) → (∀ j, j < 64 → M'.1 147 (64 * r' + j) = M0.1 147 (64 * r + j)) → EK M') :
    ∀ (k i : Nat) (M : Mm), i + k = 64 → Fr (dCp r') eN M0 M → (∀ b, b ≠ 147 → M.1 b = M0.1 b) → (∀ j, j < i → M.1 147 (64 * r' + j) = M0.1 147 (64 * r + j)) → f_X11_copies_L38 S0 142 (nI r) (nI r') EK K (k + 1) (nI i) M
  | 0, i, M, hi, hf, hb, hv => by
    unfold f_X11_copies_L38 f_X11_copies_B38
    have e : i = 64 := by omega
    subst e
    exact ⟨fun _ => hK M hf hb hv, fun z => absurd (show nI 64 ≤ nI 64 from nI_le (Nat.le_refl _) (by omega)) z⟩
  | k + 1, i, M, hi, hf, hb, hv => by
    unfold f_X11_copies_L38 f_X11_copies_B38
    have hF := FX_fr hf hF0
    refine ⟨fun z => absurd (show nI 64 ≤ nI i from z) (nI_ge (by omega) (by omega)), fun _ => ?_⟩
    have ix : ∀ r, (64 : Int32) * nI r + nI i = nI (64 * r + i) := fun r => by rw [show (64 : Int32) = nI 64 from rfl, pk_mul, nI_add]
    have hin : ∀ r, r < 90 → vp_in (nI (64 * r + i)) 5760 := fun r hr => vp_in_nI (by omega) (by omega)
    have hcl : ∀ r, r < 90 → (nI (64 * r + i)).toNatClampNeg = 64 * r + i := fun r hr => nI_clamp (by omega)
    simp only [ix, fx_142_11 hF, ex_some, shp_ne (show (147 : Nat) ≠ 100000 by decide), s0_147, ex_sh, hin r hr, hin r' hr', hcl r hr, hcl r' hr', true_and, forall_eq, nI_1]
    have es : M.1 147 (64 * r + i) = M0.1 147 (64 * r + i) := hf.1 147 _ (by
      unfold dCp
      simp only [Bool.or_eq_false_iff, Bool.and_eq_false_iff, beq_eq_false_iff_ne, decide_eq_false_iff_not]
      omega)
    refine cop_L hr hr' hne hF0 hK k (i + 1) _ (by omega) (Fr_I (by unfold dCp; simp; omega) hf) (fun b hb' => (stI_row hb').trans (hb b hb')) (fun j hj => ?_)
    rw [rI]
    by_cases e : j = i
    · rw [if_pos ⟨rfl, by omega⟩, es, e]
    · rw [if_neg (by omega)]; exact hv j (by omega)
theorem copies_ok {r r' : Nat} {M : Mm} {K : Mm → Prop} (hr : r < 90) (hr' : r' < 90) (hne : r ≠ r') (hF : FX M) (hK : ∀ M', Fr (dCp r') eN M M' → M'.1 145 r' = M.1 145 r → M'.1 146 r' = M.1 146 r → M'.1 148 r' = M.1 148 r → (∀ j, j < 64 → M'.1 147 (64 * r' + j) = M.1 147 (64 * r + j)) → K M') : f_X11_copies S0 142 (nI r) (nI r') M K := by
  unfold f_X11_copies
  have hin : ∀ r, r < 90 → vp_in (nI r) 90 := fun r hr => vp_in_nI (by omega) (by omega)
  have hcl : ∀ r, r < 90 → (nI r).toNatClampNeg = r := fun r hr => nI_clamp (by omega)
  simp only [rIr, fx_142_9 hF, fx_142_10 hF, fx_142_12 hF, ex_some, shp_ne (show (145 : Nat) ≠ 100000 by decide), shp_ne (show (146 : Nat) ≠ 100000 by decide), shp_ne (show (148 : Nat) ≠ 100000 by decide), s0_145, s0_146, s0_148, ex_sh, hin r hr, hin r' hr', hcl r hr, hcl r' hr', true_and, forall_eq]
  have e2 : (stI M 145 r' (M.1 145 r)).1 146 r = M.1 146 r := by rw [rI_ne (by omega)]
  rw [e2]
  have e3 : (stI (stI M 145 r' (M.1 145 r)) 146 r' (M.1 146 r)).1 148 r = M.1 148 r := by rw [rI_ne (by omega), rI_ne (by omega)]
  rw [e3]
  have f0 : Fr (dCp r') eN M (stI (stI (stI M 145 r' (M.1 145 r)) 146 r' (M.1 146 r)) 148 r' (M.1 148 r)) := Fr_I (by unfold dCp; simp) (Fr_I (by unfold dCp; simp) (Fr_I (by unfold dCp; simp) (Fr_refl _ _ _)))
  have i7 : ∀ j, (stI (stI (stI M 145 r' (M.1 145 r)) 146 r' (M.1 146 r)) 148 r' (M.1 148 r)).1 147 j = M.1 147 j := fun j => by rw [rI_ne (by omega), rI_ne (by omega), rI_ne (by omega)]
  refine ⟨64 + 1, cop_L hr hr' hne (FX_fr f0 hF) (fun M' f' hb hv => ?_) 64 0 _ (by omega) (Fr_refl _ _ _) (fun _ _ => rfl) (fun j hj => absurd hj (by omega))⟩
  refine hK M' (Fr_tr f0 f') ?_ ?_ ?_ (fun j hj => ?_)
  · rw [hb 145 (by omega), rI_ne (by omega), rI_ne (by omega), rI_eq]
  · rw [hb 146 (by omega), rI_ne (by omega), rI_eq]
  · rw [hb 148 (by omega), rI_eq]
  · rw [hv j hj, i7]
theorem Rw_cp {M M' : Mm} {r r' : Nat} {e : List Nat} (h8 : M'.1 148 r' = M.1 148 r) (h7 : ∀ j, j < 64 → M'.1 147 (64 * r' + j) = M.1 147 (64 * r + j)) (he : e.length ≤ 60) (h : RwM M r e) : RwM M' r' e := ⟨by rw [h8]; exact h.1, fun j hj => by rw [h7 j (by omega)]; exact h.2 j hj⟩
