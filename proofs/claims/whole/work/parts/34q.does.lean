/-! a step of the model -/
theorem qS_put {A k v : Nat} (hv : v < 256) (k' : Nat) : qS (put A (8 * k) 8 v) k' = if k' = k then v else qS A k' := by
  by_cases h : k' = k
  · subst h; rw [if_pos rfl]; exact fld_put (by omega)
  · rw [if_neg h]; exact fld_put_ne (by omega) (by omega)
theorem qL_put {B t v : Nat} (hv : v < 16) (t' : Nat) : qL (put B (24 + 4 * t) 4 v) t' = if t' = t then v else qL B t' := by
  by_cases h : t' = t
  · subst h; rw [if_pos rfl]; exact fld_put (by omega)
  · rw [if_neg h]; exact fld_put_ne (by omega) (by omega)
theorem qA_putL {B t v k : Nat} (hk : k < 4) (hv : v < 16) : qA (put B (24 + 4 * t) 4 v) k = qA B k := fld_put_ne (by omega) (by omega)
theorem qT_putL {B t v k : Nat} (hk : k < 4) (hv : v < 16) : qT (put B (24 + 4 * t) 4 v) k = qT B k := fld_put_ne (by omega) (by omega)
theorem qA_putP {B k v : Nat} (hv : v < 64) (k' : Nat) : qA (put B (6 * k) 6 v) k' = if k' = k then v % 4 else qA B k' := by
  by_cases h : k' = k
  · subst h; rw [if_pos rfl]; exact fld_sub1 (by omega)
  · rw [if_neg h]; exact fld_put_ne (by omega) (by omega)
theorem qT_putP {B k v : Nat} (hv : v < 64) (k' : Nat) : qT (put B (6 * k) 6 v) k' = if k' = k then v / 4 else qT B k' := by
  by_cases h : k' = k
  · subst h; rw [if_pos rfl]; exact fld_sub2 (by omega)
  · rw [if_neg h]; exact fld_put_ne (by omega) (by omega)
theorem qL_putP {B k v t : Nat} (hk : k < 4) (hv : v < 64) : qL (put B (6 * k) 6 v) t = qL B t := fld_put_ne (by omega) (by omega)
theorem qA_putT {B k v : Nat} (hv : v < 16) (k' : Nat) : qA (put B (6 * k + 2) 4 v) k' = qA B k' := fld_put_ne (by omega) (by omega)
theorem qT_putT {B k v : Nat} (hv : v < 16) (k' : Nat) : qT (put B (6 * k + 2) 4 v) k' = if k' = k then v else qT B k' := by
  by_cases h : k' = k
  · subst h; rw [if_pos rfl]; exact fld_put (by omega)
  · rw [if_neg h]; exact fld_put_ne (by omega) (by omega)
theorem qL_putT {B k v t : Nat} (hk : k < 4) (hv : v < 16) : qL (put B (6 * k + 2) 4 v) t = qL B t := fld_put_ne (by omega) (by omega)
theorem MS_slot {M : Mm} {A B k v : Nat} (hv : v < 256) (h : MS M A B) : MS (stI M 153 k (nI v)) (put A (8 * k) 8 v) B := by
  refine ⟨fun j hj => ?_, fun j hj => h.2 j hj⟩
  rw [rI, qS_put hv]
  by_cases e : j = k
  · rw [if_pos ⟨rfl, e⟩, if_pos e]
  · rw [if_neg (by omega), if_neg e]; exact h.1 j hj
theorem MS_line {M : Mm} {A B t v : Nat} (hv : v < 16) (h : MS M A B) : MS (stI M 156 t (nI v)) A (put B (24 + 4 * t) 4 v) := by
  refine ⟨fun j hj => h.1 j hj, fun j hj => ?_⟩
  obtain ⟨h1, h2, h3⟩ := h.2 j hj
  rw [qA_putL hj hv, qT_putL hj hv, qL_put hv]
  refine ⟨h1, h2, ?_⟩
  rw [rI]
  by_cases e : j = t
  · rw [if_pos ⟨rfl, e⟩, if_pos e]
  · rw [if_neg (by omega), if_neg e]; exact h3
theorem MS_part {M : Mm} {A B k pl tn : Nat} (hk : k < 4) (hp : pl < 4) (ht : tn < 16) (h : MS M A B) : MS (stI (stI M 154 k (nI pl)) 155 k (nI tn)) A (put B (6 * k) 6 (pl + 4 * tn)) := by
  refine ⟨fun j hj => h.1 j hj, fun j hj => ?_⟩
  obtain ⟨h1, h2, h3⟩ := h.2 j hj
  rw [qA_putP (by omega), qT_putP (by omega), qL_putP hk (by omega)]
  refine ⟨?_, ?_, h3⟩
  · show (stI M 154 k (nI pl)).1 154 j = _
    rw [rI]
    by_cases e : j = k
    · rw [if_pos ⟨rfl, e⟩, if_pos e]; congr 1; omega
    · rw [if_neg (by omega), if_neg e]; exact h1
  · rw [rI]
    by_cases e : j = k
    · rw [if_pos ⟨rfl, e⟩, if_pos e]; congr 1; omega
    · rw [if_neg (by omega), if_neg e]; exact h2
theorem MS_ten {M : Mm} {A B k v : Nat} (hk : k < 4) (hv : v < 16) (h : MS M A B) : MS (stI M 155 k (nI v)) A (put B (6 * k + 2) 4 v) := by
  refine ⟨fun j hj => h.1 j hj, fun j hj => ?_⟩
  obtain ⟨h1, h2, h3⟩ := h.2 j hj
  rw [qA_putT hv, qT_putT hv, qL_putT hk hv]
  refine ⟨h1, ?_, h3⟩
  rw [rI]
  by_cases e : j = k
  · rw [if_pos ⟨rfl, e⟩, if_pos e]
  · rw [if_neg (by omega), if_neg e]; exact h2
theorem stI_self {M : Mm} {a k : Nat} {v : Int32} (h : M.1 a k = v) : stI M a k v = M := by
  unfold stI
  have : (fun b j => if b = a ∧ j = k then v else M.1 b j) = M.1 := by
    funext b j
    split
    · rename_i h1; rw [h1.1, h1.2, h]
    · rfl
  rw [this]
/-- the row that the model takes for a line -/
def rol (pd : Nat) (pt pl : Nat → Nat) (t i : Nat) : Nat → Nat
  | 0 => 16 * t + i
  | k + 1 => if pd.testBit k = true ∧ pt k = t ∧ pl k = i then 64 + k else rol pd pt pl t i k
def CM (M : Mm) (C : Cf) : Prop := CO C ∧ M.1 142 15 = nI (cT C) ∧ M.1 142 20 = nI (cb C) ∧ M.1 142 21 = nI (con C) ∧ (∀ k, k < 4 → M.1 157 k = nI (cS C k)) ∧ (∀ b, b < cb C → RwM M (70 + b) (cB C b)) ∧ ∃ (np pd : Nat) (pt pl : Nat → Nat), np ≤ 5 ∧ pd < 32 ∧ M.1 142 34 = nI np ∧ M.1 142 33 = nI pd ∧ (∀ k, k < np → M.1 158 k = nI (pt k) ∧ M.1 159 k = nI (pl k) ∧ pt k < 4 ∧ pl k < 16) ∧ ∀ t, t < cT C → M.1 150 t = nI (cN C t) ∧ ∀ i, i < cN C t → LnM M (rol pd pt pl t i np) (cL C t i).1 (cL C t i).2.1 (cL C t i).2.2
theorem LnM_ag {M M' : Mm} (e5 : M'.1 145 = M.1 145) (e6 : M'.1 146 = M.1 146) (e7 : M'.1 147 = M.1 147) (e8 : M'.1 148 = M.1 148) {r kd nu : Nat} {e : List Nat} (h : LnM M r kd nu e) : LnM M' r kd nu e := by
  unfold LnM at *; rw [e5, e6]; exact ⟨h.1, h.2.1, RwM_ag e7 e8 h.2.2⟩
theorem CM_ag {M M' : Mm} {C : Cf} (f0 : M'.1 142 15 = M.1 142 15) (f1 : M'.1 142 20 = M.1 142 20) (f2 : M'.1 142 21 = M.1 142 21) (f3 : M'.1 142 34 = M.1 142 34) (f4 : M'.1 142 33 = M.1 142 33) (e5 : M'.1 145 = M.1 145) (e6 : M'.1 146 = M.1 146) (e7 : M'.1 147 = M.1 147) (e8 : M'.1 148 = M.1 148) (e0 : M'.1 150 = M.1 150) (e1 : M'.1 157 = M.1 157) (e2 : M'.1 158 = M.1 158) (e3 : M'.1 159 = M.1 159) (h : CM M C) : CM M' C := by
  obtain ⟨h0, h1, h2, h3, h4, h5, np, pd, pt, pl, a1, a2, a3, a4, a5, a6⟩ := h
  refine ⟨h0, f0.trans h1, f1.trans h2, f2.trans h3, by rw [e1]; exact h4, fun b hb => RwM_ag e7 e8 (h5 b hb), np, pd, pt, pl, a1, a2, f3.trans a3, f4.trans a4, by rw [e2, e3]; exact a5, fun t ht => ⟨by rw [e0]; exact (a6 t ht).1, fun i hi => LnM_ag e5 e6 e7 e8 ((a6 t ht).2 i hi)⟩⟩
def dD : Nat → Nat → Bool := fun b j => b == 149 || b == 153 || b == 154 || b == 155 || b == 156 || (b == 142 && (j == 28 || j == 29 || j == 30 || j == 31 || j == 37))
def eN : Nat → Bool := fun _ => false
theorem CM_fr {C : Cf} {M M' : Mm} (h : Fr dD eN M M') (hC : CM M C) : CM M' C :=
  CM_ag (h.1 _ _ rfl) (h.1 _ _ rfl) (h.1 _ _ rfl) (h.1 _ _ rfl) (h.1 _ _ rfl) (Fr_row h _ (fun _ => rfl)) (Fr_row h _ (fun _ => rfl)) (Fr_row h _ (fun _ => rfl)) (Fr_row h _ (fun _ => rfl)) (Fr_row h _ (fun _ => rfl)) (Fr_row h _ (fun _ => rfl)) (Fr_row h _ (fun _ => rfl)) (Fr_row h _ (fun _ => rfl)) hC
theorem has_bit : ∀ c, c < 32 → ∀ b, b < 5 → (((nI c >>> (nI b &&& 31)) &&& (1 : Int32)) = (1 : Int32) ↔ c.testBit b = true) := by decide +kernel
theorem has_ok {S : Ss} {c b : Nat} {M : Mm} {K : Int32 → Mm → Prop} (hc : c < 32) (hb : b < 5) (h : K (if c.testBit b = true then 1 else 0) M) : f_X11_has S (nI c) (nI b) M K := by
  unfold f_X11_has
  rw [has_bit c hc b hb]
  split at h
  · rename_i z; exact ⟨fun _ => h, fun y => absurd z y⟩
  · rename_i z; exact ⟨fun y => absurd y z, fun _ => h⟩
theorem rol_L {t i np pd : Nat} {pt pl : Nat → Nat} {M : Mm} {EK : Int32 → Mm → Prop} {K : Int32 → Mm → Prop} (hF : FX M) (ht : t < 4) (hi : i < 16) (hnp : np ≤ 5) (hpd : pd < 32) (e1 : M.1 142 34 = nI np) (e2 : M.1 142 33 = nI pd) (e3 : ∀ k, k < np → M.1 158 k = nI (pt k) ∧ M.1 159 k = nI (pl k) ∧ pt k < 4 ∧ pl k < 16) (hK : EK (nI (rol pd pt pl t i np)) M) :
    ∀ (n k : Nat), k + n = np → f_X11_rowOfLine_L10 S0 142 (nI t) (nI i) EK K (n + 1) (nI (rol pd pt pl t i k)) (nI k) M
  | 0, k, hk => by
    unfold f_X11_rowOfLine_L10 f_X11_rowOfLine_B10
    have : k = np := by omega
    subst this
    rw [e1]
    exact ⟨fun _ => hK, fun z => absurd (nI_le (Nat.le_refl _) (by omega)) z⟩
  | n + 1, k, hk => by
    unfold f_X11_rowOfLine_L10 f_X11_rowOfLine_B10
    rw [e1]
    refine ⟨fun z => absurd z (nI_ge (by omega) (by omega)), fun _ => ?_⟩
    rw [e2]
    have go := rol_L (K := K) hF ht hi hnp hpd e1 e2 e3 hK n (k + 1) (by omega)
    have er : rol pd pt pl t i (k + 1) = if pd.testBit k = true ∧ pt k = t ∧ pl k = i then 64 + k else rol pd pt pl t i k := rfl
    obtain ⟨g1, g2, g3, g4⟩ := e3 k (by omega)
    have hin : vp_in (nI k) 5 := vp_in_nI (by omega) (by omega)
    have hcl : (nI k).toNatClampNeg = k := nI_clamp (by omega)
    refine has_ok hpd (by omega) ?_
    simp only [forall_eq, nI_1, fx_142_35 hF, fx_142_36 hF, ex_some, shp_ne (show (158 : Nat) ≠ 100000 by decide), shp_ne (show (159 : Nat) ≠ 100000 by decide), s0_158, s0_159, ex_sh, hin, hcl, true_and, g1, g2]
    rw [nI_eq (by omega) (by omega), nI_eq (by omega) (by omega)]
    refine ⟨fun z => ?_, fun z => ⟨fun y1 => ⟨fun y2 => ?_, fun y2 => ?_⟩, fun y1 => ?_⟩⟩
    · split at z
      · exact absurd z (by decide)
      · rename_i q
        rw [er, if_neg (fun w => q w.1)] at go; exact go
    · split at z
      · rename_i q
        rw [er, if_pos ⟨q, y1, y2⟩] at go
        rw [show (64 : Int32) = nI 64 from rfl, nI_add]; exact go
      · exact absurd rfl z
    · rw [er, if_neg (fun w => y2 w.2.2)] at go; exact go
    · rw [er, if_neg (fun w => y1 w.2.1)] at go; exact go
theorem rI_ne {M : Mm} {a k b j : Nat} {v : Int32} (h : ¬ (b = a ∧ j = k)) : (stI M a k v).1 b j = M.1 b j := by rw [rI, if_neg h]
theorem rI_eq {M : Mm} {a k : Nat} {v : Int32} : (stI M a k v).1 a k = v := by rw [rI]; simp
theorem MS_E1 {M M' : Mm} {A B : Nat} (h : E1 149 M M') (hs : MS M A B) : MS M' A B := MS_ag (h.1 _ (by decide)) (h.1 _ (by decide)) (h.1 _ (by decide)) (h.1 _ (by decide)) hs
theorem MF_E1 {M M' : Mm} {F : F4} (h : E1 149 M M') (hs : MF M F) : MF M' F := by unfold MF at *; rw [h.1 142 (by decide)]; exact hs
theorem MS_142 {M : Mm} {A B k : Nat} {v : Int32} (hs : MS M A B) : MS (stI M 142 k v) A B := hs
theorem or0' (x : Int32) : x ||| 0 = x := Int32.or_zero
theorem flb_8 (C : Cf) (th : Nat → Int32) {b : Nat} (hb : b ≤ 3) : flb C th b < 8 := by
  have h1 := flb_lt C th b
  have h2 : 2 ^ b ≤ 2 ^ 3 := Nat.pow_le_pow_right (by omega) hb
  omega
theorem fires_L {A B : Nat} {F : F4} {C : Cf} {EK : Mm → Prop} {K : Mm → Prop} :
    ∀ (n b : Nat) (M : Mm), b + n = cb C → CM M C → FX M → MS M A B → MF M F → M.1 142 37 = nI (flb C (thg A B F) b) → (∀ M', Fr dD eN M M' → MS M' A B → MF M' F → M'.1 142 37 = nI (flb C (thg A B F) (cb C)) → EK M') → f_X11_fires_L7 S0 142 EK K (n + 1) (nI b) M
  | 0, b, M, hb, hC, hF, hs, hf, hl, hK => by
    unfold f_X11_fires_L7 f_X11_fires_B7
    have c2 := hC.1.2.1
    rw [hC.2.2.1]
    have : b = cb C := by omega
    subst this
    exact ⟨fun _ => hK M (Fr_refl _ _ _) hs hf hl, fun z => absurd (nI_le (Nat.le_refl _) (by omega)) z⟩
  | n + 1, b, M, hb, hC, hF, hs, hf, hl, hK => by
    unfold f_X11_fires_L7 f_X11_fires_B7
    have hC' := hC
    obtain ⟨⟨c1, c2, c3, c4, c5, c6⟩, h1, h2, h3, h4, h5, h6⟩ := hC
    have hb3 : b < 3 := by omega
    rw [h2]
    refine ⟨fun z => absurd z (nI_ge (by omega) (by omega)), fun _ => ?_⟩
    rw [h3]
    refine has_ok (by omega) (by omega) ?_
    have hflt := flb_lt C (thg A B F) b
    simp only [forall_eq, nI_1, hl, or0', bit_or b hb3 _ hflt]
    rw [show (70 : Int32) = nI 70 from rfl, nI_add]
    have e0 : flb C (thg A B F) (b + 1) = flb C (thg A B F) b + if (con C).testBit b = true ∧ evv (thg A B F) (cB C b) = 0 then 2 ^ b else 0 := rfl
    have go : ∀ M', Fr dD eN M M' → MS M' A B → MF M' F → f_X11_fires_L7 S0 142 EK K (n + 1) (nI (b + 1)) (stI M' 142 37 (nI (flb C (thg A B F) (b + 1)))) := by
      intro M' fr ms mf
      have fr' : Fr dD eN M (stI M' 142 37 (nI (flb C (thg A B F) (b + 1)))) := Fr_I rfl fr
      refine fires_L n (b + 1) _ (by omega) (CM_fr fr' hC') (FX_fr fr' hF) (MS_142 ms) ?_ rI_eq (fun M'' f2 => hK M'' (Fr_tr fr' f2))
      exact mf
    refine ⟨fun z => ?_, fun z => ?_⟩
    · have := go M (Fr_refl _ _ _) hs hf
      split at z
      · exact absurd z (by decide)
      · rename_i q
        rw [e0, if_neg (fun w => q w.1), Nat.add_zero] at this
        exact this
    · split at z
      · rename_i q
        refine worked_ok (by omega) hF hs hf (h5 b (by omega)) (c5 b (by omega)) (fun M' hE => ?_)
        have := go M' (E1_Fr hE (fun _ => rfl)) (MS_E1 hE hs) (MF_E1 hE hf)
        refine ⟨fun y => ?_, fun y => ?_⟩
        · rw [e0, if_pos ⟨q, y⟩] at this; exact this
        · rw [e0, if_neg (fun w => y w.2), Nat.add_zero] at this; exact this
      · exact absurd rfl z
theorem fires_ok {A B t : Nat} {C : Cf} {M : Mm} {K : Mm → Prop} (hC : CM M C) (hF : FX M) (hs : MS M A B) (hf : MF M (fz t)) (hK : ∀ M', Fr dD eN M M' → MS M' A B → MF M' (if flb C (thg A B (fz t)) (cb C) = 0 then 1 else 0, if flb C (thg A B (fz t)) (cb C) = 0 then 0 else 1, 0, nI t) → M'.1 142 37 = nI (flb C (thg A B (fz t)) (cb C)) → K M') : f_X11_fires S0 142 M K := by
  unfold f_X11_fires
  simp only [forall_eq]
  have f0 : Fr dD eN M (stI M 142 37 0) := Fr_I rfl (Fr_refl _ _ _)
  have hfl := flb_8 C (thg A B (fz t)) hC.1.2.1
  refine ⟨cb C + 1, fires_L (A := A) (B := B) (F := fz t) (cb C) 0 _ (by omega) (CM_fr f0 hC) (FX_fr f0 hF) (MS_142 hs) ?_ rI_eq (fun M' f1 ms mf hl => ?_)⟩
  · exact hf
  · rw [hl]
    unfold f_X11_fires_J72 f_X11_fires_J91
    simp only [s0_142, true_and, forall_eq]
    obtain ⟨i1, i2, i3, i4⟩ := mf
    have fr : ∀ x y, Fr dD eN M (stI (stI M' 142 28 x) 142 29 y) := fun x y => Fr_I rfl (Fr_I rfl (Fr_tr f0 f1))
    refine ⟨fun z => tr_ok ?_, fun z => tr_ok ?_⟩
    · have hz : flb C (thg A B (fz t)) (cb C) = 0 := (nI_eq (by omega) (by omega)).mp (show nI _ = nI 0 from z)
      have hz2 : ∀ x, (stI M' 142 28 x).1 142 37 = 0 := fun x => (rI_ne (by omega)).trans (hl.trans z)
      rw [hz2]
      refine ⟨fun _ => tr_ok ?_, fun y => absurd rfl y⟩
      refine hK _ (fr _ _) ms ⟨?_, ?_, ?_, ?_⟩ ?_
      · simp [rI, hz]
      · simp [rI, hz]
      · simp [rI]; exact i3
      · simp [rI]; exact i4
      · simp [rI]; exact hl
    · have hz : ¬ flb C (thg A B (fz t)) (cb C) = 0 := fun w => z (by rw [w]; rfl)
      have hz2 : ∀ x, ¬ (stI M' 142 28 x).1 142 37 = 0 := fun x => by rw [rI_ne (by omega), hl]; exact z
      refine ⟨fun y => absurd y (hz2 _), fun _ => tr_ok ?_⟩
      refine hK _ (fr _ _) ms ⟨?_, ?_, ?_, ?_⟩ ?_
      · simp [rI, hz]
      · simp [rI, hz]
      · simp [rI]; exact i3
      · simp [rI]; exact i4
      · simp [rI]; exact hl
theorem moves_ok {A B nu : Nat} {x : Int32} {C : Cf} {M : Mm} {K : Mm → Prop} (hC : CM M C) (hF : FX M) (hs : MS M A B) (hnu : nu < 4) (hK : ∀ M', Fr dD eN M M' → MS M' A (mv C B nu (x.toBitVec.toNat % 4)) → M'.1 142 = M.1 142 → K M') : f_X11_moves S0 142 (nI nu) (x &&& (3 : Int32)) M K := by
  rw [pk_and x (m := (3 : Int32)) 2 rfl]
  obtain ⟨s1, s2, s3⟩ := hs.2 nu hnu
  have hsp := hC.1.2.2.2.1 nu hnu
  have hsp2 := hC.2.2.2.2.1 nu hnu
  have h2 := qT_lt B nu
  have h3 := qA_lt B nu
  have hin : vp_in (nI nu) 4 := vp_in_nI hnu (by omega)
  have hcl : (nI nu).toNatClampNeg = nu := nI_clamp (by omega)
  unfold f_X11_moves f_X11_moves_J25
  simp only [rIr, fx_142_24 hF, fx_142_23 hF, fx_142_26 hF, ex_some, shp_ne (show (154 : Nat) ≠ 100000 by decide), shp_ne (show (155 : Nat) ≠ 100000 by decide), shp_ne (show (157 : Nat) ≠ 100000 by decide), s0_154, s0_155, s0_157, ex_sh, hin, hcl, true_and, forall_eq, s1, s2]
  have fr : ∀ x y, Fr dD eN M (stI (stI M 154 nu x) 155 nu y) := fun x y => Fr_I rfl (Fr_I rfl (Fr_refl _ _ _))
  refine ⟨fun z => ⟨fun y => ⟨fun w => absurd w (by decide), fun _ => ?_⟩, fun y => ⟨fun _ => ?_, fun w => absurd trivial w⟩⟩, fun z => ?_⟩
  · have hz : qT B nu = 0 := by
      rw [show (0 : Int32) = nI 0 from rfl, nI_leI (by omega) (by omega)] at z; omega
    have hy : qA B nu = x.toBitVec.toNat % 4 := (nI_eq (by omega) (by omega)).mp y
    refine hK _ (fr _ _) ?_ rfl
    unfold mv; rw [if_pos hz, if_pos hy]
    exact MS_part (tn := 0) hnu (by omega) (by omega) hs
  · have hz : qT B nu = 0 := by
      rw [show (0 : Int32) = nI 0 from rfl, nI_leI (by omega) (by omega)] at z; omega
    have hy : ¬ qA B nu = x.toBitVec.toNat % 4 := fun w => y (by rw [w])
    refine hK _ (fr _ _) ?_ rfl
    unfold mv; rw [if_pos hz, if_neg hy]
    have e : (stI M 154 nu (nI (x.toBitVec.toNat % 2 ^ 2))).1 157 nu = nI (cS C nu) := (rI_ne (by omega)).trans hsp2
    rw [e]
    exact MS_part hnu (by omega) hsp hs
  · have hz : ¬ qT B nu = 0 := by
      rw [show (0 : Int32) = nI 0 from rfl, nI_leI (by omega) (by omega)] at z; omega
    refine hK _ (Fr_refl _ _ _) ?_ rfl
    unfold mv; rw [if_neg hz]; exact hs
def mvb (B : Nat) : Nat → Nat
  | 0 => 0
  | k + 1 => mvb B k + if qT B k = 0 then 0 else 2 ^ k
theorem mvb_lt (B : Nat) : ∀ k, mvb B k < 2 ^ k
  | 0 => by simp [mvb]
  | k + 1 => by
    have := mvb_lt B k
    unfold mvb
    rw [Nat.pow_succ]
    split <;> omega
theorem mvb_bit (B : Nat) {k : Nat} (hk : k < 4) : (mvb B 4).testBit k = true ↔ ¬ qT B k = 0 := by
  have : ∀ a b c d : Bool, ∀ k, k < 4 → ((((0 + (if a then 0 else 2 ^ 0)) + (if b then 0 else 2 ^ 1)) + (if c then 0 else 2 ^ 2)) + (if d then 0 else 2 ^ 3)).testBit k = !(if k = 0 then a else if k = 1 then b else if k = 2 then c else d) := by decide
  have h := this (decide (qT B 0 = 0)) (decide (qT B 1 = 0)) (decide (qT B 2 = 0)) (decide (qT B 3 = 0)) k hk
  simp only [decide_eq_true_eq] at h
  unfold mvb mvb mvb mvb mvb
  rw [h]
  match k, hk with
  | 0, _ => simp
  | 1, _ => simp
  | 2, _ => simp
  | 3, _ => simp
theorem bit_or4 : ∀ b, b < 4 → ∀ x, x < 2 ^ b → nI x ||| ((1 : Int32) <<< (nI b &&& 31)) = nI (x + 2 ^ b) := by decide +kernel
theorem does_L5 {A B : Nat} {x1 x2 : Int32} {M : Mm} {EK : Int32 → Mm → Prop} {K : Mm → Prop} (hF : FX M) (hs : MS M A B) (hK : EK (nI (mvb B 4)) M) :
    ∀ (n k : Nat), k + n = 4 → f_X11_does_L5 S0 142 x1 x2 EK K (n + 1) (nI (mvb B k)) (nI k) M
  | 0, k, hk => by
    unfold f_X11_does_L5 f_X11_does_B5
    have : k = 4 := by omega
    subst this
    exact ⟨fun _ => hK, fun z => absurd (show nI 4 ≤ nI 4 by decide) z⟩
  | n + 1, k, hk => by
    unfold f_X11_does_L5 f_X11_does_B5
    have hin : vp_in (nI k) 4 := vp_in_nI (by omega) (by omega)
    have hcl : (nI k).toNatClampNeg = k := nI_clamp (by omega)
    have go := does_L5 (x1 := x1) (x2 := x2) (K := K) hF hs hK n (k + 1) (by omega)
    have er : mvb B (k + 1) = mvb B k + if qT B k = 0 then 0 else 2 ^ k := rfl
    have hlt := qT_lt B k
    refine ⟨fun z => absurd z (show ¬ nI 4 ≤ nI k from nI_ge (by omega) (by decide)), fun _ => ?_⟩
    simp only [forall_eq, nI_1, fx_142_24 hF, ex_some, shp_ne (show (155 : Nat) ≠ 100000 by decide), s0_155, ex_sh, hin, hcl, true_and, (hs.2 k (by omega)).2.1, or0', bit_or4 k (by omega) _ (mvb_lt B k)]
    refine ⟨fun z => ?_, fun z => ?_⟩
    · have hz : qT B k = 0 := by
        rw [show (0 : Int32) = nI 0 from rfl, nI_leI (by omega) (by omega)] at z; omega
      rw [er, if_pos hz, Nat.add_zero] at go; exact go
    · have hz : ¬ qT B k = 0 := by
        rw [show (0 : Int32) = nI 0 from rfl, nI_leI (by omega) (by omega)] at z; omega
      rw [er, if_neg hz] at go; exact go

theorem does_L3 {A B0 : Nat} {F : F4} {EK : Mm → Prop} {K : Mm → Prop} :
    ∀ (n k B : Nat) (M : Mm), k + n = 4 → FX M → MS M A B → MF M F → (∀ j, j < 4 → k ≤ j → ¬ qT B0 j = 0 → 1 ≤ qT B j) → (∀ M', Fr dD eN M M' → MS M' A (if k = 0 then dec1 B0 (dec1 B0 (dec1 B0 (dec1 B0 B 0) 1) 2) 3 else if k = 1 then dec1 B0 (dec1 B0 (dec1 B0 B 1) 2) 3 else if k = 2 then dec1 B0 (dec1 B0 B 2) 3 else if k = 3 then dec1 B0 B 3 else B) → MF M' F → M'.1 142 = M.1 142 → EK M') → f_X11_does_L317 S0 142 (nI (mvb B0 4)) EK K (n + 1) (nI k) M
  | 0, k, B, M, hk, hF, hs, hf, hg, hK => by
    unfold f_X11_does_L317 f_X11_does_B317
    have : k = 4 := by omega
    subst this
    exact ⟨fun _ => hK M (Fr_refl _ _ _) hs hf rfl, fun z => absurd (show nI 4 ≤ nI 4 by decide) z⟩
  | n + 1, k, B, M, hk, hF, hs, hf, hg, hK => by
    unfold f_X11_does_L317 f_X11_does_B317
    have hin : vp_in (nI k) 4 := vp_in_nI (by omega) (by omega)
    have hcl : (nI k).toNatClampNeg = k := nI_clamp (by omega)
    have hlt := qT_lt B k
    have hml := mvb_lt B0 4
    refine ⟨fun z => absurd z (show ¬ nI 4 ≤ nI k from nI_ge (by omega) (by decide)), fun _ => ?_⟩
    have go : ∀ M', Fr dD eN M M' → M'.1 142 = M.1 142 → MS M' A (dec1 B0 B k) → f_X11_does_L317 S0 142 (nI (mvb B0 4)) EK K (n + 1) (nI (k + 1)) M' := by
      intro M' fr e42 ms
      refine does_L3 n (k + 1) (dec1 B0 B k) M' (by omega) (FX_fr fr hF) ms (by unfold MF at *; rw [e42]; exact hf) (fun j hj hkj hz => ?_) (fun M'' f2 ms2 mf2 e2 => hK M'' (Fr_tr fr f2) ?_ mf2 (e2.trans e42))
      · rw [qT_dec (by omega), if_neg (by omega)]
        exact hg j hj (by omega) hz
      · rw [if_neg (by omega)] at ms2
        have hk4 : k = 0 ∨ k = 1 ∨ k = 2 ∨ k = 3 := by omega
        rcases hk4 with rfl | rfl | rfl | rfl
        all_goals exact ms2
    simp only [fx_142_24 hF, ex_some, shp_ne (show (155 : Nat) ≠ 100000 by decide), s0_155, ex_sh, hin, hcl, true_and, (hs.2 k (by omega)).2.1, forall_eq, nI_1]
    refine has_ok (by omega) (by omega) ?_
    refine ⟨fun z => ?_, fun z => ?_⟩
    · split at z
      · exact absurd z (by decide)
      · rename_i q
        have hz : qT B0 k = 0 := by
          rcases Nat.decEq (qT B0 k) 0 with h | h
          · exact absurd ((mvb_bit B0 (by omega)).mpr h) q
          · exact h
        rw [Int32.sub_zero, stI_self (hs.2 k (by omega)).2.1]
        refine go M (Fr_refl _ _ _) rfl ?_
        unfold dec1; rw [if_pos hz]; exact hs
    · split at z
      · rename_i q
        have hz := (mvb_bit B0 (show k < 4 by omega)).mp q
        have h1 := hg k (by omega) (Nat.le_refl _) hz
        rw [show (1 : Int32) = nI 1 from rfl, pk_sub h1]
        refine go _ (Fr_I rfl (Fr_refl _ _ _)) rfl ?_
        unfold dec1; rw [if_neg hz]
        exact MS_ten (by omega) (by omega) hs
      · exact absurd rfl z
theorem doesJ {A B B2 t v : Nat} {F : F4} {M : Mm} {K : Mm → Prop} (hF : FX M) (hs : MS M A B2) (hf : MF M F) (ht : t < 4) (hv : v < 16) (hg : ∀ k, k < 4 → qT B k ≠ 0 → 1 ≤ qT B2 k) (hK : ∀ M', Fr dD eN M M' → MS M' A (fin B t B2 v) → MF M' F → M'.1 142 37 = M.1 142 37 → K M') : f_X11_does_J306 S0 142 (nI t) (nI (mvb B 4)) (nI v) M K := by
  unfold f_X11_does_J306
  have hin : vp_in (nI t) 4 := vp_in_nI (by omega) (by omega)
  have hcl : (nI t).toNatClampNeg = t := nI_clamp (by omega)
  simp only [fx_142_25 hF, ex_some, s0_156, ex_sh, hin, hcl, true_and, forall_eq]
  have fr : Fr dD eN M (stI M 156 t (nI v)) := Fr_I rfl (Fr_refl _ _ _)
  refine ⟨5, does_L3 (A := A) (F := F) 4 0 (put B2 (24 + 4 * t) 4 v) _ (by omega) (FX_fr fr hF) (MS_line hv hs) hf (fun j hj _ hz => ?_) (fun M' f2 ms mf e => hK M' (Fr_tr fr f2) ms mf ?_)⟩
  · rw [qT_putL hj hv]; exact hg j hj hz
  · rw [e]; rfl

theorem kmk_lt (k : Nat) : kmk k < 200 := by
  unfold kmk
  repeat' split
  all_goals omega
theorem does_ok {t key A B : Nat} {C : Cf} {M : Mm} {K : Mm → Prop} (hC : CM M C) (hF : FX M) (hs : MS M A B) (ht : t < cT C) (hkey : key < 256) (hln : qL B t < cN C t) (hK : ∀ M', Fr dD eN M M' → MS M' (stp C A B t key).1 (stp C A B t key).2.1 → MF M' (stp C A B t key).2.2.1 → M'.1 142 37 = nI (stp C A B t key).2.2.2 → K M') : f_X11_does S0 142 (nI t) (nI key) M K := by
  have hCO := hC.1
  obtain ⟨c1, c2, c3, c4, c5, c6⟩ := hCO
  obtain ⟨l1, l2, l3⟩ := c6 t ht
  obtain ⟨k1, k2, k3, k4, k5, k6⟩ := l3 _ hln
  have hlt := qL_lt B t
  have hin : vp_in (nI t) 4 := vp_in_nI (by omega) (by omega)
  have hcl : (nI t).toNatClampNeg = t := nI_clamp (by omega)
  unfold f_X11_does
  refine ⟨5, does_L5 hF hs ?_ 4 0 (by omega)⟩
  simp only [forall_eq]
  have f0 : Fr dD eN M (stI (stI (stI (stI (stI M 142 28 0) 142 29 0) 142 30 0) 142 31 (nI t)) 142 37 0) := Fr_I rfl (Fr_I rfl (Fr_I rfl (Fr_I rfl (Fr_I rfl (Fr_refl _ _ _)))))
  have main : ∀ M1, Fr dD eN M M1 → MS M1 (stK A key) B → MF M1 (fz t) → M1.1 142 37 = 0 → f_X11_does_J75 S0 142 (nI t) (nI (mvb B 4)) M1 K := by
    intro M1 f1 s1 mf1 z1
    have hC1 := CM_fr f1 hC
    have hF1 := FX_fr f1 hF
    obtain ⟨np, pd, pt, pl, a1, a2, a3, a4, a5, a6⟩ := hC1.2.2.2.2.2.2
    obtain ⟨b1, b2⟩ := a6 t ht
    obtain ⟨b3, b4, b5⟩ := b2 _ hln
    unfold f_X11_does_J75 f_X11_rowOfLine
    have hix : (16 : Int32) * nI t + nI (qL B t) = nI (16 * t + qL B t) := by
      rw [show (16 : Int32) = nI 16 from rfl, pk_mul, nI_add]
    simp only [fx_142_25 hF1, ex_some, shp_ne (show (156 : Nat) ≠ 100000 by decide), s0_156, ex_sh, hin, hcl, true_and, forall_eq, (s1.2 t (by omega)).2.2, hix]
    refine ⟨np + 1, rol_L hF1 (by omega) (by omega) a1 a2 a3 a4 a5 ?_ np 0 (by omega)⟩
    have hr : rol pd pt pl t (qL B t) np < 69 := by
      have : ∀ k, k ≤ 5 → rol pd pt pl t (qL B t) k < 69 := by
        intro k
        induction k with
        | zero => intro _; unfold rol; omega
        | succ k ih => intro hk; unfold rol; split
                       · omega
                       · exact ih (by omega)
      exact this np a1
    simp only [fx_142_16 hF1, ex_some, shp_ne (show (150 : Nat) ≠ 100000 by decide), s0_150, ex_sh, hin, hcl, true_and, b1, nI_1]
    have hkd : (cL C t (qL B t)).1 < 6 := k1
    have J : ∀ nx, nx = nxt C t (qL B t) → nx < 16 → f_X11_does_J113 S0 142 (nI t) (nI (mvb B 4)) (nI (qL B t)) (nI (rol pd pt pl t (qL B t) np)) (nI nx) M1 K := by
      intro nx hnx hn16
      generalize hrr : rol pd pt pl t (qL B t) np = r at hr b3 b4 b5
      have hinr : vp_in (nI r) 90 := vp_in_nI (by omega) (by omega)
      have hclr : (nI r).toNatClampNeg = r := nI_clamp (by omega)
      unfold f_X11_does_J113 f_X11_does_J213 f_X11_does_J281
      simp only [fx_142_9 hF1, fx_142_10 hF1, fx_142_22 hF1, ex_some, shp_ne (show (145 : Nat) ≠ 100000 by decide), shp_ne (show (146 : Nat) ≠ 100000 by decide), s0_145, s0_146, s0_153, ex_sh, hinr, hclr, true_and, b3, b4, forall_eq]
      have tr : ∀ {X Y : Mm}, Fr dD eN M X → Fr dD eN X Y → Fr dD eN M Y := fun a b => Fr_tr a b
      have gz : ∀ k, k < 4 → qT B k ≠ 0 → 1 ≤ qT B k := fun k _ z => by omega
      have kq : ∀ n : Nat, n < 200 → (nI (kmk (cL C t (qL B t)).1) = nI n ↔ kmk (cL C t (qL B t)).1 = n) := fun n hn => nI_eq (Nat.lt_trans (kmk_lt _) (by decide)) (by omega)
      rw [show (61 : Int32) = nI 61 from rfl, show (63 : Int32) = nI 63 from rfl, show (106 : Int32) = nI 106 from rfl, show (109 : Int32) = nI 109 from rfl, show (115 : Int32) = nI 115 from rfl, kq 61 (by omega), kq 63 (by omega), kq 106 (by omega), kq 109 (by omega), kq 115 (by omega)]
      have ek : ∀ n, (cL C t (qL B t)).1 = n → kmk (cL C t (qL B t)).1 = kmk n := fun n h => by rw [h]
      have wk : (cL C t (qL B t)).1 < 4 → ∀ {K' : Int32 → Mm → Prop}, (∀ M', E1 149 M1 M' → K' (evv (thg (stK A key) B (fz t)) (cL C t (qL B t)).2.2) M') → f_X11_worked S0 142 (nI r) M1 K' := fun h4 K' hh => worked_ok (by omega) hF1 s1 mf1 b5 (k5 h4) hh
      have fe : ∀ M', E1 149 M1 M' → Fr dD eN M M' := fun M' hE => Fr_E1 (fun _ => rfl) f1 hE
      have ze : ∀ M', E1 149 M1 M' → M'.1 142 37 = 0 := fun M' hE => by rw [hE.1 142 (by decide)]; exact z1
      unfold stp at hK
      have cs : (cL C t (qL B t)).1 = 0 ∨ (cL C t (qL B t)).1 = 1 ∨ (cL C t (qL B t)).1 = 2 ∨ (cL C t (qL B t)).1 = 3 ∨ (cL C t (qL B t)).1 = 4 ∨ (cL C t (qL B t)).1 = 5 := by omega
      rcases cs with h | h | h | h | h | h
      · rw [ek 0 h]
        rw [if_pos h] at hK
        have hnu := k3 h
        refine ⟨fun _ => ?_, fun z => absurd rfl z⟩
        refine wk (by omega) (fun M2 hE => ?_)
        have hin8 : vp_in (nI (cL C t (qL B t)).2.1) 8 := vp_in_nI hnu (by omega)
        have hcl8 : (nI (cL C t (qL B t)).2.1).toNatClampNeg = (cL C t (qL B t)).2.1 := nI_clamp (by omega)
        rw [pk_and _ (m := (255 : Int32)) 8 rfl]
        simp only [hin8, hcl8, true_and]
        refine doesJ (A := put (stK A key) (8 * (cL C t (qL B t)).2.1) 8 ((evv (thg (stK A key) B (fz t)) (cL C t (qL B t)).2.2).toBitVec.toNat % 256)) (FX_fr (Fr_I (D := dD) (E := eN) rfl (fe M2 hE)) hF) (MS_slot (Nat.mod_lt _ (by decide)) (MS_E1 hE s1)) (F := fz t) (by have := MF_E1 hE mf1; exact this) (by omega) hn16 gz (fun M3 f3 m3 mf3 z3 => hK M3 (tr (Fr_I rfl (fe M2 hE)) f3) (by rw [← hnx]; exact m3) mf3 (z3.trans (ze M2 hE)))
      · rw [ek 1 h]
        rw [if_neg (by omega), if_pos h] at hK
        refine ⟨fun z => absurd z (by decide), fun _ => ⟨fun _ => ?_, fun z => absurd rfl z⟩⟩
        refine wk (by omega) (fun M2 hE => ⟨fun y => ?_, fun y => ?_⟩)
        · refine doesJ (FX_fr (fe M2 hE) hF) (MS_E1 hE s1) (MF_E1 hE mf1) (by omega) hlt gz (fun M3 f3 m3 mf3 z3 => hK M3 (tr (fe M2 hE) f3) (by rw [if_pos y]; exact m3) mf3 (z3.trans (ze M2 hE)))
        · refine doesJ (FX_fr (fe M2 hE) hF) (MS_E1 hE s1) (MF_E1 hE mf1) (by omega) hn16 gz (fun M3 f3 m3 mf3 z3 => hK M3 (tr (fe M2 hE) f3) (by rw [if_neg y, ← hnx]; exact m3) mf3 (z3.trans (ze M2 hE)))
      · rw [ek 2 h]
        rw [if_neg (by omega), if_neg (by omega), if_pos h] at hK
        have hnu := k4 h
        refine ⟨fun z => absurd z (by decide), fun _ => ⟨fun z => absurd z (by decide), fun _ => ⟨fun z => absurd z (by decide), fun _ => ⟨fun _ => ?_, fun z => absurd rfl z⟩⟩⟩⟩
        refine wk (by omega) (fun M2 hE => ?_)
        refine moves_ok (CM_fr (fe M2 hE) hC) (FX_fr (fe M2 hE) hF) (MS_E1 hE s1) hnu (fun M3 f3 m3 e3 => ?_)
        refine doesJ (FX_fr (tr (fe M2 hE) f3) hF) m3 (F := fz t) (by have := MF_E1 hE mf1; unfold MF at *; rw [e3]; exact this) (by omega) hn16 ?_ (fun M4 f4 m4 mf4 z4 => hK M4 (tr (tr (fe M2 hE) f3) f4) (by rw [← hnx]; exact m4) mf4 (z4.trans (by rw [e3]; exact ze M2 hE)))
        intro k hk hz
        unfold mv
        split
        · rename_i hz2
          have hne : k ≠ (cL C t (qL B t)).2.1 := by rintro rfl; exact hz hz2
          have := c4 _ hnu
          rw [qT_putP (by split <;> omega), if_neg hne]
          omega
        · omega
      · rw [ek 3 h]
        rw [if_neg (by omega), if_neg (by omega), if_neg (by omega), if_pos h] at hK
        refine ⟨fun z => absurd z (by decide), fun _ => ⟨fun z => absurd z (by decide), fun _ => ⟨fun _ => ?_, fun z => absurd rfl z⟩⟩⟩
        refine wk (by omega) (fun M2 hE => ⟨fun y => ?_, fun y => ?_⟩)
        · refine doesJ (FX_fr (fe M2 hE) hF) (MS_E1 hE s1) (MF_E1 hE mf1) (by omega) hn16 gz (fun M3 f3 m3 mf3 z3 => hK M3 (tr (fe M2 hE) f3) (by rw [if_pos y, ← hnx]; exact m3) mf3 (z3.trans (ze M2 hE)))
        · have hF2 := FX_fr (fe M2 hE) hF
          have b1' : M2.1 150 t = nI (cN C t) := by rw [hE.1 _ (by decide)]; exact b1
          have b4' : M2.1 146 r = nI (cL C t (qL B t)).2.1 := by rw [hE.1 _ (by decide)]; exact b4
          simp only [fx_142_10 hF2, fx_142_16 hF2, ex_some, shp_ne (show (146 : Nat) ≠ 100000 by decide), shp_ne (show (150 : Nat) ≠ 100000 by decide), s0_146, s0_150, ex_sh, hinr, hclr, hin, hcl, true_and, b1', b4']
          rw [nI_leI (by omega) (by omega)]
          refine ⟨fun w => ?_, fun w => ?_⟩
          · refine doesJ (v := 0) (FX_fr (fe M2 hE) hF) (MS_E1 hE s1) (MF_E1 hE mf1) (by omega) (by omega) gz (fun M3 f3 m3 mf3 z3 => hK M3 (tr (fe M2 hE) f3) (by rw [if_neg y, if_neg (by omega)]; exact m3) mf3 (z3.trans (ze M2 hE)))
          · refine doesJ (FX_fr (fe M2 hE) hF) (MS_E1 hE s1) (MF_E1 hE mf1) (by omega) (by omega) gz (fun M3 f3 m3 mf3 z3 => hK M3 (tr (fe M2 hE) f3) (by rw [if_neg y, if_pos (by omega)]; exact m3) mf3 (z3.trans (ze M2 hE)))
      · rw [ek 4 h]
        rw [if_neg (by omega), if_neg (by omega), if_neg (by omega), if_neg (by omega), if_pos h] at hK
        refine ⟨fun z => absurd z (by decide), fun _ => ⟨fun z => absurd z (by decide), fun _ => ⟨fun z => absurd z (by decide), fun _ => ⟨fun z => absurd z (by decide), fun _ => ⟨fun _ => ?_, fun z => absurd rfl z⟩⟩⟩⟩⟩
        rw [nI_1]
        refine doesJ (F := (0, 0, nI ((cL C t (qL B t)).2.1 + 1), nI t)) (FX_fr (Fr_I rfl f1) hF) (MS_142 s1) ⟨(rI_ne (by omega)).trans mf1.1, (rI_ne (by omega)).trans mf1.2.1, rI_eq, (rI_ne (by omega)).trans mf1.2.2.2⟩ (by omega) hn16 gz (fun M3 f3 m3 mf3 z3 => hK M3 (tr (Fr_I rfl f1) f3) (by rw [← hnx]; exact m3) mf3 (z3.trans ((rI_ne (by omega)).trans z1)))
      · rw [ek 5 h]
        rw [if_neg (by omega), if_neg (by omega), if_neg (by omega), if_neg (by omega), if_neg (by omega)] at hK
        refine ⟨fun z => absurd z (by decide), fun _ => ⟨fun z => absurd z (by decide), fun _ => ⟨fun z => absurd z (by decide), fun _ => ⟨fun z => absurd z (by decide), fun _ => ⟨fun z => absurd z (by decide), fun _ => ?_⟩⟩⟩⟩⟩
        refine fires_ok hC1 hF1 s1 mf1 (fun M3 f3 m3 mf3 z3 => ?_)
        refine doesJ (FX_fr (tr f1 f3) hF) m3 mf3 (by omega) hn16 gz (fun M4 f4 m4 mf4 z4 => hK M4 (tr (tr f1 f3) f4) (by rw [← hnx]; exact m4) mf4 (z4.trans z3))
    rw [nI_leI (by omega) (by omega)]
    refine ⟨fun z => ?_, fun z => ?_⟩
    · exact J 0 (by unfold nxt; rw [if_neg (by omega)]) (by omega)
    · exact J (qL B t + 1) (by unfold nxt; rw [if_pos (by omega)]) (by omega)
  refine ⟨fun z => ?_, fun z => ?_⟩
  · have hz : key = 0 := by
      rw [show (0 : Int32) = nI 0 from rfl, nI_leI (by omega) (by omega)] at z; omega
    refine main _ f0 (by unfold stK; rw [if_pos hz]; exact hs) ⟨?_, ?_, ?_, ?_⟩ rI_eq
    all_goals (simp [rI]; try rfl)
  · have hz : key ≠ 0 := by
      rw [show (0 : Int32) = nI 0 from rfl, nI_leI (by omega) (by omega)] at z; omega
    simp only [rIr, fx_142_22 hF, ex_some, s0_153, ex_sh, show vp_in (7 : Int32) 8 by unfold vp_in; decide, true_and, show (7 : Int32).toNatClampNeg = 7 from rfl]
    refine main _ (Fr_I rfl f0) (by unfold stK; rw [if_neg hz]; exact MS_slot (k := 7) hkey hs) ⟨?_, ?_, ?_, ?_⟩ ?_
    all_goals (simp [rI]; try rfl)
