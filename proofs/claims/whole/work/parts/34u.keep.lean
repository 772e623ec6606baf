/-! keep, again -/
theorem vp_nar_b1 : vp_nar .boolean (1 : Int32) = 1 := by rfl
theorem kp_ref {M : Mm} (hF : FX M) {i : Nat} (hi : i < 3) : M.2.2 130 i = some (133 + 3 * i) ∧ M.2.2 (133 + 3 * i) 0 = some (134 + 3 * i) ∧ M.2.2 (133 + 3 * i) 1 = some (135 + 3 * i) := by
  match i, hi with
  | 0, _ => exact ⟨fx_130_0 hF, fx_133_0 hF, fx_133_1 hF⟩
  | 1, _ => exact ⟨fx_130_1 hF, fx_136_0 hF, fx_136_1 hF⟩
  | 2, _ => exact ⟨fx_130_2 hF, fx_139_0 hF, fx_139_1 hF⟩
set_option maxRecDepth 100000 in
theorem kp_sh : ∀ i, i < 3 → S0[133 + 3 * i]? = some (1, 0) ∧ S0[134 + 3 * i]? = some (3, 0) ∧ S0[135 + 3 * i]? = some (50, 4) := by decide +kernel
theorem cpI_row {M : Mm} {a b sp dp n c : Nat} (h : c ≠ b) : (cpI M a b sp dp n).1 c = M.1 c := by
  funext j; unfold cpI; simp [h]
theorem cpI_get {M : Mm} {a b n k : Nat} (h : k < n) : (cpI M a b 0 0 n).1 b k = M.1 a k := by
  unfold cpI
  simp only [if_true]
  rw [pk_cpy_in (by omega) (by omega), show 0 + (k - 0) = k by omega]
theorem take_ok {i A B : Nat} {M : Mm} {K : Mm → Prop} (hi : i < 3) (hF : FX M) (e0 : M.2.1 113 0 = lN A) (e1 : M.2.1 113 1 = lN B) (hK : ∀ M1, Fr (fun b _ => b == 133 + 3 * i || b == 135 + 3 * i) (fun b => b == 134 + 3 * i) M M1 → M1.2.1 (134 + 3 * i) 0 = lN A → M1.2.1 (134 + 3 * i) 1 = lN B → M1.1 (133 + 3 * i) 2 = M.1 11 13 → M1.1 (133 + 3 * i) 3 = M.1 11 14 → M1.1 (133 + 3 * i) 4 = 1 → (∀ k, k < 4 → M1.1 (135 + 3 * i) k = M.1 18 k) → K M1) : f_X2_take S0 (133 + 3 * i) 113 11 M K := by
  unfold f_X2_take f_X4_copy
  obtain ⟨r1, r2, r3⟩ := kp_ref hF hi
  obtain ⟨s1, s2, s3⟩ := kp_sh i hi
  simp only [r2, ex_some, s2, true_and, forall_eq, rJr, r3, fx_11_6 hF, s0_18, s3]
  refine ⟨4, 4, rfl, rfl, by decide, by decide, by decide, by decide, by decide, ?_⟩
  have c4 : (4 : Int32).toNatClampNeg = 4 := rfl
  have c0 : (0 : Int32).toNatClampNeg = 0 := rfl
  rw [c4, c0]
  have f1 : Fr (fun b _ => b == 133 + 3 * i || b == 135 + 3 * i) (fun b => b == 134 + 3 * i) M (cpI (stJ (stJ M (134 + 3 * i) 0 (M.2.1 113 0)) (134 + 3 * i) 1 ((stJ M (134 + 3 * i) 0 (M.2.1 113 0)).2.1 113 1)) 18 (135 + 3 * i) 0 0 4) := by
    refine ⟨fun b j hd => ?_, fun b hd => ?_, rfl⟩
    · simp only [Bool.or_eq_false_iff, beq_eq_false_iff_ne] at hd
      rw [cpI_row hd.2]; rfl
    · simp only [beq_eq_false_iff_ne] at hd
      show (stJ _ _ _ _).2.1 b = _
      rw [stJ_row hd, stJ_row hd]
  refine hK _ (Fr_I (by simp) (Fr_I (by simp) (Fr_I (by simp) f1))) ?_ ?_ ?_ ?_ ?_ ?_
  · show (stJ (stJ M (134 + 3 * i) 0 (M.2.1 113 0)) (134 + 3 * i) 1 _).2.1 (134 + 3 * i) 0 = _
    rw [rJ, if_neg (by omega), stJ_get]; exact e0
  · show (stJ (stJ M (134 + 3 * i) 0 (M.2.1 113 0)) (134 + 3 * i) 1 _).2.1 (134 + 3 * i) 1 = _
    rw [stJ_get, rJ, if_neg (by omega)]; exact e1
  · rw [rI_ne (by omega), rI_ne (by omega), rI_eq, cpI_row (by omega)]; rfl
  · rw [rI_ne (by omega), rI_eq, rI_ne (by omega), cpI_row (by omega)]; rfl
  · rw [rI_eq]
  · intro k hk
    rw [rI_ne (by omega), rI_ne (by omega), rI_ne (by omega), cpI_get hk]; rfl
/-- what the model's keep changes -/
def dK (i : Nat) : Nat → Nat → Bool := fun b j => (b == 142 && j == 0) || ((b == 185 || b == 188 || b == 189) && j == i) || (b == 190 && (4 * i ≤ j && j < 4 * i + 4 : Bool))
theorem MS_any {M M' : Mm} {A B : Nat} (e1 : M'.1 153 = M.1 153) (e2 : M'.1 154 = M.1 154) (e3 : M'.1 155 = M.1 155) (e4 : M'.1 156 = M.1 156) (h : MS M A B) : MS M' A B := MS_ag e1 e2 e3 e4 h
theorem keepL {i : Nat} {M0 : Mm} {EK : Mm → Prop} {K : Int32 → Mm → Prop} (hi : i < 3) (hF0 : FX M0) (hK : ∀ M1, (∀ b j, ¬ (b = 190 ∧ 4 * i ≤ j ∧ j < 4 * i + 4) → M1.1 b j = M0.1 b j) → M1.2 = M0.2 → (∀ k, k < 4 → M1.1 190 (4 * i + k) = M0.1 157 k) → EK M1) :
    ∀ (n k : Nat) (M : Mm), k + n = 4 → (∀ b j, ¬ (b = 190 ∧ 4 * i ≤ j ∧ j < 4 * i + 4) → M.1 b j = M0.1 b j) → M.2 = M0.2 → (∀ j, j < k → M.1 190 (4 * i + j) = M0.1 157 j) → f_X11_keep_L68 S0 142 (nI i) EK K (n + 1) (nI k) M
  | 0, k, M, hk, h1, h2, h3 => by
    unfold f_X11_keep_L68 f_X11_keep_B68
    have : k = 4 := by omega
    subst this
    exact ⟨fun _ => hK M h1 h2 h3, fun z => absurd (show nI 4 ≤ nI 4 by decide) z⟩
  | n + 1, k, M, hk, h1, h2, h3 => by
    unfold f_X11_keep_L68 f_X11_keep_B68
    have hF : FX M := FX_ag (by rw [h2]) hF0
    have hin : vp_in (nI k) 4 := vp_in_nI (by omega) (by omega)
    have hcl : (nI k).toNatClampNeg = k := nI_clamp (by omega)
    have hix : (4 : Int32) * nI i + nI k = nI (4 * i + k) := by
      rw [show (4 : Int32) = nI 4 from rfl, pk_mul, nI_add]
    have hin2 : vp_in (nI (4 * i + k)) 12 := vp_in_nI (by omega) (by omega)
    have hcl2 : (nI (4 * i + k)).toNatClampNeg = 4 * i + k := nI_clamp (by omega)
    refine ⟨fun z => absurd z (show ¬ nI 4 ≤ nI k from nI_ge (by omega) (by decide)), fun _ => ?_⟩
    simp only [fx_142_85 hF, fx_142_26 hF, ex_some, shp_ne (show (157 : Nat) ≠ 100000 by decide), s0_157, s0_190, ex_sh, hin, hcl, hix, hin2, hcl2, true_and, forall_eq, nI_1]
    refine keepL hi hF0 hK n (k + 1) _ (by omega) (fun b j hb => ?_) h2 (fun j hj => ?_)
    · rw [rI_ne (by omega)]; exact h1 b j hb
    · by_cases e : j = k
      · subst e; rw [rI_eq]; exact h1 157 j (by omega)
      · rw [rI_ne (by omega)]; exact h3 j (by omega)
theorem V_mk2 {M M' : Mm} (h : V M) (hI : ∀ b j, (DV b j = false ∧ ¬ (133 ≤ b ∧ b ≤ 141) ∧ ¬ (185 ≤ b ∧ b ≤ 190)) → M'.1 b j = M.1 b j) (rr : M'.2.2 = M.2.2) (w1 : V_txt M') (w2 : V_told M') (w3 : V_last M') (w4 : V_now M') (w5 : V_walk M') (w6 : V_kept M') : V M' := by
  obtain ⟨h1, h2, h3, h4, h5, h6, h7, h8, h9, h10, h11, h12, h13, h14, h15, h16, h17, h18, h19⟩ := h
  have I : ∀ a j, (DV a j = false ∧ ¬ (133 ≤ a ∧ a ≤ 141) ∧ ¬ (185 ≤ a ∧ a ≤ 190)) → M'.1 a j = M.1 a j := hI
  have R : ∀ a, (∀ j, DV a j = false) → ¬ (133 ≤ a ∧ a ≤ 141) → ¬ (185 ≤ a ∧ a ≤ 190) → M'.1 a = M.1 a := fun a ha b c => funext fun j => hI a j ⟨ha j, b, c⟩
  have ep : ∀ a, prc a → M'.1 a = M.1 a := fun a ha => R a (DV_prc ha) (by unfold prc at ha; omega) (by unfold prc at ha; omega)
  have rg : ∀ a, ((121 ≤ a ∧ a ≤ 132) ∨ (145 ≤ a ∧ a ≤ 148) ∨ (150 ≤ a ∧ a ≤ 152) ∨ (157 ≤ a ∧ a ≤ 159) ∨ (177 ≤ a ∧ a ≤ 183)) → M'.1 a = M.1 a := fun a ha => R a (DV_rng (by omega)) (by omega) (by omega)
  have J : ∀ a j, DV a j = false → a < 133 ∨ (141 < a ∧ a < 185) → M'.1 a j = M.1 a j := fun a j d q => I a j ⟨d, by omega, by omega⟩
  have Q : ∀ a, (∀ j, DV a j = false) → a < 133 ∨ (141 < a ∧ a < 185) → M'.1 a = M.1 a := fun a d q => R a d (by omega) (by omega)
  exact ⟨FX_ag rr h1, w1, V_typ_ag (J _ _ rfl (by omega)) (J _ _ rfl (by omega)) (Q _ (fun _ => rfl) (by omega)) (Q _ (fun _ => rfl) (by omega)) h3, V_spd_ag (Q _ (fun _ => rfl) (by omega)) (Q _ (fun _ => rfl) (by omega)) h4, V_key_ag (J _ _ rfl (by omega)) (J _ _ rfl (by omega)) h5, V_wgt_ag (rg _ (by omega)) (rg _ (by omega)) (Q _ (fun _ => rfl) (by omega)) (R 100000 (fun _ => rfl) (by omega) (by omega)) h6, w2, w3, V_cnt_ag (J _ _ rfl (by omega)) (J _ _ rfl (by omega)) (J _ _ rfl (by omega)) (J _ _ rfl (by omega)) (J _ _ rfl (by omega)) (J _ _ rfl (by omega)) (J _ _ rfl (by omega)) (J _ _ rfl (by omega)) (J _ _ rfl (by omega)) h9, V_prg_ag rr h10, V_task_ag (by rw [rr]) ep (J _ _ rfl (by omega)) (rg _ (by omega)) (rg _ (by omega)) (rg _ (by omega)) (rg _ (by omega)) (rg _ (by omega)) (rg _ (by omega)) (rg _ (by omega)) h11, V_must_ag (by rw [rr]) ep (J _ _ rfl (by omega)) (rg _ (by omega)) (rg _ (by omega)) h12, V_bolt_ag (by rw [rr]) ep (J _ _ rfl (by omega)) (rg _ (by omega)) (rg _ (by omega)) h13, V_ptch_ag (M := M) (M' := M') (by rw [rr]) ep (J _ _ rfl (by omega)) (J _ _ rfl (by omega)) (Q _ (fun _ => rfl) (by omega)) (Q _ (fun _ => rfl) (by omega)) (Q _ (fun _ => rfl) (by omega)) (Q _ (fun _ => rfl) (by omega)) (Q _ (fun _ => rfl) (by omega)) (Q _ (fun _ => rfl) (by omega)) (Q _ (fun _ => rfl) (by omega)) (Q _ (fun _ => rfl) (by omega)) h14, w4, w6, w5, V_hous_ag (rg _ (by omega)) (J _ _ rfl (by omega)) (J _ _ rfl (by omega)) (fun a h1 h2 => rg a (by omega)) (fun a h1 h2 => rg a (by omega)) h18, V_tell_ag (rg _ (by omega)) (fun a h1 h2 => rg a (by omega)) h19⟩

theorem lt3 {x : Int32} : ¬ x < 0 → ((2 : Int32) < x ↔ ¬ x < (3 : Int32)) := fun h => by
  obtain ⟨k, hk, rfl⟩ := nI_of h
  rw [show (3 : Int32) = nI 3 from rfl, show (2 : Int32) = nI 2 from rfl, nI_ltI (by omega) hk, nI_ltI hk (by omega)]
  omega
theorem op38 (p1 : Int32) (M : Mm) (K : Mm → Prop) (hV : V M) (hK : ∀ m, V m → K m) : OP38 p1 M K := by
  have hF := hV.1
  have ne1 : ¬ (1 : Int32) = 0 := by decide
  have hV' := hV
  obtain ⟨h1, h2, h3, h4, h5, h6, h7, h8, h9, h10, h11, h12, h13, h14, h15, h16, h17, h18, h19⟩ := hV'
  have h15' := h15
  obtain ⟨A, B, q1, q2, q3, q4, q5, q6⟩ := h15'
  show f_X10_keep S0 0 p1 M (fun r m1 => f_X11_keep S0 142 p1 m1 (AN r K))
  unfold f_X10_keep
  have ref : (p1 < 0 ∨ (2 : Int32) < p1) → f_X11_keep S0 142 p1 M (AN 0 K) := by
    intro hx
    unfold f_X11_keep
    simp only [forall_eq]
    exact f_in 2 rfl (fun a b => (hx.elim a b).elim) (fun _ => ⟨fun _ => an_ok rfl (hK _ (V_thr _ hV)), fun z => absurd rfl z⟩)
  refine ⟨fun h => ref (Or.inl h), fun g1 => ⟨fun g2 => ?_, fun h => ref (Or.inr ((lt3 g1).mpr h))⟩⟩
  obtain ⟨i, hi0, rfl⟩ := nI_of g1
  have hi : i < 3 := (nI_ltI hi0 (by omega)).mp (show nI i < nI 3 from g2)
  obtain ⟨r1, r2, r3⟩ := kp_ref hF hi
  obtain ⟨s1, s2, s3⟩ := kp_sh i hi
  have hin : vp_in (nI i) 3 := vp_in_nI hi (by omega)
  have hcl : (nI i).toNatClampNeg = i := nI_clamp hi0
  simp only [fx_0_9 hF, fx_0_2 hF, fx_0_3 hF, ex_some, s0_130, ex_sh, hin, hcl, true_and, r1, s1, s0_113, s0_11]
  refine take_ok hi hF q4 q5 (fun M1 f1 k0 k1 k2 k3 k4 k5 => ?_)
  have hF1 := FX_fr f1 hF
  have D1 : ∀ b j, b < 133 ∨ 141 < b → M1.1 b j = M.1 b j := fun b j hb => f1.1 b j (by simp; omega)
  have R1 : ∀ b, b < 133 ∨ 141 < b → M1.1 b = M.1 b := fun b hb => funext fun j => D1 b j hb
  have E1' : ∀ b, b < 133 ∨ 141 < b → M1.2.1 b = M.2.1 b := fun b hb => f1.2.1 b (by simp; omega)
  have ms1 : MS M1 A B := MS_any (R1 _ (by omega)) (R1 _ (by omega)) (R1 _ (by omega)) (R1 _ (by omega)) q3
  unfold f_X11_keep
  simp only [forall_eq]
  refine f_in 2 rfl (fun a b => ⟨fun z => absurd z ne1, fun _ => ?_⟩) (fun w => (w.elim g1 (fun w => (lt3 g1).mp w g2)).elim)
  simp only [rIr, fx_142_80 hF1, fx_142_81 hF1, ex_some, s0_185, ex_sh, hin, hcl, true_and, vp_nar_b1]
  refine packS_ok (A := A) (B := B) (FX_ag rfl hF1) ms1 ?_
  simp only [rIr, rJr, s0_186, ex_sh, hin, true_and, fx_142_82 hF1, ex_some]
  refine packR_ok (A := A) (B := B) (FX_ag rfl hF1) ms1 ?_
  simp only [rIr, rJr, s0_187, ex_sh, hin, true_and, fx_142_83 hF1, fx_142_84 hF1, ex_some, s0_188, s0_189]
  refine ⟨5, keepL hi ?_ (fun M2 e1 e2 e3 => an_ok rfl (hK _ ?_)) 4 0 _ (by omega) (fun _ _ _ => rfl) rfl (fun j hj => by omega)⟩
  · exact FX_ag rfl hF1
  -- what M2 is
  have I2 : ∀ b j, ¬ (b = 142 ∧ j = 0) → ¬ ((b = 185 ∨ b = 188 ∨ b = 189) ∧ j = i) → ¬ (b = 190 ∧ 4 * i ≤ j ∧ j < 4 * i + 4) → M2.1 b j = M1.1 b j := by
    intro b j c1 c2 c3
    rw [e1 b j c3, rI_ne (by omega), rI_ne (by omega)]
    show (stI (stI M1 142 0 0) 185 i 1).1 b j = _
    rw [rI_ne (by omega), rI_ne (by omega)]
  have I3 : ∀ b j, ¬ (b = 142 ∧ j = 0) → ¬ (133 ≤ b ∧ b ≤ 141) ∧ ¬ (185 ≤ b ∧ b ≤ 190) → M2.1 b j = M.1 b j := fun b j c1 c2 => (I2 b j c1 (by omega) (by omega)).trans (D1 b j (by omega))
  have R3 : ∀ b, b < 133 ∨ (142 < b ∧ b < 185) → M2.1 b = M.1 b := fun b c => funext fun j => I3 b j (by omega) (by omega)
  have J2 : ∀ b j, M2.2.1 b j = if b = 187 ∧ j = i then lN (PB B) else if b = 186 ∧ j = i then lN (PA A) else M1.2.1 b j := by
    intro b j
    rw [e2]
    show (stJ (stJ _ 186 i (lN (PA A))) 187 i (lN (PB B))).2.1 b j = _
    rw [rJ, rJ]
    rfl
  have JR : ∀ b, b < 133 ∨ (141 < b ∧ b < 186) → M2.2.1 b = M.2.1 b := by
    intro b hb
    funext j
    rw [J2, if_neg (by omega), if_neg (by omega), E1' b (by omega)]
  have v185 : M2.1 185 i = 1 := by
    rw [e1 185 i (by omega), rI_ne (by omega), rI_ne (by omega)]
    exact rI_eq
  have v188 : M2.1 188 i = M.1 142 27 := by
    rw [e1 188 i (by omega), rI_ne (by omega), rI_eq]
    show (stI (stI M1 142 0 0) 185 i 1).1 142 27 = _
    rw [rI_ne (by omega), rI_ne (by omega)]; exact D1 _ _ (by omega)
  have v189 : M2.1 189 i = M.1 142 21 := by
    rw [e1 189 i (by omega), rI_eq, rI_ne (by omega)]
    show (stI (stI M1 142 0 0) 185 i 1).1 142 21 = _
    rw [rI_ne (by omega), rI_ne (by omega)]; exact D1 _ _ (by omega)
  have v190 : ∀ k, k < 4 → M2.1 190 (4 * i + k) = M.1 157 k := by
    intro k hk
    rw [e3 k hk, rI_ne (by omega), rI_ne (by omega)]
    show (stI (stI M1 142 0 0) 185 i 1).1 157 k = _
    rw [rI_ne (by omega), rI_ne (by omega)]; exact D1 _ _ (by omega)
  have rr : M2.2.2 = M.2.2 := by rw [e2]; exact f1.2.2
  refine V_mk2 hV (fun b j hb => ?_) rr (V_txt_ag (I3 _ _ (by omega) (by omega)) (I3 _ _ (by omega) (by omega)) (R3 _ (by omega)) (R3 _ (by omega)) h2) (V_told_ag (I3 _ _ (by omega) (by omega)) (I3 _ _ (by omega) (by omega)) (JR _ (by omega)) (JR _ (by omega)) h7) (V_last_ag (I3 _ _ (by omega) (by omega)) (I3 _ _ (by omega) (by omega)) (R3 _ (by omega)) (I3 _ _ (by omega) (by omega)) (I3 _ _ (by omega) (by omega)) (I3 _ _ (by omega) (by omega)) (I3 _ _ (by omega) (by omega)) h8) (V_now_ag (R3 _ (by omega)) (R3 _ (by omega)) (R3 _ (by omega)) (R3 _ (by omega)) (JR _ (by omega)) (I3 _ _ (by omega) (by omega)) (R3 _ (by omega)) h15) (V_walk_ag (I3 _ _ (by omega) (by omega)) (R3 _ (by omega)) (R3 _ (by omega)) (by rw [rr]) h17) ?_
  · refine I3 b j ?_ hb.2
    rintro ⟨rfl, rfl⟩; exact absurd hb.1 (by decide)
  · intro i' hi'
    have key : M.1 11 13 = M.1 142 27 := h5.1
    obtain ⟨nt, nb, on, np, a1, a2, a3, a4, b1, b2, b3, b4, b5, b6, b7, b8, b9⟩ := h9
    by_cases e : i' = i
    · subst e
      refine ⟨?_, Or.inr ⟨v185, ⟨A, B, q1, q2, ?_, ?_, ?_, ?_, ?_⟩, ?_, ?_, ?_, ⟨nb, on, a2, ?_, a3, ?_⟩, ?_⟩⟩
      · rw [v185, I2 _ _ (by omega) (by omega) (by omega), k4]
      · rw [J2, if_neg (by omega), if_neg (by omega)]; exact k0
      · rw [J2, if_neg (by omega), if_neg (by omega)]; exact k1
      · rw [J2, if_neg (by omega), if_pos ⟨rfl, rfl⟩]; rfl
      · rw [J2, if_pos ⟨rfl, rfl⟩]; rfl
      · intro k hk; rw [I3 _ _ (by omega) (by omega), R3 150 (by omega)]; exact q6 k hk
      · rw [v188, I2 _ _ (by omega) (by omega) (by omega), k2]; exact key
      · rw [v188, ← key]; exact h5.2
      · rw [v189, I2 _ _ (by omega) (by omega) (by omega), k3, b5, b6]
      · rw [I3 _ _ (by omega) (by omega)]; exact b3
      · rw [v189]; exact b6
      · intro k hk
        rw [v190 k hk, I2 _ _ (by omega) (by omega) (by omega), k5 k hk]
        exact ⟨(h4 k hk).1, by rw [← (h4 k hk).1]; exact (h4 k hk).2⟩
    · have := h16 i' hi'
      rw [I2 (133 + 3 * i') _ (by omega) (by omega) (by omega), I2 (133 + 3 * i') _ (by omega) (by omega) (by omega), I2 (133 + 3 * i') _ (by omega) (by omega) (by omega), I2 185 i' (by omega) (by omega) (by omega), I2 188 i' (by omega) (by omega) (by omega), I2 189 i' (by omega) (by omega) (by omega), J2 186 i', if_neg (by omega), if_neg (by omega), J2 187 i', if_neg (by omega), if_neg (by omega), J2 (134 + 3 * i') 0, if_neg (by omega), if_neg (by omega), J2 (134 + 3 * i') 1, if_neg (by omega), if_neg (by omega), I3 11 10 (by omega) (by omega), I3 11 11 (by omega) (by omega), R3 150 (by omega)]
      rw [f1.1 (133 + 3 * i') 4 (by simp; omega), f1.1 (133 + 3 * i') 2 (by simp; omega), f1.1 (133 + 3 * i') 3 (by simp; omega), D1 185 i' (by omega), D1 188 i' (by omega), D1 189 i' (by omega), E1' 186 (by omega), E1' 187 (by omega), f1.2.1 (134 + 3 * i') (by simp; omega)]
      refine ⟨this.1, this.2.imp id (fun z => ⟨z.1, z.2.1, z.2.2.1, z.2.2.2.1, z.2.2.2.2.1, z.2.2.2.2.2.1, fun k hk => ?_⟩)⟩
      rw [I2 (135 + 3 * i') k (by omega) (by omega) (by omega), I2 190 (4 * i' + k) (by omega) (by omega) (by omega), f1.1 (135 + 3 * i') k (by simp; omega), D1 190 _ (by omega)]
      exact z.2.2.2.2.2.2 k hk

theorem agL {i : Nat} {M0 : Mm} {EK : Mm → Prop} {K : Int32 → Mm → Prop} (hi : i < 3) (hF0 : FX M0) (hK : ∀ M1, (∀ b j, ¬ (b = 157 ∧ j < 4) → M1.1 b j = M0.1 b j) → M1.2 = M0.2 → (∀ k, k < 4 → M1.1 157 k = M0.1 190 (4 * i + k)) → EK M1) :
    ∀ (n k : Nat) (M : Mm), k + n = 4 → (∀ b j, ¬ (b = 157 ∧ j < 4) → M.1 b j = M0.1 b j) → M.2 = M0.2 → (∀ j, j < k → M.1 157 j = M0.1 190 (4 * i + j)) → f_X11_again_L66 S0 142 (nI i) EK K (n + 1) (nI k) M
  | 0, k, M, hk, h1, h2, h3 => by
    unfold f_X11_again_L66 f_X11_again_B66
    have : k = 4 := by omega
    subst this
    exact ⟨fun _ => hK M h1 h2 h3, fun z => absurd (show nI 4 ≤ nI 4 by decide) z⟩
  | n + 1, k, M, hk, h1, h2, h3 => by
    unfold f_X11_again_L66 f_X11_again_B66
    have hF : FX M := FX_ag (by rw [h2]) hF0
    have hin : vp_in (nI k) 4 := vp_in_nI (by omega) (by omega)
    have hcl : (nI k).toNatClampNeg = k := nI_clamp (by omega)
    have hix : (4 : Int32) * nI i + nI k = nI (4 * i + k) := by
      rw [show (4 : Int32) = nI 4 from rfl, pk_mul, nI_add]
    have hin2 : vp_in (nI (4 * i + k)) 12 := vp_in_nI (by omega) (by omega)
    have hcl2 : (nI (4 * i + k)).toNatClampNeg = 4 * i + k := nI_clamp (by omega)
    refine ⟨fun z => absurd z (show ¬ nI 4 ≤ nI k from nI_ge (by omega) (by decide)), fun _ => ?_⟩
    simp only [fx_142_85 hF, fx_142_26 hF, ex_some, shp_ne (show (190 : Nat) ≠ 100000 by decide), s0_157, s0_190, ex_sh, hin, hcl, hix, hin2, hcl2, true_and, forall_eq, nI_1]
    refine agL hi hF0 hK n (k + 1) _ (by omega) (fun b j hb => ?_) h2 (fun j hj => ?_)
    · rw [rI_ne (by omega)]; exact h1 b j hb
    · by_cases e : j = k
      · subst e; rw [rI_eq]; exact h1 190 _ (by omega)
      · rw [rI_ne (by omega)]; exact h3 j (by omega)
theorem give_ok {i A B : Nat} {M : Mm} {K : Mm → Prop} (hi : i < 3) (hF : FX M) (e0 : M.2.1 (134 + 3 * i) 0 = lN A) (e1 : M.2.1 (134 + 3 * i) 1 = lN B) (hK : ∀ M1, Fr (fun b j => b == 18 || (b == 11 && (j == 13 || j == 14))) (fun b => b == 113) M M1 → M1.2.1 113 0 = lN A → M1.2.1 113 1 = lN B → M1.1 11 13 = M.1 (133 + 3 * i) 2 → M1.1 11 14 = M.1 (133 + 3 * i) 3 → (∀ k, k < 4 → M1.1 18 k = M.1 (135 + 3 * i) k) → K M1) : f_X2_giveBack S0 (133 + 3 * i) 113 11 M K := by
  unfold f_X2_giveBack f_X4_copy
  obtain ⟨r1, r2, r3⟩ := kp_ref hF hi
  obtain ⟨s1, s2, s3⟩ := kp_sh i hi
  simp only [r2, ex_some, s2, true_and, forall_eq, rJr, r3, fx_11_6 hF, s0_18, s3]
  refine ⟨4, 4, rfl, rfl, by decide, by decide, by decide, by decide, by decide, ?_⟩
  have c4 : (4 : Int32).toNatClampNeg = 4 := rfl
  have c0 : (0 : Int32).toNatClampNeg = 0 := rfl
  rw [c4, c0]
  have f1 : Fr (fun b j => b == 18 || (b == 11 && (j == 13 || j == 14))) (fun b => b == 113) M (cpI (stJ (stJ M 113 0 (M.2.1 (134 + 3 * i) 0)) 113 1 ((stJ M 113 0 (M.2.1 (134 + 3 * i) 0)).2.1 (134 + 3 * i) 1)) (135 + 3 * i) 18 0 0 4) := by
    refine ⟨fun b j hd => ?_, fun b hd => ?_, rfl⟩
    · simp only [Bool.or_eq_false_iff, beq_eq_false_iff_ne] at hd
      rw [cpI_row hd.1]; rfl
    · simp only [beq_eq_false_iff_ne] at hd
      show (stJ _ _ _ _).2.1 b = _
      rw [stJ_row hd, stJ_row hd]
  refine hK _ (Fr_I (by simp) (Fr_I (by simp) f1)) ?_ ?_ ?_ ?_ ?_
  · show (stJ (stJ M 113 0 (M.2.1 (134 + 3 * i) 0)) 113 1 _).2.1 113 0 = _
    rw [rJ, if_neg (by omega), stJ_get]; exact e0
  · show (stJ (stJ M 113 0 (M.2.1 (134 + 3 * i) 0)) 113 1 _).2.1 113 1 = _
    rw [stJ_get, rJ, if_neg (by omega)]; exact e1
  · rw [rI_ne (by omega), rI_eq, cpI_row (by omega)]; rfl
  · rw [rI_eq, rI_ne (by omega), cpI_row (by omega)]; rfl
  · intro k hk
    rw [rI_ne (by omega), rI_ne (by omega), cpI_get hk]; rfl
theorem op39 (p1 : Int32) (M : Mm) (K : Mm → Prop) (hV : V M) (hK : ∀ m, V m → K m) : OP39 p1 M K := by
  have hF := hV.1
  have ne1 : ¬ (1 : Int32) = 0 := by decide
  have hV' := hV
  obtain ⟨h1, h2, h3, h4, h5, h6, h7, h8, h9, h10, h11, h12, h13, h14, h15, h16, h17, h18, h19⟩ := hV'
  show f_X10_again S0 0 p1 M (fun r m1 => f_X11_again S0 142 p1 m1 (AN r K))
  unfold f_X10_again
  have ref : (p1 < 0 ∨ (2 : Int32) < p1) → f_X11_again S0 142 p1 M (AN 0 K) := by
    intro hx
    unfold f_X11_again
    simp only [forall_eq]
    exact f_in 2 rfl (fun a b => (hx.elim a b).elim) (fun _ => ⟨fun _ => an_ok rfl (hK _ (V_thr _ hV)), fun z => absurd rfl z⟩)
  refine ⟨fun h => ref (Or.inl h), fun g1 => ⟨fun h => ref (Or.inr ((lt3 g1).mpr (Int32.not_lt.mpr h))), fun g2 => ?_⟩⟩
  have g2 : p1 < (3 : Int32) := Int32.not_le.mp g2
  obtain ⟨i, hi0, rfl⟩ := nI_of g1
  have hi : i < 3 := (nI_ltI hi0 (by omega)).mp (show nI i < nI 3 from g2)
  obtain ⟨r1, r2, r3⟩ := kp_ref hF hi
  obtain ⟨s1, s2, s3⟩ := kp_sh i hi
  have hin : vp_in (nI i) 3 := vp_in_nI hi (by omega)
  have hcl : (nI i).toNatClampNeg = i := nI_clamp hi0
  simp only [fx_0_9 hF, fx_0_2 hF, fx_0_3 hF, ex_some, s0_130, ex_sh, hin, hcl, true_and, r1, s1, s0_113, s0_11]
  obtain ⟨u1, u2⟩ := h16 i hi
  have in2 : ∀ {M1 : Mm} {Q : Int32 → Mm → Prop}, Q 1 M1 → f_X11_in S0 (nI i).toInt64 0 2 M1 Q := fun {M1 Q} hq => f_in 2 rfl (fun _ _ => hq) (fun w => (w.elim g1 (fun w => (lt3 g1).mp w g2)).elim)
  rw [u1]
  refine ⟨fun z => ?_, fun z => ?_⟩
  · unfold f_X11_again
    simp only [forall_eq]
    refine in2 ⟨fun z => absurd z ne1, fun _ => ?_⟩
    simp only [rIr, fx_142_80 hF, ex_some, s0_185, ex_sh, hin, hcl, true_and]
    exact ⟨fun _ => an_ok rfl (hK _ (V_thr _ hV)), fun y => absurd z y⟩
  · obtain ⟨z1, ⟨A, B, q1, q2, q3, q4, q5, q6, q7⟩, z2, z3, z4, ⟨nb', on', z5, z6, z7, z8⟩, z9⟩ := u2.resolve_left z
    refine give_ok hi hF q3 q4 (fun M1 f1 k0 k1 k2 k3 k4 => ?_)
    have hF1 := FX_fr f1 hF
    have D1 : ∀ b j, ¬ (b = 18) → ¬ (b = 11 ∧ (j = 13 ∨ j = 14)) → M1.1 b j = M.1 b j := fun b j hb hc => f1.1 b j (by simp only [Bool.or_eq_false_iff, Bool.and_eq_false_iff, beq_eq_false_iff_ne]; omega)
    unfold f_X11_again
    simp only [forall_eq]
    refine in2 ⟨fun z => absurd z ne1, fun _ => ?_⟩
    simp only [rIr, rIj, fx_142_80 hF1, fx_142_81 hF1, fx_142_82 hF1, ex_some, s0_185, s0_186, s0_187, ex_sh, hin, hcl, true_and]
    refine ⟨fun y => absurd y (by show ¬ M1.1 185 i = 0; rw [D1 _ _ (by omega) (by omega), z1]; decide), fun _ => ?_⟩
    have p1' : M1.2.1 186 i = lN (PA A) := by rw [f1.2.1 186 rfl]; exact q5
    have p2' : M1.2.1 187 i = lN (PB B) := by rw [f1.2.1 187 rfl]; exact q6
    rw [p1', p2']
    refine unp_ok (FX_ag rfl hF1) (fun M2 f2 m2 => ?_)
    have hF2 := FX_fr f2 (FX_ag (M := M1) rfl hF1)
    simp only [rIr, fx_142_83 hF2, fx_142_84 hF2, ex_some, shp_ne (show (188 : Nat) ≠ 100000 by decide), shp_ne (show (189 : Nat) ≠ 100000 by decide), s0_188, s0_189, ex_sh, hin, hcl, true_and, forall_eq]
    refine ⟨5, agL hi ?_ (fun M3 e1 e2 e3 => an_ok rfl (hK _ ?_)) 4 0 _ (by omega) (fun _ _ _ => rfl) rfl (fun j hj => by omega)⟩
    · exact FX_ag rfl hF2
    have D2 : ∀ b j, ¬ (b = 142 ∧ j = 0) → ¬ (153 ≤ b ∧ b ≤ 156) → M2.1 b j = M1.1 b j := fun b j hb hc => (f2.1 b j (by unfold dU; simp only [Bool.or_eq_false_iff, beq_eq_false_iff_ne]; omega)).trans (rI_ne hb)
    have D3 : ∀ b j, ¬ (b = 142 ∧ (j = 0 ∨ j = 27 ∨ j = 21)) → ¬ (153 ≤ b ∧ b ≤ 157) → M3.1 b j = M1.1 b j := fun b j hb hc => by
      rw [e1 b j (by omega), rI_ne (by omega), rI_ne (by omega)]; exact D2 b j (by omega) (by omega)
    have D : ∀ b j, ¬ (b = 142 ∧ (j = 0 ∨ j = 27 ∨ j = 21)) → ¬ (153 ≤ b ∧ b ≤ 157) → ¬ (b = 18) → ¬ (b = 11 ∧ (j = 13 ∨ j = 14)) → M3.1 b j = M.1 b j := fun b j c1 c2 c3 c4 => (D3 b j c1 c2).trans (D1 b j c3 c4)
    have R : ∀ b, b ≠ 142 → ¬ (153 ≤ b ∧ b ≤ 157) → b ≠ 18 → b ≠ 11 → M3.1 b = M.1 b := fun b c1 c2 c3 c4 => funext fun j => D b j (by omega) c2 c3 (by omega)
    have JJ : ∀ b, b ≠ 113 → M3.2.1 b = M.2.1 b := fun b hb => by
      rw [e2]
      show M2.2.1 b = _
      rw [f2.2.1 b rfl]
      show M1.2.1 b = _
      exact f1.2.1 b (by simpa using hb)
    have J113 : M3.2.1 113 = M1.2.1 113 := by
      rw [e2]
      show M2.2.1 113 = _
      rw [f2.2.1 113 rfl]
      rfl
    have rr : M3.2.2 = M.2.2 := by
      rw [e2]
      show M2.2.2 = _
      rw [f2.2.2]
      exact f1.2.2
    have ms3 : MS M3 A B := by
      refine MS_any ?_ ?_ ?_ ?_ m2
      all_goals (funext j; rw [e1 _ j (by omega), rI_ne (by omega), rI_ne (by omega)])
    have v27 : M3.1 142 27 = M.1 188 i := by
      rw [e1 142 27 (by omega), rI_ne (by omega), rI_eq, D2 188 i (by omega) (by omega), D1 _ _ (by omega) (by omega)]
    have v21 : M3.1 142 21 = M.1 189 i := by
      rw [e1 142 21 (by omega), rI_eq, rI_ne (by omega), D2 189 i (by omega) (by omega), D1 _ _ (by omega) (by omega)]
    have v157 : ∀ k, k < 4 → M3.1 157 k = M.1 190 (4 * i + k) := fun k hk => by
      rw [e3 k hk, rI_ne (by omega), rI_ne (by omega), D2 190 _ (by omega) (by omega), D1 _ _ (by omega) (by omega)]
    have v13 : M3.1 11 13 = M.1 188 i := by rw [D3 _ _ (by omega) (by omega), k2]; exact z2
    have v14 : M3.1 11 14 = M.1 189 i := by rw [D3 _ _ (by omega) (by omega), k3]; exact z4
    have ep : ∀ a, prc a → M3.1 a = M.1 a := fun a ha => R a (by unfold prc at ha; omega) (by unfold prc at ha; omega) (by unfold prc at ha; omega) (by unfold prc at ha; omega)
    obtain ⟨nt, nb, on, np, a1, a2, a3, a4, b1, b2, b3, b4, b5, b6, b7, b8, b9⟩ := h9
    have enb : nb' = nb := by
      rw [b3] at z6
      exact ((nI_eq (by omega) (by omega)).mp z6).symm
    subst enb
    refine ⟨FX_ag rr h1, V_txt_ag (D _ _ (by omega) (by omega) (by omega) (by omega)) (D _ _ (by omega) (by omega) (by omega) (by omega)) (R _ (by omega) (by omega) (by omega) (by omega)) (R _ (by omega) (by omega) (by omega) (by omega)) h2, V_typ_ag (D _ _ (by omega) (by omega) (by omega) (by omega)) (D _ _ (by omega) (by omega) (by omega) (by omega)) (R _ (by omega) (by omega) (by omega) (by omega)) (R _ (by omega) (by omega) (by omega) (by omega)) h3, ?_, ⟨by rw [v13, v27], by rw [v13]; exact z3⟩, V_wgt_ag (R _ (by omega) (by omega) (by omega) (by omega)) (R _ (by omega) (by omega) (by omega) (by omega)) (R _ (by omega) (by omega) (by omega) (by omega)) (R _ (by omega) (by omega) (by omega) (by omega)) h6, V_told_ag (D _ _ (by omega) (by omega) (by omega) (by omega)) (D _ _ (by omega) (by omega) (by omega) (by omega)) (JJ _ (by omega)) (JJ _ (by omega)) h7, V_last_ag (D _ _ (by omega) (by omega) (by omega) (by omega)) (D _ _ (by omega) (by omega) (by omega) (by omega)) (R _ (by omega) (by omega) (by omega) (by omega)) (D _ _ (by omega) (by omega) (by omega) (by omega)) (D _ _ (by omega) (by omega) (by omega) (by omega)) (D _ _ (by omega) (by omega) (by omega) (by omega)) (D _ _ (by omega) (by omega) (by omega) (by omega)) h8, ?_, V_prg_ag rr h10, V_task_ag (by rw [rr]) ep (D _ _ (by omega) (by omega) (by omega) (by omega)) (R _ (by omega) (by omega) (by omega) (by omega)) (R _ (by omega) (by omega) (by omega) (by omega)) (R _ (by omega) (by omega) (by omega) (by omega)) (R _ (by omega) (by omega) (by omega) (by omega)) (R _ (by omega) (by omega) (by omega) (by omega)) (R _ (by omega) (by omega) (by omega) (by omega)) (R _ (by omega) (by omega) (by omega) (by omega)) h11, V_must_ag (by rw [rr]) ep (D _ _ (by omega) (by omega) (by omega) (by omega)) (R _ (by omega) (by omega) (by omega) (by omega)) (R _ (by omega) (by omega) (by omega) (by omega)) h12, V_bolt_ag (by rw [rr]) ep (D _ _ (by omega) (by omega) (by omega) (by omega)) (R _ (by omega) (by omega) (by omega) (by omega)) (R _ (by omega) (by omega) (by omega) (by omega)) h13, V_ptch_ag (M := M) (M' := M3) (by rw [rr]) ep (D _ _ (by omega) (by omega) (by omega) (by omega)) (D _ _ (by omega) (by omega) (by omega) (by omega)) (R _ (by omega) (by omega) (by omega) (by omega)) (R _ (by omega) (by omega) (by omega) (by omega)) (R _ (by omega) (by omega) (by omega) (by omega)) (R _ (by omega) (by omega) (by omega) (by omega)) (R _ (by omega) (by omega) (by omega) (by omega)) (R _ (by omega) (by omega) (by omega) (by omega)) (R _ (by omega) (by omega) (by omega) (by omega)) (R _ (by omega) (by omega) (by omega) (by omega)) h14, ⟨A, B, q1, q2, ms3, by rw [J113]; exact k0, by rw [J113]; exact k1, fun k hk hl => ?_⟩, V_kept_ag (fun a c1 c2 => ⟨R a (by omega) (by omega) (by omega) (by omega), JJ a (by omega)⟩) (fun a c1 c2 => ⟨R a (by omega) (by omega) (by omega) (by omega), JJ a (by omega)⟩) (D _ _ (by omega) (by omega) (by omega) (by omega)) (D _ _ (by omega) (by omega) (by omega) (by omega)) (R _ (by omega) (by omega) (by omega) (by omega)) h16, V_walk_ag (D _ _ (by omega) (by omega) (by omega) (by omega)) (R _ (by omega) (by omega) (by omega) (by omega)) (R _ (by omega) (by omega) (by omega) (by omega)) (by rw [rr]) h17, V_hous_ag (R _ (by omega) (by omega) (by omega) (by omega)) (D _ _ (by omega) (by omega) (by omega) (by omega)) (D _ _ (by omega) (by omega) (by omega) (by omega)) (fun a c1 c2 => R a (by omega) (by omega) (by omega) (by omega)) (fun a c1 c2 => R a (by omega) (by omega) (by omega) (by omega)) h18, V_tell_ag (R _ (by omega) (by omega) (by omega) (by omega)) (fun a c1 c2 => R a (by omega) (by omega) (by omega) (by omega)) h19⟩
    · intro k hk
      have e18 : M3.1 18 k = M.1 190 (4 * i + k) := by
        rw [D3 18 k (by omega) (by omega), k4 k hk]; exact (z9 k hk).1
      rw [e18, v157 k hk]
      exact ⟨rfl, (z9 k hk).2⟩
    · refine ⟨nt, nb', on', np, a1, a2, z7, a4, ?_, ?_, ?_, ?_, ?_, ?_, ?_, ?_, ?_⟩
      · rw [D 11 10 (by omega) (by omega) (by omega) (by omega)]; exact b1
      · rw [D 142 15 (by omega) (by omega) (by omega) (by omega)]; exact b2
      · rw [D 11 11 (by omega) (by omega) (by omega) (by omega)]; exact b3
      · rw [D 142 20 (by omega) (by omega) (by omega) (by omega)]; exact b4
      · rw [v14]; exact z8
      · rw [v21]; exact z8
      · rw [D 11 12 (by omega) (by omega) (by omega) (by omega)]; exact b7
      · rw [D 142 34 (by omega) (by omega) (by omega) (by omega)]; exact b8
      · rw [D 142 33 (by omega) (by omega) (by omega) (by omega)]; exact b9
    · rw [D 11 10 (by omega) (by omega) (by omega) (by omega)] at hl
      rw [R 150 (by omega) (by omega) (by omega) (by omega)]
      exact q7 k hk hl
