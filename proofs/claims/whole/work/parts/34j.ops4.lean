theorem V_wgt_0 {M : Mm} {k : Nat} {v : Int32} (hk5 : k < 5) (hv : isN v 10) (h : V_wgt M) : V_wgt (stI (stI (stI M 131 k v) 142 0 0) 171 k v) := by
  intro j hj
  obtain ⟨g1, g2, g3, g4, g5⟩ := h j hj
  have h5 : ¬ 5 + j = k := by omega
  simp only [rI, h5, and_false, Nat.reduceEqDiff, false_and, true_and, if_false]
  by_cases hk : j = k
  · simp only [hk, if_true]
    subst hk
    exact ⟨trivial, g2, hv, g4, g5⟩
  · simp only [hk, if_false]
    exact ⟨g1, g2, g3, g4, g5⟩
theorem V_wgt_1 {M : Mm} {k : Nat} {v : Int32} (hk5 : k < 5) (hv : isN v 10) (h : V_wgt M) : V_wgt (stI (stI (stI M 132 k v) 142 0 0) 171 (5 + k) v) := by
  intro j hj
  obtain ⟨g1, g2, g3, g4, g5⟩ := h j hj
  have h5 : ¬ j = 5 + k := by omega
  simp only [rI, h5, and_false, Nat.reduceEqDiff, false_and, true_and, if_false]
  by_cases hk : j = k
  · simp only [hk, if_true]
    subst hk
    exact ⟨g1, trivial, g3, hv, g5⟩
  · have h6 : ¬ 5 + j = 5 + k := by omega
    simp only [hk, h6, if_false]
    exact ⟨g1, g2, g3, g4, g5⟩
theorem V_weight0 {M : Mm} {k : Nat} {v : Int32} (hk5 : k < 5) (hv : isN v 10) (h : V M) : V (stI (stI (stI M 131 k v) 142 0 0) 171 k v) := by
  obtain ⟨h1, h2, h3, h4, h5, h6, h7, h8, h9, h10, h11, h12, h13, h14, h15, h16, h17, h18, h19⟩ := h
  have er : ∀ a : Nat, a ≠ 171 → a ≠ 142 → a ≠ 131 → (stI (stI (stI M 131 k v) 142 0 0) 171 k v).1 a = M.1 a := fun a b0 b1 b2 => (stI_row b0).trans ((stI_row b1).trans (stI_row b2))
  have ep : ∀ a, prc a → (stI (stI (stI M 131 k v) 142 0 0) 171 k v).1 a = M.1 a := fun a ha => er a (by unfold prc at ha; omega) (by unfold prc at ha; omega) (by unfold prc at ha; omega)
  exact ⟨fx_I h1, V_txt_ag (M := M) (M' := stI (stI (stI M 131 k v) 142 0 0) 171 k v) rfl rfl rfl rfl h2, V_typ_ag (M := M) (M' := stI (stI (stI M 131 k v) 142 0 0) 171 k v) rfl rfl rfl rfl h3, V_spd_ag (M := M) (M' := stI (stI (stI M 131 k v) 142 0 0) 171 k v) rfl rfl h4, V_key_ag (M := M) (M' := stI (stI (stI M 131 k v) 142 0 0) 171 k v) rfl rfl h5, V_wgt_0 hk5 hv h6, V_told_ag (M := M) (M' := stI (stI (stI M 131 k v) 142 0 0) 171 k v) rfl rfl rfl rfl h7, V_last_ag (M := M) (M' := stI (stI (stI M 131 k v) 142 0 0) 171 k v) rfl rfl rfl rfl rfl rfl rfl h8, V_cnt_ag (M := M) (M' := stI (stI (stI M 131 k v) 142 0 0) 171 k v) rfl rfl rfl rfl rfl rfl rfl rfl rfl h9, V_prg_ag (M := M) (M' := stI (stI (stI M 131 k v) 142 0 0) 171 k v) rfl h10, V_task_ag (M := M) (M' := stI (stI (stI M 131 k v) 142 0 0) 171 k v) rfl ep rfl rfl rfl rfl rfl rfl rfl rfl h11, V_must_ag (M := M) (M' := stI (stI (stI M 131 k v) 142 0 0) 171 k v) rfl ep rfl rfl rfl h12, V_bolt_ag (M := M) (M' := stI (stI (stI M 131 k v) 142 0 0) 171 k v) rfl ep rfl rfl rfl h13, V_ptch_ag (M := M) (M' := stI (stI (stI M 131 k v) 142 0 0) 171 k v) rfl ep rfl rfl rfl rfl rfl rfl rfl rfl rfl rfl h14, V_now_ag (M := M) (M' := stI (stI (stI M 131 k v) 142 0 0) 171 k v) rfl rfl rfl rfl rfl rfl rfl h15, V_kept_ag (M := M) (M' := stI (stI (stI M 131 k v) 142 0 0) 171 k v) (fun a _ _ => ⟨er a (by omega) (by omega) (by omega), rfl⟩) (fun a _ _ => ⟨er a (by omega) (by omega) (by omega), rfl⟩) rfl rfl rfl h16, V_walk_ag (M := M) (M' := stI (stI (stI M 131 k v) 142 0 0) 171 k v) rfl rfl rfl rfl h17, V_hous_ag (M := M) (M' := stI (stI (stI M 131 k v) 142 0 0) 171 k v) rfl rfl rfl (fun a _ _ => er a (by omega) (by omega) (by omega)) (fun a _ _ => er a (by omega) (by omega) (by omega)) h18, V_tell_ag (M := M) (M' := stI (stI (stI M 131 k v) 142 0 0) 171 k v) rfl (fun a _ _ => er a (by omega) (by omega) (by omega)) h19⟩
theorem V_weight1 {M : Mm} {k : Nat} {v : Int32} (hk5 : k < 5) (hv : isN v 10) (h : V M) : V (stI (stI (stI M 132 k v) 142 0 0) 171 (5 + k) v) := by
  obtain ⟨h1, h2, h3, h4, h5, h6, h7, h8, h9, h10, h11, h12, h13, h14, h15, h16, h17, h18, h19⟩ := h
  have er : ∀ a : Nat, a ≠ 171 → a ≠ 142 → a ≠ 132 → (stI (stI (stI M 132 k v) 142 0 0) 171 (5 + k) v).1 a = M.1 a := fun a b0 b1 b2 => (stI_row b0).trans ((stI_row b1).trans (stI_row b2))
  have ep : ∀ a, prc a → (stI (stI (stI M 132 k v) 142 0 0) 171 (5 + k) v).1 a = M.1 a := fun a ha => er a (by unfold prc at ha; omega) (by unfold prc at ha; omega) (by unfold prc at ha; omega)
  exact ⟨fx_I h1, V_txt_ag (M := M) (M' := stI (stI (stI M 132 k v) 142 0 0) 171 (5 + k) v) rfl rfl rfl rfl h2, V_typ_ag (M := M) (M' := stI (stI (stI M 132 k v) 142 0 0) 171 (5 + k) v) rfl rfl rfl rfl h3, V_spd_ag (M := M) (M' := stI (stI (stI M 132 k v) 142 0 0) 171 (5 + k) v) rfl rfl h4, V_key_ag (M := M) (M' := stI (stI (stI M 132 k v) 142 0 0) 171 (5 + k) v) rfl rfl h5, V_wgt_1 hk5 hv h6, V_told_ag (M := M) (M' := stI (stI (stI M 132 k v) 142 0 0) 171 (5 + k) v) rfl rfl rfl rfl h7, V_last_ag (M := M) (M' := stI (stI (stI M 132 k v) 142 0 0) 171 (5 + k) v) rfl rfl rfl rfl rfl rfl rfl h8, V_cnt_ag (M := M) (M' := stI (stI (stI M 132 k v) 142 0 0) 171 (5 + k) v) rfl rfl rfl rfl rfl rfl rfl rfl rfl h9, V_prg_ag (M := M) (M' := stI (stI (stI M 132 k v) 142 0 0) 171 (5 + k) v) rfl h10, V_task_ag (M := M) (M' := stI (stI (stI M 132 k v) 142 0 0) 171 (5 + k) v) rfl ep rfl rfl rfl rfl rfl rfl rfl rfl h11, V_must_ag (M := M) (M' := stI (stI (stI M 132 k v) 142 0 0) 171 (5 + k) v) rfl ep rfl rfl rfl h12, V_bolt_ag (M := M) (M' := stI (stI (stI M 132 k v) 142 0 0) 171 (5 + k) v) rfl ep rfl rfl rfl h13, V_ptch_ag (M := M) (M' := stI (stI (stI M 132 k v) 142 0 0) 171 (5 + k) v) rfl ep rfl rfl rfl rfl rfl rfl rfl rfl rfl rfl h14, V_now_ag (M := M) (M' := stI (stI (stI M 132 k v) 142 0 0) 171 (5 + k) v) rfl rfl rfl rfl rfl rfl rfl h15, V_kept_ag (M := M) (M' := stI (stI (stI M 132 k v) 142 0 0) 171 (5 + k) v) (fun a _ _ => ⟨er a (by omega) (by omega) (by omega), rfl⟩) (fun a _ _ => ⟨er a (by omega) (by omega) (by omega), rfl⟩) rfl rfl rfl h16, V_walk_ag (M := M) (M' := stI (stI (stI M 132 k v) 142 0 0) 171 (5 + k) v) rfl rfl rfl rfl h17, V_hous_ag (M := M) (M' := stI (stI (stI M 132 k v) 142 0 0) 171 (5 + k) v) rfl rfl rfl (fun a _ _ => er a (by omega) (by omega) (by omega)) (fun a _ _ => er a (by omega) (by omega) (by omega)) h18, V_tell_ag (M := M) (M' := stI (stI (stI M 132 k v) 142 0 0) 171 (5 + k) v) rfl (fun a _ _ => er a (by omega) (by omega) (by omega)) h19⟩
theorem op18 (p1 p2 p3 : Int32) (M : Mm) (K : Mm → Prop) (hV : V M) (hK : ∀ m, V m → K m) : OP18 p1 p2 p3 M K := by
  have hF := hV.1
  have hW := hV.2.2.2.2.2.1
  unfold OP18 f_X10_weight
  have hm : (p1 < 0 ∨ (1 : Int32) < p1 ∨ p2 < 0 ∨ (4 : Int32) < p2 ∨ p3 < 0 ∨ (9 : Int32) < p3) → f_X11_weight S0 142 p1 p2 p3 M (fun r' m2 => ((-1 : Int32) = r' → K m2) ∧ (¬ (-1 : Int32) = r' → False)) := by
    intro hx
    unfold f_X11_weight
    simp only [forall_eq]
    have hend : True → K (stI M 142 0 0) := fun _ => hK _ (V_thr _ hV)
    refine f_in 1 rfl (fun a b => ⟨fun z => absurd z (by decide), fun _ => ?_⟩) (fun _ => ⟨fun _ => ⟨hend, fun z => z trivial⟩, fun z => absurd rfl z⟩)
    refine f_in 4 rfl (fun c d => ⟨fun z => absurd z (by decide), fun _ => ?_⟩) (fun _ => ⟨fun _ => ⟨hend, fun z => z trivial⟩, fun z => absurd rfl z⟩)
    refine f_in 9 rfl (fun e f => ?_) (fun _ => ⟨fun _ => ⟨hend, fun z => z trivial⟩, fun z => absurd rfl z⟩)
    exact (hx.elim a (fun h => h.elim b (fun h => h.elim c (fun h => h.elim d (fun h => h.elim e f))))).elim
  refine ⟨fun h => hm (Or.inl h), fun h1 => ⟨fun h => hm (Or.inr (Or.inl h)), fun h2 => ⟨fun h => hm (Or.inr (Or.inr (Or.inl h))), fun h3 => ⟨fun h => hm (Or.inr (Or.inr (Or.inr (Or.inl h)))), fun h4 => ⟨fun h => hm (Or.inr (Or.inr (Or.inr (Or.inr (Or.inl h))))), fun h5 => ⟨fun h6 => ?_, fun h => hm (Or.inr (Or.inr (Or.inr (Or.inr (Or.inr (Int32.not_le.mp h))))))⟩⟩⟩⟩⟩⟩
  obtain ⟨i, hi, rfl⟩ := isN_of (n := 1) (by decide) rfl h1 h2
  obtain ⟨k, hk, rfl⟩ := isN_of (n := 4) (by decide) rfl h3 h4
  have hv := isN_of (n := 9) (by decide) rfl h5 (Int32.not_lt.mpr h6)
  have hin : vp_in (nI k) 5 := vp_in_nI hk (by decide)
  have hcl : (nI k).toNatClampNeg = k := nI_clamp (by omega)
  have hmod : ∀ (m0 : Mm) (r : Int32), FX m0 → r = m0.1 171 (5 * i + k) → K (stI (stI m0 142 0 0) 171 (5 * i + k) p3) → f_X11_weight S0 142 (nI i) (nI k) p3 m0 (fun r' m2 => (r = r' → K m2) ∧ (¬ r = r' → False)) := by
    intro m0 r hf0 hr hKm
    unfold f_X11_weight
    simp only [forall_eq]
    refine f_in 1 rfl (fun a b => ⟨fun z => absurd z (by decide), fun _ => ?_⟩) (fun z => (z.elim h1 h2).elim)
    refine f_in 4 rfl (fun a b => ⟨fun z => absurd z (by decide), fun _ => ?_⟩) (fun z => (z.elim h3 h4).elim)
    refine f_in 9 rfl (fun a b => ⟨fun z => absurd z (by decide), fun _ => ?_⟩) (fun z => (z.elim h5 (fun z => absurd h6 (Int32.not_le.mpr z))).elim)
    have ei : (5 : Int32) * nI i + nI k = nI (5 * i + k) := by rw [show (5 : Int32) = nI 5 from rfl, pk_mul, nI_add]
    have hin2 : vp_in (nI (5 * i + k)) 10 := vp_in_nI (by omega) (by decide)
    have hcl2 : (nI (5 * i + k)).toNatClampNeg = 5 * i + k := nI_clamp (by omega)
    simp only [rIr, fx_142_58 hf0, ex_some, s0_171, shp_ne (show (171 : Nat) ≠ 100000 by decide), ex_sh, true_and, forall_eq, ei, hin2, hcl2]
    refine ⟨fun _ => hKm, fun z => z ?_⟩
    rw [hr]
    simp [rI]
  unfold f_X10_weightsOf
  have hi2 : i = 0 ∨ i = 1 := by omega
  rcases hi2 with rfl | rfl
  · refine ⟨fun _ => ?_, fun z => absurd nI_0 z⟩
    simp only [fx_0_10 hF, ex_some, s0_131, shp_ne (show (131 : Nat) ≠ 100000 by decide), ex_sh, true_and, forall_eq, hin, hcl]
    refine hmod _ _ (fx_I hF) ?_ ?_
    · simp [rI]; exact (hW k hk).1
    · have h7 := hK _ (V_weight0 hk hv hV)
      simpa using h7
  · refine ⟨fun z => absurd z (by decide), fun _ => ?_⟩
    simp only [fx_0_11 hF, ex_some, s0_132, shp_ne (show (132 : Nat) ≠ 100000 by decide), ex_sh, true_and, forall_eq, hin, hcl]
    refine hmod _ _ (fx_I hF) ?_ ?_
    · simp [rI]; exact (hW k hk).2.1
    · have h7 := hK _ (V_weight1 hk hv hV)
      simpa using h7
