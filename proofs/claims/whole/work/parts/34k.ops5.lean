theorem V_typ_push {M : Mm} {n : Nat} {x : Int32} (hn : n < 8) (hx : isN x 5) (ha : ∀ j, j < n → M.1 119 j = M.1 173 j ∧ isN (M.1 119 j) 5) : V_typ (stI (stI (stI (stI (stI M 119 n x) 118 2 (nI (n + 1))) 142 0 0) 173 n x) 142 60 (nI (n + 1))) := by
  refine ⟨n + 1, by omega, rfl, rfl, fun j hj => ?_⟩
  simp only [rI, Nat.reduceEqDiff, false_and, true_and, if_false]
  by_cases hk : j = n
  · simp only [hk, if_true]
    exact ⟨trivial, hx⟩
  · simp only [hk, if_false]
    exact ha j (by omega)
theorem V_type {M : Mm} {n : Nat} {x : Int32} (hn : n < 8) (hx : isN x 5) (ha : ∀ j, j < n → M.1 119 j = M.1 173 j ∧ isN (M.1 119 j) 5) (h : V M) : V (stI (stI (stI (stI (stI M 119 n x) 118 2 (nI (n + 1))) 142 0 0) 173 n x) 142 60 (nI (n + 1))) := by
  obtain ⟨h1, h2, h3, h4, h5, h6, h7, h8, h9, h10, h11, h12, h13, h14, h15, h16, h17, h18, h19⟩ := h
  have er : ∀ a : Nat, a ≠ 142 → a ≠ 173 → a ≠ 142 → a ≠ 118 → a ≠ 119 → (stI (stI (stI (stI (stI M 119 n x) 118 2 (nI (n + 1))) 142 0 0) 173 n x) 142 60 (nI (n + 1))).1 a = M.1 a := fun a b0 b1 b2 b3 b4 => (stI_row b0).trans ((stI_row b1).trans ((stI_row b2).trans ((stI_row b3).trans (stI_row b4))))
  have ep : ∀ a, prc a → (stI (stI (stI (stI (stI M 119 n x) 118 2 (nI (n + 1))) 142 0 0) 173 n x) 142 60 (nI (n + 1))).1 a = M.1 a := fun a ha => er a (by unfold prc at ha; omega) (by unfold prc at ha; omega) (by unfold prc at ha; omega) (by unfold prc at ha; omega) (by unfold prc at ha; omega)
  exact ⟨fx_I h1, V_txt_ag (M := M) (M' := stI (stI (stI (stI (stI M 119 n x) 118 2 (nI (n + 1))) 142 0 0) 173 n x) 142 60 (nI (n + 1))) rfl rfl rfl rfl h2, V_typ_push hn hx ha, V_spd_ag (M := M) (M' := stI (stI (stI (stI (stI M 119 n x) 118 2 (nI (n + 1))) 142 0 0) 173 n x) 142 60 (nI (n + 1))) rfl rfl h4, V_key_ag (M := M) (M' := stI (stI (stI (stI (stI M 119 n x) 118 2 (nI (n + 1))) 142 0 0) 173 n x) 142 60 (nI (n + 1))) rfl rfl h5, V_wgt_ag (M := M) (M' := stI (stI (stI (stI (stI M 119 n x) 118 2 (nI (n + 1))) 142 0 0) 173 n x) 142 60 (nI (n + 1))) rfl rfl rfl rfl h6, V_told_ag (M := M) (M' := stI (stI (stI (stI (stI M 119 n x) 118 2 (nI (n + 1))) 142 0 0) 173 n x) 142 60 (nI (n + 1))) rfl rfl rfl rfl h7, V_last_ag (M := M) (M' := stI (stI (stI (stI (stI M 119 n x) 118 2 (nI (n + 1))) 142 0 0) 173 n x) 142 60 (nI (n + 1))) rfl rfl rfl rfl rfl rfl rfl h8, V_cnt_ag (M := M) (M' := stI (stI (stI (stI (stI M 119 n x) 118 2 (nI (n + 1))) 142 0 0) 173 n x) 142 60 (nI (n + 1))) rfl rfl rfl rfl rfl rfl rfl rfl rfl h9, V_prg_ag (M := M) (M' := stI (stI (stI (stI (stI M 119 n x) 118 2 (nI (n + 1))) 142 0 0) 173 n x) 142 60 (nI (n + 1))) rfl h10, V_task_ag (M := M) (M' := stI (stI (stI (stI (stI M 119 n x) 118 2 (nI (n + 1))) 142 0 0) 173 n x) 142 60 (nI (n + 1))) rfl ep rfl rfl rfl rfl rfl rfl rfl rfl h11, V_must_ag (M := M) (M' := stI (stI (stI (stI (stI M 119 n x) 118 2 (nI (n + 1))) 142 0 0) 173 n x) 142 60 (nI (n + 1))) rfl ep rfl rfl rfl h12, V_bolt_ag (M := M) (M' := stI (stI (stI (stI (stI M 119 n x) 118 2 (nI (n + 1))) 142 0 0) 173 n x) 142 60 (nI (n + 1))) rfl ep rfl rfl rfl h13, V_ptch_ag (M := M) (M' := stI (stI (stI (stI (stI M 119 n x) 118 2 (nI (n + 1))) 142 0 0) 173 n x) 142 60 (nI (n + 1))) rfl ep rfl rfl rfl rfl rfl rfl rfl rfl rfl rfl h14, V_now_ag (M := M) (M' := stI (stI (stI (stI (stI M 119 n x) 118 2 (nI (n + 1))) 142 0 0) 173 n x) 142 60 (nI (n + 1))) rfl rfl rfl rfl rfl rfl rfl h15, V_kept_ag (M := M) (M' := stI (stI (stI (stI (stI M 119 n x) 118 2 (nI (n + 1))) 142 0 0) 173 n x) 142 60 (nI (n + 1))) (fun a _ _ => ⟨er a (by omega) (by omega) (by omega) (by omega) (by omega), rfl⟩) (fun a _ _ => ⟨er a (by omega) (by omega) (by omega) (by omega) (by omega), rfl⟩) rfl rfl rfl h16, V_walk_ag (M := M) (M' := stI (stI (stI (stI (stI M 119 n x) 118 2 (nI (n + 1))) 142 0 0) 173 n x) 142 60 (nI (n + 1))) rfl rfl rfl rfl h17, V_hous_ag (M := M) (M' := stI (stI (stI (stI (stI M 119 n x) 118 2 (nI (n + 1))) 142 0 0) 173 n x) 142 60 (nI (n + 1))) rfl rfl rfl (fun a _ _ => er a (by omega) (by omega) (by omega) (by omega) (by omega)) (fun a _ _ => er a (by omega) (by omega) (by omega) (by omega) (by omega)) h18, V_tell_ag (M := M) (M' := stI (stI (stI (stI (stI M 119 n x) 118 2 (nI (n + 1))) 142 0 0) 173 n x) 142 60 (nI (n + 1))) rfl (fun a _ _ => er a (by omega) (by omega) (by omega) (by omega) (by omega)) h19⟩
theorem op28 (p1 : Int32) (M : Mm) (K : Mm → Prop) (hV : V M) (hK : ∀ m, V m → K m) : OP28 p1 M K := by
  have hF := hV.1
  obtain ⟨n, hn, e1, e2, ha⟩ := hV.2.2.1
  have hend : True → K (stI M 142 0 0) := fun _ => hK _ (V_thr _ hV)
  have ne1 : ¬ (1 : Int32) = 0 := by decide
  unfold OP28 f_X10_type
  have hm : (p1 < 0 ∨ (4 : Int32) < p1 ∨ n = 8) → f_X11_type S0 142 p1 M (fun r' m2 => ((-1 : Int32) = r' → K m2) ∧ (¬ (-1 : Int32) = r' → False)) := by
    intro hx
    unfold f_X11_type
    simp only [forall_eq]
    refine f_in 4 rfl (fun a b => ⟨fun z => absurd z ne1, fun _ => ⟨fun _ => ⟨hend, fun z => z trivial⟩, fun z => ?_⟩⟩) (fun _ => ⟨fun _ => ⟨hend, fun z => z trivial⟩, fun z => absurd rfl z⟩)
    refine (hx.elim a (fun h => h.elim b (fun h => z ?_))).elim
    show (stI M 142 0 0).1 142 60 = 8
    rw [show (stI M 142 0 0).1 142 60 = M.1 142 60 from rfl, e2, h]; rfl
  refine ⟨fun h => hm (Or.inl h), fun h1 => ⟨fun h => hm (Or.inr (Or.inl h)), fun h2 => ?_⟩⟩
  simp only [fx_0_7 hF, ex_some, s0_118, true_and, forall_eq, fx_118_0 hF, rIr]
  have h8 : (8 : Int32) = nI 8 := rfl
  rw [e1]
  refine ⟨fun h3 => ?_, fun h3 => hm (Or.inr (Or.inr ?_))⟩
  · rw [h8, nI_ltI (by omega) (by omega)] at h3
    have hin : vp_in (nI n) 8 := vp_in_nI h3 (by decide)
    have hcl : (nI n).toNatClampNeg = n := nI_clamp (by omega)
    have r1 : (stI M 119 n p1).1 118 2 = nI n := e1
    simp only [s0_119, ex_sh, hin, hcl, true_and, r1, nI_1]
    have r2 : (stI (stI M 119 n p1) 118 2 (nI (n + 1))).1 118 2 = nI (n + 1) := rfl
    rw [r2]
    unfold f_X11_type
    simp only [forall_eq]
    have r3 : (stI (stI (stI M 119 n p1) 118 2 (nI (n + 1))) 142 0 0).1 142 60 = nI n := e2
    refine f_in 4 rfl (fun a b => ⟨fun z => absurd z ne1, fun _ => ?_⟩) (fun z => (z.elim h1 h2).elim)
    rw [r3]
    refine ⟨fun z => ?_, fun _ => ?_⟩
    · rw [h8, nI_eq (by omega) (by omega)] at z
      omega
    · have r4 : (stI (stI (stI (stI M 119 n p1) 118 2 (nI (n + 1))) 142 0 0) 173 n p1).1 142 60 = nI n := e2
      simp only [rIr, fx_142_61 hF, ex_some, s0_173, ex_sh, hin, hcl, true_and, r4, nI_1]
      refine ⟨fun _ => hK _ (V_type h3 (isN_of (n := 4) (by decide) rfl h1 h2) ha hV), fun z => z ?_⟩
      rfl
  · rw [h8, nI_ltI (by omega) (by omega)] at h3
    omega
