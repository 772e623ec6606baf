theorem V_spd_st {M : Mm} {k : Nat} {v : Int32} (hv : isN v 16) (h : V_spd M) : V_spd (stI (stI (stI M 18 k v) 142 0 0) 157 k v) := by
  intro j hj
  have h := h j hj
  by_cases hk : j = k
  · subst hk
    exact ⟨by simp [rI], by simp only [rI]; simp; exact hv⟩
  · simp only [rI]
    simp only [hk, and_false, if_false]
    simp only [Nat.reduceEqDiff, false_and, if_false]
    exact h
theorem V_drop {M : Mm}  (h : V M) : V (stI (stI (stI M 11 12 0) 142 0 0) 142 34 0) := by
  obtain ⟨h1, h2, h3, h4, h5, h6, h7, h8, h9, h10, h11, h12, h13, h14, h15, h16, h17, h18, h19⟩ := h
  have er : ∀ a : Nat, a ≠ 142 → a ≠ 142 → a ≠ 11 → (stI (stI (stI M 11 12 0) 142 0 0) 142 34 0).1 a = M.1 a := fun a b0 b1 b2 => (stI_row b0).trans ((stI_row b1).trans (stI_row b2))
  have ep : ∀ a, prc a → (stI (stI (stI M 11 12 0) 142 0 0) 142 34 0).1 a = M.1 a := fun a ha => er a (by unfold prc at ha; omega) (by unfold prc at ha; omega) (by unfold prc at ha; omega)
  exact ⟨fx_I h1, V_txt_ag (M := M) (M' := stI (stI (stI M 11 12 0) 142 0 0) 142 34 0) rfl rfl rfl rfl h2, V_typ_ag (M := M) (M' := stI (stI (stI M 11 12 0) 142 0 0) 142 34 0) rfl rfl rfl rfl h3, V_spd_ag (M := M) (M' := stI (stI (stI M 11 12 0) 142 0 0) 142 34 0) rfl rfl h4, V_key_ag (M := M) (M' := stI (stI (stI M 11 12 0) 142 0 0) 142 34 0) rfl rfl h5, V_wgt_ag (M := M) (M' := stI (stI (stI M 11 12 0) 142 0 0) 142 34 0) rfl rfl rfl rfl h6, V_told_ag (M := M) (M' := stI (stI (stI M 11 12 0) 142 0 0) 142 34 0) rfl rfl rfl rfl h7, V_last_ag (M := M) (M' := stI (stI (stI M 11 12 0) 142 0 0) 142 34 0) rfl rfl rfl rfl rfl rfl rfl h8, (by obtain ⟨nt, nb, on, np, a1, a2, a3, a4, f1, f2, f3, f4, f5, f6, f7, f8, f9⟩ := h9; exact ⟨nt, nb, on, 0, a1, a2, a3, by omega, f1, f2, f3, f4, f5, f6, rfl, rfl, f9⟩), V_prg_ag (M := M) (M' := stI (stI (stI M 11 12 0) 142 0 0) 142 34 0) rfl h10, V_task_ag (M := M) (M' := stI (stI (stI M 11 12 0) 142 0 0) 142 34 0) rfl ep rfl rfl rfl rfl rfl rfl rfl rfl h11, V_must_ag (M := M) (M' := stI (stI (stI M 11 12 0) 142 0 0) 142 34 0) rfl ep rfl rfl rfl h12, V_bolt_ag (M := M) (M' := stI (stI (stI M 11 12 0) 142 0 0) 142 34 0) rfl ep rfl rfl rfl h13, (fun j _ hl => absurd (show nI j < nI 0 from hl) (nI_nlt (by omega) (by omega))), V_now_ag (M := M) (M' := stI (stI (stI M 11 12 0) 142 0 0) 142 34 0) rfl rfl rfl rfl rfl rfl rfl h15, V_kept_ag (M := M) (M' := stI (stI (stI M 11 12 0) 142 0 0) 142 34 0) (fun a _ _ => ⟨er a (by omega) (by omega) (by omega), rfl⟩) (fun a _ _ => ⟨er a (by omega) (by omega) (by omega), rfl⟩) rfl rfl rfl h16, V_walk_ag (M := M) (M' := stI (stI (stI M 11 12 0) 142 0 0) 142 34 0) rfl rfl rfl rfl h17, V_hous_ag (M := M) (M' := stI (stI (stI M 11 12 0) 142 0 0) 142 34 0) rfl rfl rfl (fun a _ _ => er a (by omega) (by omega) (by omega)) (fun a _ _ => er a (by omega) (by omega) (by omega)) h18, V_tell_ag (M := M) (M' := stI (stI (stI M 11 12 0) 142 0 0) 142 34 0) rfl (fun a _ _ => er a (by omega) (by omega) (by omega)) h19⟩
theorem V_speed {M : Mm} {k : Nat} {v : Int32} (hv : isN v 16) (h : V M) : V (stI (stI (stI M 18 k v) 142 0 0) 157 k v) := by
  obtain ⟨h1, h2, h3, h4, h5, h6, h7, h8, h9, h10, h11, h12, h13, h14, h15, h16, h17, h18, h19⟩ := h
  have er : ∀ a : Nat, a ≠ 157 → a ≠ 142 → a ≠ 18 → (stI (stI (stI M 18 k v) 142 0 0) 157 k v).1 a = M.1 a := fun a b0 b1 b2 => (stI_row b0).trans ((stI_row b1).trans (stI_row b2))
  have ep : ∀ a, prc a → (stI (stI (stI M 18 k v) 142 0 0) 157 k v).1 a = M.1 a := fun a ha => er a (by unfold prc at ha; omega) (by unfold prc at ha; omega) (by unfold prc at ha; omega)
  exact ⟨fx_I h1, V_txt_ag (M := M) (M' := stI (stI (stI M 18 k v) 142 0 0) 157 k v) rfl rfl rfl rfl h2, V_typ_ag (M := M) (M' := stI (stI (stI M 18 k v) 142 0 0) 157 k v) rfl rfl rfl rfl h3, V_spd_st hv h4, V_key_ag (M := M) (M' := stI (stI (stI M 18 k v) 142 0 0) 157 k v) rfl rfl h5, V_wgt_ag (M := M) (M' := stI (stI (stI M 18 k v) 142 0 0) 157 k v) rfl rfl rfl rfl h6, V_told_ag (M := M) (M' := stI (stI (stI M 18 k v) 142 0 0) 157 k v) rfl rfl rfl rfl h7, V_last_ag (M := M) (M' := stI (stI (stI M 18 k v) 142 0 0) 157 k v) rfl rfl rfl rfl rfl rfl rfl h8, V_cnt_ag (M := M) (M' := stI (stI (stI M 18 k v) 142 0 0) 157 k v) rfl rfl rfl rfl rfl rfl rfl rfl rfl h9, V_prg_ag (M := M) (M' := stI (stI (stI M 18 k v) 142 0 0) 157 k v) rfl h10, V_task_ag (M := M) (M' := stI (stI (stI M 18 k v) 142 0 0) 157 k v) rfl ep rfl rfl rfl rfl rfl rfl rfl rfl h11, V_must_ag (M := M) (M' := stI (stI (stI M 18 k v) 142 0 0) 157 k v) rfl ep rfl rfl rfl h12, V_bolt_ag (M := M) (M' := stI (stI (stI M 18 k v) 142 0 0) 157 k v) rfl ep rfl rfl rfl h13, V_ptch_ag (M := M) (M' := stI (stI (stI M 18 k v) 142 0 0) 157 k v) rfl ep rfl rfl rfl rfl rfl rfl rfl rfl rfl rfl h14, V_now_ag (M := M) (M' := stI (stI (stI M 18 k v) 142 0 0) 157 k v) rfl rfl rfl rfl rfl rfl rfl h15, V_kept_ag (M := M) (M' := stI (stI (stI M 18 k v) 142 0 0) 157 k v) (fun a _ _ => ⟨er a (by omega) (by omega) (by omega), rfl⟩) (fun a _ _ => ⟨er a (by omega) (by omega) (by omega), rfl⟩) rfl rfl rfl h16, V_walk_ag (M := M) (M' := stI (stI (stI M 18 k v) 142 0 0) 157 k v) rfl rfl rfl rfl h17, V_hous_ag (M := M) (M' := stI (stI (stI M 18 k v) 142 0 0) 157 k v) rfl rfl rfl (fun a _ _ => er a (by omega) (by omega) (by omega)) (fun a _ _ => er a (by omega) (by omega) (by omega)) h18, V_tell_ag (M := M) (M' := stI (stI (stI M 18 k v) 142 0 0) 157 k v) rfl (fun a _ _ => er a (by omega) (by omega) (by omega)) h19⟩
theorem op27 (M : Mm) (K : Mm → Prop) (hV : V M) (hK : ∀ m, V m → K m) : OP27 M K := by
  have hF := hV.1
  obtain ⟨nt, nb, on, np, a1, a2, a3, a4, f1, f2, f3, f4, f5, f6, f7, f8, f9⟩ := hV.2.2.2.2.2.2.2.2.1
  unfold OP27 f_X10_drop f_X11_drop
  simp only [fx_0_2 hF, ex_some, s0_11, true_and, forall_eq]
  refine ⟨fun _ => hK _ (V_drop hV), fun z => z ?_⟩
  exact f7.trans f8.symm
theorem shp_ne {S : Ss} {a : Nat} (h : a ≠ 100000) : shp S a = S[a]? := by unfold shp; rw [if_neg h]
theorem op7 (p1 p2 : Int32) (M : Mm) (K : Mm → Prop) (hV : V M) (hK : ∀ m, V m → K m) : OP7 p1 p2 M K := by
  have hF := hV.1
  have hS := hV.2.2.2.1
  unfold OP7 f_X10_speed
  have hm : (p1 < 0 ∨ (3 : Int32) < p1 ∨ p2 < 0 ∨ (15 : Int32) < p2) → f_X11_speed S0 142 p1 p2 M (fun r' m2 => ((-1 : Int32) = r' → K m2) ∧ (¬ (-1 : Int32) = r' → False)) := by
    intro hx
    unfold f_X11_speed
    simp only [forall_eq]
    have hend : True → K (stI M 142 0 0) := fun _ => hK _ (V_thr _ hV)
    refine f_in 3 rfl (fun a b => ⟨fun z => absurd z (by decide), fun _ => ?_⟩) (fun _ => ⟨fun _ => ⟨hend, fun z => z trivial⟩, fun z => absurd rfl z⟩)
    refine f_in 15 rfl (fun c d => ?_) (fun _ => ⟨fun _ => ⟨hend, fun z => z trivial⟩, fun z => absurd rfl z⟩)
    exact (hx.elim a (fun h => h.elim b (fun h => h.elim c d))).elim
  have h34 : (4 : Int32) ≤ p1 → (3 : Int32) < p1 := fun h => by
    rw [Int32.le_iff_toInt_le] at h; rw [Int32.lt_iff_toInt_lt]
    have e4 : (4 : Int32).toInt = 4 := by decide
    have e3 : (3 : Int32).toInt = 3 := by decide
    omega
  have h43 : ¬ (4 : Int32) ≤ p1 → ¬ (3 : Int32) < p1 := fun h => by
    rw [Int32.le_iff_toInt_le] at h; rw [Int32.lt_iff_toInt_lt]
    have e4 : (4 : Int32).toInt = 4 := by decide
    have e3 : (3 : Int32).toInt = 3 := by decide
    omega
  refine ⟨fun h => hm (Or.inl h), fun h1 => ⟨fun h => hm (Or.inr (Or.inl (h34 h))), fun h2 => ⟨fun h => hm (Or.inr (Or.inr (Or.inl h))), fun h3 => ⟨fun h4 => ?_, fun h => hm (Or.inr (Or.inr (Or.inr (Int32.not_le.mp h))))⟩⟩⟩⟩
  obtain ⟨k, hk, rfl⟩ := isN_of (n := 3) (by decide) rfl h1 (h43 h2)
  have hin : vp_in (nI k) 4 := vp_in_nI hk (by decide)
  have hcl : (nI k).toNatClampNeg = k := nI_clamp (by omega)
  simp only [fx_0_2 hF, fx_11_6 hF, ex_some, s0_11, s0_18, shp_ne (show (18 : Nat) ≠ 100000 by decide), ex_sh, true_and, forall_eq, hin, hcl]
  unfold f_X11_speed
  simp only [forall_eq]
  refine f_in 3 rfl (fun a b => ⟨fun z => absurd z (by decide), fun _ => ?_⟩) (fun z => (z.elim h1 (h43 h2)).elim)
  refine f_in 15 rfl (fun c d => ⟨fun z => absurd z (by decide), fun _ => ?_⟩) (fun z => (z.elim h3 (fun z => absurd h4 (Int32.not_le.mpr z))).elim)
  simp only [rIr, fx_142_26 hF, ex_some, s0_157, shp_ne (show (157 : Nat) ≠ 100000 by decide), ex_sh, true_and, forall_eq, hin, hcl]
  refine ⟨fun _ => hK _ (V_speed (isN_of (n := 15) (by decide) rfl h3 (Int32.not_lt.mpr h4)) hV), fun z => z ?_⟩
  simp [rI]
  exact (hS k hk).1
