theorem V_end {M : Mm} {k : Nat} (hv : V_txt (stI (stI (stI M 1 1 (nI k)) 142 0 0) 142 4 (nI k))) (h : V M) : V (stI (stI (stI M 1 1 (nI k)) 142 0 0) 142 4 (nI k)) := by
  obtain ⟨h1, h2, h3, h4, h5, h6, h7, h8, h9, h10, h11, h12, h13, h14, h15, h16, h17, h18, h19⟩ := h
  have er : ∀ a : Nat, a ≠ 142 → a ≠ 142 → a ≠ 1 → (stI (stI (stI M 1 1 (nI k)) 142 0 0) 142 4 (nI k)).1 a = M.1 a := fun a b0 b1 b2 => (stI_row b0).trans ((stI_row b1).trans (stI_row b2))
  have ep : ∀ a, prc a → (stI (stI (stI M 1 1 (nI k)) 142 0 0) 142 4 (nI k)).1 a = M.1 a := fun a ha => er a (by unfold prc at ha; omega) (by unfold prc at ha; omega) (by unfold prc at ha; omega)
  exact ⟨fx_I h1, hv, V_typ_ag (M := M) (M' := stI (stI (stI M 1 1 (nI k)) 142 0 0) 142 4 (nI k)) rfl rfl rfl rfl h3, V_spd_ag (M := M) (M' := stI (stI (stI M 1 1 (nI k)) 142 0 0) 142 4 (nI k)) rfl rfl h4, V_key_ag (M := M) (M' := stI (stI (stI M 1 1 (nI k)) 142 0 0) 142 4 (nI k)) rfl rfl h5, V_wgt_ag (M := M) (M' := stI (stI (stI M 1 1 (nI k)) 142 0 0) 142 4 (nI k)) rfl rfl rfl rfl h6, V_told_ag (M := M) (M' := stI (stI (stI M 1 1 (nI k)) 142 0 0) 142 4 (nI k)) rfl rfl rfl rfl h7, V_last_ag (M := M) (M' := stI (stI (stI M 1 1 (nI k)) 142 0 0) 142 4 (nI k)) rfl rfl rfl rfl rfl rfl rfl h8, V_cnt_ag (M := M) (M' := stI (stI (stI M 1 1 (nI k)) 142 0 0) 142 4 (nI k)) rfl rfl rfl rfl rfl rfl rfl rfl rfl h9, V_prg_ag (M := M) (M' := stI (stI (stI M 1 1 (nI k)) 142 0 0) 142 4 (nI k)) rfl h10, V_task_ag (M := M) (M' := stI (stI (stI M 1 1 (nI k)) 142 0 0) 142 4 (nI k)) rfl ep rfl rfl rfl rfl rfl rfl rfl rfl h11, V_must_ag (M := M) (M' := stI (stI (stI M 1 1 (nI k)) 142 0 0) 142 4 (nI k)) rfl ep rfl rfl rfl h12, V_bolt_ag (M := M) (M' := stI (stI (stI M 1 1 (nI k)) 142 0 0) 142 4 (nI k)) rfl ep rfl rfl rfl h13, V_ptch_ag (M := M) (M' := stI (stI (stI M 1 1 (nI k)) 142 0 0) 142 4 (nI k)) rfl ep rfl rfl rfl rfl rfl rfl rfl rfl rfl rfl h14, V_now_ag (M := M) (M' := stI (stI (stI M 1 1 (nI k)) 142 0 0) 142 4 (nI k)) rfl rfl rfl rfl rfl rfl rfl h15, V_kept_ag (M := M) (M' := stI (stI (stI M 1 1 (nI k)) 142 0 0) 142 4 (nI k)) (fun a _ _ => ⟨er a (by omega) (by omega) (by omega), rfl⟩) (fun a _ _ => ⟨er a (by omega) (by omega) (by omega), rfl⟩) rfl rfl rfl h16, V_walk_ag (M := M) (M' := stI (stI (stI M 1 1 (nI k)) 142 0 0) 142 4 (nI k)) rfl rfl rfl rfl h17, V_hous_ag (M := M) (M' := stI (stI (stI M 1 1 (nI k)) 142 0 0) 142 4 (nI k)) rfl rfl rfl (fun a _ _ => er a (by omega) (by omega) (by omega)) (fun a _ _ => er a (by omega) (by omega) (by omega)) h18, V_tell_ag (M := M) (M' := stI (stI (stI M 1 1 (nI k)) 142 0 0) 142 4 (nI k)) rfl (fun a _ _ => er a (by omega) (by omega) (by omega)) h19⟩
theorem op1 (p1 : Int32) (M : Mm) (K : Mm → Prop) (hV : V M) (hK : ∀ m, V m → K m) : OP1 p1 M K := by
  have hF := hV.1
  obtain ⟨n, hn, e1, e2, ha⟩ := hV.2.1
  have hend : True → K (stI M 142 0 0) := fun _ => hK _ (V_thr _ hV)
  have ne1 : ¬ (1 : Int32) = 0 := by decide
  have r0 : (stI M 142 0 0).1 142 4 = nI n := e2
  unfold OP1 f_X10_end
  have hm : (p1 < 0 ∨ nI n < p1) → f_X11_end S0 142 p1 M (fun r' m2 => ((0 : Int32) = r' → K m2) ∧ (¬ (0 : Int32) = r' → False)) := by
    intro hx
    unfold f_X11_end
    simp only [forall_eq]
    rw [r0]
    exact f_in (nI n) rfl (fun a b => (hx.elim a b).elim) (fun _ => ⟨fun _ => ⟨hend, fun z => z trivial⟩, fun z => absurd rfl z⟩)
  refine ⟨fun h => hm (Or.inl h), fun h1 => ?_⟩
  simp only [fx_0_0 hF, ex_some, s0_1, true_and, forall_eq]
  rw [e1]
  refine ⟨fun h2 => ?_, fun h2 => hm (Or.inr (Int32.not_le.mp h2))⟩
  obtain ⟨k, hk, rfl⟩ := nI_of h1
  rw [nI_leI hk (by omega)] at h2
  unfold f_X11_end
  simp only [forall_eq]
  have r1 : (stI (stI M 1 1 (nI k)) 142 0 0).1 142 4 = nI n := e2
  rw [r1]
  refine f_in (nI n) rfl (fun a b => ⟨fun z => absurd z ne1, fun _ => ⟨fun _ => hK _ (V_end ?_ hV), fun z => z trivial⟩⟩) (fun z => (z.elim h1 (fun z => ?_)).elim)
  · exact ⟨k, by omega, rfl, rfl, fun j hj => ha j (by omega)⟩
  · rw [nI_ltI (by omega) hk] at z
    omega
