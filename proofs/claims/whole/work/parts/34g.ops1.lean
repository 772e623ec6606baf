theorem stI_row {M : Mm} {a b k : Nat} {v : Int32} (h : a ≠ b) : (stI M b k v).1 a = M.1 a := by
  funext j; simp [stI, h]
theorem w64 (x : Int32) : x.toInt64.toInt = x.toInt := Int32.toInt_toInt64 x
theorem f_in {S : Ss} {M : Mm} {K : Int32 → Mm → Prop} {x : Int32} (hi : Int32) {H : Int64} (hH : hi.toInt64 = H) (h1 : ¬ x < 0 → ¬ hi < x → K 1 M) (h0 : (x < 0 ∨ hi < x) → K 0 M) : f_X11_in S x.toInt64 0 H M K := by
  subst hH
  unfold f_X11_in
  have e1 : x.toInt64 < 0 ↔ x < 0 := by rw [Int64.lt_iff_toInt_lt, Int32.lt_iff_toInt_lt, w64]; rfl
  have e2 : hi.toInt64 < x.toInt64 ↔ hi < x := by rw [Int64.lt_iff_toInt_lt, Int32.lt_iff_toInt_lt, w64, w64]
  refine ⟨fun h => h0 (Or.inl (e1.mp h)), fun h => ⟨fun h2 => h0 (Or.inr (e2.mp h2)), fun h2 => h1 (fun z => h (e1.mpr z)) (fun z => h2 (e2.mpr z))⟩⟩
theorem V_thr {M : Mm} (v : Int32) (h : V M) : V (stI M 142 0 v) := by
  obtain ⟨h1, h2, h3, h4, h5, h6, h7, h8, h9, h10, h11, h12, h13, h14, h15, h16, h17, h18, h19⟩ := h
  have er : ∀ a : Nat, a ≠ 142 → (stI M 142 0 v).1 a = M.1 a := fun a b0 => stI_row b0
  have ep : ∀ a, prc a → (stI M 142 0 v).1 a = M.1 a := fun a ha => er a (by unfold prc at ha; omega)
  exact ⟨fx_I h1, V_txt_ag (M := M) (M' := stI M 142 0 v) rfl rfl rfl rfl h2, V_typ_ag (M := M) (M' := stI M 142 0 v) rfl rfl rfl rfl h3, V_spd_ag (M := M) (M' := stI M 142 0 v) rfl rfl h4, V_key_ag (M := M) (M' := stI M 142 0 v) rfl rfl h5, V_wgt_ag (M := M) (M' := stI M 142 0 v) rfl rfl rfl rfl h6, V_told_ag (M := M) (M' := stI M 142 0 v) rfl rfl rfl rfl h7, V_last_ag (M := M) (M' := stI M 142 0 v) rfl rfl rfl rfl rfl rfl rfl h8, V_cnt_ag (M := M) (M' := stI M 142 0 v) rfl rfl rfl rfl rfl rfl rfl rfl rfl h9, V_prg_ag (M := M) (M' := stI M 142 0 v) rfl h10, V_task_ag (M := M) (M' := stI M 142 0 v) rfl ep rfl rfl rfl rfl rfl rfl rfl rfl h11, V_must_ag (M := M) (M' := stI M 142 0 v) rfl ep rfl rfl rfl h12, V_bolt_ag (M := M) (M' := stI M 142 0 v) rfl ep rfl rfl rfl h13, V_ptch_ag (M := M) (M' := stI M 142 0 v) rfl ep rfl rfl rfl rfl rfl rfl rfl rfl rfl rfl h14, V_now_ag (M := M) (M' := stI M 142 0 v) rfl rfl rfl rfl rfl rfl rfl h15, V_kept_ag (M := M) (M' := stI M 142 0 v) (fun a _ _ => ⟨er a (by omega), rfl⟩) (fun a _ _ => ⟨er a (by omega), rfl⟩) rfl rfl rfl h16, V_walk_ag (M := M) (M' := stI M 142 0 v) rfl rfl rfl rfl h17, V_hous_ag (M := M) (M' := stI M 142 0 v) rfl rfl rfl (fun a _ _ => er a (by omega)) (fun a _ _ => er a (by omega)) h18, V_tell_ag (M := M) (M' := stI M 142 0 v) rfl (fun a _ _ => er a (by omega)) h19⟩
theorem V_keys {M : Mm} {x : Int32} (hx : isN x 5) (h : V M) : V (stI (stI (stI M 11 13 x) 142 0 0) 142 27 x) := by
  obtain ⟨h1, h2, h3, h4, h5, h6, h7, h8, h9, h10, h11, h12, h13, h14, h15, h16, h17, h18, h19⟩ := h
  have er : ∀ a : Nat, a ≠ 142 → a ≠ 142 → a ≠ 11 → (stI (stI (stI M 11 13 x) 142 0 0) 142 27 x).1 a = M.1 a := fun a b0 b1 b2 => (stI_row b0).trans ((stI_row b1).trans (stI_row b2))
  have ep : ∀ a, prc a → (stI (stI (stI M 11 13 x) 142 0 0) 142 27 x).1 a = M.1 a := fun a ha => er a (by unfold prc at ha; omega) (by unfold prc at ha; omega) (by unfold prc at ha; omega)
  exact ⟨fx_I h1, V_txt_ag (M := M) (M' := stI (stI (stI M 11 13 x) 142 0 0) 142 27 x) rfl rfl rfl rfl h2, V_typ_ag (M := M) (M' := stI (stI (stI M 11 13 x) 142 0 0) 142 27 x) rfl rfl rfl rfl h3, V_spd_ag (M := M) (M' := stI (stI (stI M 11 13 x) 142 0 0) 142 27 x) rfl rfl h4, ⟨rfl, hx⟩, V_wgt_ag (M := M) (M' := stI (stI (stI M 11 13 x) 142 0 0) 142 27 x) rfl rfl rfl rfl h6, V_told_ag (M := M) (M' := stI (stI (stI M 11 13 x) 142 0 0) 142 27 x) rfl rfl rfl rfl h7, V_last_ag (M := M) (M' := stI (stI (stI M 11 13 x) 142 0 0) 142 27 x) rfl rfl rfl rfl rfl rfl rfl h8, V_cnt_ag (M := M) (M' := stI (stI (stI M 11 13 x) 142 0 0) 142 27 x) rfl rfl rfl rfl rfl rfl rfl rfl rfl h9, V_prg_ag (M := M) (M' := stI (stI (stI M 11 13 x) 142 0 0) 142 27 x) rfl h10, V_task_ag (M := M) (M' := stI (stI (stI M 11 13 x) 142 0 0) 142 27 x) rfl ep rfl rfl rfl rfl rfl rfl rfl rfl h11, V_must_ag (M := M) (M' := stI (stI (stI M 11 13 x) 142 0 0) 142 27 x) rfl ep rfl rfl rfl h12, V_bolt_ag (M := M) (M' := stI (stI (stI M 11 13 x) 142 0 0) 142 27 x) rfl ep rfl rfl rfl h13, V_ptch_ag (M := M) (M' := stI (stI (stI M 11 13 x) 142 0 0) 142 27 x) rfl ep rfl rfl rfl rfl rfl rfl rfl rfl rfl rfl h14, V_now_ag (M := M) (M' := stI (stI (stI M 11 13 x) 142 0 0) 142 27 x) rfl rfl rfl rfl rfl rfl rfl h15, V_kept_ag (M := M) (M' := stI (stI (stI M 11 13 x) 142 0 0) 142 27 x) (fun a _ _ => ⟨er a (by omega) (by omega) (by omega), rfl⟩) (fun a _ _ => ⟨er a (by omega) (by omega) (by omega), rfl⟩) rfl rfl rfl h16, V_walk_ag (M := M) (M' := stI (stI (stI M 11 13 x) 142 0 0) 142 27 x) rfl rfl rfl rfl h17, V_hous_ag (M := M) (M' := stI (stI (stI M 11 13 x) 142 0 0) 142 27 x) rfl rfl rfl (fun a _ _ => er a (by omega) (by omega) (by omega)) (fun a _ _ => er a (by omega) (by omega) (by omega)) h18, V_tell_ag (M := M) (M' := stI (stI (stI M 11 13 x) 142 0 0) 142 27 x) rfl (fun a _ _ => er a (by omega) (by omega) (by omega)) h19⟩
theorem V_wipe {M : Mm}  (h : V M) : V (stI (stI (stI M 118 2 0) 142 0 0) 142 60 0) := by
  obtain ⟨h1, h2, h3, h4, h5, h6, h7, h8, h9, h10, h11, h12, h13, h14, h15, h16, h17, h18, h19⟩ := h
  have er : ∀ a : Nat, a ≠ 142 → a ≠ 142 → a ≠ 118 → (stI (stI (stI M 118 2 0) 142 0 0) 142 60 0).1 a = M.1 a := fun a b0 b1 b2 => (stI_row b0).trans ((stI_row b1).trans (stI_row b2))
  have ep : ∀ a, prc a → (stI (stI (stI M 118 2 0) 142 0 0) 142 60 0).1 a = M.1 a := fun a ha => er a (by unfold prc at ha; omega) (by unfold prc at ha; omega) (by unfold prc at ha; omega)
  exact ⟨fx_I h1, V_txt_ag (M := M) (M' := stI (stI (stI M 118 2 0) 142 0 0) 142 60 0) rfl rfl rfl rfl h2, ⟨0, by omega, rfl, rfl, fun j hj => absurd hj (by omega)⟩, V_spd_ag (M := M) (M' := stI (stI (stI M 118 2 0) 142 0 0) 142 60 0) rfl rfl h4, V_key_ag (M := M) (M' := stI (stI (stI M 118 2 0) 142 0 0) 142 60 0) rfl rfl h5, V_wgt_ag (M := M) (M' := stI (stI (stI M 118 2 0) 142 0 0) 142 60 0) rfl rfl rfl rfl h6, V_told_ag (M := M) (M' := stI (stI (stI M 118 2 0) 142 0 0) 142 60 0) rfl rfl rfl rfl h7, V_last_ag (M := M) (M' := stI (stI (stI M 118 2 0) 142 0 0) 142 60 0) rfl rfl rfl rfl rfl rfl rfl h8, V_cnt_ag (M := M) (M' := stI (stI (stI M 118 2 0) 142 0 0) 142 60 0) rfl rfl rfl rfl rfl rfl rfl rfl rfl h9, V_prg_ag (M := M) (M' := stI (stI (stI M 118 2 0) 142 0 0) 142 60 0) rfl h10, V_task_ag (M := M) (M' := stI (stI (stI M 118 2 0) 142 0 0) 142 60 0) rfl ep rfl rfl rfl rfl rfl rfl rfl rfl h11, V_must_ag (M := M) (M' := stI (stI (stI M 118 2 0) 142 0 0) 142 60 0) rfl ep rfl rfl rfl h12, V_bolt_ag (M := M) (M' := stI (stI (stI M 118 2 0) 142 0 0) 142 60 0) rfl ep rfl rfl rfl h13, V_ptch_ag (M := M) (M' := stI (stI (stI M 118 2 0) 142 0 0) 142 60 0) rfl ep rfl rfl rfl rfl rfl rfl rfl rfl rfl rfl h14, V_now_ag (M := M) (M' := stI (stI (stI M 118 2 0) 142 0 0) 142 60 0) rfl rfl rfl rfl rfl rfl rfl h15, V_kept_ag (M := M) (M' := stI (stI (stI M 118 2 0) 142 0 0) 142 60 0) (fun a _ _ => ⟨er a (by omega) (by omega) (by omega), rfl⟩) (fun a _ _ => ⟨er a (by omega) (by omega) (by omega), rfl⟩) rfl rfl rfl h16, V_walk_ag (M := M) (M' := stI (stI (stI M 118 2 0) 142 0 0) 142 60 0) rfl rfl rfl rfl h17, V_hous_ag (M := M) (M' := stI (stI (stI M 118 2 0) 142 0 0) 142 60 0) rfl rfl rfl (fun a _ _ => er a (by omega) (by omega) (by omega)) (fun a _ _ => er a (by omega) (by omega) (by omega)) h18, V_tell_ag (M := M) (M' := stI (stI (stI M 118 2 0) 142 0 0) 142 60 0) rfl (fun a _ _ => er a (by omega) (by omega) (by omega)) h19⟩
theorem isN_of {x hi : Int32} {n : Nat} (hn : n < 2 ^ 31) (hhi : hi = nI n) (h0 : ¬ x < 0) (h1 : ¬ hi < x) : isN x (n + 1) := by
  obtain ⟨j, hj, rfl⟩ := nI_of h0
  refine ⟨j, ?_, rfl⟩
  rw [hhi, nI_ltI hn hj] at h1
  omega
theorem op8 (p1 : Int32) (M : Mm) (K : Mm → Prop) (hV : V M) (hK : ∀ m, V m → K m) : OP8 p1 M K := by
  have hF := hV.1
  have hk : M.1 11 13 = M.1 142 27 := hV.2.2.2.2.1.1
  unfold OP8 f_X10_keys
  have hm : ∀ (r : Int32) (m1 : Mm), V m1 → (p1 < 0 ∨ (4 : Int32) < p1) → r = -1 → f_X11_keys S0 142 p1 m1 (fun r' m2 => (r = r' → K m2) ∧ (¬ r = r' → False)) := by
    intro r m1 hv hx hr
    unfold f_X11_keys
    simp only [forall_eq]
    refine f_in 4 rfl (fun a b => (hx.elim a b).elim) (fun _ => ?_)
    simp only [true_implies, not_true_eq_false, false_implies, and_true, hr]
    exact hK _ (V_thr _ hv)
  refine ⟨fun h => hm _ _ hV (Or.inl h) rfl, fun h => ⟨fun h2 => ?_, fun h2 => hm _ _ hV (Or.inr (Int32.not_le.mp h2)) rfl⟩⟩
  simp only [fx_0_2 hF, ex_some, s0_11, true_and, forall_eq]
  unfold f_X11_keys
  simp only [forall_eq]
  refine f_in 4 rfl (fun a b => ?_) (fun hx => (hx.elim h (fun z => absurd h2 (Int32.not_le.mpr z))).elim)
  refine ⟨fun z => absurd z (by decide), fun _ => ⟨fun _ => ?_, fun z => z ?_⟩⟩
  · exact hK _ (V_keys (isN_of (n := 4) (by decide) rfl h (Int32.not_lt.mpr h2)) hV)
  · simp only [rI]
    exact hk
theorem op29 (M : Mm) (K : Mm → Prop) (hV : V M) (hK : ∀ m, V m → K m) : OP29 M K := by
  have hF := hV.1
  obtain ⟨n, hn, e1, e2, -⟩ := hV.2.2.1
  unfold OP29 f_X10_wipe f_X11_wipe
  simp only [fx_0_7 hF, ex_some, s0_118, true_and, forall_eq]
  refine ⟨fun _ => hK _ (V_wipe hV), fun z => z ?_⟩
  exact e1.trans e2.symm
