theorem stJ_row {M : Mm} {a b k : Nat} {v : Int64} (h : a ≠ b) : (stJ M b k v).2.1 a = M.2.1 a := by
  funext j; simp [stJ, h]
/-- the law's own array is no part of the invariant -/
theorem V_out {M : Mm} {k : Nat} {v : Int64} (h : V M) : V (stJ M 191 k v) := by
  obtain ⟨h1, h2, h3, h4, h5, h6, h7, h8, h9, h10, h11, h12, h13, h14, h15, h16, h17, h18, h19⟩ := h
  exact ⟨fx_J h1, h2, h3, h4, h5, h6, V_told_ag (M := M) (M' := stJ M 191 k v) rfl rfl rfl rfl h7, h8, h9, h10, h11, h12, h13, h14, V_now_ag (M := M) (M' := stJ M 191 k v) rfl rfl rfl rfl rfl rfl rfl h15, V_kept_ag (M := M) (M' := stJ M 191 k v) (fun a _ _ => ⟨rfl, stJ_row (by omega)⟩) (fun a _ _ => ⟨rfl, stJ_row (by omega)⟩) rfl rfl rfl h16, h17, h18, h19⟩
theorem op41 (p1 : Int32) (M : Mm) (K : Mm → Prop) (hV : V M) (hK : ∀ m, V m → K m) : OP41 p1 M K := by
  have hF := hV.1
  obtain ⟨n, hn, e1, e2, ha⟩ := hV.2.2.2.2.2.2.1
  have ne1 : ¬ (1 : Int32) = 0 := by decide
  have hsub : ∀ x : Int32, ¬ x < 0 → ((nI n - 1 < x) ↔ ¬ x < nI n) := by
    intro x hx
    obtain ⟨k, hk, rfl⟩ := nI_of hx
    rw [nI_ltI hk (by omega)]
    rw [show (1 : Int32) = nI 1 from rfl, Int32.lt_iff_toInt_lt, pk_sub_toInt (by omega) (by omega), nI_toInt hk]
    omega
  unfold OP41 f_L_row f_X10_row f_X11_thrown
  have hx : (p1 < 0 ∨ (¬ p1 < 0 ∧ ¬ p1 < nI n)) → f_X11_row S0 142 p1 M (fun (r' : Int64) (m2 : Mm) => ((m2.1 142 0 = (1 : Int32) → (((1 : Int32) = 0 → ∃ n : Nat, S0[191]? = some (53, n) ∧ vp_in (0 : Int32) n ∧ (((m2.2.1 191 (0 : Int32).toNatClampNeg) = r' → K m2) ∧ (¬ (m2.2.1 191 (0 : Int32).toNatClampNeg) = r' → False))) ∧ (¬ (1 : Int32) = 0 → K m2))) ∧ (¬ m2.1 142 0 = (1 : Int32) → False))) := by
    intro hx
    unfold f_X11_row
    simp only [forall_eq]
    rw [show (stI M 142 0 0).1 142 1 = nI n from e2]
    refine f_in (nI n - 1) rfl (fun a b => (hx.elim a (fun h => b ((hsub p1 h.1).mpr h.2))).elim) (fun _ => ⟨fun _ => ⟨fun _ => ⟨fun z => absurd z ne1, fun _ => hK _ (V_thr _ (V_thr _ hV))⟩, fun z => z rfl⟩, fun z => absurd rfl z⟩)
  refine ⟨fun h => hx (Or.inl h), fun h1 => ?_⟩
  simp only [s0_191, ex_some, ex_sh] at hx
  simp only [fx_0_6 hF, fx_116_0 hF, ex_some, s0_116, s0_117, s0_191, ex_sh, true_and, forall_eq]
  rw [e1]
  refine ⟨fun h2 => ?_, fun h2 => hx (Or.inr ⟨h1, h2⟩)⟩
  obtain ⟨k, hk, rfl⟩ := nI_of h1
  have h3 := h2
  rw [nI_ltI hk (by omega)] at h3
  have hin : vp_in (nI k) 20 := vp_in_nI (by omega) (by decide)
  have hin6 : vp_in (nI k) 64 := vp_in_nI (by omega) (by decide)
  have hin0 : vp_in (0 : Int32) 1 := by unfold vp_in; decide
  have hcl : (nI k).toNatClampNeg = k := nI_clamp hk
  refine ⟨hin, hin0, ?_⟩
  rw [hcl]
  unfold f_X11_row
  simp only [forall_eq]
  rw [show (stI (stJ M 191 (0 : Int32).toNatClampNeg (M.2.1 117 k)) 142 0 0).1 142 1 = nI n from e2]
  refine f_in (nI n - 1) rfl (fun a b => ⟨fun z => absurd z ne1, fun _ => ?_⟩) (fun z => (z.elim h1 (fun z => (hsub _ h1).mp z h2)).elim)
  simp only [rIr, rJr, fx_142_2 hF, ex_some, s0_143, ex_sh, true_and, hin6, hcl]
  refine ⟨fun _ => ⟨fun _ => ⟨hin0, fun _ => hK _ (V_thr _ (V_out hV)), fun z => z ?_⟩, fun z => absurd trivial z⟩, fun z => z rfl⟩
  show M.2.1 117 k = M.2.1 143 k
  exact ha k h3
