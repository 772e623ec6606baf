theorem bits_off : ∀ nb, nb < 4 → ∀ on, on < 2 ^ nb → ∀ b, b < nb → (nI on &&& (((1 : Int32) <<< (nI b &&& 31)) ^^^ (-1 : Int32))).toNatClampNeg < 2 ^ nb ∧ (nI on &&& (((1 : Int32) <<< (nI b &&& 31)) ^^^ (-1 : Int32))) = nI (nI on &&& (((1 : Int32) <<< (nI b &&& 31)) ^^^ (-1 : Int32))).toNatClampNeg := by decide +kernel
theorem bits_on : ∀ nb, nb < 4 → ∀ on, on < 2 ^ nb → ∀ b, b < nb → (nI on ||| ((1 : Int32) <<< (nI b &&& 31))).toNatClampNeg < 2 ^ nb ∧ (nI on ||| ((1 : Int32) <<< (nI b &&& 31))) = nI (nI on ||| ((1 : Int32) <<< (nI b &&& 31))).toNatClampNeg := by decide +kernel
theorem V_turn {M : Mm} {v : Int32} (hv : V_cnt (stI (stI (stI M 11 14 v) 142 0 0) 142 21 v)) (h : V M) : V (stI (stI (stI M 11 14 v) 142 0 0) 142 21 v) := by
  obtain ⟨h1, h2, h3, h4, h5, h6, h7, h8, h9, h10, h11, h12, h13, h14, h15, h16, h17, h18, h19⟩ := h
  have er : ∀ a : Nat, a ≠ 142 → a ≠ 142 → a ≠ 11 → (stI (stI (stI M 11 14 v) 142 0 0) 142 21 v).1 a = M.1 a := fun a b0 b1 b2 => (stI_row b0).trans ((stI_row b1).trans (stI_row b2))
  have ep : ∀ a, prc a → (stI (stI (stI M 11 14 v) 142 0 0) 142 21 v).1 a = M.1 a := fun a ha => er a (by unfold prc at ha; omega) (by unfold prc at ha; omega) (by unfold prc at ha; omega)
  exact ⟨fx_I h1, V_txt_ag (M := M) (M' := stI (stI (stI M 11 14 v) 142 0 0) 142 21 v) rfl rfl rfl rfl h2, V_typ_ag (M := M) (M' := stI (stI (stI M 11 14 v) 142 0 0) 142 21 v) rfl rfl rfl rfl h3, V_spd_ag (M := M) (M' := stI (stI (stI M 11 14 v) 142 0 0) 142 21 v) rfl rfl h4, V_key_ag (M := M) (M' := stI (stI (stI M 11 14 v) 142 0 0) 142 21 v) rfl rfl h5, V_wgt_ag (M := M) (M' := stI (stI (stI M 11 14 v) 142 0 0) 142 21 v) rfl rfl rfl rfl h6, V_told_ag (M := M) (M' := stI (stI (stI M 11 14 v) 142 0 0) 142 21 v) rfl rfl rfl rfl h7, V_last_ag (M := M) (M' := stI (stI (stI M 11 14 v) 142 0 0) 142 21 v) rfl rfl rfl rfl rfl rfl rfl h8, hv, V_prg_ag (M := M) (M' := stI (stI (stI M 11 14 v) 142 0 0) 142 21 v) rfl h10, V_task_ag (M := M) (M' := stI (stI (stI M 11 14 v) 142 0 0) 142 21 v) rfl ep rfl rfl rfl rfl rfl rfl rfl rfl h11, V_must_ag (M := M) (M' := stI (stI (stI M 11 14 v) 142 0 0) 142 21 v) rfl ep rfl rfl rfl h12, V_bolt_ag (M := M) (M' := stI (stI (stI M 11 14 v) 142 0 0) 142 21 v) rfl ep rfl rfl rfl h13, V_ptch_ag (M := M) (M' := stI (stI (stI M 11 14 v) 142 0 0) 142 21 v) rfl ep rfl rfl rfl rfl rfl rfl rfl rfl rfl rfl h14, V_now_ag (M := M) (M' := stI (stI (stI M 11 14 v) 142 0 0) 142 21 v) rfl rfl rfl rfl rfl rfl rfl h15, V_kept_ag (M := M) (M' := stI (stI (stI M 11 14 v) 142 0 0) 142 21 v) (fun a _ _ => ⟨er a (by omega) (by omega) (by omega), rfl⟩) (fun a _ _ => ⟨er a (by omega) (by omega) (by omega), rfl⟩) rfl rfl rfl h16, V_walk_ag (M := M) (M' := stI (stI (stI M 11 14 v) 142 0 0) 142 21 v) rfl rfl rfl rfl h17, V_hous_ag (M := M) (M' := stI (stI (stI M 11 14 v) 142 0 0) 142 21 v) rfl rfl rfl (fun a _ _ => er a (by omega) (by omega) (by omega)) (fun a _ _ => er a (by omega) (by omega) (by omega)) h18, V_tell_ag (M := M) (M' := stI (stI (stI M 11 14 v) 142 0 0) 142 21 v) rfl (fun a _ _ => er a (by omega) (by omega) (by omega)) h19⟩
theorem op5 (p1 p2 : Int32) (M : Mm) (K : Mm → Prop) (_ : p2 = 0 ∨ p2 = 1) (hV : V M) (hK : ∀ m, V m → K m) : OP5 p1 p2 M K := by
  have hF := hV.1
  obtain ⟨nt, nb, on, np, a1, a2, a3, a4, c1, c2, c3, c4, c5, c6, c7, c8, c9⟩ := hV.2.2.2.2.2.2.2.2.1
  have hend : True → K (stI M 142 0 0) := fun _ => hK _ (V_thr _ hV)
  have ne1 : ¬ (1 : Int32) = 0 := by decide
  have r0 : (stI M 142 0 0).1 142 20 = nI nb := c4
  have hsub : ∀ x : Int32, ¬ x < 0 → ((nI nb - 1 < x) ↔ ¬ x < nI nb) := by
    intro x hx
    obtain ⟨k, hk, rfl⟩ := nI_of hx
    rw [nI_ltI hk (by omega)]
    rw [show (1 : Int32) = nI 1 from rfl, Int32.lt_iff_toInt_lt, pk_sub_toInt (by omega) (by omega), nI_toInt hk]
    omega
  unfold OP5 f_X10_turn
  have hm : (p1 < 0 ∨ (¬ p1 < 0 ∧ ¬ p1 < nI nb)) → f_X11_turn S0 142 p1 p2 M (fun r' m2 => ((0 : Int32) = r' → K m2) ∧ (¬ (0 : Int32) = r' → False)) := by
    intro hx
    unfold f_X11_turn
    simp only [forall_eq]
    rw [r0]
    exact f_in (nI nb - 1) rfl (fun a b => (hx.elim a (fun h => b ((hsub p1 h.1).mpr h.2))).elim) (fun _ => ⟨fun _ => ⟨hend, fun z => z trivial⟩, fun z => absurd rfl z⟩)
  refine ⟨fun h => hm (Or.inl h), fun h1 => ?_⟩
  simp only [fx_0_2 hF, ex_some, s0_11, true_and, forall_eq]
  rw [c3]
  refine ⟨fun h2 => ?_, fun h2 => hm (Or.inr ⟨h1, h2⟩)⟩
  have hfin : ∀ v : Int32, v.toNatClampNeg < 2 ^ nb → v = nI v.toNatClampNeg → K (stI (stI (stI M 11 14 v) 142 0 0) 142 21 v) := by
    intro v hv1 hv2
    refine hK _ (V_turn ?_ hV)
    exact ⟨nt, nb, v.toNatClampNeg, np, a1, a2, hv1, a4, c1, c2, c3, c4, hv2, hv2, c7, c8, c9⟩
  have hb : ∃ b, b < nb ∧ p1 = nI b := by
    obtain ⟨k, hk, rfl⟩ := nI_of h1
    rw [nI_ltI hk (by omega)] at h2
    exact ⟨k, h2, rfl⟩
  obtain ⟨b, hbn, rfl⟩ := hb
  have o1 := bits_off nb (by omega) on a3 b hbn
  have o2 := bits_on nb (by omega) on a3 b hbn
  rw [c5]
  unfold f_X11_turn
  simp only [forall_eq]
  refine ⟨fun hz => ?_, fun hz => ?_⟩
  · have r1 : ∀ v, (stI (stI M 11 14 v) 142 0 0).1 142 20 = nI nb := fun _ => c4
    have r2 : ∀ v, (stI (stI M 11 14 v) 142 0 0).1 142 21 = nI on := fun _ => c6
    rw [r1]
    refine f_in (nI nb - 1) rfl (fun a b => ⟨fun z => absurd z ne1, fun _ => ⟨fun _ => ⟨fun _ => ?_, fun z => z trivial⟩, fun z => absurd hz z⟩⟩) (fun z => (z.elim h1 (fun z => (hsub _ h1).mp z h2)).elim)
    rw [r2]
    exact hfin _ o1.1 o1.2
  · have r1 : ∀ v, (stI (stI M 11 14 v) 142 0 0).1 142 20 = nI nb := fun _ => c4
    have r2 : ∀ v, (stI (stI M 11 14 v) 142 0 0).1 142 21 = nI on := fun _ => c6
    rw [r1]
    refine f_in (nI nb - 1) rfl (fun a b => ⟨fun z => absurd z ne1, fun _ => ⟨fun z => absurd z hz, fun _ => ⟨fun _ => ?_, fun z => z trivial⟩⟩⟩) (fun z => (z.elim h1 (fun z => (hsub _ h1).mp z h2)).elim)
    rw [r2]
    exact hfin _ o2.1 o2.2
