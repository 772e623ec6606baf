/-! bolt -/
theorem nd_sw {x y : Nat} {l1 l2 : List Nat} (h : (x :: (l1 ++ y :: l2)).Nodup) : (y :: (l1 ++ x :: l2)).Nodup := by
  have p : List.Perm (x :: (l1 ++ y :: l2)) (y :: (l1 ++ x :: l2)) := ((List.perm_middle.cons x).trans (List.Perm.swap y x (l1 ++ l2))).trans (List.perm_middle.symm.cons y)
  exact p.nodup_iff.mp h
theorem mem_sw {x y z : Nat} {l1 l2 : List Nat} (h : z ∈ y :: (l1 ++ x :: l2)) : z ∈ x :: (l1 ++ y :: l2) := by
  simp only [List.mem_cons, List.mem_append] at h ⊢
  rcases h with h | h | h | h
  · exact Or.inr (Or.inr (Or.inl h))
  · exact Or.inr (Or.inl h)
  · exact Or.inl h
  · exact Or.inr (Or.inr (Or.inr h))
/-- the program that is written changes places with bolt b's -/
theorem prg_sw13 {M M' : Mm} {P p b : Nat} (h : V_prg M) (hb : b < 3) (hP : M.2.2 1 6 = some P) (hp : M.2.2 13 b = some p) (e : ∀ a j, ¬ (a = 1 ∧ j = 6) → ¬ (a = 13 ∧ j = b) → M'.2.2 a j = M.2.2 a j) (e1 : M'.2.2 1 6 = some p) (e2 : M'.2.2 13 b = some P) : V_prg M' := by
  obtain ⟨⟨q, hq, hnd, hmem⟩, hz⟩ := h
  have hl : q.length = 15 := by have := congrArg List.length hq; simpa [plc] using this.symm
  refine ⟨?_, fun j hj => by rw [e 17 j (by omega) (by omega)]; exact hz j hj⟩
  match q, hl with
  | [x0, x1, x2, x3, x4, x5, x6, x7, x8, x9, x10, x11, x12, x13, x14], _ =>
    simp only [plc, List.map_cons, List.map_nil, List.cons.injEq, and_true] at hq
    obtain ⟨a0, a1, a2, a3, a4, a5, a6, a7, a8, a9, a10, a11, a12, a13, a14⟩ := hq
    have b0 : P = x0 := by rw [hP, Option.some.injEq] at a0; exact a0
    have c : b = 0 ∨ b = 1 ∨ b = 2 := by omega
    rcases c with rfl | rfl | rfl
    · have b7 : p = x7 := by rw [hp, Option.some.injEq] at a7; exact a7
      refine ⟨[x7, x1, x2, x3, x4, x5, x6, x0, x8, x9, x10, x11, x12, x13, x14], ?_, nd_sw (l1 := [x1, x2, x3, x4, x5, x6]) (l2 := [x8, x9, x10, x11, x12, x13, x14]) hnd, fun y hy => hmem y (mem_sw (l1 := [x1, x2, x3, x4, x5, x6]) (l2 := [x8, x9, x10, x11, x12, x13, x14]) hy)⟩
      simp only [plc, List.map_cons, List.map_nil, e1, e2, b0, b7, e 11 8 (by omega) (by omega), e 11 9 (by omega) (by omega), e 12 0 (by omega) (by omega), e 12 1 (by omega) (by omega), e 12 2 (by omega) (by omega), e 12 3 (by omega) (by omega), e 13 1 (by omega) (by omega), e 13 2 (by omega) (by omega), e 14 0 (by omega) (by omega), e 14 1 (by omega) (by omega), e 14 2 (by omega) (by omega), e 14 3 (by omega) (by omega), e 14 4 (by omega) (by omega), a1, a2, a3, a4, a5, a6, a8, a9, a10, a11, a12, a13, a14]
    · have b8 : p = x8 := by rw [hp, Option.some.injEq] at a8; exact a8
      refine ⟨[x8, x1, x2, x3, x4, x5, x6, x7, x0, x9, x10, x11, x12, x13, x14], ?_, nd_sw (l1 := [x1, x2, x3, x4, x5, x6, x7]) (l2 := [x9, x10, x11, x12, x13, x14]) hnd, fun y hy => hmem y (mem_sw (l1 := [x1, x2, x3, x4, x5, x6, x7]) (l2 := [x9, x10, x11, x12, x13, x14]) hy)⟩
      simp only [plc, List.map_cons, List.map_nil, e1, e2, b0, b8, e 11 8 (by omega) (by omega), e 11 9 (by omega) (by omega), e 12 0 (by omega) (by omega), e 12 1 (by omega) (by omega), e 12 2 (by omega) (by omega), e 12 3 (by omega) (by omega), e 13 0 (by omega) (by omega), e 13 2 (by omega) (by omega), e 14 0 (by omega) (by omega), e 14 1 (by omega) (by omega), e 14 2 (by omega) (by omega), e 14 3 (by omega) (by omega), e 14 4 (by omega) (by omega), a1, a2, a3, a4, a5, a6, a7, a9, a10, a11, a12, a13, a14]
    · have b9 : p = x9 := by rw [hp, Option.some.injEq] at a9; exact a9
      refine ⟨[x9, x1, x2, x3, x4, x5, x6, x7, x8, x0, x10, x11, x12, x13, x14], ?_, nd_sw (l1 := [x1, x2, x3, x4, x5, x6, x7, x8]) (l2 := [x10, x11, x12, x13, x14]) hnd, fun y hy => hmem y (mem_sw (l1 := [x1, x2, x3, x4, x5, x6, x7, x8]) (l2 := [x10, x11, x12, x13, x14]) hy)⟩
      simp only [plc, List.map_cons, List.map_nil, e1, e2, b0, b9, e 11 8 (by omega) (by omega), e 11 9 (by omega) (by omega), e 12 0 (by omega) (by omega), e 12 1 (by omega) (by omega), e 12 2 (by omega) (by omega), e 12 3 (by omega) (by omega), e 13 0 (by omega) (by omega), e 13 1 (by omega) (by omega), e 14 0 (by omega) (by omega), e 14 1 (by omega) (by omega), e 14 2 (by omega) (by omega), e 14 3 (by omega) (by omega), e 14 4 (by omega) (by omega), a1, a2, a3, a4, a5, a6, a7, a8, a10, a11, a12, a13, a14]
/-- each place has a program -/
theorem prg_13 {M : Mm} (h : V_prg M) {b : Nat} (hb : b < 3) : ∃ p, p ∈ PR ∧ M.2.2 13 b = some p := by
  obtain ⟨⟨q, hq, hnd, hmem⟩, -⟩ := h
  have hl : q.length = 15 := by have := congrArg List.length hq; simpa [plc] using this.symm
  match q, hl with
  | [x0, x1, x2, x3, x4, x5, x6, x7, x8, x9, x10, x11, x12, x13, x14], _ =>
    simp only [plc, List.map_cons, List.map_nil, List.cons.injEq, and_true] at hq
    obtain ⟨a0, a1, a2, a3, a4, a5, a6, a7, a8, a9, a10, a11, a12, a13, a14⟩ := hq
    have c : b = 0 ∨ b = 1 ∨ b = 2 := by omega
    rcases c with rfl | rfl | rfl
    · exact ⟨x7, hmem _ (by simp), a7⟩
    · exact ⟨x8, hmem _ (by simp), a8⟩
    · exact ⟨x9, hmem _ (by simp), a9⟩
theorem forC_ok {M : Mm} {K : Mm → Prop} (hF : FX M) (hK : K (stI (stI (stI M 133 4 0) 136 4 0) 139 4 0)) : f_X10_forgetKept S0 0 M K := by
  unfold f_X10_forgetKept
  refine ⟨4, ?_⟩
  have h1 : ∀ v, FX (stI M 133 4 v) := fun v => fx_I hF
  have h2 : ∀ v w, FX (stI (stI M 133 4 v) 136 4 w) := fun v w => fx_I (h1 v)
  have i0 : vp_in (0 : Int32) 3 := by unfold vp_in; decide
  have i1 : vp_in (1 : Int32) 3 := by unfold vp_in; decide
  have i2 : vp_in (2 : Int32) 3 := by unfold vp_in; decide
  unfold f_X10_forgetKept_L2 f_X10_forgetKept_B2
  refine ⟨fun z => absurd z (by decide), fun _ => ?_⟩
  simp only [fx_0_9 hF, ex_some, s0_130, ex_sh, i0, true_and, show (0 : Int32).toNatClampNeg = 0 from rfl, fx_130_0 hF, s0_133, forall_eq, show (0 : Int32) + 1 = 1 from rfl]
  unfold f_X10_forgetKept_L2 f_X10_forgetKept_B2
  refine ⟨fun z => absurd z (by decide), fun _ => ?_⟩
  simp only [fx_0_9 (h1 0), ex_some, s0_130, ex_sh, i1, true_and, show (1 : Int32).toNatClampNeg = 1 from rfl, fx_130_1 (h1 0), s0_136, forall_eq, show (1 : Int32) + 1 = 2 from rfl]
  unfold f_X10_forgetKept_L2 f_X10_forgetKept_B2
  refine ⟨fun z => absurd z (by decide), fun _ => ?_⟩
  simp only [fx_0_9 (h2 0 0), ex_some, s0_130, ex_sh, i2, true_and, show (2 : Int32).toNatClampNeg = 2 from rfl, fx_130_2 (h2 0 0), s0_139, forall_eq, show (2 : Int32) + 1 = 3 from rfl]
  unfold f_X10_forgetKept_L2 f_X10_forgetKept_B2
  exact ⟨fun _ => hK, fun z => absurd (by decide) z⟩
theorem forM_ok {M : Mm} {K : Mm → Prop} (hF : FX M) (hK : K (stI (stI (stI M 185 0 0) 185 1 0) 185 2 0)) : f_X11_forgetsKept S0 142 M K := by
  unfold f_X11_forgetsKept
  refine ⟨4, ?_⟩
  have h1 : ∀ v, FX (stI M 185 0 v) := fun v => fx_I hF
  have h2 : ∀ v w, FX (stI (stI M 185 0 v) 185 1 w) := fun v w => fx_I (h1 v)
  have i0 : vp_in (0 : Int32) 3 := by unfold vp_in; decide
  have i1 : vp_in (1 : Int32) 3 := by unfold vp_in; decide
  have i2 : vp_in (2 : Int32) 3 := by unfold vp_in; decide
  have nz : vp_nar .boolean (0 : Int32) = 0 := by decide
  unfold f_X11_forgetsKept_L2 f_X11_forgetsKept_B2
  refine ⟨fun z => absurd z (by decide), fun _ => ?_⟩
  simp only [fx_142_80 hF, ex_some, s0_185, ex_sh, i0, true_and, show (0 : Int32).toNatClampNeg = 0 from rfl, forall_eq, show (0 : Int32) + 1 = 1 from rfl, nz]
  unfold f_X11_forgetsKept_L2 f_X11_forgetsKept_B2
  refine ⟨fun z => absurd z (by decide), fun _ => ?_⟩
  simp only [fx_142_80 (h1 0), ex_some, s0_185, ex_sh, i1, true_and, show (1 : Int32).toNatClampNeg = 1 from rfl, forall_eq, show (1 : Int32) + 1 = 2 from rfl, nz]
  unfold f_X11_forgetsKept_L2 f_X11_forgetsKept_B2
  refine ⟨fun z => absurd z (by decide), fun _ => ?_⟩
  simp only [fx_142_80 (h2 0 0), ex_some, s0_185, ex_sh, i2, true_and, show (2 : Int32).toNatClampNeg = 2 from rfl, forall_eq, show (2 : Int32) + 1 = 3 from rfl, nz]
  unfold f_X11_forgetsKept_L2 f_X11_forgetsKept_B2
  exact ⟨fun _ => hK, fun z => absurd (by decide) z⟩
/-- as D3, the counts of bolts and what is kept too -/
def D4 : Nat → Nat → Bool := fun b j => D3 b j || (b == 11 && (j == 11 || j == 14)) || (b == 142 && (j == 20 || j == 21)) || (133 ≤ b && b ≤ 141 : Bool) || b == 185
theorem V_mk4 {M M' : Mm} (h : V M) (I : ∀ b j, D4 b j = false → M'.1 b j = M.1 b j) (J : ∀ b, E3 b = false → M'.2.1 b = M.2.1 b) (hF : FX M') (r10 : M'.2.2 10 = M.2.2 10) (w1 : V_txt M') (w2 : V_told M') (w9 : V_cnt M') (w10 : V_prg M') (w11 : V_task M') (w12 : V_must M') (w13 : V_bolt M') (w14 : V_ptch M') (k0 : ∀ i, i < 3 → M'.1 (133 + 3 * i) 4 = 0 ∧ M'.1 185 i = 0) : V M' := by
  obtain ⟨h1, h2, h3, h4, h5, h6, h7, h8, h9, h10, h11, h12, h13, h14, h15, h16, h17, h18, h19⟩ := h
  have R : ∀ a, (∀ j, D4 a j = false) → M'.1 a = M.1 a := fun a ha => funext fun j => I a j (ha j)
  have rg : ∀ a, ((121 ≤ a ∧ a ≤ 132) ∨ (150 ≤ a ∧ a ≤ 152) ∨ (157 ≤ a ∧ a ≤ 159) ∨ (177 ≤ a ∧ a ≤ 183)) → M'.1 a = M.1 a := fun a ha => R a (fun j => by
    unfold D4 D3; simp only [Bool.or_eq_false_iff, Bool.and_eq_false_iff, beq_eq_false_iff_ne, decide_eq_false_iff_not]; omega)
  exact ⟨hF, w1, V_typ_ag (I _ _ rfl) (I _ _ rfl) (R _ fun _ => rfl) (R _ fun _ => rfl) h3, V_spd_ag (R _ fun _ => rfl) (R _ fun _ => rfl) h4, V_key_ag (I _ _ rfl) (I _ _ rfl) h5, V_wgt_ag (R _ fun _ => rfl) (R _ fun _ => rfl) (R _ fun _ => rfl) (R _ fun _ => rfl) h6, w2, V_last_ag (I _ _ rfl) (I _ _ rfl) (R _ fun _ => rfl) (I _ _ rfl) (I _ _ rfl) (I _ _ rfl) (I _ _ rfl) h8, w9, w10, w11, w12, w13, w14, V_now_ag (R _ fun _ => rfl) (R _ fun _ => rfl) (R _ fun _ => rfl) (R _ fun _ => rfl) (J _ rfl) (I _ _ rfl) (rg _ (by omega)) h15, fun i hi => ⟨(k0 i hi).1.trans (k0 i hi).2.symm, Or.inl (k0 i hi).2⟩, V_walk_ag (I _ _ rfl) (R _ fun _ => rfl) (R _ fun _ => rfl) r10 h17, V_hous_ag (rg _ (by omega)) (I _ _ rfl) (I _ _ rfl) (fun a h1 h2 => rg a (by omega)) (fun a h1 h2 => rg a (by omega)) h18, V_tell_ag (rg _ (by omega)) (fun a h1 h2 => rg a (by omega)) h19⟩
