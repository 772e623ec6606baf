/-! for task: the places of tasks; V of the last memory -/
theorem prg_sw12 {M M' : Mm} {P p b : Nat} (h : V_prg M) (hb : b < 4) (hP : M.2.2 1 6 = some P) (hp : M.2.2 12 b = some p) (e : ∀ a j, ¬ (a = 1 ∧ j = 6) → ¬ (a = 12 ∧ j = b) → M'.2.2 a j = M.2.2 a j) (e1 : M'.2.2 1 6 = some p) (e2 : M'.2.2 12 b = some P) : V_prg M' := by
  obtain ⟨⟨q, hq, hnd, hmem⟩, hz⟩ := h
  have hl : q.length = 15 := by have := congrArg List.length hq; simpa [plc] using this.symm
  refine ⟨?_, fun j hj => by rw [e 17 j (by omega) (by omega)]; exact hz j hj⟩
  match q, hl with
  | [x0, x1, x2, x3, x4, x5, x6, x7, x8, x9, x10, x11, x12, x13, x14], _ =>
    simp only [plc, List.map_cons, List.map_nil, List.cons.injEq, and_true] at hq
    obtain ⟨a0, a1, a2, a3, a4, a5, a6, a7, a8, a9, a10, a11, a12, a13, a14⟩ := hq
    have b0 : P = x0 := by rw [hP, Option.some.injEq] at a0; exact a0
    have c : b = 0 ∨ b = 1 ∨ b = 2 ∨ b = 3 := by omega
    rcases c with rfl | rfl | rfl | rfl
    · have bn : p = x3 := by rw [hp, Option.some.injEq] at a3; exact a3
      refine ⟨[x3, x1, x2, x0, x4, x5, x6, x7, x8, x9, x10, x11, x12, x13, x14], ?_, nd_sw (l1 := [x1, x2]) (l2 := [x4, x5, x6, x7, x8, x9, x10, x11, x12, x13, x14]) hnd, fun y hy => hmem y (mem_sw (l1 := [x1, x2]) (l2 := [x4, x5, x6, x7, x8, x9, x10, x11, x12, x13, x14]) hy)⟩
      simp only [plc, List.map_cons, List.map_nil, e1, e2, b0, bn, e 11 8 (by omega) (by omega), e 11 9 (by omega) (by omega), e 12 1 (by omega) (by omega), e 12 2 (by omega) (by omega), e 12 3 (by omega) (by omega), e 13 0 (by omega) (by omega), e 13 1 (by omega) (by omega), e 13 2 (by omega) (by omega), e 14 0 (by omega) (by omega), e 14 1 (by omega) (by omega), e 14 2 (by omega) (by omega), e 14 3 (by omega) (by omega), e 14 4 (by omega) (by omega), a1, a2, a4, a5, a6, a7, a8, a9, a10, a11, a12, a13, a14]
    · have bn : p = x4 := by rw [hp, Option.some.injEq] at a4; exact a4
      refine ⟨[x4, x1, x2, x3, x0, x5, x6, x7, x8, x9, x10, x11, x12, x13, x14], ?_, nd_sw (l1 := [x1, x2, x3]) (l2 := [x5, x6, x7, x8, x9, x10, x11, x12, x13, x14]) hnd, fun y hy => hmem y (mem_sw (l1 := [x1, x2, x3]) (l2 := [x5, x6, x7, x8, x9, x10, x11, x12, x13, x14]) hy)⟩
      simp only [plc, List.map_cons, List.map_nil, e1, e2, b0, bn, e 11 8 (by omega) (by omega), e 11 9 (by omega) (by omega), e 12 0 (by omega) (by omega), e 12 2 (by omega) (by omega), e 12 3 (by omega) (by omega), e 13 0 (by omega) (by omega), e 13 1 (by omega) (by omega), e 13 2 (by omega) (by omega), e 14 0 (by omega) (by omega), e 14 1 (by omega) (by omega), e 14 2 (by omega) (by omega), e 14 3 (by omega) (by omega), e 14 4 (by omega) (by omega), a1, a2, a3, a5, a6, a7, a8, a9, a10, a11, a12, a13, a14]
    · have bn : p = x5 := by rw [hp, Option.some.injEq] at a5; exact a5
      refine ⟨[x5, x1, x2, x3, x4, x0, x6, x7, x8, x9, x10, x11, x12, x13, x14], ?_, nd_sw (l1 := [x1, x2, x3, x4]) (l2 := [x6, x7, x8, x9, x10, x11, x12, x13, x14]) hnd, fun y hy => hmem y (mem_sw (l1 := [x1, x2, x3, x4]) (l2 := [x6, x7, x8, x9, x10, x11, x12, x13, x14]) hy)⟩
      simp only [plc, List.map_cons, List.map_nil, e1, e2, b0, bn, e 11 8 (by omega) (by omega), e 11 9 (by omega) (by omega), e 12 0 (by omega) (by omega), e 12 1 (by omega) (by omega), e 12 3 (by omega) (by omega), e 13 0 (by omega) (by omega), e 13 1 (by omega) (by omega), e 13 2 (by omega) (by omega), e 14 0 (by omega) (by omega), e 14 1 (by omega) (by omega), e 14 2 (by omega) (by omega), e 14 3 (by omega) (by omega), e 14 4 (by omega) (by omega), a1, a2, a3, a4, a6, a7, a8, a9, a10, a11, a12, a13, a14]
    · have bn : p = x6 := by rw [hp, Option.some.injEq] at a6; exact a6
      refine ⟨[x6, x1, x2, x3, x4, x5, x0, x7, x8, x9, x10, x11, x12, x13, x14], ?_, nd_sw (l1 := [x1, x2, x3, x4, x5]) (l2 := [x7, x8, x9, x10, x11, x12, x13, x14]) hnd, fun y hy => hmem y (mem_sw (l1 := [x1, x2, x3, x4, x5]) (l2 := [x7, x8, x9, x10, x11, x12, x13, x14]) hy)⟩
      simp only [plc, List.map_cons, List.map_nil, e1, e2, b0, bn, e 11 8 (by omega) (by omega), e 11 9 (by omega) (by omega), e 12 0 (by omega) (by omega), e 12 1 (by omega) (by omega), e 12 2 (by omega) (by omega), e 13 0 (by omega) (by omega), e 13 1 (by omega) (by omega), e 13 2 (by omega) (by omega), e 14 0 (by omega) (by omega), e 14 1 (by omega) (by omega), e 14 2 (by omega) (by omega), e 14 3 (by omega) (by omega), e 14 4 (by omega) (by omega), a1, a2, a3, a4, a5, a7, a8, a9, a10, a11, a12, a13, a14]
theorem prg_12 {M : Mm} (h : V_prg M) {b : Nat} (hb : b < 4) : ∃ p, p ∈ PR ∧ M.2.2 12 b = some p := by
  obtain ⟨⟨q, hq, hnd, hmem⟩, -⟩ := h
  have hl : q.length = 15 := by have := congrArg List.length hq; simpa [plc] using this.symm
  match q, hl with
  | [x0, x1, x2, x3, x4, x5, x6, x7, x8, x9, x10, x11, x12, x13, x14], _ =>
    simp only [plc, List.map_cons, List.map_nil, List.cons.injEq, and_true] at hq
    obtain ⟨a0, a1, a2, a3, a4, a5, a6, a7, a8, a9, a10, a11, a12, a13, a14⟩ := hq
    have c : b = 0 ∨ b = 1 ∨ b = 2 ∨ b = 3 := by omega
    rcases c with rfl | rfl | rfl | rfl
    · exact ⟨x3, hmem _ (by simp), a3⟩
    · exact ⟨x4, hmem _ (by simp), a4⟩
    · exact ⟨x5, hmem _ (by simp), a5⟩
    · exact ⟨x6, hmem _ (by simp), a6⟩
theorem V_ptch_pr2 {M M' : Mm} (e : M'.2.2 14 = M.2.2 14) (hp : ∀ j p, j < 5 → M.2.2 14 j = some p → AGP M M' p) (hr : ∀ j, j < 5 → AGR M M' (64 + j)) (f : M'.1 11 12 = M.1 11 12) (f2 : ∀ x, x < M.1 11 10 → x < M'.1 11 10) (g1 : M'.1 15 = M.1 15) (g2 : M'.1 16 = M.1 16) (g3 : M'.1 158 = M.1 158) (g4 : M'.1 159 = M.1 159) (h : V_ptch M) : V_ptch M' := by
  intro j hj hl
  rw [f] at hl
  obtain ⟨p, hpr, h1, h2, h3, h4, h5, h6, h7, h8⟩ := h j hj hl
  have ha := hp j p hj h1
  have p0 := ha 0 (by omega)
  rw [Nat.add_zero] at p0
  refine ⟨p, hpr, by rw [e]; exact h1, by rw [p0]; exact h2, LN_pr ha (hr j hj) h3, ?_⟩
  rw [g1, g2, g3, g4]
  exact ⟨h4, h5, h6, f2 _ h7, h8⟩
/-- as D3, what a task's telling changes too -/
def D6 : Nat → Nat → Bool := fun b j => D3 b j || (b == 11 && j == 10) || (b == 142 && j == 15) || (150 ≤ b && b ≤ 152 : Bool) || b == 156 || (133 ≤ b && b ≤ 141 : Bool) || b == 185
def E6 : Nat → Bool := fun b => E3 b || b == 113
theorem V_mk6 {M M' : Mm} (h : V M) (I : ∀ b j, D6 b j = false → M'.1 b j = M.1 b j) (hF : FX M') (r10 : M'.2.2 10 = M.2.2 10) (w1 : V_txt M') (w2 : V_told M') (w9 : V_cnt M') (w10 : V_prg M') (w11 : V_task M') (w12 : V_must M') (w13 : V_bolt M') (w14 : V_ptch M') (w15 : V_now M') (k0 : ∀ i, i < 3 → M'.1 (133 + 3 * i) 4 = 0 ∧ M'.1 185 i = 0) : V M' := by
  obtain ⟨h1, h2, h3, h4, h5, h6, h7, h8, h9, h10, h11, h12, h13, h14, h15, h16, h17, h18, h19⟩ := h
  have R : ∀ a, (∀ j, D6 a j = false) → M'.1 a = M.1 a := fun a ha => funext fun j => I a j (ha j)
  have rg : ∀ a, ((121 ≤ a ∧ a ≤ 132) ∨ (157 ≤ a ∧ a ≤ 159) ∨ (177 ≤ a ∧ a ≤ 183)) → M'.1 a = M.1 a := fun a ha => R a (fun j => by
    unfold D6 D3; simp only [Bool.or_eq_false_iff, Bool.and_eq_false_iff, beq_eq_false_iff_ne, decide_eq_false_iff_not]; omega)
  exact ⟨hF, w1, V_typ_ag (I _ _ rfl) (I _ _ rfl) (R _ fun _ => rfl) (R _ fun _ => rfl) h3, V_spd_ag (R _ fun _ => rfl) (R _ fun _ => rfl) h4, V_key_ag (I _ _ rfl) (I _ _ rfl) h5, V_wgt_ag (R _ fun _ => rfl) (R _ fun _ => rfl) (R _ fun _ => rfl) (R _ fun _ => rfl) h6, w2, V_last_ag (I _ _ rfl) (I _ _ rfl) (R _ fun _ => rfl) (I _ _ rfl) (I _ _ rfl) (I _ _ rfl) (I _ _ rfl) h8, w9, w10, w11, w12, w13, w14, w15, fun i hi => ⟨(k0 i hi).1.trans (k0 i hi).2.symm, Or.inl (k0 i hi).2⟩, V_walk_ag (I _ _ rfl) (R _ fun _ => rfl) (R _ fun _ => rfl) r10 h17, V_hous_ag (rg _ (by omega)) (I _ _ rfl) (I _ _ rfl) (fun a h1 h2 => rg a (by omega)) (fun a h1 h2 => rg a (by omega)) h18, V_tell_ag (rg _ (by omega)) (fun a h1 h2 => rg a (by omega)) h19⟩
