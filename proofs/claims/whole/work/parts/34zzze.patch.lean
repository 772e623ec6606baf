/-! for patch: the places of patches -/
theorem prg_sw14 {M M' : Mm} {P p b : Nat} (h : V_prg M) (hb : b < 5) (hP : M.2.2 1 6 = some P) (hp : M.2.2 14 b = some p) (e : ∀ a j, ¬ (a = 1 ∧ j = 6) → ¬ (a = 14 ∧ j = b) → M'.2.2 a j = M.2.2 a j) (e1 : M'.2.2 1 6 = some p) (e2 : M'.2.2 14 b = some P) : V_prg M' := by
  obtain ⟨⟨q, hq, hnd, hmem⟩, hz⟩ := h
  have hl : q.length = 15 := by have := congrArg List.length hq; simpa [plc] using this.symm
  refine ⟨?_, fun j hj => by rw [e 17 j (by omega) (by omega)]; exact hz j hj⟩
  match q, hl with
  | [x0, x1, x2, x3, x4, x5, x6, x7, x8, x9, x10, x11, x12, x13, x14], _ =>
    simp only [plc, List.map_cons, List.map_nil, List.cons.injEq, and_true] at hq
    obtain ⟨a0, a1, a2, a3, a4, a5, a6, a7, a8, a9, a10, a11, a12, a13, a14⟩ := hq
    have b0 : P = x0 := by rw [hP, Option.some.injEq] at a0; exact a0
    have c : b = 0 ∨ b = 1 ∨ b = 2 ∨ b = 3 ∨ b = 4 := by omega
    rcases c with rfl | rfl | rfl | rfl | rfl
    · have bn : p = x10 := by rw [hp, Option.some.injEq] at a10; exact a10
      refine ⟨[x10, x1, x2, x3, x4, x5, x6, x7, x8, x9, x0, x11, x12, x13, x14], ?_, nd_sw (l1 := [x1, x2, x3, x4, x5, x6, x7, x8, x9]) (l2 := [x11, x12, x13, x14]) hnd, fun y hy => hmem y (mem_sw (l1 := [x1, x2, x3, x4, x5, x6, x7, x8, x9]) (l2 := [x11, x12, x13, x14]) hy)⟩
      simp only [plc, List.map_cons, List.map_nil, e1, e2, b0, bn, e 11 8 (by omega) (by omega), e 11 9 (by omega) (by omega), e 12 0 (by omega) (by omega), e 12 1 (by omega) (by omega), e 12 2 (by omega) (by omega), e 12 3 (by omega) (by omega), e 13 0 (by omega) (by omega), e 13 1 (by omega) (by omega), e 13 2 (by omega) (by omega), e 14 1 (by omega) (by omega), e 14 2 (by omega) (by omega), e 14 3 (by omega) (by omega), e 14 4 (by omega) (by omega), a1, a2, a3, a4, a5, a6, a7, a8, a9, a11, a12, a13, a14]
    · have bn : p = x11 := by rw [hp, Option.some.injEq] at a11; exact a11
      refine ⟨[x11, x1, x2, x3, x4, x5, x6, x7, x8, x9, x10, x0, x12, x13, x14], ?_, nd_sw (l1 := [x1, x2, x3, x4, x5, x6, x7, x8, x9, x10]) (l2 := [x12, x13, x14]) hnd, fun y hy => hmem y (mem_sw (l1 := [x1, x2, x3, x4, x5, x6, x7, x8, x9, x10]) (l2 := [x12, x13, x14]) hy)⟩
      simp only [plc, List.map_cons, List.map_nil, e1, e2, b0, bn, e 11 8 (by omega) (by omega), e 11 9 (by omega) (by omega), e 12 0 (by omega) (by omega), e 12 1 (by omega) (by omega), e 12 2 (by omega) (by omega), e 12 3 (by omega) (by omega), e 13 0 (by omega) (by omega), e 13 1 (by omega) (by omega), e 13 2 (by omega) (by omega), e 14 0 (by omega) (by omega), e 14 2 (by omega) (by omega), e 14 3 (by omega) (by omega), e 14 4 (by omega) (by omega), a1, a2, a3, a4, a5, a6, a7, a8, a9, a10, a12, a13, a14]
    · have bn : p = x12 := by rw [hp, Option.some.injEq] at a12; exact a12
      refine ⟨[x12, x1, x2, x3, x4, x5, x6, x7, x8, x9, x10, x11, x0, x13, x14], ?_, nd_sw (l1 := [x1, x2, x3, x4, x5, x6, x7, x8, x9, x10, x11]) (l2 := [x13, x14]) hnd, fun y hy => hmem y (mem_sw (l1 := [x1, x2, x3, x4, x5, x6, x7, x8, x9, x10, x11]) (l2 := [x13, x14]) hy)⟩
      simp only [plc, List.map_cons, List.map_nil, e1, e2, b0, bn, e 11 8 (by omega) (by omega), e 11 9 (by omega) (by omega), e 12 0 (by omega) (by omega), e 12 1 (by omega) (by omega), e 12 2 (by omega) (by omega), e 12 3 (by omega) (by omega), e 13 0 (by omega) (by omega), e 13 1 (by omega) (by omega), e 13 2 (by omega) (by omega), e 14 0 (by omega) (by omega), e 14 1 (by omega) (by omega), e 14 3 (by omega) (by omega), e 14 4 (by omega) (by omega), a1, a2, a3, a4, a5, a6, a7, a8, a9, a10, a11, a13, a14]
    · have bn : p = x13 := by rw [hp, Option.some.injEq] at a13; exact a13
      refine ⟨[x13, x1, x2, x3, x4, x5, x6, x7, x8, x9, x10, x11, x12, x0, x14], ?_, nd_sw (l1 := [x1, x2, x3, x4, x5, x6, x7, x8, x9, x10, x11, x12]) (l2 := [x14]) hnd, fun y hy => hmem y (mem_sw (l1 := [x1, x2, x3, x4, x5, x6, x7, x8, x9, x10, x11, x12]) (l2 := [x14]) hy)⟩
      simp only [plc, List.map_cons, List.map_nil, e1, e2, b0, bn, e 11 8 (by omega) (by omega), e 11 9 (by omega) (by omega), e 12 0 (by omega) (by omega), e 12 1 (by omega) (by omega), e 12 2 (by omega) (by omega), e 12 3 (by omega) (by omega), e 13 0 (by omega) (by omega), e 13 1 (by omega) (by omega), e 13 2 (by omega) (by omega), e 14 0 (by omega) (by omega), e 14 1 (by omega) (by omega), e 14 2 (by omega) (by omega), e 14 4 (by omega) (by omega), a1, a2, a3, a4, a5, a6, a7, a8, a9, a10, a11, a12, a14]
    · have bn : p = x14 := by rw [hp, Option.some.injEq] at a14; exact a14
      refine ⟨[x14, x1, x2, x3, x4, x5, x6, x7, x8, x9, x10, x11, x12, x13, x0], ?_, nd_sw (l1 := [x1, x2, x3, x4, x5, x6, x7, x8, x9, x10, x11, x12, x13]) (l2 := []) hnd, fun y hy => hmem y (mem_sw (l1 := [x1, x2, x3, x4, x5, x6, x7, x8, x9, x10, x11, x12, x13]) (l2 := []) hy)⟩
      simp only [plc, List.map_cons, List.map_nil, e1, e2, b0, bn, e 11 8 (by omega) (by omega), e 11 9 (by omega) (by omega), e 12 0 (by omega) (by omega), e 12 1 (by omega) (by omega), e 12 2 (by omega) (by omega), e 12 3 (by omega) (by omega), e 13 0 (by omega) (by omega), e 13 1 (by omega) (by omega), e 13 2 (by omega) (by omega), e 14 0 (by omega) (by omega), e 14 1 (by omega) (by omega), e 14 2 (by omega) (by omega), e 14 3 (by omega) (by omega), a1, a2, a3, a4, a5, a6, a7, a8, a9, a10, a11, a12, a13]
theorem prg_14 {M : Mm} (h : V_prg M) {b : Nat} (hb : b < 5) : ∃ p, p ∈ PR ∧ M.2.2 14 b = some p := by
  obtain ⟨⟨q, hq, hnd, hmem⟩, -⟩ := h
  have hl : q.length = 15 := by have := congrArg List.length hq; simpa [plc] using this.symm
  match q, hl with
  | [x0, x1, x2, x3, x4, x5, x6, x7, x8, x9, x10, x11, x12, x13, x14], _ =>
    simp only [plc, List.map_cons, List.map_nil, List.cons.injEq, and_true] at hq
    obtain ⟨a0, a1, a2, a3, a4, a5, a6, a7, a8, a9, a10, a11, a12, a13, a14⟩ := hq
    have c : b = 0 ∨ b = 1 ∨ b = 2 ∨ b = 3 ∨ b = 4 := by omega
    rcases c with rfl | rfl | rfl | rfl | rfl
    · exact ⟨x10, hmem _ (by simp), a10⟩
    · exact ⟨x11, hmem _ (by simp), a11⟩
    · exact ⟨x12, hmem _ (by simp), a12⟩
    · exact ⟨x13, hmem _ (by simp), a13⟩
    · exact ⟨x14, hmem _ (by simp), a14⟩
/-- the class reads one line alone -/
theorem line1C_ok {c : Nat → Nat} {n len P N q kd nu : Nat} {b : Bool} {e : List Nat} {M : Mm} {K : Int32 → Mm → Prop} (hL : LX c len N 0 b q kd nu e) (hF : FX M) (h6 : M.2.2 1 6 = some P) (hP : P ∈ PR) (hn : n ≤ 100) (hlen : len = if 60 < n then 60 else n) (htx : ∀ j, j < n → M.1 2 j = nI (c j) ∧ c j < 256)
    (hbad : (b = true → q ≠ len) → ∀ M', Fr (dAs P) eN M M' → K (nI q) M') (hlong : b = true → q = len → 60 < n → ∀ M', Fr (dAs P) eN M M' → K 60 M') (hok : b = true → q = len → n ≤ 60 → ∀ M', Fr (dAs P) eN M M' → M'.1 P 6 = 1 → LnC M' P 0 kd nu e → K (-1) M') : f_X6_readLines S0 1 (nI n) (1 : Int32) M K := by
  have hp := pr_le P hP
  have hn3 := pr_n3 P hP
  obtain ⟨sh0, sh1, sh2, sh3, sh4, sh5⟩ := pr_sh P hP
  have hle : len ≤ 60 ∧ len ≤ n := by rw [hlen]; split <;> omega
  have bd := LX_bd hle.1 (by omega) hL
  have ln_as : ∀ {M1 M2 : Mm}, Fr (dLn P 0) eN M1 M2 → Fr (dAs P) eN M1 M2 := fun h => Fr_mono (fun b j hd => by unfold dAs at hd; unfold dLn; simp only [Bool.or_eq_false_iff, Bool.and_eq_false_iff, beq_eq_false_iff_ne, decide_eq_false_iff_not] at *; omega) (fun b hd => hd) h
  unfold f_X6_readLines
  refine beginC_ok hF h6 hP hn hlen htx (fun M1 f1 B1 g3 g6 g7 _ _ => ⟨0 + 1, ?_⟩)
  unfold f_X6_readLines_L7 f_X6_readLines_B7
  refine ⟨fun z => absurd z (by decide), fun _ => ?_⟩
  refine lineC_ok (i := 0) (out := []) hL B1 (by omega) ⟨g3, g6, g7, fun j hj => absurd hj (by simp)⟩ (by simp) (by omega) (fun M2 f2 p2 hq => ⟨fun _ => ?_, fun z => absurd rfl z⟩) (fun hb M2 f2 c2 d2 => ⟨fun z => absurd z (by decide), fun _ => ?_⟩)
  · rw [p2]
    exact hbad (fun hb => by have := cmp_lt (hq hb); omega) M2 (Fr_tr f1 (ln_as f2))
  · have f12 := Fr_tr f1 (ln_as f2)
    have B2 := BRx_ln f2 B1
    have bt := bd.1 hb
    rw [List.nil_append] at c2
    simp only [B2.2.1, ex_some, sh0, true_and]
    refine endL_ok B2.1 hP c2.2.1 (by omega) ?_
    rw [c2.2.2.1]
    have f3 : Fr (dAs P) eN M (stI (stI M2 P 6 (nI (0 + 1))) (P + 4) (0 + 1) (nI e.length)) := fAs_I (by omega) (fAs_I (by omega) f12)
    have o3 : ∀ a j, ¬ (a = P ∧ j = 6) → ¬ (a = P + 4 ∧ j = 1) → (stI (stI M2 P 6 (nI (0 + 1))) (P + 4) (0 + 1) (nI e.length)).1 a j = M2.1 a j := fun a j x1 x2 => by rw [rI_ne (by omega), rI_ne (by omega)]
    have i6 : (stI (stI M2 P 6 (nI (0 + 1))) (P + 4) (0 + 1) (nI e.length)).1 P 6 = 1 := by rw [rI_ne (by omega), rI_eq]; rfl
    have i41 : (stI (stI M2 P 6 (nI (0 + 1))) (P + 4) (0 + 1) (nI e.length)).1 (P + 4) 1 = nI e.length := rI_eq
    generalize stI (stI M2 P 6 (nI (0 + 1))) (P + 4) (0 + 1) (nI e.length) = M3 at *
    rw [o3 1 3 (by omega) (by omega), o3 1 2 (by omega) (by omega), c2.1, B2.2.2.2.1, nI_ltI (by omega) (by omega)]
    refine ⟨fun hlt => ⟨fun _ => hbad (fun _ => by omega) M3 f3, fun z => absurd trivial z⟩, fun hge => ?_⟩
    rw [show (60 : Int32) = nI 60 from rfl, nI_leI (by omega) (by omega)]
    refine ⟨fun h60 => hok hb (by omega) h60 M3 f3 i6 ⟨?_, ?_, 0, by omega, ?_, ?_, fun j hj => ?_⟩, fun h60 => hlong hb (by omega) (by omega) M3 f3⟩
    · rw [o3 _ _ (by omega) (by omega)]; exact d2.1
    · rw [o3 _ _ (by omega) (by omega)]; exact d2.2.1
    · rw [o3 _ _ (by omega) (by omega)]; exact d2.2.2
    · rw [Nat.zero_add e.length]; exact i41
    · rw [o3 _ _ (by omega) (by omega), Nat.zero_add]; exact c2.2.2.2 j hj
