/-! for reach: what is sought is a question -/
noncomputable def soQ (e : List Nat) : Nat → Nat → F4 → Nat → Bool := fun A B F _ => @decide (¬ evv (thg A B F) e = 0) (Classical.propDecidable _)
theorem soQ_t {e : List Nat} {A B fl : Nat} {F : F4} : soQ e A B F fl = true ↔ ¬ evv (thg A B F) e = 0 := by unfold soQ; exact @decide_eq_true_iff _ (Classical.propDecidable _)
theorem SO_1 {M : Mm} {P : Nat} {e : List Nat} (hF : FX M) (hP : P ∈ PR) (h9 : M.2.2 11 9 = some P) (hE : PE M P 0 e) (he : WFx e) (h : M.1 10 12 = 1) : SO (soQ e) M := by
  intro M1 A B F fl K f hm hfl h6 hK
  have hF1 := FX_fr f hF
  have h9' : M1.2.2 11 9 = some P := by rw [f.2.2]; exact h9
  unfold f_X9_isSought
  rw [f.1 10 12 rfl, h]
  refine ⟨fun z => absurd z (by decide), fun _ => ⟨fun _ => ?_, fun z => absurd rfl z⟩⟩
  simp only [fx_10_0 hF1, fx_10_1 hF1, h9', ex_some, s0_104, s0_11, (pr_sh P hP).1, true_and]
  refine value_ok (q := 104) hP hF1 (by omega) hm (PE_ag (dX_prc f) hP hE) (Or.inl he) (fun M2 hE2 => ?_)
  have := hK M2 (fun b _ h19 => hE2.1 b h19) hE2.2
  refine ⟨fun z => ?_, fun z => ?_⟩
  · rw [if_neg (fun y => (soQ_t.mp y) z)] at this; exact this
  · rw [if_pos (soQ_t.mpr z)] at this; exact this
theorem IF_1 {M : Mm} {e : List Nat} (hF : FX M) (hr : RwM M 73 e) (he : WFx e) (h51 : M.1 142 51 = 1) : IFm (soQ e) M := by
  intro M1 A B F fl K f hs hf hfl h37 hz hK
  unfold f_X11_isFound
  rw [f.1 142 51 rfl, h51]
  refine ⟨fun z => absurd z (by decide), fun _ => ⟨fun _ => ?_, fun z => absurd rfl z⟩⟩
  refine worked_ok (r := 73) (by omega) (FX_fr f hF) hs hf (RwM_ag (Fr_row f _ fun _ => rfl) (Fr_row f _ fun _ => rfl) hr) he (fun M2 hE => ?_)
  have := hK M2 (E1_Fr hE (fun _ => rfl))
  refine ⟨fun z => ?_, fun z => ?_⟩
  · rw [if_neg (fun y => (soQ_t.mp y) z)] at this; exact this
  · rw [if_pos (soQ_t.mpr z)] at this; exact this
theorem PE_pr {M M' : Mm} {p i : Nat} {e : List Nat} (hp : AGP M M' p) (h : PE M p i e) : PE M' p i e := by
  have p0 := hp 0 (by omega)
  rw [Nat.add_zero] at p0
  unfold PE at *
  rw [p0, hp 4 (by omega), hp 5 (by omega)]; exact h
/-- the machine stays where one program was written that isn't its -/
theorem CC_pr {M M' : Mm} {C : Cf} (h17 : ∀ j, j < 64 → M.2.2 17 j = none) (r12 : M'.2.2 12 = M.2.2 12) (r13 : M'.2.2 13 = M.2.2 13) (r17 : M'.2.2 17 = M.2.2 17) (e0 : M'.1 11 10 = M.1 11 10) (e1 : M'.1 11 11 = M.1 11 11) (e2 : M'.1 11 14 = M.1 11 14) (e3 : M'.1 18 = M.1 18) (hp : ∀ t p, t < 4 → M.2.2 12 t = some p → AGP M M' p) (hb : ∀ b p, b < 3 → M.2.2 13 b = some p → AGP M M' p) (h : CC M C) : CC M' C := by
  obtain ⟨h0, h1, h2, h3, h4, h5, h6⟩ := h
  have c1 := h0.1
  have c2 := h0.2.1
  refine ⟨h0, by rw [e0]; exact h1, by rw [e1]; exact h2, by rw [e2]; exact h3, by rw [e3]; exact h4, fun b hb' => ?_, fun t ht => ?_⟩
  · obtain ⟨p, hpr, a1, a2⟩ := h5 b hb'
    exact ⟨p, hpr, by rw [r13]; exact a1, PE_pr (hb b p (by omega) a1) a2⟩
  · obtain ⟨p, hpr, a1, a2, a3⟩ := h6 t ht
    have ha := hp t p (by omega) a1
    have p0 := ha 0 (by omega)
    rw [Nat.add_zero] at p0
    refine ⟨p, hpr, by rw [r12]; exact a1, by rw [p0]; exact a2, fun i hi => ?_⟩
    rw [r17]
    rcases a3 i hi with ⟨z1, z2, z3, z4⟩ | ⟨p', z1, z2, z3⟩
    · exact Or.inl ⟨z1, by rw [ha 2 (by omega)]; exact z2, by rw [ha 3 (by omega)]; exact z3, PE_pr ha z4⟩
    · have hi16 := z3.2.2.1
      have hn := a2
      exact Or.inl (by
        exfalso
        have hcN : cN C t ≤ 16 := (h0.2.2.2.2.2 t ht).2.1
        rw [h17 _ (by omega)] at z2
        exact absurd z2 (by simp))
theorem mC_pr {M M' : Mm} {mu : Option (List Nat)} (r : M'.2.2 11 8 = M.2.2 11 8) (hp : ∀ p, M.2.2 11 8 = some p → AGP M M' p) (h : mC M mu) : mC M' mu := by
  obtain ⟨p, hpr, h1, h2⟩ := h
  have ha := hp p h1
  have p0 := ha 0 (by omega)
  rw [Nat.add_zero] at p0
  refine ⟨p, hpr, by rw [r]; exact h1, ?_⟩
  rw [p0]
  exact h2.imp id (fun ⟨e, a, b, c, d⟩ => ⟨e, a, b, PE_pr ha c, d⟩)
theorem prg_9 {M : Mm} (h : V_prg M) : ∃ p, p ∈ PR ∧ M.2.2 11 9 = some p := by
  obtain ⟨⟨q, hq, hnd, hmem⟩, -⟩ := h
  have hl : q.length = 15 := by have := congrArg List.length hq; simpa [plc] using this.symm
  match q, hl with
  | [x0, x1, x2, x3, x4, x5, x6, x7, x8, x9, x10, x11, x12, x13, x14], _ =>
    simp only [plc, List.map_cons, List.map_nil, List.cons.injEq, and_true] at hq
    exact ⟨x2, hmem _ (by simp), hq.2.2.1⟩
theorem prg_sw9 {M M' : Mm} {P p : Nat} (h : V_prg M) (hP : M.2.2 1 6 = some P) (hp : M.2.2 11 9 = some p) (e : ∀ a j, ¬ (a = 1 ∧ j = 6) → ¬ (a = 11 ∧ j = 9) → M'.2.2 a j = M.2.2 a j) (e1 : M'.2.2 1 6 = some p) (e2 : M'.2.2 11 9 = some P) : V_prg M' := by
  obtain ⟨⟨q, hq, hnd, hmem⟩, hz⟩ := h
  have hl : q.length = 15 := by have := congrArg List.length hq; simpa [plc] using this.symm
  refine ⟨?_, fun j hj => by rw [e 17 j (by omega) (by omega)]; exact hz j hj⟩
  match q, hl with
  | [x0, x1, x2, x3, x4, x5, x6, x7, x8, x9, x10, x11, x12, x13, x14], _ =>
    simp only [plc, List.map_cons, List.map_nil, List.cons.injEq, and_true] at hq
    obtain ⟨a0, a1, a2, a3, a4, a5, a6, a7, a8, a9, a10, a11, a12, a13, a14⟩ := hq
    have b0 : P = x0 := by rw [hP, Option.some.injEq] at a0; exact a0
    have b2 : p = x2 := by rw [hp, Option.some.injEq] at a2; exact a2
    refine ⟨[x2, x1, x0, x3, x4, x5, x6, x7, x8, x9, x10, x11, x12, x13, x14], ?_, nd_sw (l1 := [x1]) (l2 := [x3, x4, x5, x6, x7, x8, x9, x10, x11, x12, x13, x14]) hnd, fun y hy => hmem y (mem_sw (l1 := [x1]) (l2 := [x3, x4, x5, x6, x7, x8, x9, x10, x11, x12, x13, x14]) hy)⟩
    simp only [plc, List.map_cons, List.map_nil, e1, e2, b0, b2, e 11 8 (by omega) (by omega), e 12 0 (by omega) (by omega), e 12 1 (by omega) (by omega), e 12 2 (by omega) (by omega), e 12 3 (by omega) (by omega), e 13 0 (by omega) (by omega), e 13 1 (by omega) (by omega), e 13 2 (by omega) (by omega), e 14 0 (by omega) (by omega), e 14 1 (by omega) (by omega), e 14 2 (by omega) (by omega), e 14 3 (by omega) (by omega), e 14 4 (by omega) (by omega), a1, a3, a4, a5, a6, a7, a8, a9, a10, a11, a12, a13, a14]
/-- what reading changed, what was told apart -/
def dNx (P : Nat) : Nat → Nat → Bool := fun b j => (b == 1 && (j == 1 || j == 2 || j == 3 || j == 5)) || b == 3 || (P ≤ b && b ≤ P + 5 : Bool) || (b == 142 && ((4 ≤ j && j ≤ 8 : Bool) || j == 13)) || ((b == 145 || b == 146 || b == 148) && (73 ≤ j : Bool)) || (b == 147 && (64 * 73 ≤ j : Bool))
/-- the memory between: all that reading changed, the question in its place -/
def midN (P : Nat) (M m : Mm) : Mm := (fun b j => if dNx P b j = true then m.1 b j else M.1 b j, M.2.1, m.2.2)
theorem V_mid {M m : Mm} {P p9 : Nat} (hV : V M) (hP : P ∈ PR) (h6 : M.2.2 1 6 = some P) (h9 : M.2.2 11 9 = some p9) (r : ∀ b j, m.2.2 b j = if b = 11 ∧ j = 9 then some P else if b = 1 ∧ j = 6 then some p9 else M.2.2 b j) (e1 : m.1 1 1 = 0) (e4 : m.1 142 4 = 0) : V (midN P M m) := by
  have hh := hV
  obtain ⟨h1', h2', h3', h4', h5', h6', h7', h8', h9', h10', h11', h12', h13', h14', h15', h16', h17', h18', h19'⟩ := hh
  obtain ⟨P', q1, q2, q3, q4, q5, q7⟩ := prg_ne h10'
  have eP : P' = P := by rw [h6, Option.some.injEq] at q2; exact q2.symm
  subst eP
  have I : ∀ b j, Drd P' b j = false → (midN P' M m).1 b j = M.1 b j := fun b j hb => by
    show (if dNx P' b j = true then m.1 b j else M.1 b j) = _
    rw [if_neg]
    intro z
    unfold Drd at hb
    unfold dNx at z
    simp only [Bool.or_eq_false_iff, Bool.or_eq_true, Bool.and_eq_true, Bool.and_eq_false_iff, beq_iff_eq, beq_eq_false_iff_ne, decide_eq_true_eq, decide_eq_false_iff_not] at *
    omega
  have I3 : ∀ b j, D3 b j = false → (midN P' M m).1 b j = M.1 b j := fun b j hb => I b j (Drd_D3 hP hb)
  have R3 : ∀ a, (∀ j, D3 a j = false) → (midN P' M m).1 a = M.1 a := fun a ha => funext fun j => I3 a j (ha j)
  have ng : ∀ p, p ≠ P' ∧ p ∈ PR → AGP M (midN P' M m) p := fun p hp => AGP_rd hP hp.2 hp.1 I
  have rn : ∀ b, b ≠ 1 → b ≠ 11 → (midN P' M m).2.2 b = M.2.2 b := fun b w1 w2 => funext fun j => by
    show m.2.2 b j = _
    rw [r, if_neg (by omega), if_neg (by omega)]
  have hP2 : ∀ P ∈ PR, (4 ≤ P ∧ P + 5 ≤ 9) ∨ (20 ≤ P ∧ P + 5 ≤ 103) := by decide
  have hPr := hP2 P' hP
  have dn : ∀ b j, (b = 116 ∨ (b = 142 ∧ (j = 1 ∨ j = 19))) → (midN P' M m).1 b j = M.1 b j := fun b j hb => by
    show (if dNx P' b j = true then m.1 b j else M.1 b j) = _
    rw [if_neg]
    intro z
    unfold dNx at z
    simp only [Bool.or_eq_true, Bool.and_eq_true, beq_iff_eq, decide_eq_true_eq] at z
    omega
  have nz : ∀ b j, dNx P' b j = true → (midN P' M m).1 b j = m.1 b j := fun b j hb => if_pos hb
  refine V_mk3 hV I3 (fun _ _ => rfl) (FX_pl (M := M) (fun b j hb => by show m.2.2 b j = _; rw [r, if_neg (by omega), if_neg (by omega)]) h1') (rn 10 (by omega) (by omega)) ⟨0, by omega, (nz 1 1 rfl).trans e1, (nz 142 4 ?_).trans e4, fun j hj => absurd hj (by omega)⟩ (V_told_ag (dn _ _ (by omega)) (dn _ _ (by omega)) rfl rfl h7') (prg_sw9 h10' h6 h9 (fun b j w1 w2 => by show m.2.2 b j = _; rw [r, if_neg w2, if_neg w1]) (by show m.2.2 1 6 = _; rw [r, if_neg (by omega), if_pos ⟨rfl, rfl⟩]) (by show m.2.2 11 9 = _; rw [r, if_pos ⟨rfl, rfl⟩])) (V_task_pr (rn 12 (by omega) (by omega)) (fun t p ht hp => ng p (q4 t p ht hp)) (fun r' hr => AGR_rd hP (by omega) I) (I3 _ _ rfl) (R3 _ fun _ => rfl) (R3 _ fun _ => rfl) (R3 _ fun _ => rfl) h11') (V_must_pr (by show m.2.2 11 8 = _; rw [r, if_neg (by omega), if_neg (by omega)]) (fun p hp => ng p (q3 p hp)) (AGR_rd hP (by omega) I) (dn _ _ (by omega)) h12') (V_bolt_pr (rn 13 (by omega) (by omega)) (fun b p hb hp => ng p (q5 b p hb hp)) (fun b hb => AGR_rd hP (by omega) I) (I3 _ _ rfl) h13') (V_ptch_pr (rn 14 (by omega) (by omega)) (fun j p hj hp => ng p (q7 j p hj hp)) (fun j hj => AGR_rd hP (by omega) I) (I3 _ _ rfl) (I3 _ _ rfl) (R3 _ fun _ => rfl) (R3 _ fun _ => rfl) (R3 _ fun _ => rfl) (R3 _ fun _ => rfl) h14')
  unfold dNx
  simp
