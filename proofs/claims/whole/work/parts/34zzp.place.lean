/-! the programs and their places; V of a memory where one was written -/
def AGP (M M' : Mm) (p : Nat) : Prop := ∀ i, i < 6 → M'.1 (p + i) = M.1 (p + i)
def AGR (M M' : Mm) (r : Nat) : Prop := M'.1 145 r = M.1 145 r ∧ M'.1 146 r = M.1 146 r ∧ M'.1 148 r = M.1 148 r ∧ ∀ j, j < 64 → M'.1 147 (64 * r + j) = M.1 147 (64 * r + j)
theorem Rw_pr {M M' : Mm} {r : Nat} {e : List Nat} (hr : AGR M M' r) (he : e.length ≤ 60) (h : RwM M r e) : RwM M' r e := ⟨by rw [hr.2.2.1]; exact h.1, fun j hj => by rw [hr.2.2.2 j (by omega)]; exact h.2 j hj⟩
theorem LN_pr {M M' : Mm} {p i r : Nat} (hp : AGP M M' p) (hr : AGR M M' r) (h : LN M p i r) : LN M' p i r := by
  obtain ⟨kd, nu, e, ho, ⟨c1, c2, s, c3, c4, c5, c6⟩, ⟨m1, m2, m3⟩⟩ := h
  refine ⟨kd, nu, e, ho, ⟨?_, ?_, s, c3, ?_, ?_, ?_⟩, ⟨by rw [hr.1]; exact m1, by rw [hr.2.1]; exact m2, Rw_pr hr (by omega) m3⟩⟩
  · rw [hp 2 (by omega)]; exact c1
  · rw [hp 3 (by omega)]; exact c2
  · rw [hp 4 (by omega)]; exact c4
  · rw [hp 4 (by omega)]; exact c5
  · rw [hp 5 (by omega)]; exact c6
theorem XP_pr {M M' : Mm} {p r : Nat} (hp : AGP M M' p) (hr : AGR M M' r) (h : XP M p r) : XP M' p r := by
  obtain ⟨h1, e, h2, h3, h4, h5, h6⟩ := h
  have p0 := hp 0 (by omega)
  rw [Nat.add_zero] at p0
  refine ⟨by rw [p0]; exact h1, e, h2, ?_, ?_, ?_, Rw_pr hr h2.2 h6⟩
  · rw [hp 4 (by omega)]; exact h3
  · rw [hp 4 (by omega)]; exact h4
  · rw [hp 5 (by omega)]; exact h5
theorem V_task_pr {M M' : Mm} (e : M'.2.2 12 = M.2.2 12) (hp : ∀ t p, t < 4 → M.2.2 12 t = some p → AGP M M' p) (hr : ∀ r, r < 64 → AGR M M' r) (f : M'.1 11 10 = M.1 11 10) (e0 : M'.1 150 = M.1 150) (e1 : M'.1 151 = M.1 151) (e2 : M'.1 152 = M.1 152) (h : V_task M) : V_task M' := by
  intro t ht hl
  rw [f] at hl
  obtain ⟨p, n, z, hpr, h1, h2, h3, h4, h5, h6, h7, h8, h9, h10⟩ := h t ht hl
  have ha := hp t p ht h1
  have p0 := ha 0 (by omega)
  rw [Nat.add_zero] at p0
  refine ⟨p, n, z, hpr, by rw [e]; exact h1, h2, h3, h4, by rw [p0]; exact h5, by rw [e0]; exact h6, fun i hi => LN_pr ha (hr _ (by omega)) (h7 i hi), by rw [p0]; exact h8, by rw [e2]; exact h9, ?_⟩
  rw [ha 1 (by omega), e1]
  exact h10
theorem V_bolt_pr {M M' : Mm} (e : M'.2.2 13 = M.2.2 13) (hp : ∀ b p, b < 3 → M.2.2 13 b = some p → AGP M M' p) (hr : ∀ b, b < 3 → AGR M M' (70 + b)) (f : M'.1 11 11 = M.1 11 11) (h : V_bolt M) : V_bolt M' := by
  intro b hb hl
  rw [f] at hl
  obtain ⟨p, hpr, h1, h2⟩ := h b hb hl
  exact ⟨p, hpr, by rw [e]; exact h1, XP_pr (hp b p hb h1) (hr b hb) h2⟩
theorem V_must_pr {M M' : Mm} (e : M'.2.2 11 8 = M.2.2 11 8) (hp : ∀ p, M.2.2 11 8 = some p → AGP M M' p) (hr : AGR M M' 69) (f : M'.1 142 19 = M.1 142 19) (h : V_must M) : V_must M' := by
  obtain ⟨p, hpr, h1, h2⟩ := h
  have ha := hp p h1
  have p0 := ha 0 (by omega)
  rw [Nat.add_zero] at p0
  refine ⟨p, hpr, by rw [e]; exact h1, ?_⟩
  rw [f, p0]
  exact h2.imp id (fun q => ⟨q.1, XP_pr ha hr q.2⟩)
theorem V_ptch_pr {M M' : Mm} (e : M'.2.2 14 = M.2.2 14) (hp : ∀ j p, j < 5 → M.2.2 14 j = some p → AGP M M' p) (hr : ∀ j, j < 5 → AGR M M' (64 + j)) (f : M'.1 11 12 = M.1 11 12) (f2 : M'.1 11 10 = M.1 11 10) (g1 : M'.1 15 = M.1 15) (g2 : M'.1 16 = M.1 16) (g3 : M'.1 158 = M.1 158) (g4 : M'.1 159 = M.1 159) (h : V_ptch M) : V_ptch M' := by
  intro j hj hl
  rw [f] at hl
  obtain ⟨p, hpr, h1, h2, h3, h4⟩ := h j hj hl
  have ha := hp j p hj h1
  have p0 := ha 0 (by omega)
  rw [Nat.add_zero] at p0
  refine ⟨p, hpr, by rw [e]; exact h1, by rw [p0]; exact h2, LN_pr ha (hr j hj) h3, ?_⟩
  rw [f2, g1, g2, g3, g4]
  exact h4
/-- what reading may change, the programs apart -/
def D3 : Nat → Nat → Bool := fun b j => (1 ≤ b && b ≤ 9 : Bool) || b == 19 || (20 ≤ b && b ≤ 103 : Bool) || b == 116 || b == 149 || (b == 142 && (j == 0 || j == 1 || (4 ≤ j && j ≤ 8 : Bool) || j == 13 || j == 19)) || (144 ≤ b && b ≤ 148 : Bool)
def E3 : Nat → Bool := fun b => b == 117 || b == 143
theorem V_mk3 {M M' : Mm} (h : V M) (I : ∀ b j, D3 b j = false → M'.1 b j = M.1 b j) (J : ∀ b, E3 b = false → M'.2.1 b = M.2.1 b) (hF : FX M') (r10 : M'.2.2 10 = M.2.2 10) (w1 : V_txt M') (w2 : V_told M') (w10 : V_prg M') (w11 : V_task M') (w12 : V_must M') (w13 : V_bolt M') (w14 : V_ptch M') : V M' := by
  obtain ⟨h1, h2, h3, h4, h5, h6, h7, h8, h9, h10, h11, h12, h13, h14, h15, h16, h17, h18, h19⟩ := h
  have R : ∀ a, (∀ j, D3 a j = false) → M'.1 a = M.1 a := fun a ha => funext fun j => I a j (ha j)
  have rg : ∀ a, ((121 ≤ a ∧ a ≤ 141) ∨ (150 ≤ a ∧ a ≤ 152) ∨ (157 ≤ a ∧ a ≤ 159) ∨ (177 ≤ a ∧ a ≤ 183) ∨ (185 ≤ a ∧ a ≤ 190)) → M'.1 a = M.1 a := fun a ha => R a (fun j => by
    unfold D3; simp only [Bool.or_eq_false_iff, Bool.and_eq_false_iff, beq_eq_false_iff_ne, decide_eq_false_iff_not]; omega)
  have jg : ∀ a, ((118 ≤ a ∧ a ≤ 141) ∨ (175 ≤ a ∧ a ≤ 190)) → M'.2.1 a = M.2.1 a := fun a ha => J a (by unfold E3; simp only [Bool.or_eq_false_iff, beq_eq_false_iff_ne]; omega)
  exact ⟨hF, w1, V_typ_ag (I _ _ rfl) (I _ _ rfl) (R _ fun _ => rfl) (R _ fun _ => rfl) h3, V_spd_ag (R _ fun _ => rfl) (R _ fun _ => rfl) h4, V_key_ag (I _ _ rfl) (I _ _ rfl) h5, V_wgt_ag (R _ fun _ => rfl) (R _ fun _ => rfl) (R _ fun _ => rfl) (R _ fun _ => rfl) h6, w2, V_last_ag (I _ _ rfl) (I _ _ rfl) (R _ fun _ => rfl) (I _ _ rfl) (I _ _ rfl) (I _ _ rfl) (I _ _ rfl) h8, V_cnt_ag (I _ _ rfl) (I _ _ rfl) (I _ _ rfl) (I _ _ rfl) (I _ _ rfl) (I _ _ rfl) (I _ _ rfl) (I _ _ rfl) (I _ _ rfl) h9, w10, w11, w12, w13, w14, V_now_ag (R _ fun _ => rfl) (R _ fun _ => rfl) (R _ fun _ => rfl) (R _ fun _ => rfl) (J _ rfl) (I _ _ rfl) (rg _ (by omega)) h15, V_kept_ag (fun a h1 h2 => ⟨rg a (by omega), jg a (by omega)⟩) (fun a h1 h2 => ⟨rg a (by omega), jg a (by omega)⟩) (I _ _ rfl) (I _ _ rfl) (rg _ (by omega)) h16, V_walk_ag (I _ _ rfl) (R _ fun _ => rfl) (R _ fun _ => rfl) r10 h17, V_hous_ag (rg _ (by omega)) (I _ _ rfl) (I _ _ rfl) (fun a h1 h2 => rg a (by omega)) (fun a h1 h2 => rg a (by omega)) h18, V_tell_ag (rg _ (by omega)) (fun a h1 h2 => rg a (by omega)) h19⟩
theorem pr_dis : ∀ p ∈ PR, ∀ P ∈ PR, p ≠ P → ∀ i, i < 6 → ∀ j, j < 6 → p + i ≠ P + j := by decide +kernel
/-- the program that is written is none of the others -/
theorem prg_ne {M : Mm} (h : V_prg M) : ∃ P, P ∈ PR ∧ M.2.2 1 6 = some P ∧ (∀ p, M.2.2 11 8 = some p → p ≠ P ∧ p ∈ PR) ∧ (∀ t p, t < 4 → M.2.2 12 t = some p → p ≠ P ∧ p ∈ PR) ∧ (∀ b p, b < 3 → M.2.2 13 b = some p → p ≠ P ∧ p ∈ PR) ∧ (∀ j p, j < 5 → M.2.2 14 j = some p → p ≠ P ∧ p ∈ PR) := by
  obtain ⟨⟨q, hq, hnd, hmem⟩, _⟩ := h
  have hl : q.length = 15 := by have := congrArg List.length hq; simpa [plc] using this.symm
  match q, hl with
  | [x0, x1, x2, x3, x4, x5, x6, x7, x8, x9, x10, x11, x12, x13, x14], _ =>
    simp only [plc, List.map_cons, List.map_nil, List.cons.injEq, and_true] at hq
    obtain ⟨e0, e1, e2, e3, e4, e5, e6, e7, e8, e9, e10, e11, e12, e13, e14⟩ := hq
    have hn : ∀ y, y ∈ [x1, x2, x3, x4, x5, x6, x7, x8, x9, x10, x11, x12, x13, x14] → y ≠ x0 := fun y hy z => (List.nodup_cons.mp hnd).1 (by rw [← z]; exact hy)
    have key : ∀ y, y ∈ [x1, x2, x3, x4, x5, x6, x7, x8, x9, x10, x11, x12, x13, x14] → y ≠ x0 ∧ y ∈ PR := fun y hy => ⟨hn y hy, hmem y (List.mem_cons_of_mem _ hy)⟩
    refine ⟨x0, hmem x0 (by simp), e0, fun p hp => ?_, fun t p ht hp => ?_, fun b p hb hp => ?_, fun j p hj hp => ?_⟩
    · rw [e1, Option.some.injEq] at hp; rw [← hp]; exact key _ (by simp)
    · have : t = 0 ∨ t = 1 ∨ t = 2 ∨ t = 3 := by omega
      rcases this with rfl | rfl | rfl | rfl
      · rw [e3, Option.some.injEq] at hp; rw [← hp]; exact key _ (by simp)
      · rw [e4, Option.some.injEq] at hp; rw [← hp]; exact key _ (by simp)
      · rw [e5, Option.some.injEq] at hp; rw [← hp]; exact key _ (by simp)
      · rw [e6, Option.some.injEq] at hp; rw [← hp]; exact key _ (by simp)
    · have : b = 0 ∨ b = 1 ∨ b = 2 := by omega
      rcases this with rfl | rfl | rfl
      · rw [e7, Option.some.injEq] at hp; rw [← hp]; exact key _ (by simp)
      · rw [e8, Option.some.injEq] at hp; rw [← hp]; exact key _ (by simp)
      · rw [e9, Option.some.injEq] at hp; rw [← hp]; exact key _ (by simp)
    · have : j = 0 ∨ j = 1 ∨ j = 2 ∨ j = 3 ∨ j = 4 := by omega
      rcases this with rfl | rfl | rfl | rfl | rfl
      · rw [e10, Option.some.injEq] at hp; rw [← hp]; exact key _ (by simp)
      · rw [e11, Option.some.injEq] at hp; rw [← hp]; exact key _ (by simp)
      · rw [e12, Option.some.injEq] at hp; rw [← hp]; exact key _ (by simp)
      · rw [e13, Option.some.injEq] at hp; rw [← hp]; exact key _ (by simp)
      · rw [e14, Option.some.injEq] at hp; rw [← hp]; exact key _ (by simp)
/-- what reading an expression alone may change -/
def Drd (P : Nat) : Nat → Nat → Bool := fun b j => (b == 1 && (j == 1 || j == 2 || j == 3 || j == 5)) || b == 3 || (P ≤ b && b ≤ P + 5 : Bool) || b == 19 || (b == 116 && j == 1) || b == 149 || (b == 142 && (j == 0 || j == 1 || (4 ≤ j && j ≤ 8 : Bool) || j == 13)) || ((b == 145 || b == 146 || b == 148) && (73 ≤ j : Bool)) || (b == 147 && (64 * 73 ≤ j : Bool))
theorem Drd_D3 {P b j : Nat} (hP : P ∈ PR) (h : D3 b j = false) : Drd P b j = false := by
  have h1 : (4 ≤ P ∧ P + 5 ≤ 9) ∨ (20 ≤ P ∧ P + 5 ≤ 103) := by
    have : ∀ P ∈ PR, (4 ≤ P ∧ P + 5 ≤ 9) ∨ (20 ≤ P ∧ P + 5 ≤ 103) := by decide
    exact this P hP
  unfold D3 at h
  unfold Drd
  simp only [Bool.or_eq_false_iff, Bool.and_eq_false_iff, beq_eq_false_iff_ne, decide_eq_false_iff_not] at *
  omega
theorem AGP_rd {M M' : Mm} {P p : Nat} (hP : P ∈ PR) (hp : p ∈ PR) (hne : p ≠ P) (I : ∀ b j, Drd P b j = false → M'.1 b j = M.1 b j) : AGP M M' p := by
  intro i hi
  funext j
  refine I _ _ ?_
  have h1 : ∀ p ∈ PR, (4 ≤ p ∧ p + 5 ≤ 9) ∨ (20 ≤ p ∧ p + 5 ≤ 103) := by decide
  have h2 := h1 p hp
  have h3 : ∀ k, k < 6 → p + i ≠ P + k := fun k hk => pr_dis p hp P hP hne i hi k hk
  have h4 := h3 0 (by omega)
  have h5 := h3 1 (by omega)
  have h6 := h3 2 (by omega)
  have h7 := h3 3 (by omega)
  have h8 := h3 4 (by omega)
  have h9 := h3 5 (by omega)
  unfold Drd
  simp only [Bool.or_eq_false_iff, Bool.and_eq_false_iff, beq_eq_false_iff_ne, decide_eq_false_iff_not]
  omega
theorem AGR_rd {M M' : Mm} {P r : Nat} (hP : P ∈ PR) (hr : r < 73) (I : ∀ b j, Drd P b j = false → M'.1 b j = M.1 b j) : AGR M M' r := by
  have h1 : P + 5 ≤ 103 := by
    have : ∀ P ∈ PR, P + 5 ≤ 103 := by decide
    exact this P hP
  have d : ∀ b j, ((b = 145 ∨ b = 146 ∨ b = 148) ∧ j < 73) ∨ (b = 147 ∧ j < 64 * 73) → Drd P b j = false := by
    intro b j h
    unfold Drd
    simp only [Bool.or_eq_false_iff, Bool.and_eq_false_iff, beq_eq_false_iff_ne, decide_eq_false_iff_not]
    omega
  exact ⟨I _ _ (d _ _ (by omega)), I _ _ (d _ _ (by omega)), I _ _ (d _ _ (by omega)), fun j hj => I _ _ (d _ _ (by omega))⟩
/-- nothing was put to use -/
theorem V_rd {M M' : Mm} {P : Nat} (h : V M) (h6 : M.2.2 1 6 = some P) (I : ∀ b j, Drd P b j = false → M'.1 b j = M.1 b j) (J : ∀ b, E3 b = false → M'.2.1 b = M.2.1 b) (rr : M'.2.2 = M.2.2) (w1 : V_txt M') (w2 : V_told M') : V M' := by
  have hh := h
  obtain ⟨h1, h2, h3, h4, h5, h6', h7, h8, h9, h10, h11, h12, h13, h14, h15, h16, h17, h18, h19⟩ := hh
  obtain ⟨P', q1, q2, q3, q4, q5, q7⟩ := prg_ne h10
  have e : P' = P := by rw [h6, Option.some.injEq] at q2; exact q2.symm
  subst e
  have hP5 : P' + 5 ≤ 103 := by
    have : ∀ P ∈ PR, P + 5 ≤ 103 := by decide
    exact this P' q1
  have h18' : (4 ≤ P' ∧ P' + 5 ≤ 9) ∨ (20 ≤ P' ∧ P' + 5 ≤ 103) := by
    have : ∀ P ∈ PR, (4 ≤ P ∧ P + 5 ≤ 9) ∨ (20 ≤ P ∧ P + 5 ≤ 103) := by decide
    exact this P' q1
  have I3 : ∀ b j, D3 b j = false → M'.1 b j = M.1 b j := fun b j hb => I b j (Drd_D3 q1 hb)
  have ng : ∀ p, p ≠ P' ∧ p ∈ PR → AGP M M' p := fun p hp => AGP_rd q1 hp.2 hp.1 I
  have R3 : ∀ a, (∀ j, D3 a j = false) → M'.1 a = M.1 a := fun a ha => funext fun j => I3 a j (ha j)
  refine V_mk3 h I3 J (FX_ag rr h1) (by rw [rr]) w1 w2 (V_prg_ag rr h10) (V_task_pr (by rw [rr]) (fun t p ht hp => ng p (q4 t p ht hp)) (fun r hr => AGR_rd q1 (by omega) I) (I3 _ _ rfl) (R3 _ fun _ => rfl) (R3 _ fun _ => rfl) (R3 _ fun _ => rfl) h11) (V_must_pr (by rw [rr]) (fun p hp => ng p (q3 p hp)) (AGR_rd q1 (by omega) I) (I _ _ ?_) h12) (V_bolt_pr (by rw [rr]) (fun b p hb hp => ng p (q5 b p hb hp)) (fun b hb => AGR_rd q1 (by omega) I) (I3 _ _ rfl) h13) (V_ptch_pr (by rw [rr]) (fun j p hj hp => ng p (q7 j p hj hp)) (fun j hj => AGR_rd q1 (by omega) I) (I3 _ _ rfl) (I3 _ _ rfl) (R3 _ fun _ => rfl) (R3 _ fun _ => rfl) (R3 _ fun _ => rfl) (R3 _ fun _ => rfl) h14)
  unfold Drd
  simp only [Bool.or_eq_false_iff, Bool.and_eq_false_iff, beq_eq_false_iff_ne, decide_eq_false_iff_not]
  omega
