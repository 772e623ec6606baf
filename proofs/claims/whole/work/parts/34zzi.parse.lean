/-! reading an expression, as numbers -/
/-- the letter at p; 256: none -/
def gcx (c : Nat → Nat) (len p : Nat) : Nat := if p < len then c p else 256
/-- a sign between, a sign ahead, a thing, by its letter; 0: none -/
def jt (x : Nat) : Nat := if x = 38 then 1031 else if x = 43 then 1035 else if x = 45 then 1036 else if x = 60 then 1032 else if x = 61 then 1034 else if x = 62 then 1033 else if x = 124 then 1030 else 0
def unx (x : Nat) : Nat := if x = 33 then 1037 else if x = 45 then 1038 else 0
def thx (ak : Bool) (x : Nat) : Nat := if 97 ≤ x ∧ x ≤ 104 then 1000 + (x - 97) else if 65 ≤ x ∧ x ≤ 68 then 1010 + (x - 65) else if ak = true ∧ x = 70 then 1020 else if ak = true ∧ x = 80 then 1021 else if ak = true ∧ x = 83 then 1022 else if ak = true ∧ x = 87 then 1023 else 0
def dgx (x : Nat) : Bool := decide (48 ≤ x ∧ x ≤ 57)
def cmpx (x : Nat) : Bool := decide (x = 60 ∨ x = 61 ∨ x = 62)
/-- how strong a sign binds -/
def rkx (x : Nat) : Nat := if x = 1030 then 1 else if x = 1031 then 2 else if x = 1032 then 3 else if x = 1033 then 3 else if x = 1034 then 3 else if x = 1035 then 4 else if x = 1036 then 4 else if x = 1037 then 5 else if x = 1038 then 5 else if x = 1039 then 0 else 5
/-- a number of at most k digits -/
def nmv (c : Nat → Nat) (len : Nat) : Nat → Nat → Nat → Nat × Nat
  | 0, p, a => (a, p)
  | k + 1, p, a => if dgx (gcx c len p) = true then nmv c len k (p + 1) (10 * a + gcx c len p - 48) else (a, p)
def LPx (w : Nat) : Prop := w = 0 ∨ w = 1 ∨ w = 3
def opw (w x : Nat) : Bool := if w = 0 then decide (x = 124) else if w = 1 then decide (x = 38) else decide (x = 43 ∨ x = 45)
/-- kinds 0 some, 1 every, 2 compared, 3 total, 4 ahead, 5 thing; w + 10: goes on behind the first of w. From p, d brackets open, a read before: read (b), to q, e read -/
def RX (c : Nat → Nat) (len : Nat) (ak : Bool) : Nat → Nat → Nat → Nat → List Nat → Bool → Nat → List Nat → Prop
  | 0, _, _, _, _, _, _, _ => False
  | n + 1, k, p, d, a, b, q, e =>
    (LPx k ∧ a = [] ∧ ((b = false ∧ ∃ e0, RX c len ak n (k + 1) p d [] false q e0) ∨ ∃ q1 e1, RX c len ak n (k + 1) p d [] true q1 e1 ∧ RX c len ak n (k + 10) q1 d e1 b q e))
    ∨ (∃ w, LPx w ∧ k = w + 10 ∧ ((opw w (gcx c len p) = false ∧ b = true ∧ q = p ∧ e = a) ∨ (opw w (gcx c len p) = true ∧ ((b = false ∧ ∃ e0, RX c len ak n (w + 1) (p + 1) d [] false q e0) ∨ ∃ q1 e1, RX c len ak n (w + 1) (p + 1) d [] true q1 e1 ∧ RX c len ak n (w + 10) q1 d (a ++ e1 ++ [jt (gcx c len p)]) b q e))))
    ∨ (k = 2 ∧ a = [] ∧ ((b = false ∧ ∃ e0, RX c len ak n 3 p d [] false q e0) ∨ ∃ q1 e1, RX c len ak n 3 p d [] true q1 e1 ∧ ((cmpx (gcx c len q1) = false ∧ b = true ∧ q = q1 ∧ e = e1) ∨ (cmpx (gcx c len q1) = true ∧ ((b = false ∧ ∃ e0, RX c len ak n 3 (q1 + 1) d [] false q e0) ∨ ∃ e2, b = true ∧ RX c len ak n 3 (q1 + 1) d [] true q e2 ∧ e = e1 ++ e2 ++ [jt (gcx c len q1)])))))
    ∨ (k = 4 ∧ a = [] ∧ ((unx (gcx c len p) ≠ 0 ∧ ((b = false ∧ ∃ e0, RX c len ak n 4 (p + 1) d [] false q e0) ∨ ∃ e1, b = true ∧ RX c len ak n 4 (p + 1) d [] true q e1 ∧ e = e1 ++ [unx (gcx c len p)])) ∨ (unx (gcx c len p) = 0 ∧ RX c len ak n 5 p d [] b q e)))
    ∨ (k = 5 ∧ a = [] ∧ ((dgx (gcx c len p) = true ∧ b = true ∧ q = (nmv c len 3 p 0).2 ∧ e = [(nmv c len 3 p 0).1])
      ∨ (thx ak (gcx c len p) ≠ 0 ∧ b = true ∧ q = p + 1 ∧ e = [thx ak (gcx c len p)])
      ∨ (dgx (gcx c len p) = false ∧ thx ak (gcx c len p) = 0 ∧ gcx c len p ≠ 40 ∧ b = false ∧ q = p)
      ∨ (gcx c len p = 40 ∧ d = 5 ∧ b = false ∧ q = p)
      ∨ (gcx c len p = 40 ∧ d ≠ 5 ∧ ((b = false ∧ ∃ e0, RX c len ak n 0 (p + 1) (d + 1) [] false q e0) ∨ ∃ q1 e1, RX c len ak n 0 (p + 1) (d + 1) [] true q1 e1 ∧ ((gcx c len q1 = 41 ∧ b = true ∧ q = q1 + 1 ∧ e = e1) ∨ (gcx c len q1 ≠ 41 ∧ b = false ∧ q = q1))))))
theorem gcx_lt {c : Nat → Nat} {len p : Nat} (h : gcx c len p ≠ 256) : p < len := by
  unfold gcx at h
  split at h
  · assumption
  · exact absurd rfl h
theorem op_lt {c : Nat → Nat} {len w p : Nat} (hw : LPx w) (h : opw w (gcx c len p) = true) : p < len := by
  refine gcx_lt (c := c) (fun z => ?_)
  rw [z] at h
  rcases hw with rfl | rfl | rfl <;> simp [opw] at h
theorem nmv_bd {c : Nat → Nat} {len : Nat} : ∀ (k p a : Nat), p ≤ (nmv c len k p a).2 ∧ (p ≤ len → (nmv c len k p a).2 ≤ len)
  | 0, p, a => ⟨Nat.le_refl _, fun h => h⟩
  | k + 1, p, a => by
    unfold nmv
    split
    · rename_i h
      have hl : p < len := gcx_lt (c := c) (fun z => by rw [z] at h; simp [dgx] at h)
      obtain ⟨h1, h2⟩ := nmv_bd (c := c) (len := len) k (p + 1) (10 * a + gcx c len p - 48)
      exact ⟨by omega, fun _ => h2 (by omega)⟩
    · exact ⟨Nat.le_refl _, fun h => h⟩
theorem nmv_bd1 {c : Nat → Nat} {len p : Nat} (h : dgx (gcx c len p) = true) : p < (nmv c len 3 p 0).2 ∧ (nmv c len 3 p 0).2 ≤ len := by
  have hl : p < len := gcx_lt (c := c) (fun z => by rw [z] at h; simp [dgx] at h)
  have := nmv_bd (c := c) (len := len) 2 (p + 1) (10 * 0 + gcx c len p - 48)
  have e : nmv c len 3 p 0 = nmv c len 2 (p + 1) (10 * 0 + gcx c len p - 48) := by
    conv => lhs; unfold nmv
    rw [if_pos h]
  rw [e]
  exact ⟨Nat.lt_of_lt_of_le (Nat.lt_succ_self p) this.1, this.2 (by omega)⟩
theorem nmv_v {c : Nat → Nat} {len : Nat} : ∀ (k p a : Nat), (nmv c len k p a).1 < 10 ^ k * (a + 1)
  | 0, p, a => by show a < 1 * (a + 1); omega
  | k + 1, p, a => by
    unfold nmv
    split
    · rename_i h
      have hd : 48 ≤ gcx c len p ∧ gcx c len p ≤ 57 := by simpa [dgx] using h
      have := nmv_v (c := c) (len := len) k (p + 1) (10 * a + gcx c len p - 48)
      have e : 10 ^ (k + 1) * (a + 1) = 10 ^ k * (10 * (a + 1)) := by rw [Nat.pow_succ, Nat.mul_assoc]
      rw [e]
      exact Nat.lt_of_lt_of_le this (Nat.mul_le_mul_left _ (by omega))
    · have : 1 ≤ 10 ^ (k + 1) := Nat.le_trans (Nat.one_le_two_pow (n := k + 1)) (Nat.pow_le_pow_left (by omega) _)
      show a < _
      exact Nat.lt_of_lt_of_le (Nat.lt_succ_self a) (by have := Nat.mul_le_mul_right (a + 1) this; omega)
theorem th_lt {ak : Bool} {c : Nat → Nat} {len p : Nat} (h : thx ak (gcx c len p) ≠ 0) : p < len := by
  refine gcx_lt (c := c) (fun z => h ?_)
  rw [z]; simp [thx]
theorem un_lt {c : Nat → Nat} {len p : Nat} (h : unx (gcx c len p) ≠ 0) : p < len := by
  refine gcx_lt (c := c) (fun z => h ?_)
  rw [z]; simp [unx]
theorem cmp_lt {c : Nat → Nat} {len p : Nat} (h : cmpx (gcx c len p) = true) : p < len := by
  refine gcx_lt (c := c) (fun z => ?_)
  rw [z] at h; simp [cmpx] at h
theorem RX_bd {c : Nat → Nat} {len : Nat} {ak : Bool} : ∀ (n k p d : Nat) (a : List Nat) (b : Bool) (q : Nat) (e : List Nat), RX c len ak n k p d a b q e → (k < 10 → b = true → p < q ∧ q ≤ len ∧ e.length + p ≤ q) ∧ (10 ≤ k → b = true → p ≤ q ∧ (p ≤ len → q ≤ len) ∧ e.length + p ≤ a.length + q) ∧ (b = false → p ≤ q ∧ (p ≤ len → q ≤ len))
  | 0, _, _, _, _, _, _, _, h => h.elim
  | n + 1, k, p, d, a, b, q, e, h => by
    have ih := RX_bd (c := c) (len := len) (ak := ak) n
    unfold RX at h
    rcases h with ⟨lp, ha, h⟩ | ⟨w, lp, hk, h⟩ | ⟨hk, ha, h⟩ | ⟨hk, ha, h⟩ | ⟨hk, ha, h⟩
    · have k3 : k ≤ 3 := by rcases lp with rfl | rfl | rfl <;> omega
      rcases h with ⟨hb, he, h⟩ | ⟨q1, e1, h1, h2⟩
      · have i1 := (ih _ _ _ _ _ _ _ h).2.2 rfl
        subst hb
        exact ⟨fun _ z => absurd z (by decide), fun z => absurd z (by omega), fun _ => i1⟩
      · have i1 := (ih _ _ _ _ _ _ _ h1).1 (by omega) rfl
        have i2 := ih _ _ _ _ _ _ _ h2
        refine ⟨fun _ hb => ?_, fun z => absurd z (by omega), fun hb => ?_⟩
        · have := i2.2.1 (by omega) hb
          refine ⟨by omega, this.2.1 i1.2.1, by omega⟩
        · have := i2.2.2 hb
          exact ⟨by omega, fun _ => this.2 i1.2.1⟩
    · have w3 : w ≤ 3 := by rcases lp with rfl | rfl | rfl <;> omega
      subst hk
      rcases h with ⟨ho, hb, hq, he⟩ | ⟨ho, h⟩
      · subst hb; subst hq; subst he
        exact ⟨fun z => absurd z (by omega), fun _ _ => ⟨Nat.le_refl _, fun h => h, Nat.le_refl _⟩, fun z => absurd z (by decide)⟩
      · have hl := op_lt lp ho
        rcases h with ⟨hb, he, h⟩ | ⟨q1, e1, h1, h2⟩
        · have i1 := (ih _ _ _ _ _ _ _ h).2.2 rfl
          subst hb
          exact ⟨fun z => absurd z (by omega), fun _ z => absurd z (by decide), fun _ => ⟨by omega, fun _ => i1.2 (by omega)⟩⟩
        · have i1 := (ih _ _ _ _ _ _ _ h1).1 (by omega) rfl
          have i2 := ih _ _ _ _ _ _ _ h2
          refine ⟨fun z => absurd z (by omega), fun _ hb => ?_, fun hb => ?_⟩
          · have := i2.2.1 (by omega) hb
            simp only [List.length_append, List.length_cons, List.length_nil] at this
            refine ⟨by omega, fun _ => this.2.1 i1.2.1, by omega⟩
          · have := i2.2.2 hb
            exact ⟨by omega, fun _ => this.2 i1.2.1⟩
    · subst hk
      rcases h with ⟨hb, he, h⟩ | ⟨q1, e1, h1, h⟩
      · have i1 := (ih _ _ _ _ _ _ _ h).2.2 rfl
        subst hb
        exact ⟨fun _ z => absurd z (by decide), fun z => absurd z (by omega), fun _ => i1⟩
      · have i1 := (ih _ _ _ _ _ _ _ h1).1 (by omega) rfl
        rcases h with ⟨ho, hb, hq, he⟩ | ⟨ho, h⟩
        · subst hb; subst hq; subst he
          exact ⟨fun _ _ => i1, fun z => absurd z (by omega), fun z => absurd z (by decide)⟩
        · have hl := cmp_lt ho
          rcases h with ⟨hb, he, h⟩ | ⟨e2, hb, h2, he⟩
          · have i2 := (ih _ _ _ _ _ _ _ h).2.2 rfl
            subst hb
            exact ⟨fun _ z => absurd z (by decide), fun z => absurd z (by omega), fun _ => ⟨by omega, fun _ => i2.2 (by omega)⟩⟩
          · have i2 := (ih _ _ _ _ _ _ _ h2).1 (by omega) rfl
            subst hb
            refine ⟨fun _ _ => ⟨by omega, i2.2.1, ?_⟩, fun z => absurd z (by omega), fun z => absurd z (by decide)⟩
            rw [he]; simp only [List.length_append, List.length_cons, List.length_nil]; omega
    · subst hk
      rcases h with ⟨hu, h⟩ | ⟨hu, h⟩
      · have hl := un_lt hu
        rcases h with ⟨hb, he, h⟩ | ⟨e1, hb, h1, he⟩
        · have i1 := (ih _ _ _ _ _ _ _ h).2.2 rfl
          subst hb
          exact ⟨fun _ z => absurd z (by decide), fun z => absurd z (by omega), fun _ => ⟨by omega, fun _ => i1.2 (by omega)⟩⟩
        · have i1 := (ih _ _ _ _ _ _ _ h1).1 (by omega) rfl
          subst hb
          refine ⟨fun _ _ => ⟨by omega, i1.2.1, ?_⟩, fun z => absurd z (by omega), fun z => absurd z (by decide)⟩
          rw [he]; simp only [List.length_append, List.length_cons, List.length_nil]; omega
      · have i1 := ih _ _ _ _ _ _ _ h
        exact ⟨fun _ hb => i1.1 (by omega) hb, fun z => absurd z (by omega), i1.2.2⟩
    · subst hk
      rcases h with ⟨hd, hb, hq, he⟩ | ⟨ht, hb, hq, he⟩ | ⟨_, _, _, hb, hq⟩ | ⟨_, _, hb, hq⟩ | ⟨hg, hd, h⟩
      · subst hb; subst hq; subst he
        have := nmv_bd1 hd
        exact ⟨fun _ _ => ⟨this.1, this.2, by simp only [List.length_cons, List.length_nil]; omega⟩, fun z => absurd z (by omega), fun z => absurd z (by decide)⟩
      · have hl := th_lt ht
        subst hb; subst hq; subst he
        exact ⟨fun _ _ => ⟨by omega, by omega, by simp only [List.length_cons, List.length_nil]; omega⟩, fun z => absurd z (by omega), fun z => absurd z (by decide)⟩
      · subst hb; subst hq
        exact ⟨fun _ z => absurd z (by decide), fun z => absurd z (by omega), fun _ => ⟨Nat.le_refl _, fun h => h⟩⟩
      · subst hb; subst hq
        exact ⟨fun _ z => absurd z (by decide), fun z => absurd z (by omega), fun _ => ⟨Nat.le_refl _, fun h => h⟩⟩
      · have hl : p < len := gcx_lt (c := c) (by omega)
        rcases h with ⟨hb, he, h⟩ | ⟨q1, e1, h1, h⟩
        · have i1 := (ih _ _ _ _ _ _ _ h).2.2 rfl
          subst hb
          exact ⟨fun _ z => absurd z (by decide), fun z => absurd z (by omega), fun _ => ⟨by omega, fun _ => i1.2 (by omega)⟩⟩
        · have i1 := (ih _ _ _ _ _ _ _ h1).1 (by omega) rfl
          rcases h with ⟨h41, hb, hq, he⟩ | ⟨h41, hb, hq⟩
          · have hl2 : q1 < len := gcx_lt (c := c) (by omega)
            subst hb; subst hq; subst he
            exact ⟨fun _ _ => ⟨by omega, by omega, by omega⟩, fun z => absurd z (by omega), fun z => absurd z (by decide)⟩
          · subst hb; subst hq
            exact ⟨fun _ z => absurd z (by decide), fun z => absurd z (by omega), fun _ => ⟨by omega, fun _ => i1.2.1⟩⟩
/-- there is an answer -/
theorem RX_ex {c : Nat → Nat} {len : Nat} {ak : Bool} : ∀ (m k p d : Nat) (a : List Nat), (k < 6 → a = [] ∧ 20 * (len - p) + (10 - k) < m) → (6 ≤ k → ∃ w, LPx w ∧ k = w + 10 ∧ 20 * (len - p) < m) → ∃ b q e, RX c len ak m k p d a b q e
  | 0, k, p, d, a, hs, hl => by
    rcases Nat.lt_or_ge k 6 with hk | hk
    · exact absurd (hs hk).2 (by omega)
    · obtain ⟨w, _, _, h⟩ := hl hk
      exact absurd h (by omega)
  | m + 1, k, p, d, a, hs, hl => by
    have sub : ∀ k' p' d', k' < 6 → 20 * (len - p') + (10 - k') < m → ∃ b q e, RX c len ak m k' p' d' [] b q e := fun k' p' d' h1 h2 => RX_ex m k' p' d' [] (fun _ => ⟨rfl, h2⟩) (fun z => absurd z (by omega))
    have subl : ∀ w p' d' e', LPx w → 20 * (len - p') < m → ∃ b q e, RX c len ak m (w + 10) p' d' e' b q e := fun w p' d' e' h1 h2 => RX_ex m (w + 10) p' d' e' (fun z => absurd z (by omega)) (fun _ => ⟨w, h1, rfl, h2⟩)
    rcases Nat.lt_or_ge k 6 with hk | hk
    · obtain ⟨ha, hm⟩ := hs hk
      subst ha
      have lpc : LPx k → ∃ b q e, RX c len ak (m + 1) k p d [] b q e := by
        intro lp
        have k3 : k ≤ 3 := by rcases lp with rfl | rfl | rfl <;> omega
        obtain ⟨b1, q1, e1, h1⟩ := sub (k + 1) p d (by omega) (by omega)
        have bd := RX_bd _ _ _ _ _ _ _ _ h1
        rcases b1 with _ | _
        · exact ⟨false, q1, [], by unfold RX; exact Or.inl ⟨lp, rfl, Or.inl ⟨rfl, e1, h1⟩⟩⟩
        · have := bd.1 (by omega) rfl
          obtain ⟨b2, q2, e2, h2⟩ := subl k q1 d e1 lp (by omega)
          exact ⟨b2, q2, e2, by unfold RX; exact Or.inl ⟨lp, rfl, Or.inr ⟨q1, e1, h1, h2⟩⟩⟩
      have h6 : LPx k ∨ k = 2 ∨ k = 4 ∨ k = 5 := by unfold LPx; omega
      rcases h6 with lp | rfl | rfl | rfl
      · exact lpc lp
      · obtain ⟨b1, q1, e1, h1⟩ := sub 3 p d (by omega) (by omega)
        have bd := RX_bd _ _ _ _ _ _ _ _ h1
        rcases b1 with _ | _
        · exact ⟨false, q1, [], by unfold RX; exact Or.inr (Or.inr (Or.inl ⟨rfl, rfl, Or.inl ⟨rfl, e1, h1⟩⟩))⟩
        · have := bd.1 (by omega) rfl
          rcases hc : cmpx (gcx c len q1) with _ | _
          · exact ⟨true, q1, e1, by unfold RX; exact Or.inr (Or.inr (Or.inl ⟨rfl, rfl, Or.inr ⟨q1, e1, h1, Or.inl ⟨hc, rfl, rfl, rfl⟩⟩⟩))⟩
          · have hl' := cmp_lt hc
            obtain ⟨b2, q2, e2, h2⟩ := sub 3 (q1 + 1) d (by omega) (by omega)
            rcases b2 with _ | _
            · exact ⟨false, q2, [], by unfold RX; exact Or.inr (Or.inr (Or.inl ⟨rfl, rfl, Or.inr ⟨q1, e1, h1, Or.inr ⟨hc, Or.inl ⟨rfl, e2, h2⟩⟩⟩⟩))⟩
            · exact ⟨true, q2, _, by unfold RX; exact Or.inr (Or.inr (Or.inl ⟨rfl, rfl, Or.inr ⟨q1, e1, h1, Or.inr ⟨hc, Or.inr ⟨e2, rfl, h2, rfl⟩⟩⟩⟩))⟩
      · by_cases hu : unx (gcx c len p) = 0
        · obtain ⟨b1, q1, e1, h1⟩ := sub 5 p d (by omega) (by omega)
          exact ⟨b1, q1, e1, by unfold RX; exact Or.inr (Or.inr (Or.inr (Or.inl ⟨rfl, rfl, Or.inr ⟨hu, h1⟩⟩)))⟩
        · have hl' := un_lt hu
          obtain ⟨b1, q1, e1, h1⟩ := sub 4 (p + 1) d (by omega) (by omega)
          rcases b1 with _ | _
          · exact ⟨false, q1, [], by unfold RX; exact Or.inr (Or.inr (Or.inr (Or.inl ⟨rfl, rfl, Or.inl ⟨hu, Or.inl ⟨rfl, e1, h1⟩⟩⟩)))⟩
          · exact ⟨true, q1, _, by unfold RX; exact Or.inr (Or.inr (Or.inr (Or.inl ⟨rfl, rfl, Or.inl ⟨hu, Or.inr ⟨e1, rfl, h1, rfl⟩⟩⟩)))⟩
      · have fin : ∀ b q e, ((dgx (gcx c len p) = true ∧ b = true ∧ q = (nmv c len 3 p 0).2 ∧ e = [(nmv c len 3 p 0).1])
      ∨ (thx ak (gcx c len p) ≠ 0 ∧ b = true ∧ q = p + 1 ∧ e = [thx ak (gcx c len p)])
      ∨ (dgx (gcx c len p) = false ∧ thx ak (gcx c len p) = 0 ∧ gcx c len p ≠ 40 ∧ b = false ∧ q = p)
      ∨ (gcx c len p = 40 ∧ d = 5 ∧ b = false ∧ q = p)
      ∨ (gcx c len p = 40 ∧ d ≠ 5 ∧ ((b = false ∧ ∃ e0, RX c len ak m 0 (p + 1) (d + 1) [] false q e0) ∨ ∃ q1 e1, RX c len ak m 0 (p + 1) (d + 1) [] true q1 e1 ∧ ((gcx c len q1 = 41 ∧ b = true ∧ q = q1 + 1 ∧ e = e1) ∨ (gcx c len q1 ≠ 41 ∧ b = false ∧ q = q1))))) → RX c len ak (m + 1) 5 p d [] b q e := by
          intro b q e h
          unfold RX
          exact Or.inr (Or.inr (Or.inr (Or.inr ⟨rfl, rfl, h⟩)))
        rcases hd : dgx (gcx c len p) with _ | _
        · by_cases ht : thx ak (gcx c len p) = 0
          · by_cases hg : gcx c len p = 40
            · have hl' : p < len := gcx_lt (c := c) (by omega)
              by_cases h5 : d = 5
              · exact ⟨false, p, [], fin _ _ _ (Or.inr (Or.inr (Or.inr (Or.inl ⟨hg, h5, rfl, rfl⟩))))⟩
              · obtain ⟨b1, q1, e1, h1⟩ := sub 0 (p + 1) (d + 1) (by omega) (by omega)
                rcases b1 with _ | _
                · exact ⟨false, q1, [], fin _ _ _ (Or.inr (Or.inr (Or.inr (Or.inr ⟨hg, h5, Or.inl ⟨rfl, e1, h1⟩⟩))))⟩
                · by_cases h41 : gcx c len q1 = 41
                  · exact ⟨true, q1 + 1, e1, fin _ _ _ (Or.inr (Or.inr (Or.inr (Or.inr ⟨hg, h5, Or.inr ⟨q1, e1, h1, Or.inl ⟨h41, rfl, rfl, rfl⟩⟩⟩))))⟩
                  · exact ⟨false, q1, [], fin _ _ _ (Or.inr (Or.inr (Or.inr (Or.inr ⟨hg, h5, Or.inr ⟨q1, e1, h1, Or.inr ⟨h41, rfl, rfl⟩⟩⟩))))⟩
            · exact ⟨false, p, [], fin _ _ _ (Or.inr (Or.inr (Or.inl ⟨hd, ht, hg, rfl, rfl⟩)))⟩
          · exact ⟨true, p + 1, _, fin _ _ _ (Or.inr (Or.inl ⟨ht, rfl, rfl, rfl⟩))⟩
        · exact ⟨true, _, _, fin _ _ _ (Or.inl ⟨hd, rfl, rfl, rfl⟩)⟩
    · obtain ⟨w, lp, hkw, hm⟩ := hl hk
      clear hl hs
      subst hkw
      have w3 : w ≤ 3 := by rcases lp with rfl | rfl | rfl <;> omega
      rcases ho : opw w (gcx c len p) with _ | _
      · exact ⟨true, p, a, by unfold RX; exact Or.inr (Or.inl ⟨w, lp, rfl, Or.inl ⟨ho, rfl, rfl, rfl⟩⟩)⟩
      · have hl' := op_lt lp ho
        obtain ⟨b1, q1, e1, h1⟩ := sub (w + 1) (p + 1) d (by omega) (by omega)
        have bd := RX_bd _ _ _ _ _ _ _ _ h1
        rcases b1 with _ | _
        · exact ⟨false, q1, [], by unfold RX; exact Or.inr (Or.inl ⟨w, lp, rfl, Or.inr ⟨ho, Or.inl ⟨rfl, e1, h1⟩⟩⟩)⟩
        · have := bd.1 (by omega) rfl
          obtain ⟨b2, q2, e2, h2⟩ := subl w q1 d (a ++ e1 ++ [jt (gcx c len p)]) lp (by omega)
          exact ⟨b2, q2, e2, by unfold RX; exact Or.inr (Or.inl ⟨w, lp, rfl, Or.inr ⟨ho, Or.inr ⟨q1, e1, h1, h2⟩⟩⟩)⟩
theorem hgt_app : ∀ (a b : List Nat) (h h' : Nat), hgt a h = some h' → hgt (a ++ b) h = hgt b h'
  | [], b, h, h', e => by
    simp only [hgt, Option.some.injEq] at e
    rw [e]; rfl
  | x :: a, b, h, h', e => by
    rw [List.cons_append]
    unfold hgt at e
    conv => lhs; unfold hgt
    split
    · rename_i h1; rw [if_pos h1] at e; exact hgt_app a b _ h' e
    · rename_i h1
      rw [if_neg h1] at e
      split
      · rename_i h2
        rw [if_pos h2] at e
        split
        · rename_i h3; rw [if_pos h3] at e; exact hgt_app a b _ h' e
        · rename_i h3; rw [if_neg h3] at e; exact absurd e (by simp)
      · rename_i h2
        rw [if_neg h2] at e
        split
        · rename_i h3
          rw [if_pos h3] at e
          split
          · rename_i h4; rw [if_pos h4] at e; exact hgt_app a b _ h' e
          · rename_i h4; rw [if_neg h4] at e; exact absurd e (by simp)
        · rename_i h3; rw [if_neg h3] at e; exact absurd e (by simp)
theorem jt_op {w x : Nat} (hw : LPx w) (h : opw w x = true) : (jt x = 1030 ∨ jt x = 1031 ∨ jt x = 1035 ∨ jt x = 1036) ∧ rkx (jt x) = w + 1 := by
  rcases hw with rfl | rfl | rfl
  · simp only [opw, if_true, decide_eq_true_eq] at h; subst h; decide
  · have h : x = 38 := by simpa [opw] using h
    subst h; decide
  · have h : x = 43 ∨ x = 45 := by simpa [opw] using h
    rcases h with rfl | rfl <;> decide
theorem jt_cmp {x : Nat} (h : cmpx x = true) : (jt x = 1032 ∨ jt x = 1033 ∨ jt x = 1034) ∧ rkx (jt x) = 3 := by
  have h : x = 60 ∨ x = 61 ∨ x = 62 := by simpa [cmpx] using h
  rcases h with rfl | rfl | rfl <;> decide
theorem un_c {x : Nat} (h : unx x ≠ 0) : (unx x = 1037 ∨ unx x = 1038) ∧ (x = 33 ∨ x = 45) := by
  unfold unx at h ⊢
  split
  · rename_i h1; exact ⟨Or.inl rfl, Or.inl h1⟩
  · rename_i h1
    rw [if_neg h1] at h
    split
    · rename_i h2; exact ⟨Or.inr rfl, Or.inr h2⟩
    · rename_i h2; rw [if_neg h2] at h; exact absurd rfl h
theorem th_c {ak : Bool} {x : Nat} (h : thx ak x ≠ 0) : cThing (thx ak x) = true ∧ thx ak x < 1030 ∧ 1000 ≤ thx ak x ∧ dgx x = false ∧ x ≠ 40 ∧ unx x = 0 := by
  have hx : x < 128 := by
    apply Classical.byContradiction
    intro hn
    apply h
    unfold thx
    repeat (first | rfl | rw [if_neg (by omega)])
  have key : ∀ ak : Bool, ∀ x, x < 128 → thx ak x ≠ 0 → cThing (thx ak x) = true ∧ thx ak x < 1030 ∧ 1000 ≤ thx ak x ∧ dgx x = false ∧ x ≠ 40 ∧ unx x = 0 := by decide +kernel
  exact key ak x hx h
theorem hgt_two {x : Nat} (h : cTwo x = true) (h1 : cThing x = false) (h2 : cOne x = false) {e1 e2 : List Nat} (i1 : ∀ k, hgt e1 k = some (k + 1)) (i2 : ∀ k, hgt e2 k = some (k + 1)) : ∀ k, hgt (e1 ++ e2 ++ [x]) k = some (k + 1) := by
  intro k
  have a := hgt_app e1 (e2 ++ [x]) k (k + 1) (i1 k)
  have b := hgt_app e2 [x] (k + 1) (k + 2) (i2 (k + 1))
  rw [List.append_assoc, a, b]
  simp [hgt, h, h1, h2]
/-- what is read can be worked -/
theorem RX_wf {c : Nat → Nat} {len : Nat} {ak : Bool} : ∀ (n k p d : Nat) (a : List Nat) (q : Nat) (e : List Nat), RX c len ak n k p d a true q e → (10 ≤ k → ∀ h, hgt a h = some (h + 1)) → ∀ h, hgt e h = some (h + 1)
  | 0, _, _, _, _, _, _, h, _ => h.elim
  | n + 1, k, p, d, a, q, e, h, hw => by
    have ih := RX_wf (c := c) (len := len) (ak := ak) n
    have tw : ∀ x, (x = 1030 ∨ x = 1031 ∨ x = 1032 ∨ x = 1033 ∨ x = 1034 ∨ x = 1035 ∨ x = 1036) → cTwo x = true ∧ cThing x = false ∧ cOne x = false := by
      intro x hx; rcases hx with rfl | rfl | rfl | rfl | rfl | rfl | rfl <;> decide
    unfold RX at h
    rcases h with ⟨lp, ha, h⟩ | ⟨w, lp, hk, h⟩ | ⟨hk, ha, h⟩ | ⟨hk, ha, h⟩ | ⟨hk, ha, h⟩
    · have k3 : k ≤ 3 := by rcases lp with rfl | rfl | rfl <;> omega
      rcases h with ⟨hb, _⟩ | ⟨q1, e1, h1, h2⟩
      · exact absurd hb (by decide)
      · exact ih _ _ _ _ _ _ h2 (fun _ => ih _ _ _ _ _ _ h1 (fun z => absurd z (by omega)))
    · have w3 : w ≤ 3 := by rcases lp with rfl | rfl | rfl <;> omega
      subst hk
      rcases h with ⟨ho, hb, hq, he⟩ | ⟨ho, h⟩
      · rw [he]; exact hw (by omega)
      · rcases h with ⟨hb, _⟩ | ⟨q1, e1, h1, h2⟩
        · exact absurd hb (by decide)
        · obtain ⟨t1, t2, t3⟩ := tw (jt (gcx c len p)) (by have := (jt_op lp ho).1; omega)
          exact ih _ _ _ _ _ _ h2 (fun _ => hgt_two t1 t2 t3 (hw (by omega)) (ih _ _ _ _ _ _ h1 (fun z => absurd z (by omega))))
    · subst hk
      rcases h with ⟨hb, _⟩ | ⟨q1, e1, h1, h⟩
      · exact absurd hb (by decide)
      · have i1 := ih _ _ _ _ _ _ h1 (fun z => absurd z (by omega))
        rcases h with ⟨ho, hb, hq, he⟩ | ⟨ho, h⟩
        · rw [he]; exact i1
        · rcases h with ⟨hb, _⟩ | ⟨e2, hb, h2, he⟩
          · exact absurd hb (by decide)
          · obtain ⟨t1, t2, t3⟩ := tw (jt (gcx c len q1)) (by have := (jt_cmp ho).1; omega)
            rw [he]
            exact hgt_two t1 t2 t3 i1 (ih _ _ _ _ _ _ h2 (fun z => absurd z (by omega)))
    · subst hk
      rcases h with ⟨hu, h⟩ | ⟨hu, h⟩
      · rcases h with ⟨hb, _⟩ | ⟨e1, hb, h1, he⟩
        · exact absurd hb (by decide)
        · have i1 := ih _ _ _ _ _ _ h1 (fun z => absurd z (by omega))
          intro k
          rw [he, hgt_app e1 _ k (k + 1) (i1 k)]
          have on : ∀ x, (x = 1037 ∨ x = 1038) → cThing x = false ∧ cOne x = true := by
            intro x hx; rcases hx with rfl | rfl <;> decide
          obtain ⟨o1, o2⟩ := on _ (un_c hu).1
          simp [hgt, o1, o2]
      · exact ih _ _ _ _ _ _ h (fun z => absurd z (by omega))
    · subst hk
      rcases h with ⟨hd, hb, hq, he⟩ | ⟨ht, hb, hq, he⟩ | ⟨_, _, _, hb, hq⟩ | ⟨_, _, hb, hq⟩ | ⟨hg, hd, h⟩
      · intro k
        have hv := nmv_v (c := c) (len := len) 3 p 0
        rw [he]
        have : cThing (nmv c len 3 p 0).1 = true := by
          simp only [cThing, Bool.or_eq_true, decide_eq_true_eq]
          exact Or.inl (Or.inl (Or.inl (by omega)))
        simp [hgt, this]
      · intro k
        rw [he]
        simp [hgt, (th_c ht).1]
      · exact absurd hb (by decide)
      · exact absurd hb (by decide)
      · rcases h with ⟨hb, _⟩ | ⟨q1, e1, h1, h⟩
        · exact absurd hb (by decide)
        · rcases h with ⟨h41, hb, hq, he⟩ | ⟨h41, hb, hq⟩
          · rw [he]; exact ih _ _ _ _ _ _ h1 (fun z => absurd z (by omega))
          · exact absurd hb (by decide)
