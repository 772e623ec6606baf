/-! the lines of a task, pure; the class reads them -/
def outs (es : Nat → List Nat) : Nat → List Nat
  | 0 => []
  | i + 1 => outs es i ++ es i
theorem outs_len (es : Nat → List Nat) (j : Nat) : (outs es (j + 1)).length = (outs es j).length + (es j).length := by
  show (outs es j ++ es j).length = _
  rw [List.length_append]
theorem outs_le (es : Nat → List Nat) {j : Nat} : ∀ k, (outs es j).length ≤ (outs es (j + k)).length
  | 0 => Nat.le_refl _
  | k + 1 => by
    have h1 := outs_le es (j := j) k
    have h2 := outs_len es (j + k)
    show _ ≤ (outs es (j + k + 1)).length
    omega
theorem outs_get (es : Nat → List Nat) {j l : Nat} (hl : l < (es j).length) : ∀ k, (outs es (j + 1 + k)).getD ((outs es j).length + l) 0 = (es j).getD l 0
  | 0 => by
    show (outs es j ++ es j).getD ((outs es j).length + l) 0 = _
    rw [List.getD_eq_getElem?_getD, List.getD_eq_getElem?_getD, List.getElem?_append_right (by omega), Nat.add_sub_cancel_left]
  | k + 1 => by
    have h1 := outs_len es j
    have h2 := outs_le es (j := j + 1) k
    show (outs es (j + 1 + k) ++ es (j + 1 + k)).getD ((outs es j).length + l) 0 = _
    rw [List.getD_eq_getElem?_getD, List.getElem?_append_left (by omega), ← List.getD_eq_getElem?_getD]
    exact outs_get es hl k
/-- line i begins at ps i, is read (bs) to qs; the last is line m -/
def LLs (c : Nat → Nat) (len : Nat) (ps qs kds nus : Nat → Nat) (bs : Nat → Bool) (es : Nat → List Nat) (m : Nat) : Prop := m ≤ 15 ∧ ps 0 = 0 ∧ (∀ i, LX c len 2000 (ps i) (bs i) (qs i) (kds i) (nus i) (es i)) ∧ (∀ i, i < m → bs i = true ∧ gcx c len (qs i) = 59 ∧ ps (i + 1) = qs i + 1) ∧ (bs m = false ∨ m = 15 ∨ gcx c len (qs m) ≠ 59)
def posL (fq : Nat → Nat) : Nat → Nat
  | 0 => 0
  | i + 1 => fq (posL fq i) + 1
theorem LLs_ex {c : Nat → Nat} {len : Nat} (hl : len ≤ 60) : ∃ ps qs kds nus bs es m, LLs c len ps qs kds nus bs es m := by
  have h : ∀ p, ∃ g : Bool × Nat × Nat × Nat × List Nat, LX c len 2000 p g.1 g.2.1 g.2.2.1 g.2.2.2.1 g.2.2.2.2 := fun p => by
    obtain ⟨b, q, kd, nu, e, h⟩ := LX_ex (c := c) (p := p) hl
    exact ⟨(b, q, kd, nu, e), h⟩
  obtain ⟨g, hg⟩ := Classical.skolem.mp h
  let ps : Nat → Nat := posL (fun p => (g p).2.1)
  have hm : ∀ k i, i + k = 15 → (∀ j, j < i → (g (ps j)).1 = true ∧ gcx c len (g (ps j)).2.1 = 59) → ∃ m, m ≤ 15 ∧ (∀ j, j < m → (g (ps j)).1 = true ∧ gcx c len (g (ps j)).2.1 = 59) ∧ ((g (ps m)).1 = false ∨ m = 15 ∨ gcx c len (g (ps m)).2.1 ≠ 59) := by
    intro k
    induction k with
    | zero => exact fun i hi hh => ⟨i, by omega, hh, Or.inr (Or.inl (by omega))⟩
    | succ k ih =>
      intro i hi hh
      by_cases h1 : (g (ps i)).1 = true ∧ gcx c len (g (ps i)).2.1 = 59
      · refine ih (i + 1) (by omega) (fun j hj => ?_)
        by_cases e : j = i
        · rw [e]; exact h1
        · exact hh j (by omega)
      · refine ⟨i, by omega, hh, ?_⟩
        rcases hb : (g (ps i)).1 with _ | _
        · exact Or.inl rfl
        · exact Or.inr (Or.inr (fun z => h1 ⟨hb, z⟩))
  obtain ⟨m, h1, h2, h3⟩ := hm 15 0 (by omega) (fun j hj => absurd hj (by omega))
  exact ⟨ps, fun i => (g (ps i)).2.1, fun i => (g (ps i)).2.2.1, fun i => (g (ps i)).2.2.2.1, fun i => (g (ps i)).1, fun i => (g (ps i)).2.2.2.2, m, h1, rfl, fun i => hg (ps i), fun i hi => ⟨(h2 i hi).1, (h2 i hi).2, rfl⟩, h3⟩
theorem LLs_bd {c : Nat → Nat} {len m : Nat} {ps qs kds nus : Nat → Nat} {bs : Nat → Bool} {es : Nat → List Nat} (hl : len ≤ 60) (h : LLs c len ps qs kds nus bs es m) : ∀ i, i ≤ m → ps i ≤ len ∧ (outs es i).length ≤ ps i
  | 0, _ => by rw [h.2.1]; exact ⟨by omega, Nat.le_refl _⟩
  | i + 1, hi => by
    have ih := LLs_bd hl h i (by omega)
    obtain ⟨h1, h2, h3⟩ := h.2.2.2.1 i (by omega)
    have bd := (LX_bd hl ih.1 (h.2.2.1 i)).1 h1
    have hq : qs i < len := gcx_lt (c := c) (by omega)
    have ol := outs_len es i
    omega
/-- what the lines' reading changes -/
def dLs (P : Nat) : Nat → Nat → Bool := fun b j => b == 3 || (b == 1 && (j == 3 || j == 5)) || (b == P && (j == 6 || j == 7)) || (P + 2 ≤ b && b ≤ P + 5 : Bool)
theorem dLn_ls {P i : Nat} {M M' : Mm} (h : Fr (dLn P i) eN M M') : Fr (dLs P) eN M M' :=
  Fr_mono (fun b j hd => by unfold dLs at hd; unfold dLn; simp only [Bool.or_eq_false_iff, Bool.and_eq_false_iff, beq_eq_false_iff_ne, decide_eq_false_iff_not] at *; omega) (fun b hd => hd) h
theorem dLs_as {P : Nat} {M M' : Mm} (h : Fr (dLs P) eN M M') : Fr (dAs P) eN M M' :=
  Fr_mono (fun b j hd => by unfold dAs at hd; unfold dLs; simp only [Bool.or_eq_false_iff, Bool.and_eq_false_iff, beq_eq_false_iff_ne, decide_eq_false_iff_not] at *; omega) (fun b hd => hd) h
theorem fLs_I {P b j : Nat} {M M' : Mm} {v : Int32} (hb : (b = P ∧ j = 6) ∨ b = P + 4) (f : Fr (dLs P) eN M M') : Fr (dLs P) eN M (stI M' b j v) := Fr_I (by
  unfold dLs
  simp only [Bool.or_eq_true, Bool.and_eq_true, beq_iff_eq, decide_eq_true_eq]
  omega) f
/-- the lines before line i are written -/
def RCx (M : Mm) (P : Nat) (kds nus : Nat → Nat) (es : Nat → List Nat) (i : Nat) : Prop := ∀ j, j < i → M.1 (P + 2) j = nI (kds j) ∧ M.1 (P + 3) j = nI (nus j) ∧ M.1 (P + 4) j = nI (outs es j).length ∧ M.1 (P + 4) (j + 1) = nI (outs es (j + 1)).length
theorem linesB {c : Nat → Nat} {n len P m i : Nat} {ps qs kds nus : Nat → Nat} {bs : Nat → Bool} {es : Nat → List Nat} {M0 M : Mm} {K : Int32 → Mm → Prop} {BK : Int32 → Mm → Prop} {EK : Mm → Prop} (hL : LLs c len ps qs kds nus bs es m) (hn : n ≤ 100) (hlen : len = if 60 < n then 60 else n)
    (hbad : (bs m = true → qs m ≠ len) → ∀ M', Fr (dLs P) eN M0 M' → K (nI (qs m)) M') (hlong : bs m = true → qs m = len → 60 < n → ∀ M', Fr (dLs P) eN M0 M' → K 60 M') (hok : bs m = true → qs m = len → n ≤ 60 → ∀ M', Fr (dLs P) eN M0 M' → M'.1 P 6 = nI (m + 1) → (∀ i, i ≤ m → LnC M' P i (kds i) (nus i) (es i)) → K (-1) M')
    (hi : i ≤ m) (hf : Fr (dLs P) eN M0 M) (hB : BRx c len P M) (hS : LSx P i M (ps i) (outs es i)) (hR : RCx M P kds nus es i)
    (hBK : i < m → ∀ M', Fr (dLs P) eN M0 M' → BRx c len P M' → LSx P (i + 1) M' (ps (i + 1)) (outs es (i + 1)) → RCx M' P kds nus es (i + 1) → BK (nI (i + 1 + 1)) M') : f_X6_readLines_B7 S0 1 (nI n) (16 : Int32) (nI (i + 1)) M BK EK K := by
  have hP := hB.2.2.1
  have hp := pr_le P hP
  have hn3 := pr_n3 P hP
  obtain ⟨sh0, sh1, sh2, sh3, sh4, sh5⟩ := pr_sh P hP
  have hle : len ≤ 60 ∧ len ≤ n := by rw [hlen]; split <;> omega
  have hm := hL.1
  have pb := LLs_bd hle.1 hL i hi
  have bd := LX_bd hle.1 pb.1 (hL.2.2.1 i)
  have go : ∀ h : gcx c len (qs i) ≠ 59, i = m := fun h => Classical.byContradiction (fun z => h (hL.2.2.2.1 i (by omega)).2.1)
  unfold f_X6_readLines_B7
  refine ⟨fun z => absurd (show nI 16 < nI (i + 1) from z) (nI_nlt (by omega) (by omega)), fun _ => ?_⟩
  refine lineC_ok (i := i) (hL.2.2.1 i) hB (by omega) hS pb.2 pb.1 (fun M2 f2 p2 hq => ⟨fun _ => ?_, fun z => absurd rfl z⟩) (fun hb M2 f2 c2 d2 => ⟨fun z => absurd z (by decide), fun _ => ?_⟩)
  · have em : i = m := Classical.byContradiction (fun z => by
      obtain ⟨y1, y2, y3⟩ := hL.2.2.2.1 i (by omega)
      have := hq y1
      rw [y2] at this
      exact absurd this (by decide))
    rw [p2, em]
    rw [em] at hq
    exact hbad (fun hb => by have := cmp_lt (hq hb); omega) M2 (Fr_tr hf (dLn_ls f2))
  · have f12 := Fr_tr hf (dLn_ls f2)
    have B2 := BRx_ln f2 hB
    have bt := bd.1 hb
    have ol := outs_len es i
    simp only [B2.2.1, ex_some, sh0, true_and]
    refine endL_ok B2.1 hP c2.2.1 (by omega) ?_
    rw [c2.2.2.1]
    have f3 : Fr (dLs P) eN M0 (stI (stI M2 P 6 (nI (i + 1))) (P + 4) (i + 1) (nI (outs es i ++ es i).length)) := fLs_I (by omega) (fLs_I (by omega) f12)
    have o3 : ∀ a j, ¬ (a = P ∧ j = 6) → ¬ (a = P + 4 ∧ j = i + 1) → (stI (stI M2 P 6 (nI (i + 1))) (P + 4) (i + 1) (nI (outs es i ++ es i).length)).1 a j = M2.1 a j := fun a j x1 x2 => by rw [rI_ne (by omega), rI_ne (by omega)]
    have i6 : (stI (stI M2 P 6 (nI (i + 1))) (P + 4) (i + 1) (nI (outs es i ++ es i).length)).1 P 6 = nI (i + 1) := by rw [rI_ne (by omega), rI_eq]
    have i41 : (stI (stI M2 P 6 (nI (i + 1))) (P + 4) (i + 1) (nI (outs es i ++ es i).length)).1 (P + 4) (i + 1) = nI (outs es i ++ es i).length := rI_eq
    have rr3 : (stI (stI M2 P 6 (nI (i + 1))) (P + 4) (i + 1) (nI (outs es i ++ es i).length)).2.2 = M2.2.2 := rfl
    generalize stI (stI M2 P 6 (nI (i + 1))) (P + 4) (i + 1) (nI (outs es i ++ es i).length) = M3 at *
    have hP2 : ∀ P ∈ PR, P ≠ 1 ∧ P + 4 ≠ 1 ∧ P ≠ 2 ∧ P + 4 ≠ 2 := by decide
    obtain ⟨z1, z2, z3, z4⟩ := hP2 P hP
    have B3 : BRx c len P M3 := ⟨FX_ag rr3 B2.1, by rw [rr3]; exact B2.2.1, hP, by rw [o3 1 2 (by omega) (by omega)]; exact B2.2.2.2.1, hle.1, fun j hj => by rw [o3 2 j (by omega) (by omega)]; exact B2.2.2.2.2.2 j hj⟩
    have S3 : LSx P (i + 1) M3 (qs i) (outs es (i + 1)) := ⟨by rw [o3 1 3 (by omega) (by omega)]; exact c2.1, i6, by rw [o3 P 7 (by omega) (by omega)]; exact c2.2.2.1, fun j hj => by rw [o3 (P + 5) j (by omega) (by omega)]; exact c2.2.2.2 j hj⟩
    have dn : ∀ a j, P + 2 ≤ a → a ≤ P + 4 → j ≠ i → dLn P i a j = false := fun a j x1 x2 x3 => by
      have : ∀ P ∈ PR, ∀ k, k < 6 → P + k ≠ 3 ∧ P + k ≠ 1 := by decide
      have k0 := this P hP (a - P) (by omega)
      unfold dLn
      simp only [Bool.or_eq_false_iff, Bool.and_eq_false_iff, beq_eq_false_iff_ne, decide_eq_false_iff_not]
      omega
    have R3 : RCx M3 P kds nus es (i + 1) := fun j hj => by
      by_cases e : j = i
      · subst e
        exact ⟨by rw [o3 _ _ (by omega) (by omega)]; exact d2.1, by rw [o3 _ _ (by omega) (by omega)]; exact d2.2.1, by rw [o3 _ _ (by omega) (by omega)]; exact d2.2.2, i41⟩
      · obtain ⟨y1, y2, y3, y4⟩ := hR j (by omega)
        refine ⟨?_, ?_, ?_, ?_⟩
        · rw [o3 _ _ (by omega) (by omega), f2.1 _ _ (dn _ _ (by omega) (by omega) (by omega))]; exact y1
        · rw [o3 _ _ (by omega) (by omega), f2.1 _ _ (dn _ _ (by omega) (by omega) (by omega))]; exact y2
        · rw [o3 _ _ (by omega) (by omega), f2.1 _ _ (dn _ _ (by omega) (by omega) (by omega))]; exact y3
        · rw [o3 _ _ (by omega) (by omega)]
          by_cases e' : j + 1 = i
          · rw [e']; exact d2.2.2
          · rw [f2.1 _ _ (dn _ _ (by omega) (by omega) (by omega))]; exact y4
    rw [S3.1, B3.2.2.2.1, nI_ltI (by omega) (by omega)]
    refine ⟨fun hlt => ⟨fun z => ?_, fun z => ?_⟩, fun hge => ?_⟩
    · have e15 : i + 1 = 16 := (nI_eq (by omega) (by omega)).mp (show nI (i + 1) = nI 16 from z)
      have em : i = m := by omega
      rw [em] at hlt ⊢
      exact hbad (fun _ => by omega) M3 f3
    · refine passes_ok (x := 59) B3 S3 (by omega) (by omega) (fun hg M4 e4 f4 S4 => ⟨fun z => absurd z (by decide), fun _ v14 ev => ?_⟩) (fun hg => ⟨fun _ => ?_, fun z => absurd rfl z⟩)
      · subst ev
        rw [nI_1]
        have hlt' : i < m := Classical.byContradiction (fun y => by
          have em : i = m := by omega
          have n15 : i ≠ 15 := fun y' => z (by rw [y']; rfl)
          rcases hL.2.2.2.2 with y1 | y1 | y1
          · rw [← em, hb] at y1; exact absurd y1 (by decide)
          · exact n15 (by omega)
          · rw [← em] at y1; exact y1 hg)
        have hp1 := (hL.2.2.2.1 i hlt').2.2
        refine hBK hlt' M4 (Fr_tr f3 (dLn_ls f4)) (BRx_ln f4 B3) (by rw [hp1]; exact S4) (fun j hj => ?_)
        have o4 : ∀ a j, ¬ (a = 1 ∧ j = 3) → M4.1 a j = M3.1 a j := fun a j x1 => by rw [e4, rI_ne (by omega)]
        rw [o4 _ _ (by omega), o4 _ _ (by omega), o4 _ _ (by omega), o4 _ _ (by omega)]
        exact R3 j hj
      · have em := go hg
        rw [S3.1]
        rw [em] at hlt ⊢
        exact hbad (fun _ => by omega) M3 f3
    · have em : i = m := go (fun z => by have := gcx_lt (c := c) (len := len) (p := qs i) (by omega); omega)
      subst em
      rw [show (60 : Int32) = nI 60 from rfl, nI_leI (by omega) (by omega)]
      refine ⟨fun h60 => hok hb (by omega) h60 M3 f3 i6 (fun j hj => ?_), fun h60 => hlong hb (by omega) (by omega) M3 f3⟩
      obtain ⟨y1, y2, y3, y4⟩ := R3 j (by omega)
      have oj := outs_len es j
      have lj := outs_le es (j := j + 1) (i - j)
      rw [show j + 1 + (i - j) = i + 1 by omega] at lj
      refine ⟨y1, y2, (outs es j).length, by omega, y3, by rw [← oj]; exact y4, fun l hl => ?_⟩
      rw [S3.2.2.2 _ (by omega)]
      have := outs_get es hl (i - j)
      rw [show j + 1 + (i - j) = i + 1 by omega] at this
      rw [this]
theorem linesC_ok {c : Nat → Nat} {n len P m : Nat} {ps qs kds nus : Nat → Nat} {bs : Nat → Bool} {es : Nat → List Nat} {M : Mm} {K : Int32 → Mm → Prop} (hL : LLs c len ps qs kds nus bs es m) (hF : FX M) (h6 : M.2.2 1 6 = some P) (hP : P ∈ PR) (hn : n ≤ 100) (hlen : len = if 60 < n then 60 else n) (htx : ∀ j, j < n → M.1 2 j = nI (c j) ∧ c j < 256)
    (hbad : (bs m = true → qs m ≠ len) → ∀ M', Fr (dAs P) eN M M' → K (nI (qs m)) M') (hlong : bs m = true → qs m = len → 60 < n → ∀ M', Fr (dAs P) eN M M' → K 60 M') (hok : bs m = true → qs m = len → n ≤ 60 → ∀ M', Fr (dAs P) eN M M' → M'.1 P 6 = nI (m + 1) → M'.1 P 5 = nI len → (∀ j, j < len → M'.1 (P + 1) j = nI (c j)) → (∀ i, i ≤ m → LnC M' P i (kds i) (nus i) (es i)) → K (-1) M') : f_X6_readLines S0 1 (nI n) (16 : Int32) M K := by
  unfold f_X6_readLines
  refine beginC_ok hF h6 hP hn hlen htx (fun M1 f1 B1 g3 g6 g7 g5 gt => ⟨m + 1, ?_⟩)
  have hP2 : ∀ P ∈ PR, P ≠ 1 ∧ P ≠ 3 ∧ P + 1 ≠ 1 ∧ P + 1 ≠ 3 := by decide
  obtain ⟨z1, z2, z3, z4⟩ := hP2 P hP
  have L : ∀ (k i : Nat) (M' : Mm), i + k = m → Fr (dLs P) eN M1 M' → BRx c len P M' → LSx P i M' (ps i) (outs es i) → RCx M' P kds nus es i → f_X6_readLines_L7 S0 1 (nI n) (16 : Int32) (fun m16 => K (m16.1 1 3) m16) K (k + 1) (nI (i + 1)) M' := by
    intro k
    induction k with
    | zero =>
      intro i M' hi hf hB hS hR
      unfold f_X6_readLines_L7
      refine linesB hL hn hlen (fun h M2 f2 => hbad h M2 (Fr_tr f1 (dLs_as f2))) (fun a b d M2 f2 => hlong a b d M2 (Fr_tr f1 (dLs_as f2))) (fun a b d M2 f2 e6 el => hok a b d M2 (Fr_tr f1 (dLs_as f2)) e6 ?_ (fun j hj => ?_) el) (by omega) hf hB hS hR (fun z => by omega)
      · rw [f2.1 P 5 (by unfold dLs; simp only [Bool.or_eq_false_iff, Bool.and_eq_false_iff, beq_eq_false_iff_ne, decide_eq_false_iff_not]; omega)]; exact g5
      · rw [f2.1 (P + 1) j (by unfold dLs; simp only [Bool.or_eq_false_iff, Bool.and_eq_false_iff, beq_eq_false_iff_ne, decide_eq_false_iff_not]; omega)]; exact gt j hj
    | succ k ih =>
      intro i M' hi hf hB hS hR
      unfold f_X6_readLines_L7
      refine linesB hL hn hlen (fun h M2 f2 => hbad h M2 (Fr_tr f1 (dLs_as f2))) (fun a b d M2 f2 => hlong a b d M2 (Fr_tr f1 (dLs_as f2))) (fun a b d M2 f2 e6 el => hok a b d M2 (Fr_tr f1 (dLs_as f2)) e6 ?_ (fun j hj => ?_) el) (by omega) hf hB hS hR (fun z M2 f2 B2 S2 R2 => ih (i + 1) M2 (by omega) f2 B2 S2 R2)
      · rw [f2.1 P 5 (by unfold dLs; simp only [Bool.or_eq_false_iff, Bool.and_eq_false_iff, beq_eq_false_iff_ne, decide_eq_false_iff_not]; omega)]; exact g5
      · rw [f2.1 (P + 1) j (by unfold dLs; simp only [Bool.or_eq_false_iff, Bool.and_eq_false_iff, beq_eq_false_iff_ne, decide_eq_false_iff_not]; omega)]; exact gt j hj
  exact L m 0 M1 (by omega) (Fr_refl _ _ _) B1 ⟨by rw [hL.2.1]; exact g3, g6, g7, fun j hj => absurd hj (by simp [outs])⟩ (fun j hj => absurd hj (by omega))
