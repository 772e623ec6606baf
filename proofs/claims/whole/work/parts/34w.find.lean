/-! hash tables; the class walk: find, add, begin -/
/-! hash tables -/
theorem pigeon : ∀ (m N : Nat) (g : Nat → Nat), (∀ c, c < N → g c < m) → (∀ c c', c < N → c' < N → g c = g c' → c = c') → N ≤ m
  | 0, N, g, h, _ => by
    rcases Nat.eq_zero_or_pos N with e | e
    · omega
    · exact absurd (h 0 e) (by omega)
  | m + 1, 0, g, h, i => by omega
  | m + 1, N + 1, g, h, i => by
    have hN := h N (by omega)
    by_cases e : g N = m
    · have := pigeon m N g (fun c hc => by
        have h1 := h c (by omega)
        have h2 : g c ≠ m := fun w => by
          have := i c N (by omega) (by omega) (by omega)
          omega
        omega) (fun c c' a b => i c c' (by omega) (by omega))
      omega
    · have := pigeon m N (fun c => if g c = m then g N else g c) (fun c hc => by
        have h1 := h c (by omega)
        show (if g c = m then g N else g c) < m
        split <;> omega) (fun c c' a b w => by
        have w : (if g c = m then g N else g c) = (if g c' = m then g N else g c') := w
        split at w
        · split at w
          · exact i c c' (by omega) (by omega) (by omega)
          · have := i N c' (by omega) (by omega) w; omega
        · split at w
          · have := i c N (by omega) (by omega) w; omega
          · exact i c c' (by omega) (by omega) w)
      omega
/-- entries lo .. n of a table with N cells: h their hashes, sp their cells -/
def HTp (N lo n : Nat) (h sp : Nat → Nat) : Prop := (∀ s, lo ≤ s → s < n → sp s < N) ∧ (∀ s s', lo ≤ s → s < n → lo ≤ s' → s' < n → sp s = sp s' → s = s') ∧ ∀ s, lo ≤ s → s < n → ∃ d, d < N ∧ sp s = (h s + d) % N ∧ ∀ j, j < d → ∃ s', lo ≤ s' ∧ s' < n ∧ sp s' = (h s + j) % N
theorem ht_free {N lo n : Nat} {h sp : Nat → Nat} (hN : 0 < N) (H : HTp N lo n h sp) (hn : n < lo + N) (q : Nat) : ∃ i, i < N ∧ ∀ s, lo ≤ s → s < n → sp s ≠ (q + i) % N := by
  apply Classical.byContradiction
  intro hc
  have h1 : ∀ i, ∃ s, i < N → lo ≤ s ∧ s < n ∧ sp s = (q + i) % N := by
    intro i
    by_cases hi : i < N
    · apply Classical.byContradiction
      intro hc2
      apply hc
      refine ⟨i, hi, fun s a b e => hc2 ⟨s, fun _ => ⟨a, b, e⟩⟩⟩
    · exact ⟨0, fun w => absurd w hi⟩
  obtain ⟨g, hg⟩ := Classical.skolem.mp h1
  have := pigeon (n - lo) N (fun i => g i - lo) (fun c hcN => by
    have := hg c hcN
    show g c - lo < n - lo
    omega) (fun c c' a b w => by
    have w : g c - lo = g c' - lo := w
    have h1 := hg c a
    have h2 := hg c' b
    have e : g c = g c' := by omega
    have e2 : (q + c) % N = (q + c') % N := by rw [← h1.2.2, ← h2.2.2, e]
    have e3 : c % N = c' % N := by
      have := Nat.add_mod_left
      rcases Nat.lt_or_ge c c' with l | l
      · have := (Nat.sub_mod_eq_zero_of_mod_eq e2.symm)
        rw [show q + c' - (q + c) = c' - c by omega, Nat.mod_eq_of_lt (by omega)] at this
        omega
      · have := (Nat.sub_mod_eq_zero_of_mod_eq e2)
        rw [show q + c - (q + c') = c - c' by omega, Nat.mod_eq_of_lt (by omega)] at this
        rw [show c = c' by omega]
    rw [Nat.mod_eq_of_lt a, Nat.mod_eq_of_lt b] at e3
    exact e3)
  omega
theorem ht_add {N lo n c d q : Nat} {h sp : Nat → Nat} (H : HTp N lo n h sp) (hlo : lo ≤ n) (hc : c < N) (hd : d < N) (e : c = (q + d) % N) (hfree : ∀ s, lo ≤ s → s < n → sp s ≠ c) (hocc : ∀ j, j < d → ∃ s', lo ≤ s' ∧ s' < n ∧ sp s' = (q + j) % N) {h' : Nat → Nat} (hh : ∀ s, s < n → h' s = h s) (hq : h' n = q) : HTp N lo (n + 1) h' (fun s => if s = n then c else sp s) := by
  obtain ⟨h1, h2, h3⟩ := H
  refine ⟨fun s a b => ?_, fun s s' a b a' b' w => ?_, fun s a b => ?_⟩
  · show (if s = n then c else sp s) < N
    split
    · exact hc
    · exact h1 s a (by omega)
  · have w : (if s = n then c else sp s) = (if s' = n then c else sp s') := w
    split at w
    · split at w
      · omega
      · exact absurd w.symm (hfree s' a' (by omega))
    · split at w
      · exact absurd w (hfree s a (by omega))
      · exact h2 s s' a (by omega) a' (by omega) w
  · by_cases es : s = n
    · refine ⟨d, hd, ?_, fun j hj => ?_⟩
      · show (if s = n then c else sp s) = _
        rw [if_pos es, es, hq]; exact e
      · obtain ⟨s', x1, x2, x3⟩ := hocc j hj
        refine ⟨s', x1, by omega, ?_⟩
        show (if s' = n then c else sp s') = _
        rw [if_neg (by omega), es, hq]; exact x3
    · obtain ⟨d', y1, y2, y3⟩ := h3 s a (by omega)
      refine ⟨d', y1, ?_, fun j hj => ?_⟩
      · show (if s = n then c else sp s) = _
        rw [if_neg es, hh s (by omega)]; exact y2
      · obtain ⟨s', x1, x2, x3⟩ := y3 j hj
        refine ⟨s', x1, by omega, ?_⟩
        show (if s' = n then c else sp s') = _
        rw [if_neg (by omega), hh s (by omega)]; exact x3
/-- where the probe meets a free cell, nothing behind it matches -/
theorem ht_none {N lo n q i : Nat} {h sp : Nat → Nat} {mt : Nat → Prop} (H : HTp N lo n h sp) (hi : i < N) (hm : ∀ s, lo ≤ s → s < n → mt s → h s = q) (hbef : ∀ j, j < i → ∀ s, lo ≤ s → s < n → sp s = (q + j) % N → ¬ mt s) (hfree : ∀ s, lo ≤ s → s < n → sp s ≠ (q + i) % N) : ∀ s, lo ≤ s → s < n → ¬ mt s := by
  intro s a b w
  obtain ⟨d, d1, d2, d3⟩ := H.2.2 s a b
  rw [hm s a b w] at d2 d3
  rcases Nat.lt_trichotomy i d with l | l | l
  · obtain ⟨s', x1, x2, x3⟩ := d3 i l
    exact hfree s' x1 x2 x3
  · rw [← l] at d2; exact hfree s a b d2
  · exact hbef d l s a b d2 w
abbrev En : Type := Nat × Nat × Nat × Nat × Nat
def gt (L : List En) (s : Nat) : En := L.getD s (0, 0, 0, 0, 0)
theorem gt_lt {L : List En} {x : En} {s : Nat} (h : s < L.length) : gt (L ++ [x]) s = gt L s := by
  unfold gt
  simp only [List.getD_eq_getElem?_getD]
  rw [List.getElem?_append_left h]
theorem gt_eq {L : List En} {x : En} : gt (L ++ [x]) L.length = x := by
  unfold gt
  simp only [List.getD_eq_getElem?_getD]
  rw [List.getElem?_append_right (Nat.le_refl _)]
  simp
/-- the class's hash -/
def hCx (A B : Nat) : Int32 := (((((lN A) * (-7046029254386353131 : Int64)) ^^^ ((lN B) * (-4417276706812531889 : Int64))) ^^^ ((((lN A) * (-7046029254386353131 : Int64)) ^^^ ((lN B) * (-4417276706812531889 : Int64))).toUInt64 >>> ((29 : Int32).toInt64.toUInt64 &&& Int64.toUInt64 63)).toInt64).toUInt64 >>> ((17 : Int32).toInt64.toUInt64 &&& Int64.toUInt64 63)).toInt64.toInt32 &&& (8191 : Int32)
def hC (A B : Nat) : Nat := (hCx A B).toNatClampNeg
theorem hC_eq (A B : Nat) : hC A B < 8192 ∧ hCx A B = nI (hC A B) := by
  obtain ⟨j, h1, h2⟩ := pk_andE ((((((lN A) * (-7046029254386353131 : Int64)) ^^^ ((lN B) * (-4417276706812531889 : Int64))) ^^^ ((((lN A) * (-7046029254386353131 : Int64)) ^^^ ((lN B) * (-4417276706812531889 : Int64))).toUInt64 >>> ((29 : Int32).toInt64.toUInt64 &&& Int64.toUInt64 63)).toInt64).toUInt64 >>> ((17 : Int32).toInt64.toUInt64 &&& Int64.toUInt64 63)).toInt64.toInt32) (m := (8191 : Int32)) 13 rfl
  have e : hCx A B = nI j := h2
  have e2 : hC A B = j := by unfold hC; rw [e, nI_clamp (by omega)]
  rw [e2]; exact ⟨h1, e⟩
def frm (s : Nat) (e : En) : Int32 := if s = 0 then -1 else nI (32 * e.2.2.1 + e.2.2.2.1)
def hL (L : List En) (s : Nat) : Nat := hC (gt L s).1 (gt L s).2.1
def WKt (M : Mm) (L : List En) : Prop := ∃ sp : Nat → Nat, HTp 8192 0 L.length (hL L) sp ∧ (∀ s, s < L.length → M.1 108 s = nI (sp s) ∧ M.1 109 (sp s) = nI (s + 1)) ∧ ∀ k, k < 8192 → (∀ s, s < L.length → sp s ≠ k) → M.1 109 k = 0
/-- the class's walk holds the states L -/
def WK (M : Mm) (L : List En) : Prop := M.1 10 10 = nI L.length ∧ L.length ≤ 4000 ∧ (∀ s, s < L.length → M.2.1 105 s = lN (gt L s).1 ∧ M.2.1 106 s = lN (gt L s).2.1 ∧ (gt L s).1 < 2 ^ 64 ∧ (gt L s).2.1 < 2 ^ 40 ∧ M.1 107 s = frm s (gt L s)) ∧ WKt M L
def dF : Nat → Nat → Bool := fun b j => b == 107 || b == 108 || b == 109 || (b == 10 && j == 10)
def eF : Nat → Bool := fun b => b == 105 || b == 106 || b == 111 || b == 112
def wyR (M : Mm) : Prop := M.2.2 10 8 = some 111 ∨ M.2.2 10 8 = some 112
theorem add_ok {L : List En} {A B mo c d fs fm dp : Nat} {sp : Nat → Nat} {st : Int32} {M : Mm} {K : Int32 → Mm → Prop} (hF : FX M) (hw : wyR M) (hmo : M.1 10 11 = nI mo) (hmo2 : mo ≤ 4000) (hA : A < 2 ^ 64) (hB : B < 2 ^ 40) (e0 : M.2.1 104 0 = lN A) (e1 : M.2.1 104 1 = lN B) (hst : st = frm L.length (A, B, fs, fm, dp)) (hW : WK M L) (H : HTp 8192 0 L.length (hL L) sp) (hsp : ∀ s, s < L.length → M.1 108 s = nI (sp s) ∧ M.1 109 (sp s) = nI (s + 1)) (hz : ∀ k, k < 8192 → (∀ s, s < L.length → sp s ≠ k) → M.1 109 k = 0) (hd : d < 8192) (ec : c = (hC A B + d) % 8192) (hfree : ∀ s, s < L.length → sp s ≠ c) (hocc : ∀ j, j < d → ∃ s', s' < L.length ∧ sp s' = (hC A B + j) % 8192)
    (hK1 : L.length < mo → ∀ M', Fr dF eF M M' → WK M' (L ++ [(A, B, fs, fm, dp)]) → K (nI L.length) M') (hK2 : mo ≤ L.length → K (-1) M) : f_X9_add S0 10 (nI c) st M K := by
  obtain ⟨w1, w2, w3, -⟩ := hW
  have hc : c < 8192 := by rw [ec]; exact Nat.mod_lt _ (by omega)
  unfold f_X9_add
  rw [w1, hmo]
  refine ⟨fun z => ?_, fun z => hK2 (by rw [nI_ltI (by omega) (by omega)] at z; omega)⟩
  have z : L.length < mo := (nI_ltI (by omega) (by omega)).mp z
  have hin : vp_in (nI L.length) 4000 := vp_in_nI (by omega) (by omega)
  have hcl : (nI L.length).toNatClampNeg = L.length := nI_clamp (by omega)
  have hin2 : vp_in (nI c) 8192 := vp_in_nI hc (by omega)
  have hcl2 : (nI c).toNatClampNeg = c := nI_clamp (by omega)
  simp only [rIr, rJr, fx_10_1 hF, fx_10_2 hF, fx_10_3 hF, fx_10_4 hF, fx_10_5 hF, fx_10_6 hF, ex_some, s0_104, s0_105, s0_106, s0_107, s0_108, s0_109, ex_sh, hin, hcl, hin2, hcl2, true_and, forall_eq]
  have g1 : ∀ X : Mm, X.1 = M.1 → X.1 10 10 = nI L.length := fun X e => by rw [e]; exact w1
  have go : ∀ wy, wy = 111 ∨ wy = 112 → K (nI L.length) (stI (stI (stJ (stI (stI (stJ (stJ M 105 L.length (lN A)) 106 L.length (lN B)) 107 L.length st) 108 L.length (nI c)) wy L.length 0) 10 10 (nI (L.length + 1))) 109 c (nI (L.length + 1))) := by
    intro wy hwy
    refine hK1 z _ ?_ ?_
    · refine Fr_I rfl (Fr_I rfl (Fr_J ?_ (Fr_I rfl (Fr_I rfl (Fr_J rfl (Fr_J rfl (Fr_refl _ _ _)))))))
      rcases hwy with rfl | rfl <;> rfl
    · have hlen : (L ++ [(A, B, fs, fm, dp)]).length = L.length + 1 := by simp
      have J : ∀ b j, b = 105 ∨ b = 106 → (stI (stI (stJ (stI (stI (stJ (stJ M 105 L.length (lN A)) 106 L.length (lN B)) 107 L.length st) 108 L.length (nI c)) wy L.length 0) 10 10 (nI (L.length + 1))) 109 c (nI (L.length + 1))).2.1 b j = (stJ (stJ M 105 L.length (lN A)) 106 L.length (lN B)).2.1 b j := by
        intro b j hb
        show (stJ (stI (stI (stJ (stJ M 105 L.length (lN A)) 106 L.length (lN B)) 107 L.length st) 108 L.length (nI c)) wy L.length 0).2.1 b j = _
        rw [rJ, if_neg (by omega)]
        rfl
      refine ⟨?_, by rw [hlen]; omega, fun s hs => ?_, fun s => if s = L.length then c else sp s, ?_, fun s hs => ?_, fun k hk hk2 => ?_⟩
      · rw [hlen, rI_ne (by omega), rI_eq]
      · rw [hlen] at hs
        rw [J 105 s (by omega), J 106 s (by omega), rJ, rJ, rJ, rJ]
        by_cases es : s = L.length
        · subst es
          rw [gt_eq, if_neg (by omega), if_pos ⟨rfl, rfl⟩, if_pos ⟨rfl, rfl⟩]
          refine ⟨rfl, rfl, hA, hB, ?_⟩
          rw [rI_ne (by omega), rI_ne (by omega)]
          show (stI (stI (stJ (stJ M 105 L.length (lN A)) 106 L.length (lN B)) 107 L.length st) 108 L.length (nI c)).1 107 L.length = _
          rw [rI_ne (by omega), rI_eq]; exact hst
        · rw [gt_lt (by omega), if_neg (by omega), if_neg (by omega), if_neg (by omega), if_neg (by omega)]
          obtain ⟨y1, y2, y3, y4, y5⟩ := w3 s (by omega)
          refine ⟨y1, y2, y3, y4, ?_⟩
          rw [rI_ne (by omega), rI_ne (by omega)]
          show (stI (stI (stJ (stJ M 105 L.length (lN A)) 106 L.length (lN B)) 107 L.length st) 108 L.length (nI c)).1 107 s = _
          rw [rI_ne (by omega), rI_ne (by omega)]
          exact y5
      · rw [hlen]
        refine ht_add H (by omega) hc hd ec (fun s _ b => hfree s b) (fun j hj => ?_) (fun s hs => ?_) ?_
        · obtain ⟨s', x1, x2⟩ := hocc j hj
          exact ⟨s', by omega, x1, x2⟩
        · unfold hL; rw [gt_lt hs]
        · unfold hL; rw [gt_eq]
      · rw [hlen] at hs
        show _ = nI (if s = L.length then c else sp s) ∧ _
        by_cases es : s = L.length
        · rw [if_pos es]
          subst es
          refine ⟨?_, ?_⟩
          · rw [rI_ne (by omega), rI_ne (by omega)]
            show (stI _ 108 L.length (nI c)).1 108 L.length = _
            rw [rI_eq]
          · show (stI _ 109 c (nI (L.length + 1))).1 109 (if L.length = L.length then c else sp L.length) = _
            rw [if_pos rfl, rI_eq]
        · rw [if_neg es]
          obtain ⟨y1, y2⟩ := hsp s (by omega)
          refine ⟨?_, ?_⟩
          · rw [rI_ne (by omega), rI_ne (by omega)]
            show (stI (stI (stJ (stJ M 105 L.length (lN A)) 106 L.length (lN B)) 107 L.length st) 108 L.length (nI c)).1 108 s = _
            rw [rI_ne (by omega), rI_ne (by omega)]; exact y1
          · show (stI _ 109 c (nI (L.length + 1))).1 109 (if s = L.length then c else sp s) = _
            have := hfree s (by omega)
            rw [if_neg es, rI_ne (by omega), rI_ne (by omega)]
            show (stI (stI (stJ (stJ M 105 L.length (lN A)) 106 L.length (lN B)) 107 L.length st) 108 L.length (nI c)).1 109 (sp s) = _
            rw [rI_ne (by omega), rI_ne (by omega)]; exact y2
      · have a1 : k ≠ c := by
          have := hk2 L.length (by rw [hlen]; omega)
          have : (if L.length = L.length then c else sp L.length) ≠ k := this
          rw [if_pos rfl] at this
          omega
        rw [rI_ne (by omega), rI_ne (by omega)]
        show (stI (stI (stJ (stJ M 105 L.length (lN A)) 106 L.length (lN B)) 107 L.length st) 108 L.length (nI c)).1 109 k = _
        rw [rI_ne (by omega), rI_ne (by omega)]
        refine hz k hk (fun s hs => ?_)
        have := hk2 s (by rw [hlen]; omega)
        have : (if s = L.length then c else sp s) ≠ k := this
        rw [if_neg (by omega)] at this
        exact this
  have r0 : ∀ {X : Mm}, X.1 = M.1 → X.1 10 10 = nI L.length := fun {X} e => by rw [e]; exact w1
  rw [e0]
  have t1 : (stJ M 105 L.length (lN A)).1 10 10 = nI L.length := w1
  have t2 : (stJ M 105 L.length (lN A)).2.1 104 1 = lN B := by rw [rJ, if_neg (by omega)]; exact e1
  have t3 : ∀ x, (stJ (stJ M 105 L.length (lN A)) 106 L.length x).1 10 10 = nI L.length := fun x => w1
  have t4 : ∀ x, (stI (stJ (stJ M 105 L.length (lN A)) 106 L.length x) 107 L.length st).1 10 10 = nI L.length := fun x => by rw [rI_ne (by omega)]; exact w1
  have t5 : ∀ x, (stI (stI (stJ (stJ M 105 L.length (lN A)) 106 L.length x) 107 L.length st) 108 L.length (nI c)).1 10 10 = nI L.length := fun x => by rw [rI_ne (by omega), rI_ne (by omega)]; exact w1
  have t6 : ∀ x wy, (stJ (stI (stI (stJ (stJ M 105 L.length (lN A)) 106 L.length x) 107 L.length st) 108 L.length (nI c)) wy L.length 0).1 10 10 = nI L.length := fun x wy => t5 x
  simp only [t1, t2, t3, t4, t5, t6, hcl, hin, true_and, nI_1, rI_eq]
  have t7 : ∀ Y : Mm, (stI (stI Y 10 10 (nI (L.length + 1))) 109 c (nI (L.length + 1))).1 10 10 - 1 = nI L.length := fun Y => by rw [rI_ne (by omega), rI_eq, m1c]
  rcases hw with hw | hw
  · simp only [hw, ex_some, s0_111, ex_sh, hin, true_and, t7]
    exact go 111 (Or.inl rfl)
  · simp only [hw, ex_some, s0_112, ex_sh, hin, true_and, t7]
    exact go 112 (Or.inr rfl)
theorem a8191 {n : Nat} (h : n < 2 ^ 31) : nI n &&& (8191 : Int32) = nI (n % 8192) := pk_andN (by omega) (m := (8191 : Int32)) 13 rfl
/-- the entry s is (A, B) -/
def isE (L : List En) (A B s : Nat) : Prop := (gt L s).1 = A ∧ (gt L s).2.1 = B
theorem lN_eq64 {a b : Nat} (ha : a < 2 ^ 64) (hb : b < 2 ^ 64) : lN a = lN b ↔ a = b := ⟨lN_inj ha hb, fun e => by rw [e]⟩
theorem find_L {L : List En} {A B mo lo fs fm dp : Nat} {sp : Nat → Nat} {st : Int32} {M : Mm} {EK : Mm → Prop} {K : Int32 → Mm → Prop} (hF : FX M) (hw : wyR M) (hmo : M.1 10 11 = nI mo) (hmo2 : mo ≤ 4000) (hA : A < 2 ^ 64) (hB : B < 2 ^ 40) (e0 : M.2.1 104 0 = lN A) (e1 : M.2.1 104 1 = lN B) (hlo : lo ≤ L.length) (hst : st = frm L.length (A, B, fs, fm, dp)) (hW : WK M L) (H : HTp 8192 0 L.length (hL L) sp) (hsp : ∀ s, s < L.length → M.1 108 s = nI (sp s) ∧ M.1 109 (sp s) = nI (s + 1)) (hz : ∀ k, k < 8192 → (∀ s, s < L.length → sp s ≠ k) → M.1 109 k = 0)
    (hK0 : ∀ s, lo ≤ s → s < L.length → isE L A B s → K (nI s) M) (hK1 : (∀ s, lo ≤ s → s < L.length → ¬ isE L A B s) → L.length < mo → ∀ M', Fr dF eF M M' → WK M' (L ++ [(A, B, fs, fm, dp)]) → K (nI L.length) M') (hK2 : (∀ s, lo ≤ s → s < L.length → ¬ isE L A B s) → mo ≤ L.length → K (-1) M) :
    ∀ (n i : Nat), i + n = 8192 → (∀ j, j < i → ∃ s, s < L.length ∧ sp s = (hC A B + j) % 8192 ∧ ¬ (lo ≤ s ∧ isE L A B s)) → f_X9_find_L43 S0 10 (nI lo) st EK K (n + 1) (nI ((hC A B + i) % 8192)) (nI i) M
  | 0, i, hi, hb => by
    exfalso
    have hle := hW.2.1
    obtain ⟨i', h1, h2⟩ := ht_free (by omega) H (by omega) (hC A B)
    obtain ⟨s, h3, h4, h5⟩ := hb i' (by omega)
    exact h2 s (by omega) h3 h4
  | n + 1, i, hi, hb => by
    have hle := hW.2.1
    have hc : (hC A B + i) % 8192 < 8192 := Nat.mod_lt _ (by omega)
    generalize hcd : (hC A B + i) % 8192 = c at hc
    have hin : vp_in (nI c) 8192 := vp_in_nI hc (by omega)
    have hcl : (nI c).toNatClampNeg = c := nI_clamp (by omega)
    have nx : nI (c + 1) &&& (8191 : Int32) = nI ((hC A B + (i + 1)) % 8192) := by
      rw [a8191 (by omega), ← hcd]
      congr 1; omega
    unfold f_X9_find_L43 f_X9_find_B43
    refine ⟨fun z => absurd z (show ¬ nI 8192 ≤ nI i from nI_ge (by omega) (by decide)), fun _ => ?_⟩
    simp only [fx_10_6 hF, ex_some, shp_ne (show (109 : Nat) ≠ 100000 by decide), s0_109, ex_sh, hin, hcl, true_and, forall_eq]
    by_cases hfree : ∀ s, s < L.length → sp s ≠ c
    · have hv := hz c hc hfree
      rw [hv]
      refine ⟨fun z => absurd z (by decide), fun _ => ?_⟩
      have none : ∀ s, lo ≤ s → s < L.length → ¬ isE L A B s := by
        have := ht_none (mt := fun s => lo ≤ s ∧ isE L A B s) H (i := i) (q := hC A B) (by omega) (fun s _ b w => by unfold hL; rw [w.2.1, w.2.2]) (fun j hj s _ b e w => ?_) (fun s _ b => by rw [hcd]; exact hfree s b)
        · exact fun s a b w => this s (by omega) b ⟨a, w⟩
        · obtain ⟨s', y1, y2, y3⟩ := hb j hj
          have : s = s' := H.2.1 s s' (by omega) b (by omega) y1 (by rw [e, y2])
          subst this
          exact y3 w
      refine add_ok hF hw hmo hmo2 hA hB e0 e1 hst hW H hsp hz (d := i) (by omega) hcd.symm hfree (fun j hj => ?_) (hK1 none) (hK2 none)
      obtain ⟨s', y1, y2, y3⟩ := hb j hj
      exact ⟨s', y1, y2⟩
    · have : ∃ s, s < L.length ∧ sp s = c := by
        apply Classical.byContradiction
        intro w
        exact hfree (fun s hs e => w ⟨s, hs, e⟩)
      obtain ⟨s, hs, es⟩ := this
      have hv := (hsp s hs).2
      rw [es] at hv
      rw [hv, m1c]
      have hins : vp_in (nI s) 4000 := vp_in_nI (by omega) (by omega)
      have hcls : (nI s).toNatClampNeg = s := nI_clamp (by omega)
      obtain ⟨y1, y2, y3, y4, y5⟩ := hW.2.2.1 s hs
      refine ⟨fun _ => ?_, fun z => absurd (show nI 0 ≤ nI s from nI_le (by omega) (by omega)) z⟩
      simp only [fx_10_1 hF, fx_10_2 hF, fx_10_3 hF, ex_some, s0_104, s0_105, s0_106, ex_sh, hins, hcls, true_and, y1, y2, e0, e1]
      rw [lN_eq64 y3 hA, lN_eq64 (by omega) (by omega), nI_ltI (by omega) (by omega)]
      unfold f_X9_find_J120
      simp only [forall_eq, nI_1, nx]
      have go : ¬ (lo ≤ s ∧ isE L A B s) → f_X9_find_L43 S0 10 (nI lo) st EK K (n + 1) (nI ((hC A B + (i + 1)) % 8192)) (nI (i + 1)) M := by
        intro hne
        refine find_L hF hw hmo hmo2 hA hB e0 e1 hlo hst hW H hsp hz hK0 hK1 hK2 n (i + 1) (by omega) (fun j hj => ?_)
        by_cases ej : j = i
        · rw [ej]; exact ⟨s, hs, by rw [es, hcd], hne⟩
        · exact hb j (by omega)
      exact ⟨fun w => go (fun q => by omega), fun w => ⟨fun w1 => ⟨fun w2 => hK0 s (by omega) hs ⟨w1, w2⟩, fun w2 => go (fun q => w2 q.2.2)⟩, fun w1 => go (fun q => w1 q.2.1)⟩⟩
theorem find_ok {L : List En} {A B mo lo fs fm dp : Nat} {st : Int32} {M : Mm} {K : Int32 → Mm → Prop} (hF : FX M) (hw : wyR M) (hmo : M.1 10 11 = nI mo) (hmo2 : mo ≤ 4000) (hA : A < 2 ^ 64) (hB : B < 2 ^ 40) (e0 : M.2.1 104 0 = lN A) (e1 : M.2.1 104 1 = lN B) (hlo : lo ≤ L.length) (hst : st = frm L.length (A, B, fs, fm, dp)) (hW : WK M L)
    (hK0 : ∀ s, lo ≤ s → s < L.length → isE L A B s → K (nI s) M) (hK1 : (∀ s, lo ≤ s → s < L.length → ¬ isE L A B s) → L.length < mo → ∀ M', Fr dF eF M M' → WK M' (L ++ [(A, B, fs, fm, dp)]) → K (nI L.length) M') (hK2 : (∀ s, lo ≤ s → s < L.length → ¬ isE L A B s) → mo ≤ L.length → K (-1) M) : f_X9_find S0 10 (nI lo) st M K := by
  unfold f_X9_find
  refine ⟨104, fx_10_1 hF, s0_104, 104, fx_10_1 hF, s0_104, fun v5 h5 v6 h6 => ?_⟩
  have h1 := hC_eq A B
  have hv : v6 = nI (hC A B) := by
    rw [← h1.2, h6, h5, e0, e1]
    unfold hCx
    rfl
  obtain ⟨sp, H, hsp, hz⟩ := hW.2.2.2
  obtain ⟨n, hn⟩ : ∃ n : Nat, n = 8192 := ⟨_, rfl⟩
  refine ⟨n + 1, ?_⟩
  have := find_L (EK := fun m27 => K (-1 : Int32) m27) (K := K) hF hw hmo hmo2 hA hB e0 e1 hlo hst hW H hsp hz hK0 hK1 hK2 n 0 (by omega) (fun j hj => by omega)
  have h2 : (hC A B + 0) % 8192 = hC A B := by rw [Nat.add_zero]; exact Nat.mod_eq_of_lt h1.1
  rw [h2, ← hv, show nI 0 = (0 : Int32) from rfl] at this
  exact this
/-- begin: the table is emptied, and the start put into it -/
theorem begin_L {n : Nat} {M0 : Mm} {a1 : Nat} {x2 : Int32} {sp : Nat → Nat} {EK K : Mm → Prop} (hF0 : FX M0) (hn : n ≤ 4000) (h0 : M0.1 10 10 = nI n) (hsp : ∀ s, s < n → sp s < 8192 ∧ M0.1 108 s = nI (sp s)) (hz : ∀ k, k < 8192 → (∀ s, s < n → sp s ≠ k) → M0.1 109 k = 0) (hK : ∀ M, (∀ b, b ≠ 109 → M.1 b = M0.1 b) → M.2 = M0.2 → (∀ k, k < 8192 → M.1 109 k = 0) → EK M) :
    ∀ (r i : Nat) (M : Mm), i + r = n → (∀ b, b ≠ 109 → M.1 b = M0.1 b) → M.2 = M0.2 → (∀ k, k < 8192 → (∀ s, i ≤ s → s < n → sp s ≠ k) → M.1 109 k = 0) → f_X9_begin_L2 S0 10 a1 x2 EK K (r + 1) (nI i) M
  | 0, i, M, hi, h1, h2, h3 => by
    unfold f_X9_begin_L2 f_X9_begin_B2
    have : i = n := by omega
    subst this
    rw [h1 10 (by omega), h0]
    exact ⟨fun _ => hK M h1 h2 (fun k hk => h3 k hk (fun s a b => by omega)), fun z => absurd (nI_le (Nat.le_refl _) (by omega)) z⟩
  | r + 1, i, M, hi, h1, h2, h3 => by
    unfold f_X9_begin_L2 f_X9_begin_B2
    have hF : FX M := FX_ag (by rw [h2]) hF0
    obtain ⟨s1, s2⟩ := hsp i (by omega)
    have hin : vp_in (nI i) 4000 := vp_in_nI (by omega) (by omega)
    have hcl : (nI i).toNatClampNeg = i := nI_clamp (by omega)
    have hin2 : vp_in (nI (sp i)) 8192 := vp_in_nI s1 (by omega)
    have hcl2 : (nI (sp i)).toNatClampNeg = sp i := nI_clamp (by omega)
    rw [h1 10 (by omega), h0]
    refine ⟨fun z => absurd z (nI_ge (by omega) (by omega)), fun _ => ?_⟩
    simp only [fx_10_6 hF, fx_10_5 hF, ex_some, shp_ne (show (108 : Nat) ≠ 100000 by decide), s0_108, s0_109, ex_sh, hin, hcl, true_and, forall_eq, nI_1, h1 108 (show (108 : Nat) ≠ 109 by decide), s2, hin2, hcl2]
    refine begin_L hF0 hn h0 hsp hz hK r (i + 1) _ (by omega) (fun b hb => (stI_row hb).trans (h1 b hb)) h2 (fun k hk hk2 => ?_)
    by_cases e : sp i = k
    · rw [← e]; exact rI_eq
    · rw [rI_ne (by omega)]
      refine h3 k hk (fun s a b => ?_)
      by_cases es : s = i
      · rw [es]; exact e
      · exact hk2 s (by omega) b
/-- what the walk's beginning changes -/
def dG : Nat → Nat → Bool := fun b j => b == 107 || b == 108 || b == 109 || (b == 10 && (10 ≤ j && j ≤ 17 : Bool))
def eG : Nat → Bool := fun b => b == 10 || b == 104 || b == 105 || b == 106 || b == 111 || b == 112
theorem begin_w {q A B mo : Nat} {M : Mm} {K : Mm → Prop} (hF : FX M) (hW : V_walk M) (hq : q ≠ 104) (hA : A < 2 ^ 64) (hB : B < 2 ^ 40) (e0 : M.2.1 q 0 = lN A) (e1 : M.2.1 q 1 = lN B) (hmo : 1 ≤ mo) (hmo2 : mo ≤ 4000) (hq10 : q ≠ 10) (hK : ∀ M', Fr dG eG M M' → WK M' [(A, B, 0, 0, 0)] → M'.1 10 11 = nI mo → M'.1 10 12 = M.1 10 12 → M'.1 10 13 = M.1 10 13 → M'.1 10 14 = -1 → M'.1 10 15 = -1 → M'.1 10 16 = -1 → M'.1 10 17 = -1 → M'.2.1 10 18 = 0 → K M') : f_X9_begin S0 10 q (nI mo) M K := by
  obtain ⟨⟨n, n1, n2, sp, n3, n4⟩, hw⟩ := hW
  have hw' : wyR M := hw.elim (fun h => Or.inl h.1) (fun h => Or.inr h.1)
  unfold f_X9_begin
  refine ⟨n + 1, begin_L hF n1 n2 n3 n4 (fun M1 h1 h2 h3 => ?_) n 0 M (by omega) (fun _ _ => rfl) rfl (fun k hk hk2 => n4 k hk (fun s hs => hk2 s (by omega) hs))⟩
  have hF1 : FX M1 := FX_ag (by rw [h2]) hF
  simp only [forall_eq]
  have emo : (if (4000 : Int32) < nI mo then (4000 : Int32) else nI mo) = nI mo := if_neg (show ¬ nI 4000 < nI mo from nI_nlt hmo2 (by omega))
  rw [emo]
  unfold f_X4_copy
  simp only [rIr, rJr, fx_10_1 hF1, ex_some, s0_104, true_and, forall_eq]
  have f1 : Fr dG eG M M1 := ⟨fun b j hd => by rw [h1 b (by rintro rfl; exact absurd hd (by simp [dG]))], fun b hd => by rw [h2], by rw [h2]⟩
  have f2 : Fr dG eG M (stJ (stJ (stJ (stI (stI (stI (stI (stI (stI M1 10 10 0) 10 11 (nI mo)) 10 14 (-1)) 10 15 (-1)) 10 16 (-1)) 10 17 (-1)) 10 18 0) 104 0 ((stJ (stI (stI (stI (stI (stI (stI M1 10 10 0) 10 11 (nI mo)) 10 14 (-1)) 10 15 (-1)) 10 16 (-1)) 10 17 (-1)) 10 18 0).2.1 q 0)) 104 1 ((stJ (stJ (stI (stI (stI (stI (stI (stI M1 10 10 0) 10 11 (nI mo)) 10 14 (-1)) 10 15 (-1)) 10 16 (-1)) 10 17 (-1)) 10 18 0) 104 0 ((stJ (stI (stI (stI (stI (stI (stI M1 10 10 0) 10 11 (nI mo)) 10 14 (-1)) 10 15 (-1)) 10 16 (-1)) 10 17 (-1)) 10 18 0).2.1 q 0)).2.1 q 1)) := Fr_J rfl (Fr_J rfl (Fr_J rfl (Fr_I rfl (Fr_I rfl (Fr_I rfl (Fr_I rfl (Fr_I rfl (Fr_I rfl f1))))))))
  have v1 : (stJ (stI (stI (stI (stI (stI (stI M1 10 10 0) 10 11 (nI mo)) 10 14 (-1)) 10 15 (-1)) 10 16 (-1)) 10 17 (-1)) 10 18 0).2.1 q 0 = lN A := by
    rw [rJ, if_neg (by omega)]
    show M1.2.1 q 0 = _
    rw [h2]; exact e0
  have v2 : (stJ (stJ (stI (stI (stI (stI (stI (stI M1 10 10 0) 10 11 (nI mo)) 10 14 (-1)) 10 15 (-1)) 10 16 (-1)) 10 17 (-1)) 10 18 0) 104 0 (lN A)).2.1 q 1 = lN B := by
    rw [rJ, if_neg (by omega), rJ, if_neg (by omega)]
    show M1.2.1 q 1 = _
    rw [h2]; exact e1
  rw [v1, v2] at f2
  rw [v1, v2]
  generalize hX : stJ (stJ (stJ (stI (stI (stI (stI (stI (stI M1 10 10 0) 10 11 (nI mo)) 10 14 (-1)) 10 15 (-1)) 10 16 (-1)) 10 17 (-1)) 10 18 0) 104 0 (lN A)) 104 1 (lN B) = X at f2
  have x0 : X.2.1 104 0 = lN A := by rw [← hX, rJ, if_neg (by omega), stJ_get]
  have x1 : X.2.1 104 1 = lN B := by rw [← hX, stJ_get]
  have xi : X.1 = (stI (stI (stI (stI (stI (stI M1 10 10 0) 10 11 (nI mo)) 10 14 (-1)) 10 15 (-1)) 10 16 (-1)) 10 17 (-1)).1 := by rw [← hX]; rfl
  have xw : WK X [] := by
    refine ⟨?_, by simp, fun s hs => absurd hs (by simp), fun _ => 0, ⟨fun s a b => absurd b (by simp), fun s s' a b => absurd b (by simp), fun s a b => absurd b (by simp)⟩, fun s hs => absurd hs (by simp), fun k hk _ => ?_⟩
    · rw [xi]
      rw [rI_ne (by omega), rI_ne (by omega), rI_ne (by omega), rI_ne (by omega), rI_ne (by omega), rI_eq]; rfl
    · rw [xi, stI_row (by omega), stI_row (by omega), stI_row (by omega), stI_row (by omega), stI_row (by omega), stI_row (by omega)]; exact h3 k hk
  have xr : ∀ j, X.1 10 j = if j = 17 ∨ j = 16 ∨ j = 15 ∨ j = 14 then -1 else if j = 11 then nI mo else if j = 10 then 0 else M.1 10 j := by
    intro j
    rw [xi]
    simp only [rI, true_and]
    rw [h1 10 (by omega)]
    by_cases j17 : j = 17
    · simp [j17]
    · by_cases j16 : j = 16
      · simp [j16]
      · by_cases j15 : j = 15
        · simp [j15]
        · by_cases j14 : j = 14
          · simp [j14]
          · simp [j17, j16, j15, j14]
  have x18 : X.2.1 10 18 = 0 := by
    rw [← hX, rJ, if_neg (by omega), rJ, if_neg (by omega), stJ_get]
  refine find_ok (L := []) (A := A) (B := B) (mo := mo) (lo := 0) (fs := 0) (fm := 0) (dp := 0) (FX_fr f2 hF) (by unfold wyR at *; rw [f2.2.2]; exact hw') (by rw [xr]; simp) hmo2 hA hB x0 x1 (by simp) (by simp [frm]) xw (fun s _ b => absurd b (by simp)) (fun _ _ M' f3 w3 => ?_) (fun _ h => absurd h (by simp; omega))
  have I3 : ∀ j, j ≠ 10 → M'.1 10 j = X.1 10 j := fun j hj => f3.1 10 j (by simp [dF, hj])
  refine hK M' (Fr_tr f2 (Fr_mono (fun b j hd => ?_) (fun b hd => ?_) f3)) w3 ?_ ?_ ?_ ?_ ?_ ?_ ?_ ?_
  · unfold dG at hd
    unfold dF
    simp only [Bool.or_eq_false_iff, Bool.and_eq_false_iff, beq_eq_false_iff_ne, decide_eq_false_iff_not] at *
    omega
  · unfold eG at hd
    unfold eF
    simp only [Bool.or_eq_false_iff, beq_eq_false_iff_ne] at *
    omega
  · rw [I3 11 (by omega), xr]; simp
  · rw [I3 12 (by omega), xr]; simp
  · rw [I3 13 (by omega), xr]; simp
  · rw [I3 14 (by omega), xr]; simp
  · rw [I3 15 (by omega), xr]; simp
  · rw [I3 16 (by omega), xr]; simp
  · rw [I3 17 (by omega), xr]; simp
  · rw [f3.2.1 10 rfl]; exact x18
