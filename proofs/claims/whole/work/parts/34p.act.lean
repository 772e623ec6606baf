/-! a step of the class -/
/-! frames: which cells a piece of code may change -/
def Fr (D : Nat → Nat → Bool) (E : Nat → Bool) (M M' : Mm) : Prop := (∀ b j, D b j = false → M'.1 b j = M.1 b j) ∧ (∀ b, E b = false → M'.2.1 b = M.2.1 b) ∧ M'.2.2 = M.2.2
theorem Fr_refl (D : Nat → Nat → Bool) (E : Nat → Bool) (M : Mm) : Fr D E M M := ⟨fun _ _ _ => rfl, fun _ _ => rfl, rfl⟩
theorem Fr_tr {D : Nat → Nat → Bool} {E : Nat → Bool} {M M' M'' : Mm} (h : Fr D E M M') (h' : Fr D E M' M'') : Fr D E M M'' := ⟨fun b j d => (h'.1 b j d).trans (h.1 b j d), fun b d => (h'.2.1 b d).trans (h.2.1 b d), h'.2.2.trans h.2.2⟩
theorem Fr_I {D : Nat → Nat → Bool} {E : Nat → Bool} {M M' : Mm} {a k : Nat} {v : Int32} (hd : D a k = true) (h : Fr D E M M') : Fr D E M (stI M' a k v) :=
  ⟨fun b j d => by
    rw [rI, if_neg (by rintro ⟨rfl, rfl⟩; rw [hd] at d; exact absurd d (by decide))]; exact h.1 b j d, h.2.1, h.2.2⟩
theorem Fr_J {D : Nat → Nat → Bool} {E : Nat → Bool} {M M' : Mm} {a k : Nat} {v : Int64} (hd : E a = true) (h : Fr D E M M') : Fr D E M (stJ M' a k v) :=
  ⟨h.1, fun b d => by
    rw [stJ_row (by rintro rfl; rw [hd] at d; exact absurd d (by decide))]; exact h.2.1 b d, h.2.2⟩
theorem Fr_E1 {D : Nat → Nat → Bool} {E : Nat → Bool} {M M' M'' : Mm} {a : Nat} (hd : ∀ j, D a j = true) (h : Fr D E M M') (h' : E1 a M' M'') : Fr D E M M'' :=
  ⟨fun b j d => by
    rw [h'.1 b (by rintro rfl; rw [hd] at d; exact absurd d (by decide))]; exact h.1 b j d, fun b d => by rw [h'.2]; exact h.2.1 b d, by rw [h'.2]; exact h.2.2⟩
theorem Fr_mono {D D' : Nat → Nat → Bool} {E E' : Nat → Bool} {M M' : Mm} (hd : ∀ b j, D' b j = false → D b j = false) (he : ∀ b, E' b = false → E b = false) (h : Fr D E M M') : Fr D' E' M M' := ⟨fun b j d => h.1 b j (hd b j d), fun b d => h.2.1 b (he b d), h.2.2⟩
theorem Fr_row {D : Nat → Nat → Bool} {E : Nat → Bool} {M M' : Mm} (h : Fr D E M M') (a : Nat) (hd : ∀ j, D a j = false) : M'.1 a = M.1 a := funext fun j => h.1 a j (hd j)
theorem stJ_self {M : Mm} {a k : Nat} {v : Int64} (h : M.2.1 a k = v) : stJ M a k v = M := by
  unfold stJ
  have : (fun b j => if b = a ∧ j = k then v else M.2.1 b j) = M.2.1 := by
    funext b j
    split
    · rename_i h1; rw [h1.1, h1.2, h]
    · rfl
  rw [this]
theorem put_ltn {N s w v n : Nat} (hN : N < 2 ^ n) (hsw : s + w ≤ n) (hv : v < 2 ^ w) : put N s w v < 2 ^ n := by
  apply Nat.lt_pow_two_of_testBit
  intro j hj
  rw [put_bit hv, if_neg (by omega), if_neg (by omega)]
  exact Nat.testBit_lt_two_pow (Nat.lt_of_lt_of_le hN (Nat.pow_le_pow_right (by omega) hj))
theorem fld_sub1 {N s v : Nat} (hv : v < 2 ^ 6) : fld (put N s 6 v) s 2 = v % 4 := by
  apply Nat.eq_of_testBit_eq
  intro j
  rw [fld_bit, put_bit hv, if_neg (by omega), show (4 : Nat) = 2 ^ 2 from rfl, Nat.testBit_mod_two_pow]
  by_cases h : j < 2
  · rw [if_pos (by omega)]; simp [h]
  · simp [h]
theorem fld_sub2 {N s v : Nat} (hv : v < 2 ^ 6) : fld (put N s 6 v) (s + 2) 4 = v / 4 := by
  apply Nat.eq_of_testBit_eq
  intro j
  rw [fld_bit, put_bit hv, if_neg (by omega), show v / 4 = v / 2 ^ 2 from rfl, Nat.testBit_div_two_pow]
  by_cases h : j < 4
  · rw [if_pos (by omega)]; simp only [h, decide_true, Bool.true_and]; congr 1; omega
  · simp only [h, decide_false, Bool.false_and]
    exact (Nat.testBit_lt_two_pow (Nat.lt_of_lt_of_le hv (Nat.pow_le_pow_right (by omega) (by omega)))).symm
theorem put_dec {N s w : Nat} (h : 1 ≤ fld N s w) : put N s w (fld N s w - 1) = N - 2 ^ s := by
  have e1 : N = 2 ^ s * (N / 2 ^ s) + N % 2 ^ s := (Nat.div_add_mod N (2 ^ s)).symm
  have e2 : N / 2 ^ s = 2 ^ w * (N / 2 ^ s / 2 ^ w) + fld N s w := (Nat.div_add_mod (N / 2 ^ s) (2 ^ w)).symm
  unfold put
  have e3 : 2 ^ w * (N / 2 ^ s / 2 ^ w) + (fld N s w - 1) = N / 2 ^ s - 1 := by omega
  rw [e3, Nat.mul_sub, Nat.mul_one]
  have : 2 ^ s * 1 ≤ 2 ^ s * (N / 2 ^ s) := Nat.mul_le_mul_left _ (by omega)
  omega
theorem fld_le {N s w : Nat} (h : 1 ≤ fld N s w) : 2 ^ s ≤ N := by
  rcases Nat.lt_or_ge N (2 ^ s) with h1 | h1
  · unfold fld at h; rw [Nat.div_eq_of_lt h1] at h; simp at h
  · exact h1
theorem lN_subN {a b : Nat} (h : b ≤ a) : lN a - lN b = lN (a - b) := by
  have : a = (a - b) + b := by omega
  conv => lhs; rw [this]
  show Int64.ofNat (a - b + b) - Int64.ofNat b = Int64.ofNat (a - b)
  rw [Int64.ofNat_add, Int64.add_sub_cancel]
theorem x255 (x : Int32) : (x &&& (255 : Int32)).toInt64 = lN (x.toBitVec.toNat % 256) := by
  rw [pk_and x (m := (255 : Int32)) 8 rfl, nI_l (by omega)]
theorem putSlot_ok {S : Ss} {q k A : Nat} {x : Int32} {M : Mm} {K : Mm → Prop} (hk : k < 8) (hm : M.2.1 q 0 = lN A) (h : K (stJ M q 0 (lN (put A (8 * k) 8 (x.toBitVec.toNat % 256))))) : f_X4_putSlot S q (nI k) x M K := by
  unfold f_X4_putSlot
  simp only [forall_eq]
  rw [hm, x255, show (8 : Int32) = nI 8 from rfl, pk_mul, show (255 : Int64) = lN (2 ^ 8 - 1) from rfl, bt_wr (k * 8) 8 _ (by omega) (by omega) (by omega), Nat.mul_comm k 8]
  exact h
theorem putLine_ok {S : Ss} {q k v B : Nat} {M : Mm} {K : Mm → Prop} (hk : k < 4) (hv : v < 16) (hm : M.2.1 q 1 = lN B) (h : K (stJ M q 1 (lN (put B (24 + 4 * k) 4 v)))) : f_X4_putLine S q (nI k) (nI v) M K := by
  unfold f_X4_putLine
  simp only [forall_eq]
  have e : (nI v &&& (15 : Int32)).toInt64 = lN v := by
    rw [pk_andN (by omega) (m := (15 : Int32)) 4 rfl, nI_l (by omega)]
    congr 1; omega
  rw [hm, e, show (4 : Int32) = nI 4 from rfl, pk_mul, show (24 : Int32) = nI 24 from rfl, nI_add, show (15 : Int64) = lN (2 ^ 4 - 1) from rfl, bt_wr (24 + k * 4) 4 _ (by omega) (by omega) (by omega), Nat.mul_comm k 4]
  exact h
theorem putPart_ok {S : Ss} {q k pl tn B : Nat} {M : Mm} {K : Mm → Prop} (hk : k < 4) (hp : pl < 4) (ht : tn < 16) (hm : M.2.1 q 1 = lN B) (h : K (stJ M q 1 (lN (put B (6 * k) 6 (pl + 4 * tn))))) : f_X4_putPart S q (nI k) (nI pl) (nI tn) M K := by
  unfold f_X4_putPart
  simp only [forall_eq]
  have e : (((nI tn &&& (15 : Int32)) <<< ((2 : Int32) &&& 31)) ||| (nI pl &&& (3 : Int32))).toInt64 = lN (pl + 4 * tn) := by
    have : ∀ t, t < 16 → ∀ p, p < 4 → (((nI t &&& (15 : Int32)) <<< ((2 : Int32) &&& 31)) ||| (nI p &&& (3 : Int32))).toInt64 = lN (p + 4 * t) := by decide +kernel
    exact this tn ht pl hp
  rw [hm, e, show (6 : Int32) = nI 6 from rfl, pk_mul, Nat.mul_comm k 6]
  have := bt_wr (N := B) (6 * k) 6 (pl + 4 * tn) (by omega) (by omega) (by omega)
  rw [show lN (2 ^ 6 - 1) = (63 : Int64) from rfl] at this
  rw [this]
  exact h
def dec1 (B0 B k : Nat) : Nat := if qT B0 k = 0 then B else put B (6 * k + 2) 4 (qT B k - 1)
def decs (B0 B : Nat) : Nat := dec1 B0 (dec1 B0 (dec1 B0 (dec1 B0 B 0) 1) 2) 3
theorem end1 {S : Ss} {q k B0 B n : Nat} {M : Mm} {EK K : Mm → Prop} (hk : k < 4) (hB0 : B0 < 2 ^ 64) (hm : M.2.1 q 1 = lN B) (hg : qT B0 k ≠ 0 → 1 ≤ qT B k) (h : f_X4_endStep_L2 S q (lN B0) EK K n (nI (k + 1)) (stJ M q 1 (lN (dec1 B0 B k)))) : f_X4_endStep_L2 S q (lN B0) EK K (n + 1) (nI k) M := by
  unfold f_X4_endStep_L2 f_X4_endStep_B2 f_X4_tenthsIn
  simp only [forall_eq, nI_1]
  rw [rdT k hB0 hk, hm]
  have hlt := qT_lt B0 k
  refine ⟨fun z => absurd z (show ¬ nI 4 ≤ nI k from nI_ge hk (by decide)), fun _ => ⟨fun z => ?_, fun z => ?_⟩⟩
  · have : qT B0 k = 0 := by
      rw [show (0 : Int32) = nI 0 from rfl, nI_leI (by omega) (by omega)] at z; omega
    have e : dec1 B0 B k = B := by unfold dec1; rw [if_pos this]
    rw [e, stJ_self hm] at h; exact h
  · have hz : qT B0 k ≠ 0 := by
      rw [show (0 : Int32) = nI 0 from rfl, nI_leI (by omega) (by omega)] at z; omega
    have e : dec1 B0 B k = B - 2 ^ (6 * k + 2) := by unfold dec1; rw [if_neg hz]; exact put_dec (hg hz)
    have e2 : (4 : Int64) <<< ((nI k * (6 : Int32)).toInt64 &&& 63) = lN (2 ^ (6 * k + 2)) := by
      have : ∀ k, k < 4 → (4 : Int64) <<< ((nI k * (6 : Int32)).toInt64 &&& 63) = lN (2 ^ (6 * k + 2)) := by decide +kernel
      exact this k hk
    rw [e2, lN_subN (fld_le (hg hz)), ← e]
    exact h
theorem stJ_stJ {M : Mm} {a k : Nat} {v w : Int64} : stJ (stJ M a k v) a k w = stJ M a k w := by
  unfold stJ
  have : (fun b j => if b = a ∧ j = k then w else (fun b j => if b = a ∧ j = k then v else M.2.1 b j) b j) = (fun b j => if b = a ∧ j = k then w else M.2.1 b j) := by
    funext b j
    by_cases h : b = a ∧ j = k
    · rw [if_pos h, if_pos h]
    · rw [if_neg h, if_neg h]; simp only [h, if_false]
  simp only [this]
theorem stJ_get {M : Mm} {a k : Nat} {v : Int64} : (stJ M a k v).2.1 a k = v := by rw [rJ]; simp
theorem qT_dec {B0 B k : Nat} (hk : k < 4) (k' : Nat) : qT (dec1 B0 B k) k' = if k' = k ∧ qT B0 k ≠ 0 then qT B k - 1 else qT B k' := by
  unfold dec1
  have hlt := qT_lt B k
  by_cases hz : qT B0 k = 0
  · rw [if_pos hz, if_neg (by omega)]
  · rw [if_neg hz]
    by_cases h : k' = k
    · subst h
      rw [if_pos ⟨rfl, hz⟩]
      exact fld_put (by omega)
    · rw [if_neg (by omega)]
      exact fld_put_ne (by omega) (by omega)
theorem endStep_ok {S : Ss} {q B0 B : Nat} {M : Mm} {K : Mm → Prop} (hB0 : B0 < 2 ^ 64) (hm : M.2.1 q 1 = lN B) (hg : ∀ k, k < 4 → qT B0 k ≠ 0 → 1 ≤ qT B k) (h : K (stJ M q 1 (lN (decs B0 B)))) : f_X4_endStep S q (lN B0) M K := by
  unfold f_X4_endStep
  refine ⟨5, ?_⟩
  refine end1 (k := 0) (by omega) hB0 hm (hg 0 (by omega)) ?_
  refine end1 (k := 1) (by omega) hB0 stJ_get (fun z => by rw [qT_dec (by omega), if_neg (by omega)]; exact hg 1 (by omega) z) ?_
  refine end1 (k := 2) (by omega) hB0 stJ_get (fun z => by rw [qT_dec (by omega), if_neg (by omega), qT_dec (by omega), if_neg (by omega)]; exact hg 2 (by omega) z) ?_
  refine end1 (k := 3) (by omega) hB0 stJ_get (fun z => by rw [qT_dec (by omega), if_neg (by omega), qT_dec (by omega), if_neg (by omega), qT_dec (by omega), if_neg (by omega)]; exact hg 3 (by omega) z) ?_
  simp only [stJ_stJ]
  unfold f_X4_endStep_L2 f_X4_endStep_B2
  exact ⟨fun _ => h, fun z => absurd (show nI 4 ≤ nI (3 + 1) by decide) z⟩
/-! a machine's programs and settings, as numbers: lines, how many, bolts, speeds, how many bolts, which are on, how many tasks -/
abbrev Cf : Type := (Nat → Nat → Nat × Nat × List Nat) × (Nat → Nat) × (Nat → List Nat) × (Nat → Nat) × Nat × Nat × Nat
def cL (C : Cf) (t i : Nat) : Nat × Nat × List Nat := C.1 t i
def cN (C : Cf) (t : Nat) : Nat := C.2.1 t
def cB (C : Cf) (b : Nat) : List Nat := C.2.2.1 b
def cS (C : Cf) (k : Nat) : Nat := C.2.2.2.1 k
def cb (C : Cf) : Nat := C.2.2.2.2.1
def con (C : Cf) : Nat := C.2.2.2.2.2.1
def cT (C : Cf) : Nat := C.2.2.2.2.2.2
/-- what holds of the numbers alone -/
def CO (C : Cf) : Prop := cT C ≤ 4 ∧ cb C ≤ 3 ∧ con C < 8 ∧ (∀ k, k < 4 → cS C k < 16) ∧ (∀ b, b < cb C → WFx (cB C b)) ∧ ∀ t, t < cT C → 1 ≤ cN C t ∧ cN C t ≤ 16 ∧ ∀ i, i < cN C t → LnOk (cL C t i).1 (cL C t i).2.1 (cL C t i).2.2
/-- the bolts that don't hold -/
def flb (C : Cf) (th : Nat → Int32) : Nat → Nat
  | 0 => 0
  | b + 1 => flb C th b + if (con C).testBit b = true ∧ evv th (cB C b) = 0 then 2 ^ b else 0
theorem flb_lt (C : Cf) (th : Nat → Int32) : ∀ b, flb C th b < 2 ^ b
  | 0 => by simp [flb]
  | b + 1 => by
    have := flb_lt C th b
    unfold flb
    rw [Nat.pow_succ]
    split <;> omega
def mv (C : Cf) (B nu pl : Nat) : Nat := if qT B nu = 0 then put B (6 * nu) 6 (pl + 4 * (if qA B nu = pl then 0 else cS C nu)) else B
def nxt (C : Cf) (t ln : Nat) : Nat := if ln + 1 < cN C t then ln + 1 else 0
/-- slots as the step begins -/
def stK (A key : Nat) : Nat := if key = 0 then A else put A 56 8 key
def fz (t : Nat) : F4 := (0, 0, 0, nI t)
def fin (B t B2 next : Nat) : Nat := decs B (put B2 (24 + 4 * t) 4 next)
/-- a step: slots, rest, what it did, the bolts that did not hold -/
def stp (C : Cf) (A B t key : Nat) : Nat × Nat × F4 × Nat :=
  if (cL C t (qL B t)).1 = 0 then (put (stK A key) (8 * (cL C t (qL B t)).2.1) 8 ((evv (thg (stK A key) B (fz t)) (cL C t (qL B t)).2.2).toBitVec.toNat % 256), fin B t B (nxt C t (qL B t)), fz t, 0)
  else if (cL C t (qL B t)).1 = 1 then (stK A key, fin B t B (if evv (thg (stK A key) B (fz t)) (cL C t (qL B t)).2.2 = 0 then qL B t else nxt C t (qL B t)), fz t, 0)
  else if (cL C t (qL B t)).1 = 2 then (stK A key, fin B t (mv C B (cL C t (qL B t)).2.1 ((evv (thg (stK A key) B (fz t)) (cL C t (qL B t)).2.2).toBitVec.toNat % 4)) (nxt C t (qL B t)), fz t, 0)
  else if (cL C t (qL B t)).1 = 3 then (stK A key, fin B t B (if evv (thg (stK A key) B (fz t)) (cL C t (qL B t)).2.2 = 0 then nxt C t (qL B t) else if (cL C t (qL B t)).2.1 < cN C t then (cL C t (qL B t)).2.1 else 0), fz t, 0)
  else if (cL C t (qL B t)).1 = 4 then (stK A key, fin B t B (nxt C t (qL B t)), (0, 0, nI ((cL C t (qL B t)).2.1 + 1), nI t), 0)
  else (stK A key, fin B t B (nxt C t (qL B t)), (if flb C (thg (stK A key) B (fz t)) (cb C) = 0 then 1 else 0, if flb C (thg (stK A key) B (fz t)) (cb C) = 0 then 0 else 1, 0, nI t), flb C (thg (stK A key) B (fz t)) (cb C))
/-- line i of the class's program at p is l -/
def LC (M : Mm) (p i : Nat) (l : Nat × Nat × List Nat) : Prop := M.1 (p + 2) i = nI l.1 ∧ M.1 (p + 3) i = nI l.2.1 ∧ PE M p i l.2.2
/-- the class's machine is C -/
def CC (M : Mm) (C : Cf) : Prop := CO C ∧ M.1 11 10 = nI (cT C) ∧ M.1 11 11 = nI (cb C) ∧ M.1 11 14 = nI (con C) ∧ (∀ k, k < 4 → M.1 18 k = nI (cS C k)) ∧ (∀ b, b < cb C → ∃ p, p ∈ PR ∧ M.2.2 13 b = some p ∧ PE M p 0 (cB C b)) ∧ ∀ t, t < cT C → ∃ p, p ∈ PR ∧ M.2.2 12 t = some p ∧ M.1 p 6 = nI (cN C t) ∧ ∀ i, i < cN C t → (M.2.2 17 (16 * t + i) = none ∧ LC M p i (cL C t i)) ∨ ∃ p', p' ∈ PR ∧ M.2.2 17 (16 * t + i) = some p' ∧ LC M p' 0 (cL C t i)
theorem PE_ag {M M' : Mm} (ep : ∀ a, prc a → M'.1 a = M.1 a) {p i : Nat} (hp : p ∈ PR) {e : List Nat} (h : PE M p i e) : PE M' p i e := by
  unfold PE at *
  rw [ep _ (pr_prc0 hp), ep _ (pr_prc hp 4 (by omega)), ep _ (pr_prc hp 5 (by omega))]; exact h
theorem LC_ag {M M' : Mm} (ep : ∀ a, prc a → M'.1 a = M.1 a) {p i : Nat} (hp : p ∈ PR) {l : Nat × Nat × List Nat} (h : LC M p i l) : LC M' p i l := by
  unfold LC at *
  rw [ep _ (pr_prc hp 2 (by omega)), ep _ (pr_prc hp 3 (by omega))]; exact ⟨h.1, h.2.1, PE_ag ep hp h.2.2⟩
theorem CC_ag {M M' : Mm} {C : Cf} (ep : ∀ a, prc a → M'.1 a = M.1 a) (e0 : M'.1 11 10 = M.1 11 10) (e1 : M'.1 11 11 = M.1 11 11) (e2 : M'.1 11 14 = M.1 11 14) (e3 : M'.1 18 = M.1 18) (r1 : M'.2.2 12 = M.2.2 12) (r2 : M'.2.2 13 = M.2.2 13) (r3 : M'.2.2 17 = M.2.2 17) (h : CC M C) : CC M' C := by
  obtain ⟨h0, h1, h2, h3, h4, h5, h6⟩ := h
  refine ⟨h0, by rw [e0]; exact h1, by rw [e1]; exact h2, by rw [e2]; exact h3, by rw [e3]; exact h4, fun b hb => ?_, fun t ht => ?_⟩
  · obtain ⟨p, hp, a1, a2⟩ := h5 b hb
    exact ⟨p, hp, by rw [r2]; exact a1, PE_ag ep hp a2⟩
  · obtain ⟨p, hp, a1, a2, a3⟩ := h6 t ht
    refine ⟨p, hp, by rw [r1]; exact a1, by rw [ep _ (pr_prc0 hp)]; exact a2, fun i hi => ?_⟩
    rw [r3]
    exact (a3 i hi).imp (fun z => ⟨z.1, LC_ag ep hp z.2⟩) (fun ⟨p', z1, z2, z3⟩ => ⟨p', z1, z2, LC_ag ep z1 z3⟩)
/-- what a step of the class at the moment q may change -/
def dA (q : Nat) : Nat → Nat → Bool := fun b _ => b == q || b == 19
def eA (q : Nat) : Nat → Bool := fun b => b == q
def isM (q : Nat) : Prop := q = 104 ∨ q = 113 ∨ q = 114
theorem fr_prc {q : Nat} (hq : isM q) {M M' : Mm} (h : Fr (dA q) (eA q) M M') : ∀ a, prc a → M'.1 a = M.1 a := by
  intro a ha
  refine Fr_row h a (fun j => ?_)
  unfold dA
  unfold prc at ha
  unfold isM at hq
  simp only [Bool.or_eq_false_iff, beq_eq_false_iff_ne]
  omega
theorem CC_fr {q : Nat} (hq : isM q) {C : Cf} {M M' : Mm} (h : Fr (dA q) (eA q) M M') (hC : CC M C) : CC M' C := by
  have hq' := hq
  unfold isM at hq
  refine CC_ag (fr_prc hq' h) (h.1 _ _ ?_) (h.1 _ _ ?_) (h.1 _ _ ?_) (Fr_row h _ (fun j => ?_)) (by rw [h.2.2]) (by rw [h.2.2]) (by rw [h.2.2]) hC
  all_goals (rcases hq with rfl | rfl | rfl <;> rfl)
theorem FX_fr {D : Nat → Nat → Bool} {E : Nat → Bool} {M M' : Mm} (h : Fr D E M M') (hF : FX M) : FX M' := FX_ag h.2.2 hF
set_option maxRecDepth 100000 in
theorem isM_sh {q : Nat} (hq : isM q) : S0[q]? = some (3, 0) := by
  rcases hq with rfl | rfl | rfl <;> decide +kernel

theorem begin_ok {S : Ss} {q t key A B : Nat} {F : F4} {M : Mm} {K : Mm → Prop} (hkey : key < 256) (hm : MO M q A B F) (hK : ∀ M', Fr (dA q) (eA q) M M' → MO M' q (stK A key) B (fz t) → M'.1 q 6 = 0 → K M') : f_X4_beginStep S q (nI t) (nI key) M K := by
  unfold f_X4_beginStep
  simp only [forall_eq]
  have hd : ∀ k, dA q q k = true := fun k => by simp [dA]
  have hfr : Fr (dA q) (eA q) M (stI (stI (stI (stI (stI M q 2 0) q 3 0) q 4 0) q 6 0) q 5 (nI t)) := Fr_I (hd _) (Fr_I (hd _) (Fr_I (hd _) (Fr_I (hd _) (Fr_I (hd _) (Fr_refl _ _ _)))))
  obtain ⟨hA, hB, e0, e1, -⟩ := hm
  have hint : ∀ X : Mm, X.1 = (stI (stI (stI (stI (stI M q 2 0) q 3 0) q 4 0) q 6 0) q 5 (nI t)).1 → X.1 q 2 = 0 ∧ X.1 q 3 = 0 ∧ X.1 q 4 = 0 ∧ X.1 q 5 = nI t ∧ X.1 q 6 = 0 := by
    intro X hX
    rw [hX]
    simp [rI]
  refine ⟨fun z => ?_, fun z => ?_⟩
  · have hz : key = 0 := by
      rw [show (0 : Int32) = nI 0 from rfl, nI_leI (by omega) (by omega)] at z; omega
    obtain ⟨i1, i2, i3, i4, i5⟩ := hint _ rfl
    exact hK _ hfr ⟨by unfold stK; rw [if_pos hz]; exact hA, hB, by unfold stK; rw [if_pos hz]; exact e0, e1, i1, i2, i3, i4⟩ i5
  · have hz : key ≠ 0 := by
      rw [show (0 : Int32) = nI 0 from rfl, nI_leI (by omega) (by omega)] at z; omega
    refine putSlot_ok (k := 7) (by omega) (M := stI (stI (stI (stI (stI M q 2 0) q 3 0) q 4 0) q 6 0) q 5 (nI t)) (A := A) e0 ?_
    have ek : (nI key).toBitVec.toNat % 256 = key := by rw [pk_tn (by omega)]; omega
    rw [ek]
    have ek2 : put A (8 * 7) 8 key = stK A key := by unfold stK; rw [if_neg hz]
    rw [ek2]
    obtain ⟨i1, i2, i3, i4, i5⟩ := hint (stJ (stI (stI (stI (stI (stI M q 2 0) q 3 0) q 4 0) q 6 0) q 5 (nI t)) q 0 (lN (stK A key))) rfl
    exact hK _ (Fr_J (by simp [eA]) hfr) ⟨by rw [← ek2]; exact put_ltn hA (by omega) (by omega), hB, stJ_get, by rw [rJ, if_neg (by omega)]; exact e1, i1, i2, i3, i4⟩ i5
theorem bit_on : ∀ c, c < 8 → ∀ b, b < 3 → ((nI c &&& ((1 : Int32) <<< (nI b &&& 31))) = 0 ↔ c.testBit b = false) := by decide +kernel
theorem bit_or : ∀ b, b < 3 → ∀ x, x < 2 ^ b → nI x ||| ((1 : Int32) <<< (nI b &&& 31)) = nI (x + 2 ^ b) := by decide +kernel
theorem E1_Fr {a : Nat} {M M' : Mm} (h : E1 a M M') {D : Nat → Nat → Bool} {E : Nat → Bool} (hd : ∀ j, D a j = true) : Fr D E M M' := Fr_E1 hd (Fr_refl _ _ _) h
theorem MO_E1 {M M' : Mm} {q A B : Nat} {F : F4} (hq : q ≠ 19) (h : E1 19 M M') (hm : MO M q A B F) : MO M' q A B F := by
  unfold MO at *; rw [h.1 q hq, h.2]; exact hm
theorem isM_19 {q : Nat} (hq : isM q) : q ≠ 19 := by unfold isM at hq; omega
theorem fire_L {q A B : Nat} {F : F4} {C : Cf} (hq : isM q) {EK : Int32 → Mm → Prop} {K : Mm → Prop} :
    ∀ (n b : Nat) (M : Mm), b + n = cb C → CC M C → FX M → MO M q A B F → (∀ M', E1 19 M M' → EK (nI (flb C (thg A B F) (cb C))) M') → f_X3_fire_L4 S0 11 q EK K (n + 1) (nI (flb C (thg A B F) b)) (nI b) M
  | 0, b, M, hb, hC, hF, hm, hK => by
    unfold f_X3_fire_L4 f_X3_fire_B4
    obtain ⟨⟨c1, c2, c3, c4, c5, c6⟩, h1, h2, h3, h4, h5, h6⟩ := hC
    rw [h2]
    have : b = cb C := by omega
    subst this
    exact ⟨fun _ => hK M (E1_refl _ _), fun z => absurd (nI_le (Nat.le_refl _) (by omega)) z⟩
  | n + 1, b, M, hb, hC, hF, hm, hK => by
    unfold f_X3_fire_L4 f_X3_fire_B4
    have hC' := hC
    obtain ⟨⟨c1, c2, c3, c4, c5, c6⟩, h1, h2, h3, h4, h5, h6⟩ := hC
    rw [h2, h3]
    have hb3 : b < 3 := by omega
    refine ⟨fun z => absurd z (nI_ge (by omega) (by omega)), fun _ => ?_⟩
    rw [bit_on _ c3 b hb3]
    obtain ⟨p, hp, e1, e2⟩ := h5 b (by omega)
    have hin : vp_in (nI b) 3 := vp_in_nI hb3 (by omega)
    have hcl : (nI b).toNatClampNeg = b := nI_clamp (by omega)
    simp only [forall_eq, nI_1, fx_11_1 hF, ex_some, s0_13, ex_sh, hin, hcl, true_and, e1, (pr_sh p hp).1]
    have hflt := flb_lt C (thg A B F) b
    have go : ∀ M', E1 19 M M' → f_X3_fire_L4 S0 11 q EK K (n + 1) (nI (flb C (thg A B F) (b + 1))) (nI (b + 1)) M' := by
      intro M' hE
      refine fire_L hq n (b + 1) M' (by omega) (CC_fr hq (E1_Fr hE (fun j => by simp [dA])) hC') (FX_ag (by rw [hE.2]) hF) (MO_E1 (isM_19 hq) hE hm) (fun M'' h => hK M'' (E1_tr hE h))
    have e0 : flb C (thg A B F) (b + 1) = flb C (thg A B F) b + if (con C).testBit b = true ∧ evv (thg A B F) (cB C b) = 0 then 2 ^ b else 0 := rfl
    refine ⟨fun z => ?_, fun z => ?_⟩
    · have := go M (E1_refl _ _)
      rw [e0, if_neg (by simp [z]), Nat.add_zero] at this
      exact this
    · have z : (con C).testBit b = true := by simpa using z
      refine value_ok (i := 0) hp hF (isM_19 hq) hm e2 (Or.inl (c5 b (by omega))) (fun M' hE => ⟨fun y => ?_, fun y => ?_⟩)
      · have := go M' hE
        rw [e0, if_pos ⟨z, y⟩] at this
        rw [bit_or b hb3 _ hflt]
        exact this
      · have := go M' hE
        rw [e0, if_neg (by simp [y]), Nat.add_zero] at this
        exact this
theorem fire_ok {q A B t : Nat} {C : Cf} {M : Mm} {K : Mm → Prop} (hq : isM q) (hC : CC M C) (hF : FX M) (hm : MO M q A B (fz t)) (hK : ∀ M', Fr (dA q) (eA q) M M' → MO M' q A B (if flb C (thg A B (fz t)) (cb C) = 0 then 1 else 0, if flb C (thg A B (fz t)) (cb C) = 0 then 0 else 1, 0, nI t) → M'.1 q 6 = nI (flb C (thg A B (fz t)) (cb C)) → K M') : f_X3_fire S0 11 q M K := by
  unfold f_X3_fire
  have hcb := hC.1.2.1
  have hflt := flb_lt C (thg A B (fz t)) (cb C)
  have hp8 : 2 ^ cb C ≤ 2 ^ 3 := Nat.pow_le_pow_right (by omega) hcb
  refine ⟨cb C + 1, fire_L hq (cb C) 0 M (by omega) hC hF hm (fun M' hE => ?_)⟩
  simp only [forall_eq]
  have hd : ∀ k, dA q q k = true := fun k => by simp [dA]
  have hfr : Fr (dA q) (eA q) M M' := E1_Fr hE (fun j => by simp [dA])
  have hm' := MO_E1 (isM_19 hq) hE hm
  unfold f_X3_fire_J65
  simp only [isM_sh hq, true_and, forall_eq]
  obtain ⟨hA, hB, e0, e1, i2, i3, i4, i5⟩ := hm'
  refine ⟨fun z => ?_, fun z => ?_⟩
  · have hz : flb C (thg A B (fz t)) (cb C) = 0 := (nI_eq (by omega) (by omega)).mp (show nI _ = nI 0 from z)
    refine hK _ (Fr_I (hd _) (Fr_I (hd _) (Fr_I (hd _) hfr))) ⟨hA, hB, e0, e1, ?_, ?_, ?_, ?_⟩ ?_
    · simp [rI, hz]
    · simp [rI, hz]
    · simp [rI]; exact i4
    · simp [rI]; exact i5
    · simp [rI]
  · have hz : ¬ flb C (thg A B (fz t)) (cb C) = 0 := fun w => z (by rw [w]; rfl)
    refine hK _ (Fr_I (hd _) (Fr_I (hd _) (Fr_I (hd _) hfr))) ⟨hA, hB, e0, e1, ?_, ?_, ?_, ?_⟩ ?_
    · simp [rI, hz]
    · simp [rI, hz]
    · simp [rI]; exact i4
    · simp [rI]; exact i5
    · simp [rI]
theorem mv_lt {C : Cf} {B nu pl : Nat} (hC : CO C) (hnu : nu < 4) (hp : pl < 4) (hB : B < 2 ^ 40) : mv C B nu pl < 2 ^ 40 := by
  unfold mv
  have := hC.2.2.2.1 nu hnu
  split
  · refine put_ltn hB (by omega) ?_
    split <;> omega
  · exact hB
theorem move_ok {q A B nu : Nat} {x : Int32} {F : F4} {C : Cf} {M : Mm} {K : Mm → Prop} (hq : isM q) (hC : CC M C) (hF : FX M) (hm : MO M q A B F) (hnu : nu < 4) (hK : K (stJ M q 1 (lN (mv C B nu (x.toBitVec.toNat % 4))))) : f_X3_move S0 11 q (nI nu) (x &&& (3 : Int32)) M K := by
  obtain ⟨hA, hB, e0, e1, -⟩ := hm
  have hsp := hC.1.2.2.2.1 nu hnu
  have hsp2 := hC.2.2.2.2.1 nu hnu
  rw [pk_and x (m := (3 : Int32)) 2 rfl]
  unfold f_X3_move f_X4_tenthsOf f_X4_tenthsIn f_X4_targetOf
  have h2 := qT_lt B nu
  have h3 := qA_lt B nu
  have hin : vp_in (nI nu) 4 := vp_in_nI hnu (by omega)
  have hcl : (nI nu).toNatClampNeg = nu := nI_clamp (by omega)
  refine ⟨fun z => absurd z (nI_pos (by omega)), fun _ => ⟨fun z => absurd z (show ¬ nI 4 ≤ nI nu from nI_ge hnu (by decide)), fun _ => ?_⟩⟩
  rw [e1, rdT nu (by omega) hnu]
  simp only []
  rw [e1]
  have e3 := rd6 (B := B) nu 2 (by omega) hnu (by omega)
  rw [show nI (2 ^ 2 - 1) = (3 : Int32) from rfl] at e3
  rw [e3]
  rw [show fld B (6 * nu) 2 = qA B nu from rfl]
  simp only [fx_11_6 hF, ex_some, shp_ne (show (18 : Nat) ≠ 100000 by decide), s0_18, ex_sh, hin, hcl, true_and, hsp2]
  unfold f_X3_move_J40
  simp only [isM_sh hq, true_and]
  refine ⟨fun z => ⟨fun y => ?_, fun y => ?_⟩, fun z => ?_⟩
  · have hz : qT B nu = 0 := by
      rw [show (0 : Int32) = nI 0 from rfl, nI_leI (by omega) (by omega)] at z; omega
    have hy : qA B nu = x.toBitVec.toNat % 4 := (nI_eq (by omega) (by omega)).mp y
    refine putPart_ok (tn := 0) hnu (by omega) (by omega) e1 ?_
    unfold mv at hK
    rw [if_pos hz, if_pos hy] at hK
    exact hK
  · have hz : qT B nu = 0 := by
      rw [show (0 : Int32) = nI 0 from rfl, nI_leI (by omega) (by omega)] at z; omega
    have hy : ¬ qA B nu = x.toBitVec.toNat % 4 := fun w => y (by rw [w])
    refine putPart_ok (tn := cS C nu) hnu (by omega) (by omega) e1 ?_
    unfold mv at hK
    rw [if_pos hz, if_neg hy] at hK
    exact hK
  · have hz : ¬ qT B nu = 0 := by
      rw [show (0 : Int32) = nI 0 from rfl, nI_leI (by omega) (by omega)] at z; omega
    unfold mv at hK
    rw [if_neg hz, stJ_self e1] at hK
    exact hK
theorem dec1_lt {B0 B k : Nat} (hk : k < 4) (hB : B < 2 ^ 40) : dec1 B0 B k < 2 ^ 40 := by
  unfold dec1
  have := qT_lt B k
  split
  · exact hB
  · exact put_ltn hB (by omega) (by omega)
theorem decs_lt {B0 B : Nat} (hB : B < 2 ^ 40) : decs B0 B < 2 ^ 40 := dec1_lt (by omega) (dec1_lt (by omega) (dec1_lt (by omega) (dec1_lt (by omega) hB)))
theorem actJ {q A B B2 t x n : Nat} {F : F4} {M : Mm} {K : Mm → Prop} (hq : isM q) (hm : MO M q A B2 F) (ht : t < 4) (hn : n ≤ 16) (hx : x < 1000) (hB : B < 2 ^ 40) (hg : ∀ k, k < 4 → qT B k ≠ 0 → 1 ≤ qT B2 k) (hK : ∀ M', Fr (dA q) (eA q) M M' → MO M' q A (fin B t B2 (if x < n then x else 0)) F → M'.1 q 6 = M.1 q 6 → K M') : f_X3_act_J223 S0 q (nI t) (lN B) (nI n) (nI x) M K := by
  unfold f_X3_act_J223 f_X3_act_J238
  simp only [isM_sh hq, true_and]
  obtain ⟨hA, hB2, e0, e1, i2, i3, i4, i5⟩ := hm
  have he : eA q q = true := by simp [eA]
  have go : ∀ v, v < 16 → v = (if x < n then x else 0) → f_X4_putLine S0 q (nI t) (nI v) M (fun m30 => f_X4_endStep S0 q (lN B) m30 (fun m32 => K m32)) := by
    intro v hv hvx
    refine putLine_ok ht hv e1 (endStep_ok (by omega) stJ_get (fun k hk hz => ?_) ?_)
    · have : qT (put B2 (24 + 4 * t) 4 v) k = qT B2 k := fld_put_ne (by omega) (by omega)
      rw [this]; exact hg k hk hz
    · rw [stJ_stJ]
      refine hK _ (Fr_J he (Fr_refl _ _ _)) ⟨hA, ?_, ?_, ?_, i2, i3, i4, i5⟩ rfl
      · rw [← hvx]; exact decs_lt (put_ltn hB2 (by omega) (by omega))
      · rw [rJ, if_neg (by omega)]; exact e0
      · rw [stJ_get, ← hvx]; rfl
  refine ⟨fun z => ?_, fun z => ?_⟩
  · have : n ≤ x := (nI_leI (by omega) (by omega)).mp z
    exact go 0 (by omega) (by rw [if_neg (by omega)])
  · have : x < n := by
      rcases Nat.lt_or_ge x n with y | y
      · exact y
      · exact absurd (nI_le y (by omega)) z
    exact go x (by omega) (by rw [if_pos this])

theorem act_ok {q t key A B : Nat} {F : F4} {C : Cf} {M : Mm} {K : Mm → Prop} (hq : isM q) (hC : CC M C) (hF : FX M) (hm : MO M q A B F) (ht : t < cT C) (hkey : key < 256) (hln : qL B t < cN C t) (hK : ∀ M', Fr (dA q) (eA q) M M' → MO M' q (stp C A B t key).1 (stp C A B t key).2.1 (stp C A B t key).2.2.1 → M'.1 q 6 = nI (stp C A B t key).2.2.2 → K M') : f_X3_act S0 11 q (nI t) (nI key) M K := by
  have hCO := hC.1
  obtain ⟨c1, c2, c3, c4, c5, c6⟩ := hCO
  obtain ⟨l1, l2, l3⟩ := c6 t ht
  obtain ⟨k1, k2, k3, k4, k5, k6⟩ := l3 _ hln
  unfold f_X3_act
  refine ⟨fun z => absurd z (nI_pos (by omega)), fun _ => ⟨fun _ => ?_, fun z => absurd (by rw [hC.2.1]; exact nI_lt ht (by omega)) z⟩⟩
  refine begin_ok hkey hm (fun M1 f1 m1 s1 => ?_)
  have hC1 := CC_fr hq f1 hC
  have hF1 := FX_fr f1 hF
  obtain ⟨p, hp, e1, e2, e3⟩ := hC1.2.2.2.2.2.2 t ht
  have hin : vp_in (nI t) 4 := vp_in_nI (by omega) (by omega)
  have hcl : (nI t).toNatClampNeg = t := nI_clamp (by omega)
  have hB : B < 2 ^ 40 := hm.2.1
  have hlt := qL_lt B t
  unfold f_X4_lineOf
  have hix : nI t * (16 : Int32) + nI (qL B t) = nI (16 * t + qL B t) := by
    rw [show (16 : Int32) = nI 16 from rfl, pk_mul, nI_add, Nat.mul_comm]
  have hin2 : vp_in (nI (16 * t + qL B t)) 64 := vp_in_nI (by omega) (by omega)
  have hcl2 : (nI (16 * t + qL B t)).toNatClampNeg = 16 * t + qL B t := nI_clamp (by omega)
  simp only [forall_eq, m1.2.2.2.1, rdL t (show B < 2 ^ 64 by omega) (show t < 4 by omega), fx_11_0 hF1, fx_11_5 hF1, ex_some, s0_12, s0_17, ex_sh, hin, hcl, true_and, e1, (pr_sh p hp).1, e2, hix, hin2, hcl2]
  have main : ∀ p' i', p' ∈ PR → i' < 16 → LC M1 p' i' (cL C t (qL B t)) → f_X3_act_J77 S0 11 q (nI t) (lN B) (nI (qL B t)) (nI (cN C t)) p' (nI i') M1 K := by
    intro p' i' hp' hi' hLC
    obtain ⟨g1, g2, g3⟩ := hLC
    unfold f_X3_act_J77
    refine ⟨(pr_sh p' hp').1, ?_⟩
    have hE' : WFx (cL C t (qL B t)).2.2 ∨ (cL C t (qL B t)).2.2 = [] := by
      rcases Nat.lt_or_ge (cL C t (qL B t)).1 4 with y | y
      · exact Or.inl (k5 y)
      · exact Or.inr (k6 y)
    refine value_ok hp' hF1 (isM_19 hq) m1 g3 hE' (fun M2 hE2 => ?_)
    have f2 : Fr (dA q) (eA q) M M2 := Fr_E1 (fun j => by simp [dA]) f1 hE2
    have hF2 := FX_fr f2 hF
    have hC2 := CC_fr hq f2 hC
    have m2 := MO_E1 (isM_19 hq) hE2 m1
    have s2 : M2.1 q 6 = 0 := by rw [hE2.1 q (isM_19 hq)]; exact s1
    have hin' : vp_in (nI i') 16 := vp_in_nI hi' (by omega)
    have hcl' : (nI i').toNatClampNeg = i' := nI_clamp (by omega)
    have ple := pr_le p' hp'
    have g1' : M2.1 (p' + 1 + 1) i' = nI (cL C t (qL B t)).1 := by rw [hE2.1 _ (pr_n19 p' hp' 2 (by omega))]; exact g1
    have g2' : M2.1 (p' + 2 + 1) i' = nI (cL C t (qL B t)).2.1 := by rw [hE2.1 _ (pr_n19 p' hp' 3 (by omega))]; exact g2
    have sh2 : S0[p' + 1 + 1]? = some (50, 16) := (pr_sh p' hp').2.2.1
    have sh3 : S0[p' + 2 + 1]? = some (50, 16) := (pr_sh p' hp').2.2.2.1
    simp only [pr_ref hF2 hp' (show 2 < 5 by omega), pr_ref hF2 hp' (show 1 < 5 by omega), ex_some, shp_ne (show p' + 1 + 1 ≠ 100000 by omega), shp_ne (show p' + 2 + 1 ≠ 100000 by omega), sh2, sh3, ex_sh, hin', hcl', true_and, forall_eq, g1', g2', nI_1]
    have kq : ∀ n : Nat, n < 6 → (nI (cL C t (qL B t)).1 = nI n ↔ (cL C t (qL B t)).1 = n) := fun n hn => nI_eq (by omega) (by omega)
    have tr : ∀ {X Y : Mm}, Fr (dA q) (eA q) M X → Fr (dA q) (eA q) X Y → Fr (dA q) (eA q) M Y := fun a b => Fr_tr a b
    have gz : ∀ k, k < 4 → qT B k ≠ 0 → 1 ≤ qT B k := fun k _ z => by omega
    unfold f_X3_act_J171 f_X3_act_J202
    rw [show (0 : Int32) = nI 0 from rfl, show (1 : Int32) = nI 1 from rfl, show (2 : Int32) = nI 2 from rfl, show (3 : Int32) = nI 3 from rfl, show (4 : Int32) = nI 4 from rfl, kq 0 (by omega), kq 1 (by omega), kq 2 (by omega), kq 3 (by omega), kq 4 (by omega)]
    refine ⟨fun h0 => ?_, fun h0 => ⟨fun h1 => ⟨fun y => ?_, fun y => ?_⟩, fun h1 => ⟨fun h2 => ?_, fun h2 => ⟨fun h3 => ⟨fun y => ?_, fun y => ?_⟩, fun h3 => ⟨fun h4 => ?_, fun h4 => ?_⟩⟩⟩⟩⟩
    all_goals unfold stp at hK
    all_goals try rw [show nI 0 = (0 : Int32) from rfl] at y
    · rw [if_pos h0] at hK
      refine putSlot_ok (k3 h0) m2.2.2.1 ?_
      refine actJ hq (M := stJ M2 q 0 _) (B2 := B) ⟨put_ltn m2.1 (by have := k3 h0; omega) (Nat.mod_lt _ (by decide)), hB, stJ_get, by rw [rJ, if_neg (by omega)]; exact m2.2.2.2.1, m2.2.2.2.2.1, m2.2.2.2.2.2.1, m2.2.2.2.2.2.2.1, m2.2.2.2.2.2.2.2⟩ (by omega) l2 (by omega) hB gz (fun M3 f3 m3 s3 => hK M3 (tr (Fr_J (by simp [eA]) f2) f3) m3 (s3.trans s2))
    · rw [if_neg h0, if_pos h1] at hK
      refine actJ hq m2 (by omega) l2 (by omega) hB gz (fun M3 f3 m3 s3 => hK M3 (tr f2 f3) ?_ (s3.trans s2))
      rw [if_pos hln] at m3
      rw [if_pos y]; exact m3
    · rw [if_neg h0, if_pos h1] at hK
      refine actJ hq m2 (by omega) l2 (by omega) hB gz (fun M3 f3 m3 s3 => hK M3 (tr f2 f3) ?_ (s3.trans s2))
      rw [if_neg y]; exact m3
    · rw [if_neg h0, if_neg h1, if_pos h2] at hK
      rw [show nI 3 = (3 : Int32) from rfl]
      refine move_ok hq hC2 hF2 m2 (k4 h2) ?_
      refine actJ hq (M := stJ M2 q 1 _) (B2 := mv C B _ _) ⟨m2.1, mv_lt hC.1 (k4 h2) (Nat.mod_lt _ (by decide)) hB, by rw [rJ, if_neg (by omega)]; exact m2.2.2.1, stJ_get, m2.2.2.2.2.1, m2.2.2.2.2.2.1, m2.2.2.2.2.2.2.1, m2.2.2.2.2.2.2.2⟩ (by omega) l2 (by omega) hB ?_ (fun M3 f3 m3 s3 => hK M3 (tr (Fr_J (by simp [eA]) f2) f3) m3 (s3.trans s2))
      intro k hk hz
      have h2' := k4 h2
      unfold mv
      split
      · rename_i hz2
        have hne : k ≠ (cL C t (qL B t)).2.1 := by rintro rfl; exact hz hz2
        have : qT (put B (6 * (cL C t (qL B t)).2.1) 6 ((evv (thg (stK A key) B (fz t)) (cL C t (qL B t)).2.2).toBitVec.toNat % 4 + 4 * (if qA B (cL C t (qL B t)).2.1 = (evv (thg (stK A key) B (fz t)) (cL C t (qL B t)).2.2).toBitVec.toNat % 4 then 0 else cS C (cL C t (qL B t)).2.1))) k = qT B k := by
          refine fld_put_ne ?_ (by omega)
          have := c4 _ h2'
          split <;> omega
        rw [this]; omega
      · omega
    · rw [if_neg h0, if_neg h1, if_neg h2, if_pos h3] at hK
      refine actJ hq m2 (by omega) l2 (by omega) hB gz (fun M3 f3 m3 s3 => hK M3 (tr f2 f3) ?_ (s3.trans s2))
      rw [if_pos y]; exact m3
    · rw [if_neg h0, if_neg h1, if_neg h2, if_pos h3] at hK
      refine actJ hq m2 (by omega) l2 (by omega) hB gz (fun M3 f3 m3 s3 => hK M3 (tr f2 f3) ?_ (s3.trans s2))
      rw [if_neg y]; exact m3
    · rw [if_neg h0, if_neg h1, if_neg h2, if_neg h3, if_pos h4] at hK
      refine actJ hq (M := stI M2 q 4 _) (F := (0, 0, nI ((cL C t (qL B t)).2.1 + 1), nI t)) ⟨m2.1, hB, m2.2.2.1, m2.2.2.2.1, ?_, ?_, ?_, ?_⟩ (by omega) l2 (by omega) hB gz (fun M3 f3 m3 s3 => hK M3 (tr (Fr_I (by simp [dA]) f2) f3) m3 (s3.trans ?_))
      · rw [rI, if_neg (by omega)]; exact m2.2.2.2.2.1
      · rw [rI, if_neg (by omega)]; exact m2.2.2.2.2.2.1
      · simp [rI]
      · rw [rI, if_neg (by omega)]; exact m2.2.2.2.2.2.2.2
      · rw [rI, if_neg (by omega)]; exact s2
    · rw [if_neg h0, if_neg h1, if_neg h2, if_neg h3, if_neg h4] at hK
      refine fire_ok hq hC2 hF2 m2 (fun M3 f3 m3 s3 => ?_)
      refine actJ hq m3 (by omega) l2 (by omega) hB gz (fun M4 f4 m4 s4 => hK M4 (tr (tr f2 f3) f4) m4 (s4.trans s3))
  rcases e3 _ hln with ⟨n1, n2⟩ | ⟨p', n0, n1, n2⟩
  · exact Or.inl ⟨n1, main p _ hp (by omega) n2⟩
  · exact Or.inr ⟨p', n1, main p' 0 n0 (by omega) n2⟩
