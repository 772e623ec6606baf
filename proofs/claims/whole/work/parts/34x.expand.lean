/-! the class goes through all runs: expand -/
/-! going through all runs, as numbers -/
theorem stK_lt {A key : Nat} (hA : A < 2 ^ 64) (hk : key < 256) : stK A key < 2 ^ 64 := by
  unfold stK; split
  · exact hA
  · exact put_ltn hA (by omega) (by omega)
theorem fin_lt {B t B2 v : Nat} (ht : t < 4) (hv : v < 16) (hB : B2 < 2 ^ 40) : fin B t B2 v < 2 ^ 40 := decs_lt (put_ltn hB (by omega) (by omega))
theorem stp_bd {C : Cf} {A B t key : Nat} (hC : CO C) (ht : t < cT C) (h : LI C B) (hk : key < 256) (hA : A < 2 ^ 64) (hB : B < 2 ^ 40) : (stp C A B t key).1 < 2 ^ 64 ∧ (stp C A B t key).2.1 < 2 ^ 40 := by
  have c1 := hC.1
  obtain ⟨l1, l2, l3⟩ := hC.2.2.2.2.2 t ht
  have hn := nxt_lt hC (ln := qL B t) ht
  have hln := h t ht
  obtain ⟨k1, k2, k3, k4, k5, k6⟩ := l3 _ hln
  have hq := qL_lt B t
  have hK := stK_lt hA hk
  unfold stp
  split
  · rename_i h0
    have := k3 h0
    exact ⟨put_ltn hK (by omega) (Nat.mod_lt _ (by decide)), fin_lt (by omega) (by omega) hB⟩
  · split
    · refine ⟨hK, fin_lt (by omega) ?_ hB⟩
      split <;> omega
    · split
      · rename_i h2
        exact ⟨hK, fin_lt (by omega) (by omega) (mv_lt hC (k4 h2) (Nat.mod_lt _ (by decide)) hB)⟩
      · split
        · refine ⟨hK, fin_lt (by omega) ?_ hB⟩
          split
          · omega
          · split <;> omega
        · split
          · exact ⟨hK, fin_lt (by omega) (by omega) hB⟩
          · exact ⟨hK, fin_lt (by omega) (by omega) hB⟩
/-- the step of number k % w from the state of number k / w -/
def nx (C : Cf) (ky w : Nat) (L : List En) (k : Nat) : Nat × Nat × F4 × Nat := stp C (gt L (k / w)).1 (gt L (k / w)).2.1 ((k % w) / (ky + 1)) ((k % w) % (ky + 1))
def hasE (L : List En) (A B : Nat) : Bool := L.any (fun e => e.1 == A && e.2.1 == B)
theorem gt_get {L : List En} {s : Nat} (h : s < L.length) : gt L s = L[s] := by
  unfold gt; simp [h]
theorem hasE_iff {L : List En} {A B : Nat} : hasE L A B = true ↔ ∃ s, s < L.length ∧ isE L A B s := by
  unfold hasE
  rw [List.any_eq_true]
  constructor
  · rintro ⟨e, h1, h2⟩
    obtain ⟨s, hs, he⟩ := List.getElem_of_mem h1
    refine ⟨s, hs, ?_⟩
    unfold isE
    rw [gt_get hs, he]
    simpa using h2
  · rintro ⟨s, hs, h1⟩
    unfold isE at h1
    rw [gt_get hs] at h1
    exact ⟨L[s], List.getElem_mem hs, by simp [h1.1, h1.2]⟩
/-- the states that are come to by the first k steps tried -/
def bf (C : Cf) (ky w A0 B0 : Nat) : Nat → List En
  | 0 => [(A0, B0, 0, 0, 0)]
  | k + 1 => if k / w < (bf C ky w A0 B0 k).length ∧ hasE (bf C ky w A0 B0 k) (nx C ky w (bf C ky w A0 B0 k) k).1 (nx C ky w (bf C ky w A0 B0 k) k).2.1 = false then bf C ky w A0 B0 k ++ [((nx C ky w (bf C ky w A0 B0 k) k).1, (nx C ky w (bf C ky w A0 B0 k) k).2.1, k / w, k % w, (gt (bf C ky w A0 B0 k) (k / w)).2.2.2.2 + 1)] else bf C ky w A0 B0 k
theorem bf_len {C : Cf} {ky w A0 B0 : Nat} : ∀ k, 1 ≤ (bf C ky w A0 B0 k).length
  | 0 => by simp [bf]
  | k + 1 => by
    have := bf_len (C := C) (ky := ky) (w := w) (A0 := A0) (B0 := B0) k
    unfold bf
    split
    · simp
    · exact this
theorem bf_mono1 {C : Cf} {ky w A0 B0 : Nat} (k : Nat) : (bf C ky w A0 B0 k).length ≤ (bf C ky w A0 B0 (k + 1)).length ∧ (bf C ky w A0 B0 (k + 1)).length ≤ (bf C ky w A0 B0 k).length + 1 := by
  conv => lhs; rhs; unfold bf
  conv => rhs; lhs; unfold bf
  split <;> simp
theorem bf_mono {C : Cf} {ky w A0 B0 : Nat} {k k' : Nat} (h : k ≤ k') : (bf C ky w A0 B0 k).length ≤ (bf C ky w A0 B0 k').length := by
  obtain ⟨d, rfl⟩ := Nat.exists_eq_add_of_le h
  induction d with
  | zero => exact Nat.le_refl _
  | succ d ih => exact Nat.le_trans (ih (by omega)) (bf_mono1 (k + d)).1
theorem bf_gt {C : Cf} {ky w A0 B0 : Nat} {k k' s : Nat} (h : k ≤ k') (hs : s < (bf C ky w A0 B0 k).length) : gt (bf C ky w A0 B0 k') s = gt (bf C ky w A0 B0 k) s := by
  obtain ⟨d, rfl⟩ := Nat.exists_eq_add_of_le h
  induction d with
  | zero => rfl
  | succ d ih =>
    have hl := bf_mono (C := C) (ky := ky) (w := w) (A0 := A0) (B0 := B0) (show k ≤ k + d by omega)
    rw [← ih (by omega), show k + (d + 1) = (k + d) + 1 by omega]
    conv => lhs; unfold bf
    split
    · exact gt_lt (by omega)
    · rfl
theorem bf_nx {C : Cf} {ky w A0 B0 : Nat} {k k' j : Nat} (h : k ≤ k') (hs : j / w < (bf C ky w A0 B0 k).length) : nx C ky w (bf C ky w A0 B0 k') j = nx C ky w (bf C ky w A0 B0 k) j := by
  unfold nx; rw [bf_gt h hs]
/-- no state comes twice -/
theorem bf_dis {C : Cf} {ky w A0 B0 : Nat} : ∀ (k s s' : Nat), s < (bf C ky w A0 B0 k).length → s' < (bf C ky w A0 B0 k).length → (gt (bf C ky w A0 B0 k) s).1 = (gt (bf C ky w A0 B0 k) s').1 → (gt (bf C ky w A0 B0 k) s).2.1 = (gt (bf C ky w A0 B0 k) s').2.1 → s = s'
  | 0, s, s', h1, h2, _, _ => by simp [bf] at h1 h2; omega
  | k + 1, s, s', h1, h2, e1, e2 => by
    have ih := bf_dis (C := C) (ky := ky) (w := w) (A0 := A0) (B0 := B0) k
    unfold bf at h1 h2 e1 e2
    split at h1
    · rename_i hc
      rw [if_pos hc] at h2 e1 e2
      have hno : ∀ s, s < (bf C ky w A0 B0 k).length → ¬ isE (bf C ky w A0 B0 k) (nx C ky w (bf C ky w A0 B0 k) k).1 (nx C ky w (bf C ky w A0 B0 k) k).2.1 s := by
        intro s hs hE
        have := hasE_iff.mpr ⟨s, hs, hE⟩
        rw [hc.2] at this
        exact absurd this (by decide)
      simp only [List.length_append, List.length_cons, List.length_nil] at h1 h2
      by_cases a : s = (bf C ky w A0 B0 k).length
      · by_cases b : s' = (bf C ky w A0 B0 k).length
        · omega
        · rw [a, gt_eq, gt_lt (by omega)] at e1 e2
          exact absurd ⟨e1.symm, e2.symm⟩ (hno s' (by omega))
      · by_cases b : s' = (bf C ky w A0 B0 k).length
        · rw [b, gt_eq, gt_lt (by omega)] at e1 e2
          exact absurd ⟨e1, e2⟩ (hno s (by omega))
        · rw [gt_lt (by omega), gt_lt (by omega)] at e1 e2
          exact ih s s' (by omega) (by omega) e1 e2
    · rename_i hc
      rw [if_neg hc] at h2 e1 e2
      exact ih s s' h1 h2 e1 e2
/-- a state that keeps its bounds -/
def SI (C : Cf) (A B : Nat) : Prop := A < 2 ^ 64 ∧ B < 2 ^ 40 ∧ LI C B
theorem mv_t {ky w T m : Nat} (hw : w = T * (ky + 1)) (hm : m < w) : m / (ky + 1) < T ∧ m % (ky + 1) < ky + 1 := by
  refine ⟨(Nat.div_lt_iff_lt_mul (by omega)).mpr (by rw [← hw]; exact hm), Nat.mod_lt _ (by omega)⟩
theorem bf_si {C : Cf} {ky w A0 B0 : Nat} (hC : CO C) (hky : ky < 5) (hw : w = cT C * (ky + 1)) (hT : 0 < cT C) (h0 : SI C A0 B0) : ∀ (k s : Nat), s < (bf C ky w A0 B0 k).length → SI C (gt (bf C ky w A0 B0 k) s).1 (gt (bf C ky w A0 B0 k) s).2.1
  | 0, s, h => by
    simp [bf] at h
    subst h
    exact h0
  | k + 1, s, h => by
    have ih := bf_si hC hky hw hT h0 k
    have hwp : 0 < w := by rw [hw]; exact Nat.mul_pos hT (by omega)
    unfold bf at h ⊢
    split at h
    · rename_i hc
      rw [if_pos hc]
      simp only [List.length_append, List.length_cons, List.length_nil] at h
      by_cases a : s = (bf C ky w A0 B0 k).length
      · rw [a, gt_eq]
        have hp := ih (k / w) hc.1
        obtain ⟨t1, t2⟩ := mv_t hw (Nat.mod_lt k hwp)
        have := stp_bd (A := (gt (bf C ky w A0 B0 k) (k / w)).1) (key := (k % w) % (ky + 1)) hC t1 hp.2.2 (by omega) hp.1 hp.2.1
        exact ⟨this.1, this.2, stp_ln hC t1 hp.2.2⟩
      · rw [gt_lt (by omega)]; exact ih s (by omega)
    · rename_i hc
      rw [if_neg hc]; exact ih s h
/-- must, as a code -/
def brk (mu : Option (List Nat)) (A B : Nat) (F : F4) : Bool := match mu with
  | none => false
  | some e => decide (evv (thg A B F) e = 0)
def mC (M : Mm) (mu : Option (List Nat)) : Prop := ∃ p, p ∈ PR ∧ M.2.2 11 8 = some p ∧ ((mu = none ∧ M.1 p 6 = 0) ∨ ∃ e, mu = some e ∧ WFx e ∧ PE M p 0 e ∧ M.1 p 6 = 1)
def mM (M : Mm) (mu : Option (List Nat)) : Prop := (mu = none ∧ M.1 142 19 = 0) ∨ ∃ e, mu = some e ∧ WFx e ∧ M.1 142 19 = 1 ∧ RwM M 69 e
theorem mu_of {M : Mm} (hV : V M) : ∃ mu, mC M mu ∧ mM M mu := by
  obtain ⟨p, hp, h1, h2⟩ := hV.2.2.2.2.2.2.2.2.2.2.2.1
  rcases h2 with ⟨a, b⟩ | ⟨a, b⟩
  · exact ⟨none, ⟨p, hp, h1, Or.inl ⟨rfl, a⟩⟩, Or.inl ⟨rfl, b⟩⟩
  · obtain ⟨e, w1, w2, w3⟩ := PE_xp b
    exact ⟨some e, ⟨p, hp, h1, Or.inr ⟨e, rfl, w1, w2, b.1⟩⟩, Or.inr ⟨e, rfl, w1, a, w3⟩⟩
theorem breaks_ok {q A B : Nat} {F : F4} {mu : Option (List Nat)} {M : Mm} {K : Int32 → Mm → Prop} (hF : FX M) (hmu : mC M mu) (hq : q ≠ 19) (hm : MO M q A B F) (hK : ∀ M', E1 19 M M' → K (if brk mu A B F = true then 1 else 0) M') : f_X3_breaks S0 11 q M K := by
  obtain ⟨p, hp, h1, h2⟩ := hmu
  unfold f_X3_breaks
  simp only [h1, ex_some, (pr_sh p hp).1, true_and]
  rcases h2 with ⟨a, b⟩ | ⟨e, a, b, c, d⟩
  · rw [b]
    refine ⟨fun _ => ?_, fun z => absurd (by decide) z⟩
    have := hK M (E1_refl _ _)
    rw [a] at this
    exact this
  · rw [d]
    refine ⟨fun z => absurd z (by decide), fun _ => ?_⟩
    refine value_ok (i := 0) hp hF hq hm c (Or.inl b) (fun M' hE => ?_)
    have := hK M' hE
    rw [a] at this
    unfold brk at this
    simp only [decide_eq_true_eq] at this
    refine ⟨fun z => ?_, fun z => ?_⟩
    · rw [if_pos z] at this; exact this
    · rw [if_neg z] at this; exact this
theorem mC_ag {M M' : Mm} {mu : Option (List Nat)} (ep : ∀ a, prc a → M'.1 a = M.1 a) (r : M'.2.2 11 8 = M.2.2 11 8) (h : mC M mu) : mC M' mu := by
  obtain ⟨p, hp, h1, h2⟩ := h
  refine ⟨p, hp, r.trans h1, ?_⟩
  rw [ep _ (pr_prc0 hp)]
  exact h2.imp id (fun ⟨e, a, b, c, d⟩ => ⟨e, a, b, PE_ag ep hp c, d⟩)
/-- the first that has it -/
def FB (w : Nat) (P : Nat → Bool) (idx : Nat) (x : Int32) : Prop := ((∀ k, k < idx → P k = false) ∧ x = -1) ∨ ∃ k, k < idx ∧ P k = true ∧ (∀ j, j < k → P j = false) ∧ x = nI (32 * (k / w) + k % w)
theorem FB_ext {w idx : Nat} {P Q : Nat → Bool} {x : Int32} (h : ∀ k, k < idx → P k = Q k) (hp : FB w P idx x) : FB w Q idx x := by
  rcases hp with ⟨a, b⟩ | ⟨k, a, b, c, d⟩
  · exact Or.inl ⟨fun k hk => by rw [← h k hk]; exact a k hk, b⟩
  · exact Or.inr ⟨k, a, by rw [← h k a]; exact b, fun j hj => by rw [← h j (by omega)]; exact c j hj, d⟩
/-- what going through the runs may change in the class -/
def dX : Nat → Nat → Bool := fun b j => b == 19 || b == 104 || b == 107 || b == 108 || b == 109 || b == 110 || (b == 10 && (j == 10 || j == 14 || j == 15 || j == 16))
def eX : Nat → Bool := fun b => b == 104 || b == 105 || b == 106 || b == 111 || b == 112
theorem dX_prc {M M' : Mm} (h : Fr dX eX M M') : ∀ a, prc a → M'.1 a = M.1 a := by
  intro a ha
  refine Fr_row h a (fun j => ?_)
  unfold dX
  unfold prc at ha
  simp only [Bool.or_eq_false_iff, Bool.and_eq_false_iff, beq_eq_false_iff_ne]
  omega
theorem CC_dX {C : Cf} {M M' : Mm} (h : Fr dX eX M M') (hC : CC M C) : CC M' C :=
  CC_ag (dX_prc h) (h.1 _ _ rfl) (h.1 _ _ rfl) (h.1 _ _ rfl) (Fr_row h _ (fun _ => rfl)) (by rw [h.2.2]) (by rw [h.2.2]) (by rw [h.2.2]) hC
theorem mC_dX {mu : Option (List Nat)} {M M' : Mm} (h : Fr dX eX M M') (hm : mC M mu) : mC M' mu := mC_ag (dX_prc h) (by rw [h.2.2]) hm
theorem wyR_fr {D : Nat → Nat → Bool} {E : Nat → Bool} {M M' : Mm} (h : Fr D E M M') (hw : wyR M) : wyR M' := by unfold wyR at *; rw [h.2.2]; exact hw
theorem aA_dX {M M' : Mm} (h : Fr (dA 104) (eA 104) M M') : Fr dX eX M M' :=
  Fr_mono (fun b j hd => by unfold dX at hd; unfold dA; simp only [Bool.or_eq_false_iff] at *; exact ⟨hd.1.1.1.1.1.2, hd.1.1.1.1.1.1⟩) (fun b hd => by unfold eX at hd; unfold eA; simp only [Bool.or_eq_false_iff] at *; exact hd.1.1.1.1) h
theorem dF_dX {M M' : Mm} (h : Fr dF eF M M') : Fr dX eX M M' :=
  Fr_mono (fun b j hd => by unfold dX at hd; unfold dF; simp only [Bool.or_eq_false_iff, Bool.and_eq_false_iff, beq_eq_false_iff_ne] at *; omega) (fun b hd => by unfold eX at hd; unfold eF; simp only [Bool.or_eq_false_iff, beq_eq_false_iff_ne] at *; omega) h
/-- only the moment and the stack -/
theorem WK_mo {M M' : Mm} {L : List En} (h1 : ∀ b, b = 107 ∨ b = 108 ∨ b = 109 → M'.1 b = M.1 b) (h2 : M'.1 10 10 = M.1 10 10) (h3 : ∀ b, b = 105 ∨ b = 106 → M'.2.1 b = M.2.1 b) (hW : WK M L) : WK M' L := by
  unfold WK WKt at *
  rw [h1 107 (by omega), h1 108 (by omega), h1 109 (by omega), h2, h3 105 (by omega), h3 106 (by omega)]
  exact hW
/-- what is sought, and the code that seeks it -/
def SO (so : Nat → Nat → F4 → Nat → Bool) (M : Mm) : Prop := ∀ (M1 : Mm) (A B : Nat) (F : F4) (fl : Nat) (K : Int32 → Mm → Prop), Fr dX eX M M1 → MO M1 104 A B F → fl < 8 → M1.1 104 6 = nI fl → (∀ M2, (∀ b, b ≠ 104 → b ≠ 19 → M2.1 b = M1.1 b) → M2.2 = M1.2 → K (if so A B F fl = true then 1 else 0) M2) → f_X9_isSought S0 10 M1 K
theorem SO_fr {so : Nat → Nat → F4 → Nat → Bool} {M M' : Mm} (h : Fr dX eX M M') (hs : SO so M) : SO so M' := fun M1 A B F fl K f => hs M1 A B F fl K (Fr_tr h f)
theorem note1 {w idx : Nat} {P : Nat → Bool} {x : Int32} (hw : 0 < w) (hw2 : w ≤ 20) (hi : idx / w ≤ 4000) (hx : FB w P idx x) : (0 ≤ x → FB w P (idx + 1) x) ∧ (¬ 0 ≤ x → P idx = false → FB w P (idx + 1) x) ∧ (¬ 0 ≤ x → P idx = true → FB w P (idx + 1) (nI (32 * (idx / w) + idx % w))) := by
  rcases hx with ⟨a, b⟩ | ⟨k, a, b, c, d⟩
  · refine ⟨fun z => absurd z (by rw [b]; decide), fun _ h => Or.inl ⟨fun k hk => ?_, b⟩, fun _ h => Or.inr ⟨idx, by omega, h, a, rfl⟩⟩
    by_cases e : k = idx
    · rw [e]; exact h
    · exact a k (by omega)
  · have hr : FB w P (idx + 1) x := Or.inr ⟨k, by omega, b, c, d⟩
    refine ⟨fun _ => hr, fun _ _ => hr, fun z h => ?_⟩
    exfalso
    apply z
    rw [d]
    have h1 : k / w ≤ idx / w := Nat.div_le_div_right (by omega)
    have h2 : k % w < w := Nat.mod_lt _ hw
    exact nI_le (a := 0) (by omega) (by omega)
theorem bitor2 : ∀ a b : Bool, ((if a then (1 : Int32) else 0) ||| (if b then (2 : Int32) else 0)) = nI ((if a then 1 else 0) + (if b then 2 else 0)) := by decide
theorem and1 : ∀ a b : Bool, ((nI ((if a then 1 else 0) + (if b then 2 else 0)) &&& (1 : Int32)) = 0 ↔ a = false) ∧ ((nI ((if a then 1 else 0) + (if b then 2 else 0)) &&& (2 : Int32)) = 0 ↔ b = false) := by decide
/-- bits of a step -/
def bts (a b : Bool) : Nat := (if a then 1 else 0) + (if b then 2 else 0)
theorem bts_lt (a b : Bool) : bts a b < 4 := by unfold bts; split <;> split <;> omega
theorem note_ok {w idx : Nat} {P Q : Nat → Bool} {M : Mm} {K : Mm → Prop} (hw : 0 < w) (hw2 : w ≤ 20) (hi : idx / w ≤ 4000) (h14 : FB w P idx (M.1 10 14)) (h15 : FB w Q idx (M.1 10 15)) (hK : ∀ M', (∀ b j, ¬ (b = 10 ∧ (j = 14 ∨ j = 15)) → M'.1 b j = M.1 b j) → M'.2 = M.2 → FB w P (idx + 1) (M'.1 10 14) → FB w Q (idx + 1) (M'.1 10 15) → K M') : f_X9_noteFirst S0 10 (nI (32 * (idx / w) + idx % w)) (nI (bts (P idx) (Q idx))) M K := by
  obtain ⟨a1, a2, a3⟩ := note1 hw hw2 hi h14
  obtain ⟨b1, b2, b3⟩ := note1 hw hw2 hi h15
  obtain ⟨c1, c2⟩ := and1 (P idx) (Q idx)
  unfold f_X9_noteFirst
  unfold bts
  have J : ∀ M1, (∀ b j, ¬ (b = 10 ∧ (j = 14 ∨ j = 15)) → M1.1 b j = M.1 b j) → M1.2 = M.2 → FB w P (idx + 1) (M1.1 10 14) → M1.1 10 15 = M.1 10 15 → f_X9_noteFirst_J18 S0 10 (nI (32 * (idx / w) + idx % w)) (nI ((if P idx then 1 else 0) + (if Q idx then 2 else 0))) M1 K := by
    intro M1 e1 e2 e3 e4
    unfold f_X9_noteFirst_J18
    rw [e4, c2]
    refine ⟨fun z => hK M1 e1 e2 e3 (by rw [e4]; exact b1 z), fun z => ⟨fun y => hK M1 e1 e2 e3 (by rw [e4]; exact b2 z y), fun y => ?_⟩⟩
    simp only [forall_eq]
    refine hK _ (fun b j hb => (rI_ne (by omega)).trans (e1 b j hb)) e2 (by rw [rI_ne (by omega)]; exact e3) (by rw [rI_eq]; exact b3 z (by simpa using y))
  rw [c1]
  refine ⟨fun z => J M (fun _ _ _ => rfl) rfl (a1 z) rfl, fun z => ⟨fun y => J M (fun _ _ _ => rfl) rfl (a2 z y) rfl, fun y => ?_⟩⟩
  simp only [forall_eq]
  exact J _ (fun b j hb => rI_ne (by omega)) rfl (by rw [rI_eq]; exact a3 z (by simpa using y)) (rI_ne (by omega))
/-- breaks, sought: of the step of number k -/
def pB (C : Cf) (ky w A0 B0 : Nat) (mu : Option (List Nat)) (k : Nat) : Bool := brk mu (nx C ky w (bf C ky w A0 B0 k) k).1 (nx C ky w (bf C ky w A0 B0 k) k).2.1 (nx C ky w (bf C ky w A0 B0 k) k).2.2.1
def pS (C : Cf) (ky w A0 B0 : Nat) (so : Nat → Nat → F4 → Nat → Bool) (k : Nat) : Bool := so (nx C ky w (bf C ky w A0 B0 k) k).1 (nx C ky w (bf C ky w A0 B0 k) k).2.1 (nx C ky w (bf C ky w A0 B0 k) k).2.2.1 (nx C ky w (bf C ky w A0 B0 k) k).2.2.2
/-- the state to which the step of number k leads is that of number t -/
def ld (C : Cf) (ky w A0 B0 k t : Nat) : Prop := t < (bf C ky w A0 B0 (k + 1)).length ∧ isE (bf C ky w A0 B0 (k + 1)) (nx C ky w (bf C ky w A0 B0 k) k).1 (nx C ky w (bf C ky w A0 B0 k) k).2.1 t
/-- the class's walk behind k steps tried -/
def WX (C : Cf) (ky w A0 B0 mo : Nat) (mu : Option (List Nat)) (so : Nat → Nat → F4 → Nat → Bool) (M : Mm) (k : Nat) : Prop := WK M (bf C ky w A0 B0 k) ∧ (∀ j, j < k → ∃ t, ld C ky w A0 B0 j t ∧ M.1 110 j = nI (4 * t + bts (pB C ky w A0 B0 mu j) (pS C ky w A0 B0 so j))) ∧ FB w (pB C ky w A0 B0 mu) k (M.1 10 14) ∧ FB w (pS C ky w A0 B0 so) k (M.1 10 15) ∧ (bf C ky w A0 B0 k).length ≤ mo
theorem ld_uq {C : Cf} {ky w A0 B0 k t t' : Nat} (h : ld C ky w A0 B0 k t) (h' : ld C ky w A0 B0 k t') : t = t' := bf_dis (k + 1) t t' h.1 h'.1 (h.2.1.trans h'.2.1.symm) (h.2.2.trans h'.2.2.symm)
theorem shl5 {s m : Nat} (hs : s < 4000) (hm : m < 32) : (nI s <<< ((5 : Int32) &&& 31)) ||| nI m = nI (32 * s + m) := by
  rw [pk_shlN (n := s) ((5 : Int32) &&& 31) 5 rfl (by omega)]
  apply Int32.toBitVec_inj.mp
  apply BitVec.eq_of_getLsbD_eq
  intro j hj
  have e : ∀ N : Nat, (nI N).toBitVec.getLsbD j = (decide (j < 32) && N.testBit j) := fun N => by
    show (BitVec.ofNat 32 N).getLsbD j = _
    rw [BitVec.getLsbD_ofNat]
  rw [Int32.toBitVec_or, BitVec.getLsbD_or, e, e, e, show s * 2 ^ 5 = 2 ^ 5 * s by omega, show 32 * s + m = 2 ^ 5 * s + m by omega, Nat.testBit_two_pow_mul_add _ (show m < 2 ^ 5 by omega), Nat.testBit_two_pow_mul]
  by_cases h : j < 5
  · have h2 : ¬ 5 ≤ j := by omega
    simp [h, h2]
  · have h2 : 5 ≤ j := by omega
    have : m.testBit j = false := Nat.testBit_lt_two_pow (Nat.lt_of_lt_of_le (show m < 2 ^ 5 by omega) (Nat.pow_le_pow_right (by omega) h2))
    simp [h, h2, this]
theorem shl2 {t b : Nat} (ht : t < 4001) (hb : b < 4) : (nI t <<< ((2 : Int32) &&& 31)) ||| nI b = nI (4 * t + b) := by
  rw [pk_shlN (n := t) ((2 : Int32) &&& 31) 2 rfl (by omega)]
  apply Int32.toBitVec_inj.mp
  apply BitVec.eq_of_getLsbD_eq
  intro j hj
  have e : ∀ N : Nat, (nI N).toBitVec.getLsbD j = (decide (j < 32) && N.testBit j) := fun N => by
    show (BitVec.ofNat 32 N).getLsbD j = _
    rw [BitVec.getLsbD_ofNat]
  rw [Int32.toBitVec_or, BitVec.getLsbD_or, e, e, e, show t * 2 ^ 2 = 2 ^ 2 * t by omega, show 4 * t + b = 2 ^ 2 * t + b by omega, Nat.testBit_two_pow_mul_add _ (show b < 2 ^ 2 by omega), Nat.testBit_two_pow_mul]
  by_cases h : j < 2
  · have h2 : ¬ 2 ≤ j := by omega
    simp [h, h2]
  · have h2 : 2 ≤ j := by omega
    have : b.testBit j = false := Nat.testBit_lt_two_pow (Nat.lt_of_lt_of_le (show b < 2 ^ 2 by omega) (Nat.pow_le_pow_right (by omega) h2))
    simp [h, h2, this]
theorem bf_some {C : Cf} {ky w A0 B0 k : Nat} {s : Nat} (h : s < (bf C ky w A0 B0 k).length) (hE : isE (bf C ky w A0 B0 k) (nx C ky w (bf C ky w A0 B0 k) k).1 (nx C ky w (bf C ky w A0 B0 k) k).2.1 s) : bf C ky w A0 B0 (k + 1) = bf C ky w A0 B0 k := by
  have := hasE_iff.mpr ⟨s, h, hE⟩
  conv => lhs; unfold bf
  rw [if_neg]
  rw [this]; simp
theorem bf_new {C : Cf} {ky w A0 B0 k : Nat} (hs : k / w < (bf C ky w A0 B0 k).length) (hE : ∀ s, s < (bf C ky w A0 B0 k).length → ¬ isE (bf C ky w A0 B0 k) (nx C ky w (bf C ky w A0 B0 k) k).1 (nx C ky w (bf C ky w A0 B0 k) k).2.1 s) : bf C ky w A0 B0 (k + 1) = bf C ky w A0 B0 k ++ [((nx C ky w (bf C ky w A0 B0 k) k).1, (nx C ky w (bf C ky w A0 B0 k) k).2.1, k / w, k % w, (gt (bf C ky w A0 B0 k) (k / w)).2.2.2.2 + 1)] := by
  conv => lhs; unfold bf
  rw [if_pos]
  refine ⟨hs, ?_⟩
  rcases hq : hasE (bf C ky w A0 B0 k) (nx C ky w (bf C ky w A0 B0 k) k).1 (nx C ky w (bf C ky w A0 B0 k) k).2.1 with _ | _
  · rfl
  · obtain ⟨s, a, b⟩ := hasE_iff.mp hq
    exact absurd b (hE s a)
theorem divk {s w m : Nat} (hm : m < w) : (s * w + m) / w = s ∧ (s * w + m) % w = m := by
  have hw : 0 < w := by omega
  refine ⟨?_, ?_⟩
  · rw [Nat.mul_comm, Nat.mul_add_div hw, Nat.div_eq_of_lt hm, Nat.add_zero]
  · rw [Nat.mul_comm, Nat.mul_add_mod, Nat.mod_eq_of_lt hm]
theorem le0 {n : Nat} (h : n < 2 ^ 31) : (0 : Int32) ≤ nI n := by
  have : nI 0 ≤ nI n := nI_le (by omega) h
  exact this
theorem stp_fl {C : Cf} {A B t key : Nat} (hC : CO C) : (stp C A B t key).2.2.2 < 8 := by
  unfold stp
  repeat' split
  all_goals first | exact flb_8 C _ hC.2.1 | exact Nat.succ_pos 7
theorem exp1 {C : Cf} {ky w A0 B0 mo s m t key k : Nat} {mu : Option (List Nat)} {so : Nat → Nat → F4 → Nat → Bool} {x4 : Int32} {M : Mm} {BK : Int32 → Int32 → Int32 → Int32 → Mm → Prop} {EK : Int32 → Int32 → Int32 → Mm → Prop} {K : Int32 → Mm → Prop}
    (hF : FX M) (hwy : wyR M) (hC : CC M C) (hmu : mC M mu) (hso : SO so M) (hmo : M.1 10 11 = nI mo) (hmo2 : mo ≤ 4000) (hky : ky < 5) (hkeys : M.1 11 13 = nI ky) (hw : w = cT C * (ky + 1)) (ht : t < cT C) (hkey : key ≤ ky) (hm : m = t * (ky + 1) + key) (hk : k = s * w + m) (hs : s < (bf C ky w A0 B0 k).length) (h0 : SI C A0 B0) (hX : WX C ky w A0 B0 mo mu so M k)
    (hBK : ∀ M', Fr dX eX M M' → WX C ky w A0 B0 mo mu so M' (k + 1) → M'.1 10 16 = M.1 10 16 → ∀ t', ld C ky w A0 B0 k t' → BK (nI (m + 1)) (nI (k + 1)) (if x4 = 0 then 0 else if t' = s then 1 else 0) (nI (key + 1)) M')
    (hFl : mo < (bf C ky w A0 B0 (k + 1)).length → ∀ M', Fr dX eX M M' → WK M' (bf C ky w A0 B0 k) → K 0 M') : f_X9_expand_B43 S0 10 (nI s) (nI m) (nI k) x4 (nI t) (nI key) M BK EK K := by
  have c1 := hC.1.1
  have hmw : m < w := by
    rw [hm, hw]
    have : (t + 1) * (ky + 1) ≤ cT C * (ky + 1) := Nat.mul_le_mul_right _ ht
    rw [Nat.add_mul] at this
    omega
  have hw20 : w ≤ 20 := by
    rw [hw]
    have : cT C * (ky + 1) ≤ 4 * 5 := Nat.mul_le_mul c1 (by omega)
    omega
  obtain ⟨d1, d2⟩ := divk (s := s) hmw
  rw [← hk] at d1 d2
  have d3 : m / (ky + 1) = t := by
    rw [hm, Nat.mul_comm, Nat.mul_add_div (by omega), Nat.div_eq_of_lt (by omega), Nat.add_zero]
  have d4 : m % (ky + 1) = key := by
    rw [hm, Nat.mul_comm, Nat.mul_add_mod, Nat.mod_eq_of_lt (by omega)]
  obtain ⟨W, We, Wb, Ws, Wm⟩ := hX
  obtain ⟨w1, w2, w3, w4⟩ := W
  have W : WK M (bf C ky w A0 B0 k) := ⟨w1, w2, w3, w4⟩
  obtain ⟨y1, y2, y3, y4, y5⟩ := w3 s hs
  have hsi := bf_si hC.1 hky hw (by omega) h0 k s hs
  have enx : nx C ky w (bf C ky w A0 B0 k) k = stp C (gt (bf C ky w A0 B0 k) s).1 (gt (bf C ky w A0 B0 k) s).2.1 t key := by
    unfold nx; rw [d1, d2, d3, d4]
  have hs4 : s < 4000 := by omega
  have hk8 : k < 80000 := by
    have : s * w ≤ 3999 * 20 := Nat.mul_le_mul (by omega) hw20
    omega
  have hins : vp_in (nI s) 4000 := vp_in_nI hs4 (by omega)
  have hcls : (nI s).toNatClampNeg = s := nI_clamp (by omega)
  unfold f_X9_expand_B43
  simp only [fx_10_0 hF, ex_some, s0_11, true_and]
  rw [hkeys]
  refine ⟨fun z => absurd z (nI_nlt hkey (by omega)), fun _ => ?_⟩
  simp only [rJr, fx_10_0 hF, fx_10_1 hF, fx_10_2 hF, fx_10_3 hF, ex_some, s0_11, s0_104, s0_105, s0_106, ex_sh, hins, hcls, true_and, forall_eq, y1]
  have e2 : (stJ M 104 0 (lN (gt (bf C ky w A0 B0 k) s).1)).2.1 106 s = lN (gt (bf C ky w A0 B0 k) s).2.1 := by rw [rJ, if_neg (by omega)]; exact y2
  rw [e2]
  have f1 : Fr dX eX M (stJ (stJ M 104 0 (lN (gt (bf C ky w A0 B0 k) s).1)) 104 1 (lN (gt (bf C ky w A0 B0 k) s).2.1)) := Fr_J rfl (Fr_J rfl (Fr_refl _ _ _))
  generalize hY : stJ (stJ M 104 0 (lN (gt (bf C ky w A0 B0 k) s).1)) 104 1 (lN (gt (bf C ky w A0 B0 k) s).2.1) = Y at f1
  have yi : Y.1 = M.1 := by rw [← hY]; rfl
  have mY : MO Y 104 (gt (bf C ky w A0 B0 k) s).1 (gt (bf C ky w A0 B0 k) s).2.1 (M.1 104 2, M.1 104 3, M.1 104 4, M.1 104 5) := by
    refine ⟨y3, y4, ?_, ?_, by rw [yi], by rw [yi], by rw [yi], by rw [yi]⟩
    · rw [← hY, rJ, if_neg (by omega), stJ_get]
    · rw [← hY, stJ_get]
  have YJ : ∀ b, b ≠ 104 → Y.2.1 b = M.2.1 b := fun b hb => by rw [← hY, stJ_row hb, stJ_row hb]
  refine act_ok (Or.inl rfl) (CC_dX f1 hC) (FX_fr f1 hF) mY ht (by omega) (hsi.2.2 t ht) (fun M2 f2 m2 z2 => ?_)
  rw [← enx] at m2 z2
  have f2' : Fr dX eX M M2 := Fr_tr f1 (aA_dX f2)
  have hF2 := FX_fr f2' hF
  have W2 : WK M2 (bf C ky w A0 B0 k) := by
    refine WK_mo (fun b hb => ?_) ?_ (fun b hb => ?_) W
    · rw [Fr_row f2 b (fun j => by unfold dA; simp; omega), yi]
    · rw [f2.1 10 10 rfl, yi]
    · rw [f2.2.1 b (by unfold eA; simp; omega), YJ b (by omega)]
  have I2 : ∀ j, M2.1 10 j = M.1 10 j := fun j => by rw [f2.1 10 j rfl, yi]
  have I110 : M2.1 110 = M.1 110 := by rw [Fr_row f2 110 (fun j => rfl), yi]
  have hbl := bf_len (C := C) (ky := ky) (w := w) (A0 := A0) (B0 := B0) k
  rw [shl5 hs4 (by omega)]
  -- behind find
  have tail : ∀ (t' : Nat) (M3 : Mm), Fr dX eX M M3 → WK M3 (bf C ky w A0 B0 (k + 1)) → MO M3 104 (nx C ky w (bf C ky w A0 B0 k) k).1 (nx C ky w (bf C ky w A0 B0 k) k).2.1 (nx C ky w (bf C ky w A0 B0 k) k).2.2.1 → M3.1 104 6 = nI (nx C ky w (bf C ky w A0 B0 k) k).2.2.2 → (∀ j, j ≠ 10 → M3.1 10 j = M.1 10 j) → M3.1 110 = M.1 110 → ld C ky w A0 B0 k t' → (bf C ky w A0 B0 (k + 1)).length ≤ mo → ((0 ≤ nI t' → ∃ b31 : Nat, M3.2.2 10 0 = some b31 ∧ ∃ b32 : Nat, M3.2.2 10 1 = some b32 ∧ S0[b31]? = some (2, 0) ∧ S0[b32]? = some (3, 0) ∧ f_X3_breaks S0 b31 b32 M3 (fun (r36 : Int32) (m33 : Mm) => ((r36 = 0 → f_X9_expand_J138 S0 10 (nI s) (nI m) (nI k) x4 (nI t) (nI key) (nI (32 * s + m)) (nI t') (0 : Int32) m33 BK K) ∧ (¬ r36 = 0 → f_X9_expand_J138 S0 10 (nI s) (nI m) (nI k) x4 (nI t) (nI key) (nI (32 * s + m)) (nI t') (1 : Int32) m33 BK K)))) ∧ (¬ 0 ≤ nI t' → K (0 : Int32) M3)) := by
    intro t' M3 f3 W3 mo3 z3 I3 E3 hld hmo3
    have hF3 := FX_fr f3 hF
    have ht' : t' < 4001 := by
      have := hld.1
      have := W3.2.1
      omega
    refine ⟨fun _ => ?_, fun z => absurd (le0 (by omega)) z⟩
    simp only [fx_10_0 hF3, fx_10_1 hF3, ex_some, s0_11, s0_104, true_and]
    refine breaks_ok hF3 (mC_dX f3 hmu) (by decide) mo3 (fun M4 hE => ?_)
    have f4 : Fr dX eX M M4 := Fr_E1 (fun _ => rfl) f3 hE
    have mo4 := MO_E1 (by decide) hE mo3
    have z4 : M4.1 104 6 = nI (nx C ky w (bf C ky w A0 B0 k) k).2.2.2 := by rw [hE.1 104 (by decide)]; exact z3
    have hfl : (nx C ky w (bf C ky w A0 B0 k) k).2.2.2 < 8 := by
      rw [enx]
      exact stp_fl hC.1
    have J : ∀ tb : Int32, tb = (if pB C ky w A0 B0 mu k = true then 1 else 0) → f_X9_expand_J138 S0 10 (nI s) (nI m) (nI k) x4 (nI t) (nI key) (nI (32 * s + m)) (nI t') tb M4 BK K := by
      intro tb htb
      unfold f_X9_expand_J138
      refine hso M4 _ _ _ _ _ f4 mo4 hfl z4 (fun M5 g1 g2 => ?_)
      have f5 : Fr dX eX M M5 := by
        refine ⟨fun b j hd => ?_, fun b hd => by rw [g2]; exact f4.2.1 b hd, by rw [g2]; exact f4.2.2⟩
        have hb : b ≠ 104 ∧ b ≠ 19 := by
          unfold dX at hd
          simp only [Bool.or_eq_false_iff, Bool.and_eq_false_iff, beq_eq_false_iff_ne] at hd
          omega
        rw [g1 b hb.1 hb.2]; exact f4.1 b j hd
      have J2 : ∀ ts : Int32, ts = (if pS C ky w A0 B0 so k = true then 2 else 0) → f_X9_expand_J154 S0 10 (nI s) (nI m) (nI k) x4 (nI t) (nI key) (nI (32 * s + m)) (nI t') ts tb M5 BK K := by
        intro ts hts
        unfold f_X9_expand_J154
        simp only [forall_eq]
        have eb : tb ||| ts = nI (bts (pB C ky w A0 B0 mu k) (pS C ky w A0 B0 so k)) := by
          rw [htb, hts]; exact bitor2 _ _
        rw [eb]
        have e32 : nI (32 * s + m) = nI (32 * (k / w) + k % w) := by rw [d1, d2]
        have i14 : M5.1 10 14 = M.1 10 14 := by rw [g1 10 (by decide) (by decide), hE.1 10 (by decide)]; exact I3 14 (by decide)
        have i15 : M5.1 10 15 = M.1 10 15 := by rw [g1 10 (by decide) (by decide), hE.1 10 (by decide)]; exact I3 15 (by decide)
        rw [e32]
        refine note_ok (P := pB C ky w A0 B0 mu) (Q := pS C ky w A0 B0 so) (by omega) hw20 (by omega) (by rw [i14]; exact Wb) (by rw [i15]; exact Ws) (fun M6 n1 n2 n3 n4 => ?_)
        have hF6 : FX M6 := FX_ag (by rw [n2]; exact f5.2.2) hF
        have hink : vp_in (nI k) 80000 := vp_in_nI hk8 (by omega)
        have hclk : (nI k).toNatClampNeg = k := nI_clamp (by omega)
        simp only [fx_10_7 hF6, ex_some, s0_110, ex_sh, hink, hclk, true_and]
        rw [shl2 ht' (bts_lt _ _)]
        have f6 : Fr dX eX M (stI M6 110 k (nI (4 * t' + bts (pB C ky w A0 B0 mu k) (pS C ky w A0 B0 so k)))) := by
          refine Fr_I rfl ⟨fun b j hd => ?_, fun b hd => by rw [n2]; exact f5.2.1 b hd, by rw [n2]; exact f5.2.2⟩
          rw [n1 b j (by
            rintro ⟨rfl, h | h⟩
            · subst h; exact absurd hd (by decide)
            · subst h; exact absurd hd (by decide))]
          exact f5.1 b j hd
        have X : WX C ky w A0 B0 mo mu so (stI M6 110 k (nI (4 * t' + bts (pB C ky w A0 B0 mu k) (pS C ky w A0 B0 so k)))) (k + 1) := by
          refine ⟨WK_mo (fun b hb => ?_) ?_ (fun b hb => ?_) W3, fun j hj => ?_, ?_, ?_, hmo3⟩
          · rw [stI_row (by omega)]
            funext j
            rw [n1 b j (by omega), g1 b (by omega) (by omega), hE.1 b (by omega)]
          · rw [rI_ne (by omega), n1 10 10 (by omega), g1 10 (by decide) (by decide), hE.1 10 (by decide)]
          · show M6.2.1 b = _
            rw [n2, g2, hE.2]
          · by_cases ej : j = k
            · subst ej
              exact ⟨t', hld, rI_eq⟩
            · obtain ⟨t0, u1, u2⟩ := We j (by omega)
              refine ⟨t0, u1, ?_⟩
              rw [rI_ne (by omega), n1 110 j (by omega), g1 110 (by decide) (by decide), hE.1 110 (by decide), E3]; exact u2
          · rw [rI_ne (by omega)]; exact n3
          · rw [rI_ne (by omega)]; exact n4
        have i16 : (stI M6 110 k (nI (4 * t' + bts (pB C ky w A0 B0 mu k) (pS C ky w A0 B0 so k)))).1 10 16 = M.1 10 16 := by
          rw [rI_ne (by omega), n1 10 16 (by omega), g1 10 (by decide) (by decide), hE.1 10 (by decide)]; exact I3 16 (by decide)
        have go := hBK _ f6 X i16 t' hld
        simp only [nI_1]
        refine ⟨fun z => ?_, fun z => ⟨fun z2 => ?_, fun z2 => ?_⟩⟩
        · rw [if_pos z] at go; exact go
        · have z2 : t' = s := (nI_eq (by omega) (by omega)).mp z2
          rw [if_neg z, if_pos z2] at go; exact go
        · have z2 : ¬ t' = s := fun q => z2 (by rw [q])
          rw [if_neg z, if_neg z2] at go; exact go
      refine ⟨fun z => J2 0 ?_, fun z => J2 2 ?_⟩
      · unfold pS
        split at z
        · exact absurd z (by decide)
        · rename_i q; rw [if_neg q]
      · unfold pS
        split at z
        · rename_i q; rw [if_pos q]
        · exact absurd rfl z
    refine ⟨fun z => J 0 ?_, fun z => J 1 ?_⟩
    · unfold pB
      split at z
      · exact absurd z (by decide)
      · rename_i q; rw [if_neg q]
    · unfold pB
      split at z
      · rename_i q; rw [if_pos q]
      · exact absurd rfl z
  refine find_ok (lo := 0) (fs := s) (fm := m) (dp := (gt (bf C ky w A0 B0 k) (k / w)).2.2.2.2 + 1) hF2 (wyR_fr f2' hwy) (by rw [I2]; exact hmo) hmo2 m2.1 m2.2.1 m2.2.2.1 m2.2.2.2.1 (by omega) (by unfold frm; rw [if_neg (by omega)]) W2 (fun s' _ b hE => ?_) (fun hno hlt M3 f3 W3 => ?_) (fun hno hge => ?_)
  · have ebf := bf_some b hE
    exact tail s' M2 f2' (by rw [ebf]; exact W2) m2 z2 (fun j _ => I2 j) I110 ⟨by rw [ebf]; exact b, by rw [ebf]; exact hE⟩ (by rw [ebf]; exact Wm)
  · have hno' : ∀ s, s < (bf C ky w A0 B0 k).length → ¬ isE (bf C ky w A0 B0 k) (nx C ky w (bf C ky w A0 B0 k) k).1 (nx C ky w (bf C ky w A0 B0 k) k).2.1 s := fun s hs => hno s (by omega) hs
    have ebf := bf_new (by rw [d1]; exact hs) hno'
    rw [d1, d2] at ebf
    rw [d1] at W3
    rw [← ebf] at W3
    refine tail _ M3 (Fr_tr f2' (dF_dX f3)) W3 ?_ ?_ (fun j hj => ?_) ?_ ⟨?_, ?_⟩ (by rw [ebf]; simp; omega)
    · obtain ⟨a1, a2, a3, a4, a5, a6, a7, a8⟩ := m2
      refine ⟨a1, a2, by rw [f3.2.1 104 rfl]; exact a3, by rw [f3.2.1 104 rfl]; exact a4, ?_, ?_, ?_, ?_⟩
      · rw [f3.1 104 2 rfl]; exact a5
      · rw [f3.1 104 3 rfl]; exact a6
      · rw [f3.1 104 4 rfl]; exact a7
      · rw [f3.1 104 5 rfl]; exact a8
    · rw [f3.1 104 6 rfl]; exact z2
    · rw [f3.1 10 j (by simp [dF, hj])]; exact I2 j
    · rw [Fr_row f3 110 (fun _ => rfl)]; exact I110
    · rw [ebf]; simp
    · rw [ebf]
      unfold isE
      rw [gt_eq]; exact ⟨rfl, rfl⟩
  · have hno' : ∀ s, s < (bf C ky w A0 B0 k).length → ¬ isE (bf C ky w A0 B0 k) (nx C ky w (bf C ky w A0 B0 k) k).1 (nx C ky w (bf C ky w A0 B0 k) k).2.1 s := fun s hs => hno s (by omega) hs
    have ebf := bf_new (by rw [d1]; exact hs) hno'
    refine ⟨fun z => absurd z (by decide), fun _ => hFl ?_ M2 f2' W2⟩
    rw [ebf]; simp; omega

/-- what stays while the class goes through the runs -/
def BS (C : Cf) (ky mo : Nat) (mu : Option (List Nat)) (so : Nat → Nat → F4 → Nat → Bool) (M : Mm) : Prop := FX M ∧ wyR M ∧ CC M C ∧ mC M mu ∧ SO so M ∧ M.1 10 11 = nI mo ∧ M.1 11 13 = nI ky
theorem BS_fr {C : Cf} {ky mo : Nat} {mu : Option (List Nat)} {so : Nat → Nat → F4 → Nat → Bool} {M M' : Mm} (h : Fr dX eX M M') (hb : BS C ky mo mu so M) : BS C ky mo mu so M' := by
  obtain ⟨b1, b2, b3, b4, b5, b6, b7⟩ := hb
  exact ⟨FX_fr h b1, wyR_fr h b2, CC_dX h b3, mC_dX h b4, SO_fr h b5, (h.1 _ _ rfl).trans b6, (h.1 _ _ rfl).trans b7⟩
def STY (C : Cf) (ky w A0 B0 s m : Nat) (x : Int32) : Prop := (x = 1 ∧ ∀ m', m' < m → ld C ky w A0 B0 (s * w + m') s) ∨ (x = 0 ∧ ∃ m', m' < m ∧ ¬ ld C ky w A0 B0 (s * w + m') s)
theorem STY_s {C : Cf} {ky w A0 B0 s m t' : Nat} {x : Int32} (h : STY C ky w A0 B0 s m x) (hl : ld C ky w A0 B0 (s * w + m) t') : STY C ky w A0 B0 s (m + 1) (if x = 0 then 0 else if t' = s then 1 else 0) := by
  rcases h with ⟨a, b⟩ | ⟨a, m', b, c⟩
  · rw [if_neg (by rw [a]; decide)]
    by_cases e : t' = s
    · rw [if_pos e]
      refine Or.inl ⟨rfl, fun m' hm' => ?_⟩
      by_cases e2 : m' = m
      · rw [e2, ← e]; rw [e] at hl ⊢; exact hl
      · exact b m' (by omega)
    · rw [if_neg e]
      exact Or.inr ⟨rfl, m, by omega, fun w => e (ld_uq hl w)⟩
  · rw [if_pos a]
    exact Or.inr ⟨rfl, m', by omega, c⟩
theorem expK {C : Cf} {ky w A0 B0 mo s t : Nat} {mu : Option (List Nat)} {so : Nat → Nat → F4 → Nat → Bool} {EK : Int32 → Int32 → Int32 → Mm → Prop} {K : Int32 → Mm → Prop} (hmo2 : mo ≤ 4000) (hky : ky < 5) (hw : w = cT C * (ky + 1)) (ht : t < cT C) (h0 : SI C A0 B0) (hs : s < (bf C ky w A0 B0 (s * w)).length) :
    ∀ (n key : Nat) (x4 : Int32) (M : Mm), key + n = ky + 1 → BS C ky mo mu so M → WX C ky w A0 B0 mo mu so M (s * w + (t * (ky + 1) + key)) → STY C ky w A0 B0 s (t * (ky + 1) + key) x4 → (∀ M' x, Fr dX eX M M' → WX C ky w A0 B0 mo mu so M' (s * w + (t + 1) * (ky + 1)) → STY C ky w A0 B0 s ((t + 1) * (ky + 1)) x → M'.1 10 16 = M.1 10 16 → EK (nI ((t + 1) * (ky + 1))) (nI (s * w + (t + 1) * (ky + 1))) x M') → (∀ k', k' < s * w + (t + 1) * (ky + 1) → mo < (bf C ky w A0 B0 (k' + 1)).length → ∀ M', Fr dX eX M M' → WK M' (bf C ky w A0 B0 k') → K 0 M') → f_X9_expand_L43 S0 10 (nI s) (nI t) EK K (n + 1) (nI (t * (ky + 1) + key)) (nI (s * w + (t * (ky + 1) + key))) x4 (nI key) M
  | 0, key, x4, M, hk, hB, hX, hY, hK, hFl => by
    unfold f_X9_expand_L43 f_X9_expand_B43
    obtain ⟨b1, b2, b3, b4, b5, b6, b7⟩ := hB
    have e : key = ky + 1 := by omega
    subst e
    simp only [fx_10_0 b1, ex_some, s0_11, true_and]
    rw [b7]
    have e2 : t * (ky + 1) + (ky + 1) = (t + 1) * (ky + 1) := by rw [Nat.add_mul, Nat.one_mul]
    rw [e2] at hX hY ⊢
    exact ⟨fun _ => hK M x4 (Fr_refl _ _ _) hX hY rfl, fun z => absurd (nI_lt (by omega) (by omega)) z⟩
  | n + 1, key, x4, M, hk, hB, hX, hY, hK, hFl => by
    unfold f_X9_expand_L43
    have hB' := hB
    obtain ⟨b1, b2, b3, b4, b5, b6, b7⟩ := hB
    have hlen : s < (bf C ky w A0 B0 (s * w + (t * (ky + 1) + key))).length := Nat.lt_of_lt_of_le hs (bf_mono (by omega))
    have e2 : t * (ky + 1) + (ky + 1) = (t + 1) * (ky + 1) := by rw [Nat.add_mul, Nat.one_mul]
    refine exp1 (t := t) (key := key) b1 b2 b3 b4 b5 b6 hmo2 hky b7 hw ht (by omega) rfl rfl hlen h0 hX (fun M1 f1 X1 i16 t' hld => ?_) (fun hlt M1 f1 W1 => hFl _ (by omega) hlt M1 f1 W1)
    refine expK hmo2 hky hw ht h0 hs n (key + 1) _ M1 (by omega) (BS_fr f1 hB') X1 (STY_s hY hld) (fun M2 x f2 X2 Y2 j16 => hK M2 x (Fr_tr f1 f2) X2 Y2 (j16.trans i16)) (fun k' a b M2 f2 W2 => hFl k' a b M2 (Fr_tr f1 f2) W2)
theorem expT {C : Cf} {ky w A0 B0 mo s : Nat} {mu : Option (List Nat)} {so : Nat → Nat → F4 → Nat → Bool} {EK : Int32 → Mm → Prop} {K : Int32 → Mm → Prop} (hmo2 : mo ≤ 4000) (hky : ky < 5) (hw : w = cT C * (ky + 1)) (h0 : SI C A0 B0) (hs : s < (bf C ky w A0 B0 (s * w)).length) :
    ∀ (n t : Nat) (x4 : Int32) (M : Mm), t + n = cT C → BS C ky mo mu so M → WX C ky w A0 B0 mo mu so M (s * w + t * (ky + 1)) → STY C ky w A0 B0 s (t * (ky + 1)) x4 → (∀ M' x, Fr dX eX M M' → WX C ky w A0 B0 mo mu so M' (s * w + w) → STY C ky w A0 B0 s w x → M'.1 10 16 = M.1 10 16 → EK x M') → (∀ k', k' < s * w + w → mo < (bf C ky w A0 B0 (k' + 1)).length → ∀ M', Fr dX eX M M' → WK M' (bf C ky w A0 B0 k') → K 0 M') → f_X9_expand_L28 S0 10 (nI s) EK K (n + 1) (nI (t * (ky + 1))) (nI (s * w + t * (ky + 1))) x4 (nI t) M
  | 0, t, x4, M, ht, hB, hX, hY, hK, hFl => by
    unfold f_X9_expand_L28 f_X9_expand_B28
    obtain ⟨b1, b2, b3, b4, b5, b6, b7⟩ := hB
    have c1 := b3.1.1
    have e : t = cT C := by omega
    subst e
    simp only [fx_10_0 b1, ex_some, s0_11, true_and]
    rw [b3.2.1]
    rw [← hw] at hX hY
    exact ⟨fun _ => hK M x4 (Fr_refl _ _ _) hX hY rfl, fun z => absurd (nI_le (Nat.le_refl _) (by omega)) z⟩
  | n + 1, t, x4, M, ht, hB, hX, hY, hK, hFl => by
    unfold f_X9_expand_L28 f_X9_expand_B28
    have hB' := hB
    obtain ⟨b1, b2, b3, b4, b5, b6, b7⟩ := hB
    have c1 := b3.1.1
    simp only [fx_10_0 b1, ex_some, s0_11, true_and]
    rw [b3.2.1]
    refine ⟨fun z => absurd z (nI_ge (by omega) (by omega)), fun _ => ⟨ky + 1 + 1, ?_⟩⟩
    have hle : (t + 1) * (ky + 1) ≤ w := by rw [hw]; exact Nat.mul_le_mul_right _ (by omega)
    refine expK hmo2 hky hw (by omega) h0 hs (ky + 1) 0 x4 M (by omega) hB' hX hY (fun M1 x f1 X1 Y1 i16 => ?_) (fun k' a b M1 f1 W1 => hFl k' (by omega) b M1 f1 W1)
    simp only [forall_eq, nI_1]
    exact expT hmo2 hky hw h0 hs n (t + 1) x M1 (by omega) (BS_fr f1 hB') X1 Y1 (fun M2 x f2 X2 Y2 j16 => hK M2 x (Fr_tr f1 f2) X2 Y2 (j16.trans i16)) (fun k' a b M2 f2 W2 => hFl k' a b M2 (Fr_tr f1 f2) W2)
/-- a state from which no step leads on -/
def stk (C : Cf) (ky w A0 B0 s : Nat) : Prop := ∀ m, m < w → ld C ky w A0 B0 (s * w + m) s
def FT (C : Cf) (ky w A0 B0 s : Nat) (x : Int32) : Prop := ((∀ s', s' < s → ¬ stk C ky w A0 B0 s') ∧ x = -1) ∨ ∃ s', s' < s ∧ stk C ky w A0 B0 s' ∧ (∀ j, j < s' → ¬ stk C ky w A0 B0 j) ∧ x = nI s'
theorem expand_ok {C : Cf} {ky w A0 B0 mo s : Nat} {mu : Option (List Nat)} {so : Nat → Nat → F4 → Nat → Bool} {M : Mm} {K : Int32 → Mm → Prop} (hmo2 : mo ≤ 4000) (hky : ky < 5) (hw : w = cT C * (ky + 1)) (h0 : SI C A0 B0) (hs : s < (bf C ky w A0 B0 (s * w)).length) (hB : BS C ky mo mu so M) (hX : WX C ky w A0 B0 mo mu so M (s * w)) (hT : FT C ky w A0 B0 s (M.1 10 16))
    (hK : ∀ M', Fr dX eX M M' → WX C ky w A0 B0 mo mu so M' ((s + 1) * w) → FT C ky w A0 B0 (s + 1) (M'.1 10 16) → K 1 M') (hFl : ∀ k', k' < (s + 1) * w → mo < (bf C ky w A0 B0 (k' + 1)).length → ∀ M', Fr dX eX M M' → WK M' (bf C ky w A0 B0 k') → K 0 M') : f_X9_expand S0 10 (nI s) M K := by
  unfold f_X9_expand
  have hB' := hB
  obtain ⟨b1, b2, b3, b4, b5, b6, b7⟩ := hB
  have c1 := b3.1.1
  have hs4 : s < 4000 := Nat.lt_of_lt_of_le hs hX.1.2.1
  simp only [fx_10_0 b1, ex_some, s0_11, true_and, forall_eq]
  rw [b3.2.1, b7, nI_1, pk_mul, pk_mul, Nat.mul_assoc, ← hw]
  have ew : (s + 1) * w = s * w + w := by rw [Nat.add_mul, Nat.one_mul]
  refine ⟨cT C + 1, ?_⟩
  have e0 : (0 : Int32) = nI (0 * (ky + 1)) := by rw [Nat.zero_mul]; rfl
  have main := expT (EK := fun (v63 : Int32) (m64 : Mm) => ((v63 = 0 → K (1 : Int32) m64) ∧ (¬ v63 = 0 → ((0 ≤ (m64.1 10 16) → K (1 : Int32) m64) ∧ (¬ 0 ≤ (m64.1 10 16) → K (1 : Int32) (stI m64 10 16 (nI s))))))) (K := K) hmo2 hky hw h0 hs (cT C) 0 1 M (by omega) hB' (by rw [Nat.zero_mul]; exact hX) (by rw [Nat.zero_mul]; exact Or.inl ⟨rfl, fun m' h => by omega⟩) (fun M1 x f1 X1 Y1 i16 => ?_) (fun k' a b M1 f1 W1 => hFl k' (by rw [ew]; exact a) b M1 f1 W1)
  · rw [Nat.zero_mul] at main
    exact main
  · rw [← ew] at X1
    have X16 : ∀ v, WX C ky w A0 B0 mo mu so (stI M1 10 16 v) ((s + 1) * w) := by
      intro v
      obtain ⟨x1, x2, x3, x4, x5⟩ := X1
      refine ⟨WK_mo (fun b hb => stI_row (by omega)) (rI_ne (by omega)) (fun _ _ => rfl) x1, fun j hj => ?_, ?_, ?_, x5⟩
      · rw [rI_ne (by omega)]; exact x2 j hj
      · rw [rI_ne (by omega)]; exact x3
      · rw [rI_ne (by omega)]; exact x4
    have FTn : ∀ v, (∃ m', m' < w ∧ ¬ ld C ky w A0 B0 (s * w + m') s) → FT C ky w A0 B0 s v → FT C ky w A0 B0 (s + 1) v := by
      rintro v ⟨m', u1, u2⟩ hv
      rcases hv with ⟨p1, p2⟩ | ⟨s', p1, p2, p3, p4⟩
      · refine Or.inl ⟨fun s' hs' hh => ?_, p2⟩
        by_cases e : s' = s
        · subst e; exact u2 (hh m' u1)
        · exact p1 s' (by omega) hh
      · exact Or.inr ⟨s', by omega, p2, p3, p4⟩
    refine ⟨fun z => ?_, fun z => ⟨fun z2 => ?_, fun z2 => ?_⟩⟩
    · rcases Y1 with ⟨y1, y2⟩ | ⟨y1, y2⟩
      · rw [y1] at z; exact absurd z (by decide)
      · exact hK M1 f1 X1 (FTn _ y2 (by rw [i16]; exact hT))
    · rcases hT with ⟨p1, p2⟩ | ⟨s', p1, p2, p3, p4⟩
      · rw [i16, p2] at z2; exact absurd z2 (by decide)
      · refine hK M1 f1 X1 (Or.inr ⟨s', by omega, p2, p3, i16.trans p4⟩)
    · rcases Y1 with ⟨y1, y2⟩ | ⟨y1, y2⟩
      · refine hK _ (Fr_I rfl f1) (X16 _) ?_
        rw [rI_eq]
        rcases hT with ⟨p1, p2⟩ | ⟨s', p1, p2, p3, p4⟩
        · exact Or.inr ⟨s, by omega, y2, p1, rfl⟩
        · exfalso
          apply z2
          rw [i16, p4]
          exact le0 (by omega)
      · exact absurd y1 z
