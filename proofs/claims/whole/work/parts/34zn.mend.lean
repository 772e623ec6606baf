/-! mend: patches in place of lines -/
/-- the patch's address that stands at a line, behind the first k patches -/
def rpk (x : Nat) (pt pl ln pp : Nat → Nat) (t i : Nat) : Nat → Option Nat
  | 0 => none
  | k + 1 => if x.testBit k = true ∧ pt k = t ∧ pl k = i ∧ pl k < ln (pt k) then some (pp k) else rpk x pt pl ln pp t i k
/-- the line that is done there -/
def pln (C : Cf) (x : Nat) (pt pl : Nat → Nat) (PL : Nat → Nat × Nat × List Nat) (t i : Nat) : Nat → Nat × Nat × List Nat
  | 0 => cL C t i
  | k + 1 => if x.testBit k = true ∧ pt k = t ∧ pl k = i then PL k else pln C x pt pl PL t i k
def ptC (C : Cf) (x np : Nat) (pt pl : Nat → Nat) (PL : Nat → Nat × Nat × List Nat) : Cf := (fun t i => pln C x pt pl PL t i np, C.2)
/-- the patches, in class (c) and model (m) -/
def PTs (M : Mm) (np : Nat) (pt pl pp : Nat → Nat) (PL : Nat → Nat × Nat × List Nat) : Prop := np ≤ 5 ∧ M.1 11 12 = nI np ∧ M.1 142 34 = nI np ∧ M.1 142 33 = 0 ∧ ∀ j, j < np → M.1 15 j = nI (pt j) ∧ M.1 158 j = nI (pt j) ∧ M.1 16 j = nI (pl j) ∧ M.1 159 j = nI (pl j) ∧ pt j < 4 ∧ nI (pt j) < M.1 11 10 ∧ pl j < 16 ∧ pp j ∈ PR ∧ M.2.2 14 j = some (pp j) ∧ LC M (pp j) 0 (PL j) ∧ LnM M (64 + j) (PL j).1 (PL j).2.1 (PL j).2.2 ∧ LnOk (PL j).1 (PL j).2.1 (PL j).2.2
theorem pts_of {M : Mm} (hV : V M) : ∃ (np : Nat) (pt pl pp : Nat → Nat) (PL : Nat → Nat × Nat × List Nat), PTs M np pt pl pp PL := by
  obtain ⟨h1, h2, h3, h4, h5, h6, h7, h8, h9, h10, h11, h12, h13, h14, h15, h16, h17, h18, h19⟩ := hV
  obtain ⟨nt, nb, on, np, a1, a2, a3, a4, b1, b2, b3, b4, b5, b6, b7, b8, b9⟩ := h9
  have ch : ∀ j, ∃ q : Nat × Nat × Nat × Nat × Nat × List Nat, j < np → (M.1 15 j = nI q.1 ∧ M.1 158 j = nI q.1 ∧ M.1 16 j = nI q.2.1 ∧ M.1 159 j = nI q.2.1 ∧ q.1 < 4 ∧ nI q.1 < M.1 11 10 ∧ q.2.1 < 16 ∧ q.2.2.1 ∈ PR ∧ M.2.2 14 j = some q.2.2.1 ∧ LC M q.2.2.1 0 q.2.2.2 ∧ LnM M (64 + j) q.2.2.2.1 q.2.2.2.2.1 q.2.2.2.2.2 ∧ LnOk q.2.2.2.1 q.2.2.2.2.1 q.2.2.2.2.2) := by
    intro j
    by_cases hj : j < np
    · obtain ⟨p, c1, c2, c3, ⟨kd, nu, e, l1, l2, l3⟩, c5, c6, ⟨u, u1, u2⟩, c8, ⟨v, v1, v2⟩⟩ := h14 j (by omega) (by rw [b7]; exact nI_lt hj (by omega))
      refine ⟨(u, v, p, kd, nu, e), fun _ => ⟨u2, c5 ▸ u2, v2, c6 ▸ v2, u1, u2 ▸ c8, v1, c1, c2, PE_of (by omega) (by rw [c3]; decide) l2, l3, l1⟩⟩
    · exact ⟨(0, 0, 0, 0, 0, []), fun z => absurd z hj⟩
  obtain ⟨f, hf⟩ := Classical.skolem.mp ch
  exact ⟨np, fun j => (f j).1, fun j => (f j).2.1, fun j => (f j).2.2.1, fun j => (f j).2.2.2, a4, b7, b8, b9, hf⟩
theorem fins17 : ∀ q ∈ fins, q.1 ≠ 17 := by decide +kernel
/-- memories that differ in row 17 of the references too -/
def Gr (M m : Mm) : Prop := (∀ b j, dE b j = false → m.1 b j = M.1 b j) ∧ (∀ b, eG b = false → m.2.1 b = M.2.1 b) ∧ ∀ b j, ¬ (b = 17 ∧ j < 64) → m.2.2 b j = M.2.2 b j
theorem FX_gr {M m : Mm} (h : ∀ b j, ¬ (b = 17 ∧ j < 64) → m.2.2 b j = M.2.2 b j) (hF : FX M) : FX m := fun q hq => by
  rw [h q.1 q.2.1 (fun z => fins17 q hq z.1)]; exact hF q hq
theorem up2 {x1 : Int32} {M0 : Mm} {EK K : Mm → Prop} (hF0 : FX M0) (hK : ∀ m, m.1 = M0.1 → m.2.1 = M0.2.1 → (∀ b j, ¬ (b = 17 ∧ j < 64) → m.2.2 b j = M0.2.2 b j) → (∀ j, j < 64 → m.2.2 17 j = none) → EK m) :
    ∀ (r i : Nat) (m : Mm), i + r = 64 → m.1 = M0.1 → m.2.1 = M0.2.1 → (∀ b j, ¬ (b = 17 ∧ j < 64) → m.2.2 b j = M0.2.2 b j) → (∀ j, j < i → m.2.2 17 j = none) → f_X3_usePatches_L2 S0 11 x1 EK K (r + 1) (nI i) m
  | 0, i, m, hi, h1, h2, h3, h4 => by
    unfold f_X3_usePatches_L2 f_X3_usePatches_B2
    have e : i = 64 := by omega
    subst e
    exact ⟨fun _ => hK m h1 h2 h3 h4, fun z => absurd (show nI 64 ≤ nI 64 from nI_le (Nat.le_refl _) (by omega)) z⟩
  | r + 1, i, m, hi, h1, h2, h3, h4 => by
    unfold f_X3_usePatches_L2 f_X3_usePatches_B2
    have hF := FX_gr h3 hF0
    have hin : vp_in (nI i) 64 := vp_in_nI (by omega) (by omega)
    have hcl : (nI i).toNatClampNeg = i := nI_clamp (by omega)
    refine ⟨fun z => absurd (show nI 64 ≤ nI i from z) (nI_ge (by omega) (by omega)), fun _ => ?_⟩
    simp only [fx_11_5 hF, ex_some, s0_17, ex_sh, hin, hcl, true_and, forall_eq, nI_1]
    refine up2 hF0 hK r (i + 1) _ (by omega) h1 h2 (fun b j hbj => ?_) (fun j hj => ?_)
    · rw [rR, if_neg (fun z => hbj ⟨z.1, by omega⟩)]; exact h3 b j hbj
    · rw [rR]
      by_cases e : j = i
      · rw [if_pos ⟨rfl, e⟩]
      · rw [if_neg (by omega)]; exact h4 j (by omega)
theorem up23 {x np : Nat} {pt pl pp ln : Nat → Nat} {M0 : Mm} {EK K : Mm → Prop} (hx : x < 32) (hF0 : FX M0) (hnp : np ≤ 5) (e12 : M0.1 11 12 = nI np) (hp : ∀ k, k < np → M0.1 15 k = nI (pt k) ∧ M0.1 16 k = nI (pl k) ∧ pt k < 4 ∧ pl k < 16 ∧ pp k ∈ PR ∧ M0.2.2 14 k = some (pp k) ∧ ln (pt k) ≤ 16 ∧ ∃ q, q ∈ PR ∧ M0.2.2 12 (pt k) = some q ∧ M0.1 q 6 = nI (ln (pt k))) (hK : ∀ m, m.1 = M0.1 → m.2.1 = M0.2.1 → (∀ b j, ¬ (b = 17 ∧ j < 64) → m.2.2 b j = M0.2.2 b j) → (∀ t i, t < 4 → i < 16 → m.2.2 17 (16 * t + i) = rpk x pt pl ln pp t i np) → EK m) :
    ∀ (r k : Nat) (m : Mm), k + r = np → m.1 = M0.1 → m.2.1 = M0.2.1 → (∀ b j, ¬ (b = 17 ∧ j < 64) → m.2.2 b j = M0.2.2 b j) → (∀ t i, t < 4 → i < 16 → m.2.2 17 (16 * t + i) = rpk x pt pl ln pp t i k) → f_X3_usePatches_L23 S0 11 (nI x) EK K (r + 1) (nI k) m
  | 0, k, m, hk, h1, h2, h3, h4 => by
    unfold f_X3_usePatches_L23 f_X3_usePatches_B23
    have e : k = np := by omega
    subst e
    rw [h1, e12]
    exact ⟨fun _ => hK m h1 h2 h3 h4, fun z => absurd (nI_le (Nat.le_refl _) (by omega)) z⟩
  | r + 1, k, m, hk, h1, h2, h3, h4 => by
    unfold f_X3_usePatches_L23 f_X3_usePatches_B23
    have hF := FX_gr h3 hF0
    have hin : vp_in (nI k) 5 := vp_in_nI (by omega) (by omega)
    have hcl : (nI k).toNatClampNeg = k := nI_clamp (by omega)
    obtain ⟨a1, a2, a3, a4, a5, a6, a7, q, b1, b2, b3⟩ := hp k (by omega)
    have i12 : m.1 11 12 = nI np := by rw [h1]; exact e12
    have i15 : m.1 15 k = nI (pt k) := by rw [h1]; exact a1
    have i16 : m.1 16 k = nI (pl k) := by rw [h1]; exact a2
    have iq : m.1 q 6 = nI (ln (pt k)) := by rw [h1]; exact b3
    have r14 : m.2.2 14 k = some (pp k) := by rw [h3 14 k (by omega)]; exact a6
    have r12 : m.2.2 12 (pt k) = some q := by rw [h3 12 _ (by omega)]; exact b2
    have hin4 : vp_in (nI (pt k)) 4 := vp_in_nI a3 (by omega)
    have hcl4 : (nI (pt k)).toNatClampNeg = pt k := nI_clamp (by omega)
    have ix : nI (pt k) * (16 : Int32) + nI (pl k) = nI (16 * pt k + pl k) := by rw [show (16 : Int32) = nI 16 from rfl, pk_mul, nI_add, Nat.mul_comm]
    have hin5 : vp_in (nI (16 * pt k + pl k)) 64 := vp_in_nI (by omega) (by omega)
    have hcl5 : (nI (16 * pt k + pl k)).toNatClampNeg = 16 * pt k + pl k := nI_clamp (by omega)
    rw [i12]
    refine ⟨fun z => absurd z (nI_ge (by omega) (by omega)), fun _ => ?_⟩
    simp only [fx_11_3 hF, fx_11_4 hF, fx_11_0 hF, fx_11_5 hF, fx_11_2 hF, ex_some, shp_ne (show (15 : Nat) ≠ 100000 by decide), shp_ne (show (16 : Nat) ≠ 100000 by decide), s0_15, s0_16, s0_12, s0_17, s0_14, ex_sh, hin, hcl, true_and, forall_eq, nI_1, i15, i16, hin4, hcl4, r12, r14, iq, (pr_sh q b1).1, (pr_sh (pp k) a5).1, ix, hin5, hcl5]
    rw [bt12 (by omega) (by omega), nI_leI (by omega) (by omega)]
    have skip : ¬ (x.testBit k = true ∧ pl k < ln (pt k)) → f_X3_usePatches_L23 S0 11 (nI x) EK K (r + 1) (nI (k + 1)) m := by
      intro hn
      refine up23 hx hF0 hnp e12 hp hK r (k + 1) m (by omega) h1 h2 h3 (fun t i ht hi => ?_)
      rw [h4 t i ht hi]
      conv => rhs; unfold rpk
      rw [if_neg (fun z => hn ⟨z.1, z.2.2.2⟩)]
    refine ⟨fun e => skip (fun z => by rw [e] at z; exact absurd z.1 (by decide)), fun e => ⟨fun z => skip (fun y => by omega), fun z => ?_⟩⟩
    have e' : x.testBit k = true := by
      rcases hq : x.testBit k with _ | _
      · exact absurd hq e
      · rfl
    refine up23 hx hF0 hnp e12 hp hK r (k + 1) _ (by omega) h1 h2 (fun b j hbj => ?_) (fun t i ht hi => ?_)
    · rw [rR, if_neg (fun z => hbj ⟨z.1, by omega⟩)]; exact h3 b j hbj
    · rw [rR]
      conv => rhs; unfold rpk
      by_cases h : pt k = t ∧ pl k = i
      · rw [if_pos ⟨rfl, by rw [h.1, h.2]⟩, if_pos ⟨e', h.1, h.2, by omega⟩]
      · rw [if_neg (fun y => h (by omega)), if_neg (fun y => h ⟨y.2.1, y.2.2.1⟩)]; exact h4 t i ht hi
theorem up_ok {x np : Nat} {pt pl pp ln : Nat → Nat} {M : Mm} {K : Mm → Prop} (hx : x < 32) (hF : FX M) (hnp : np ≤ 5) (e12 : M.1 11 12 = nI np) (hp : ∀ k, k < np → M.1 15 k = nI (pt k) ∧ M.1 16 k = nI (pl k) ∧ pt k < 4 ∧ pl k < 16 ∧ pp k ∈ PR ∧ M.2.2 14 k = some (pp k) ∧ ln (pt k) ≤ 16 ∧ ∃ q, q ∈ PR ∧ M.2.2 12 (pt k) = some q ∧ M.1 q 6 = nI (ln (pt k))) (hK : ∀ m, m.1 = M.1 → m.2.1 = M.2.1 → (∀ b j, ¬ (b = 17 ∧ j < 64) → m.2.2 b j = M.2.2 b j) → (∀ t i, t < 4 → i < 16 → m.2.2 17 (16 * t + i) = rpk x pt pl ln pp t i np) → K m) : f_X3_usePatches S0 11 (nI x) M K := by
  unfold f_X3_usePatches
  refine ⟨64 + 1, up2 hF (fun m h1 h2 h3 h4 => ⟨np + 1, ?_⟩) 64 0 M (by omega) rfl rfl (fun _ _ _ => rfl) (fun j hj => absurd hj (by omega))⟩
  refine up23 (ln := ln) (pt := pt) (pl := pl) (pp := pp) hx (FX_gr h3 hF) hnp (by rw [h1]; exact e12) (fun k hk => ?_) (fun m' g1 g2 g3 g4 => hK m' (g1.trans h1) (g2.trans h2) (fun b j hbj => (g3 b j hbj).trans (h3 b j hbj)) g4) np 0 m (by omega) rfl rfl (fun _ _ _ => rfl) (fun t i ht hi => h4 _ (by omega))
  obtain ⟨a1, a2, a3, a4, a5, a6, a7, q, b1, b2, b3⟩ := hp k hk
  exact ⟨by rw [h1]; exact a1, by rw [h1]; exact a2, a3, a4, a5, by rw [h3 14 k (by omega)]; exact a6, a7, q, b1, by rw [h3 12 _ (by omega)]; exact b2, by rw [h1]; exact b3⟩
theorem rpk_0 {pt pl ln pp : Nat → Nat} {t i : Nat} : ∀ k, rpk 0 pt pl ln pp t i k = none
  | 0 => rfl
  | k + 1 => by unfold rpk; rw [if_neg (by simp)]; exact rpk_0 k
/-- address and line go together -/
theorem rpk_pln {C : Cf} {x : Nat} {pt pl ln pp : Nat → Nat} {PL : Nat → Nat × Nat × List Nat} {t i : Nat} (hi : i < ln t) : ∀ k, (rpk x pt pl ln pp t i k = none ∧ pln C x pt pl PL t i k = cL C t i) ∨ ∃ j, j < k ∧ rpk x pt pl ln pp t i k = some (pp j) ∧ pln C x pt pl PL t i k = PL j
  | 0 => Or.inl ⟨rfl, rfl⟩
  | k + 1 => by
    unfold rpk pln
    by_cases h : x.testBit k = true ∧ pt k = t ∧ pl k = i
    · rw [if_pos ⟨h.1, h.2.1, h.2.2, by rw [h.2.2, h.2.1]; exact hi⟩, if_pos h]
      exact Or.inr ⟨k, by omega, rfl, rfl⟩
    · rw [if_neg (fun z => h ⟨z.1, z.2.1, z.2.2.1⟩), if_neg h]
      rcases rpk_pln (C := C) (x := x) (pt := pt) (pl := pl) (ln := ln) (pp := pp) (PL := PL) (t := t) hi k with z | ⟨j, z1, z2⟩
      · exact Or.inl z
      · exact Or.inr ⟨j, by omega, z2⟩
theorem CO_pt {C : Cf} {x np : Nat} {pt pl : Nat → Nat} {PL : Nat → Nat × Nat × List Nat} (hC : CO C) (hP : ∀ j, j < np → LnOk (PL j).1 (PL j).2.1 (PL j).2.2) : CO (ptC C x np pt pl PL) := by
  obtain ⟨h1, h2, h3, h4, h5, h6⟩ := hC
  refine ⟨h1, h2, h3, h4, h5, fun t ht => ⟨(h6 t ht).1, (h6 t ht).2.1, fun i hi => ?_⟩⟩
  show LnOk (pln C x pt pl PL t i np).1 (pln C x pt pl PL t i np).2.1 (pln C x pt pl PL t i np).2.2
  rcases rpk_pln (C := C) (x := x) (pt := pt) (pl := pl) (ln := fun t => cN C t) (pp := pt) (PL := PL) (t := t) (i := i) hi np with z | ⟨j, z1, z2, z3⟩
  · rw [z.2]; exact (h6 t ht).2.2 i hi
  · rw [z3]; exact hP j z1
theorem CC_pt {C : Cf} {x np : Nat} {pt pl pp : Nat → Nat} {PL : Nat → Nat × Nat × List Nat} {M m : Mm} (hC : CC M C) (ep : ∀ a, prc a → m.1 a = M.1 a) (hP : ∀ j, j < np → pp j ∈ PR ∧ LC M (pp j) 0 (PL j) ∧ LnOk (PL j).1 (PL j).2.1 (PL j).2.2) (hr : ∀ t, M.2.2 17 t = none ∨ True) (e0 : m.1 11 10 = M.1 11 10) (e1 : m.1 11 11 = M.1 11 11) (e2 : m.1 11 14 = M.1 11 14) (e3 : m.1 18 = M.1 18) (h3 : ∀ b j, ¬ (b = 17 ∧ j < 64) → m.2.2 b j = M.2.2 b j) (h17 : ∀ j, j < 64 → M.2.2 17 j = none) (h4 : ∀ t i, t < 4 → i < 16 → m.2.2 17 (16 * t + i) = rpk x pt pl (fun t => cN C t) pp t i np) : CC m (ptC C x np pt pl PL) := by
  obtain ⟨c0, c1, c2, c3, c4, c5, c6⟩ := hC
  refine ⟨CO_pt c0 (fun j hj => (hP j hj).2.2), e0.trans c1, e1.trans c2, e2.trans c3, by rw [e3]; exact c4, fun b hb => ?_, fun t ht => ?_⟩
  · obtain ⟨p, q1, q2, q3⟩ := c5 b hb
    exact ⟨p, q1, by rw [h3 13 b (by omega)]; exact q2, PE_ag ep q1 q3⟩
  · obtain ⟨p, q1, q2, q3, q4⟩ := c6 t ht
    have ht4 : t < 4 := Nat.lt_of_lt_of_le ht c0.1
    have hn16 := (c0.2.2.2.2.2 t ht).2.1
    refine ⟨p, q1, by rw [h3 12 t (by omega)]; exact q2, by rw [ep p (pr_prc0 q1)]; exact q3, fun i hi => ?_⟩
    have hi' : i < cN C t := hi
    rw [h4 t i ht4 (by omega)]
    show (_ ∧ LC m p i (pln C x pt pl PL t i np)) ∨ ∃ p', p' ∈ PR ∧ _ ∧ LC m p' 0 (pln C x pt pl PL t i np)
    rcases rpk_pln (C := C) (x := x) (pt := pt) (pl := pl) (ln := fun t => cN C t) (pp := pp) (PL := PL) (t := t) (i := i) hi' np with z | ⟨j, z1, z2, z3⟩
    · rw [z.1, z.2]
      rcases q4 i hi' with y | ⟨p', y1, y2, y3⟩
      · exact Or.inl ⟨rfl, LC_ag ep q1 y.2⟩
      · rw [h17 _ (by omega)] at y2; exact absurd y2 (by simp)
    · rw [z2, z3]
      exact Or.inr ⟨pp j, (hP j z1).1, rfl, LC_ag ep (hP j z1).1 (hP j z1).2.1⟩
/-- the model's row and line go together -/
theorem rol_pln {M : Mm} {C : Cf} {x : Nat} {pt pl : Nat → Nat} {PL : Nat → Nat × Nat × List Nat} {t i : Nat} (h0 : LnM M (16 * t + i) (cL C t i).1 (cL C t i).2.1 (cL C t i).2.2) : ∀ k, (∀ j, j < k → LnM M (64 + j) (PL j).1 (PL j).2.1 (PL j).2.2) → LnM M (rol x pt pl t i k) (pln C x pt pl PL t i k).1 (pln C x pt pl PL t i k).2.1 (pln C x pt pl PL t i k).2.2
  | 0, _ => h0
  | k + 1, hP => by
    unfold rol pln
    by_cases h : x.testBit k = true ∧ pt k = t ∧ pl k = i
    · rw [if_pos h, if_pos h]; exact hP k (by omega)
    · rw [if_neg h, if_neg h]; exact rol_pln h0 k (fun j hj => hP j (by omega))
theorem CM_pt {C : Cf} {x np : Nat} {pt pl pp : Nat → Nat} {PL : Nat → Nat × Nat × List Nat} {M m : Mm} (hx : x < 32) (hC : CM M C) (hT : PTs M np pt pl pp PL) (f0 : m.1 142 15 = M.1 142 15) (f1 : m.1 142 20 = M.1 142 20) (f2 : m.1 142 21 = M.1 142 21) (f3 : m.1 142 34 = M.1 142 34) (f4 : m.1 142 33 = nI x) (e5 : m.1 145 = M.1 145) (e6 : m.1 146 = M.1 146) (e7 : m.1 147 = M.1 147) (e8 : m.1 148 = M.1 148) (e0 : m.1 150 = M.1 150) (e1 : m.1 157 = M.1 157) (e2 : m.1 158 = M.1 158) (e3 : m.1 159 = M.1 159) : CM m (ptC C x np pt pl PL) := by
  obtain ⟨h0, h1, h2, h3, h4, h5, np', pd, pt', pl', a1, a2, a3, a4, a5, a6⟩ := hC
  obtain ⟨t1, t2, t3, t4, t5⟩ := hT
  have epd : pd = 0 := (nI_eq (by omega) (by omega)).mp (show nI pd = nI 0 from a4.symm.trans t4)
  subst epd
  refine ⟨CO_pt h0 (fun j hj => (t5 j hj).2.2.2.2.2.2.2.2.2.2.2), f0.trans h1, f1.trans h2, f2.trans h3, by rw [e1]; exact h4, fun b hb => RwM_ag e7 e8 (h5 b hb), np, x, pt, pl, t1, hx, f3.trans t3, f4, fun k hk => ?_, fun t ht => ⟨by rw [e0]; exact (a6 t ht).1, fun i hi => ?_⟩⟩
  · rw [e2, e3]
    obtain ⟨u1, u2, u3, u4, u5, u6, u7, -⟩ := t5 k hk
    exact ⟨u2, u4, u5, u7⟩
  · have := (a6 t ht).2 i hi
    rw [rol_0] at this
    refine LnM_ag e5 e6 e7 e8 (rol_pln this np (fun j hj => (t5 j hj).2.2.2.2.2.2.2.2.2.2.1))
