/-! like: the loops of class and model, and the call -/
theorem lkr_some {ta tb : Nat → Nat} {r i N B : Nat} {P : Nat × Nat} (e : lks N B (ta i) (tb i) = some P) : lkr ta tb (r + 1) i N B = lkr ta tb r (i + 1) P.1 P.2 := by
  simp only [lkr, e]
theorem lkr_none {ta tb : Nat → Nat} {r i N B : Nat} (e : lks N B (ta i) (tb i) = none) : lkr ta tb (r + 1) i N B = none := by
  simp only [lkr, e]
theorem nb4_lt (N x : Nat) : nb4 N x < 16 := fld_lt N _ 4
theorem likC {p q z : Nat} {ta tb : Nat → Nat} {M : Mm} {EK : Int64 → Mm → Prop} {K : Int32 → Mm → Prop} (hp : p ∈ PR) (hq : q ∈ PR) (hF : FX M) (hz : M.1 p 5 = nI z) (hz2 : z ≤ 60) (ha : ∀ j, j < z → M.1 (p + 1) j = nI (ta j) ∧ ta j < 256) (hb : ∀ j, j < z → M.1 (q + 1) j = nI (tb j) ∧ tb j < 256) :
    ∀ (r i N B : Nat), i + r = z → N < 2 ^ 32 → B < 2 ^ 32 → (lkr ta tb r i N B = none → K 0 M) → (∀ P, lkr ta tb r i N B = some P → P.1 < 2 ^ 32 → EK (lN P.1) M) → f_X10_tellShape_L21 S0 0 p q EK K (r + 1) (lN N) (lN B) (nI i) M
  | 0, i, N, B, hi, hN, hB, h0, h1 => by
    unfold f_X10_tellShape_L21 f_X10_tellShape_B21
    rw [hz]
    exact ⟨fun _ => h1 (N, B) rfl hN, fun w => absurd (nI_le (by omega) (by omega)) w⟩
  | r + 1, i, N, B, hi, hN, hB, h0, h1 => by
    unfold f_X10_tellShape_L21 f_X10_tellShape_B21
    rw [hz]
    refine ⟨fun w => absurd w (nI_ge (by omega) (by omega)), fun _ => ?_⟩
    have r1 : M.2.2 p 0 = some (p + 1) := pr_ref hF hp (k := 0) (by omega)
    have r2 : M.2.2 q 0 = some (q + 1) := pr_ref hF hq (k := 0) (by omega)
    have s1 := (pr_sh p hp).2.1
    have s2 := (pr_sh q hq).2.1
    have hin : vp_in (nI i) 60 := vp_in_nI (by omega) (by omega)
    have hcl : (nI i).toNatClampNeg = i := nI_clamp (by omega)
    obtain ⟨a1, a2⟩ := ha i (by omega)
    obtain ⟨b1, b2⟩ := hb i (by omega)
    simp only [r1, r2, ex_some, s1, s2, ex_sh, hin, hcl, true_and, forall_eq, a1, b1, nI_1]
    have no : lks N B (ta i) (tb i) = none → K 0 M := fun e => h0 (lkr_none e)
    have go : ∀ P, lks N B (ta i) (tb i) = some P → f_X10_tellShape_L21 S0 0 p q EK K (r + 1) (lN P.1) (lN P.2) (nI (i + 1)) M := by
      intro P e
      obtain ⟨l1, l2⟩ := lks_lt hN hB e
      exact likC hp hq hF hz hz2 ha hb r (i + 1) P.1 P.2 (by omega) l1 l2 (fun h => h0 (by rw [lkr_some e]; exact h)) (fun P' h => h1 P' (by rw [lkr_some e]; exact h))
    have nos : ¬ (97 ≤ ta i ∧ ta i < 105 ∧ 97 ≤ tb i ∧ tb i < 105) → f_X10_tellShape_J70 S0 0 p q (lN N) (lN B) (nI i) (nI (ta i) - 97) (nI (tb i) - 97) M (fun x3 x5 x7 M => f_X10_tellShape_L21 S0 0 p q EK K (r + 1) x3 x5 x7 M) K := by
      intro hn
      unfold f_X10_tellShape_J70
      simp only [forall_eq, nI_1]
      rw [eq97 a2 b2]
      refine ⟨fun e => go (N, B) (by unfold lks; rw [if_neg hn, if_pos e]), fun e => no (by unfold lks; rw [if_neg hn, if_neg e])⟩
    refine isl_ok a2 ?_
    by_cases h1' : 97 ≤ ta i ∧ ta i < 105
    · rw [if_pos h1']
      refine ⟨fun w => absurd w (by decide), fun _ => isl_ok b2 ?_⟩
      by_cases h2' : 97 ≤ tb i ∧ tb i < 105
      · rw [if_pos h2']
        refine ⟨fun w => absurd w (by decide), fun _ => ?_⟩
        have hs : 97 ≤ ta i ∧ ta i < 105 ∧ 97 ≤ tb i ∧ tb i < 105 := ⟨h1'.1, h1'.2, h2'.1, h2'.2⟩
        have ea : nI (ta i) - (97 : Int32) = nI (ta i - 97) := pk_sub (b := 97) h1'.1
        have eb : nI (tb i) - (97 : Int32) = nI (tb i - 97) := pk_sub (b := 97) h2'.1
        rw [ea, eb]
        generalize hx : ta i - 97 = x
        generalize hy : tb i - 97 = y
        have hx8 : x < 8 := by omega
        have hy8 : y < 8 := by omega
        have lx := nb4_lt N x
        have ly := nb4_lt B y
        refine nib_ok hN hx8 (nib_ok hB hy8 ?_)
        have jn : ¬ (nb4 N x = 0 ∧ nb4 B y = 0) → f_X10_tellShape_J137 S0 0 p q (lN N) (lN B) (nI i) (nI x) (nI y) (nI (nb4 N x)) (nI (nb4 B y)) M (fun x3 x5 x7 M => f_X10_tellShape_L21 S0 0 p q EK K (r + 1) x3 x5 x7 M) K := by
          intro hn
          unfold f_X10_tellShape_J137
          simp only [forall_eq, nI_1]
          rw [nI_eq (by omega) (by omega), nI_eq (by omega) (by omega)]
          have hn' : ¬ (nb4 N (ta i - 97) = 0 ∧ nb4 B (tb i - 97) = 0) := by rw [hx, hy]; exact hn
          refine ⟨fun e1 => ⟨fun e2 => go (N, B) ?_, fun e2 => no ?_⟩, fun e1 => no ?_⟩
          · unfold lks; rw [if_pos hs, if_neg hn', hx, hy, if_pos ⟨e1, e2⟩]
          · unfold lks; rw [if_pos hs, if_neg hn', hx, hy, if_neg (fun h => e2 h.2)]
          · unfold lks; rw [if_pos hs, if_neg hn', hx, hy, if_neg (fun h => e1 h.1)]
        refine ⟨fun e1 => ⟨fun e2 => ?_, fun e2 => jn (fun h => e2 (by rw [h.2]; rfl))⟩, fun e1 => jn (fun h => e1 (by rw [h.1]; rfl))⟩
        have e1' : nb4 N x = 0 := (nI_eq (by omega) (by omega)).mp (show nI (nb4 N x) = nI 0 from e1)
        have e2' : nb4 B y = 0 := (nI_eq (by omega) (by omega)).mp (show nI (nb4 B y) = nI 0 from e2)
        have f1 : lN N ||| ((nI (y + 1)).toInt64 <<< ((nI x * (4 : Int32)).toInt64 &&& 63)) = lN (put N (4 * x) 4 (y + 1)) := by
          rw [nI_l (by omega), show (4 : Int32) = nI 4 from rfl, pk_mul, Nat.mul_comm]
          exact bt_or (4 * x) 4 (y + 1) (by omega) (by omega) (by omega) e1'
        have f2 : lN B ||| ((nI (x + 1)).toInt64 <<< ((nI y * (4 : Int32)).toInt64 &&& 63)) = lN (put B (4 * y) 4 (x + 1)) := by
          rw [nI_l (by omega), show (4 : Int32) = nI 4 from rfl, pk_mul, Nat.mul_comm]
          exact bt_or (4 * y) 4 (x + 1) (by omega) (by omega) (by omega) e2'
        simp only [forall_eq, nI_1, f1, f2]
        refine go (put N (4 * x) 4 (y + 1), put B (4 * y) 4 (x + 1)) ?_
        unfold lks
        rw [if_pos hs, hx, hy, if_pos ⟨e1', e2'⟩]
      · rw [if_neg h2']
        exact ⟨fun _ => nos (fun h => h2' h.2.2), fun w => absurd rfl w⟩
    · rw [if_neg h1']
      exact ⟨fun _ => nos (fun h => h1' ⟨h.1, h.2.1⟩), fun w => absurd rfl w⟩
/-- the model's two maps -/
def PT (M : Mm) (N B : Nat) : Prop := ∀ k, k < 8 → M.1 175 k = nI (nb4 N k) - 1 ∧ M.1 176 k = nI (nb4 B k) - 1
theorem PT_put {M : Mm} {N B x y : Nat} (hx : x < 8) (hy : y < 8) (h : PT M N B) : PT (stI (stI M 175 x (nI y)) 176 y (nI x)) (put N (4 * x) 4 (y + 1)) (put B (4 * y) 4 (x + 1)) := by
  intro k hk
  rw [nb4_put (by omega), nb4_put (by omega)]
  constructor
  · rw [rI_ne (by omega), rI]
    by_cases e : k = x
    · rw [if_pos ⟨rfl, e⟩, if_pos e]; exact (nI_pred y).symm
    · rw [if_neg (by omega), if_neg e]; exact (h k hk).1
  · rw [rI]
    by_cases e : k = y
    · rw [if_pos ⟨rfl, e⟩, if_pos e]; exact (nI_pred x).symm
    · rw [if_neg (by omega), if_neg e, rI_ne (by omega)]; exact (h k hk).2
theorem in97_ok {S : Ss} {a : Nat} {M : Mm} {K : Int32 → Mm → Prop} (ha : a < 256) (h : K (if 97 ≤ a ∧ a < 105 then 1 else 0) M) : f_X11_in S (nI a).toInt64 (97 : Int64) (104 : Int64) M K := by
  unfold f_X11_in
  rw [nI_l (by omega), show (97 : Int64) = lN 97 from rfl, show (104 : Int64) = lN 104 from rfl, lN_lt (by omega) (by omega), lN_lt (by omega) (by omega)]
  refine ⟨fun z => ?_, fun z => ⟨fun y => ?_, fun y => ?_⟩⟩
  · rw [if_neg (by omega)] at h; exact h
  · rw [if_neg (by omega)] at h; exact h
  · rw [if_pos (by omega)] at h; exact h
theorem m1_le : ∀ u, u < 16 → ((0 : Int32) ≤ nI u - 1 ↔ ¬ u = 0) := by decide +kernel
theorem m1_eq : ∀ u, u < 16 → ∀ y, y < 8 → (nI u - (1 : Int32) = nI y ↔ u = y + 1) := by decide +kernel
def dLk : Nat → Nat → Bool := fun b _ => b == 175 || b == 176
theorem likM {a b z : Nat} {ta tb : Nat → Nat} {M0 : Mm} {EK : Mm → Prop} {K : Int32 → Mm → Prop} (ha4 : a < 4) (hb4 : b < 4) (hF0 : FX M0) (hz : M0.1 152 a = nI z) (hz2 : z ≤ 60) (ha : ∀ j, j < z → M0.1 151 (60 * a + j) = nI (ta j) ∧ ta j < 256) (hb : ∀ j, j < z → M0.1 151 (60 * b + j) = nI (tb j) ∧ tb j < 256) :
    ∀ (r i N B : Nat) (M : Mm), i + r = z → N < 2 ^ 32 → B < 2 ^ 32 → Fr dLk eN M0 M → PT M N B → (lkr ta tb r i N B = none → ∀ M', Fr dLk eN M0 M' → K 0 M') → (∀ P, lkr ta tb r i N B = some P → ∀ M', Fr dLk eN M0 M' → PT M' P.1 P.2 → EK M') → f_X11_like_L86 S0 142 (nI a) (nI b) EK K (r + 1) (nI i) M
  | 0, i, N, B, M, hi, hN, hB, hf, hP, h0, h1 => by
    unfold f_X11_like_L86 f_X11_like_B86
    have hF : FX M := FX_fr hf hF0
    have e152 : M.1 152 a = nI z := (hf.1 152 a rfl).trans hz
    have hin : vp_in (nI a) 4 := vp_in_nI ha4 (by omega)
    have hcl : (nI a).toNatClampNeg = a := nI_clamp (by omega)
    simp only [fx_142_18 hF, ex_some, shp_ne (show (152 : Nat) ≠ 100000 by decide), s0_152, ex_sh, hin, hcl, true_and, e152]
    exact ⟨fun _ => h1 (N, B) rfl M hf hP, fun w => absurd (nI_le (by omega) (by omega)) w⟩
  | r + 1, i, N, B, M, hi, hN, hB, hf, hP, h0, h1 => by
    unfold f_X11_like_L86 f_X11_like_B86
    have hF : FX M := FX_fr hf hF0
    have e152 : M.1 152 a = nI z := (hf.1 152 a rfl).trans hz
    have hin : vp_in (nI a) 4 := vp_in_nI ha4 (by omega)
    have hcl : (nI a).toNatClampNeg = a := nI_clamp (by omega)
    simp only [fx_142_18 hF, ex_some, shp_ne (show (152 : Nat) ≠ 100000 by decide), s0_152, ex_sh, hin, hcl, true_and, e152]
    refine ⟨fun w => absurd w (nI_ge (by omega) (by omega)), fun _ => ?_⟩
    obtain ⟨a1, a2⟩ := ha i (by omega)
    obtain ⟨b1, b2⟩ := hb i (by omega)
    have ia : (60 : Int32) * nI a + nI i = nI (60 * a + i) := by rw [show (60 : Int32) = nI 60 from rfl, pk_mul, nI_add]
    have ib : (60 : Int32) * nI b + nI i = nI (60 * b + i) := by rw [show (60 : Int32) = nI 60 from rfl, pk_mul, nI_add]
    have hin1 : vp_in (nI (60 * a + i)) 240 := vp_in_nI (by omega) (by omega)
    have hin2 : vp_in (nI (60 * b + i)) 240 := vp_in_nI (by omega) (by omega)
    have hc1 : (nI (60 * a + i)).toNatClampNeg = 60 * a + i := nI_clamp (by omega)
    have hc2 : (nI (60 * b + i)).toNatClampNeg = 60 * b + i := nI_clamp (by omega)
    have g1 : M.1 151 (60 * a + i) = nI (ta i) := (hf.1 151 _ rfl).trans a1
    have g2 : M.1 151 (60 * b + i) = nI (tb i) := (hf.1 151 _ rfl).trans b1
    simp only [fx_142_17 hF, ex_some, shp_ne (show (151 : Nat) ≠ 100000 by decide), s0_151, ex_sh, ia, ib, hin1, hin2, hc1, hc2, true_and, forall_eq, g1, g2]
    have no : lks N B (ta i) (tb i) = none → ∀ M', Fr dLk eN M0 M' → K 0 M' := fun e => h0 (lkr_none e)
    have go : ∀ P, lks N B (ta i) (tb i) = some P → ∀ M', Fr dLk eN M0 M' → PT M' P.1 P.2 → f_X11_like_L86 S0 142 (nI a) (nI b) EK K (r + 1) (nI (i + 1)) M' := by
      intro P e M' f' p'
      obtain ⟨l1, l2⟩ := lks_lt hN hB e
      exact likM ha4 hb4 hF0 hz hz2 ha hb r (i + 1) P.1 P.2 M' (by omega) l1 l2 f' p' (fun h => h0 (by rw [lkr_some e]; exact h)) (fun P' h => h1 P' (by rw [lkr_some e]; exact h))
    have nos : ¬ (97 ≤ ta i ∧ ta i < 105 ∧ 97 ≤ tb i ∧ tb i < 105) → f_X11_like_J156 S0 142 (nI a) (nI b) (nI i) (nI (ta i)) (nI (tb i)) M (fun x3 M => f_X11_like_L86 S0 142 (nI a) (nI b) EK K (r + 1) x3 M) K := by
      intro hn
      unfold f_X11_like_J156 f_X11_like_J157
      simp only [forall_eq, nI_1]
      rw [nI_eq (by omega) (by omega)]
      exact ⟨fun _ => ⟨fun e => go (N, B) (by unfold lks; rw [if_neg hn, if_pos e]) M hf hP, fun e => no (by unfold lks; rw [if_neg hn, if_neg e]) M hf⟩, fun w => absurd trivial w⟩
    refine in97_ok a2 ?_
    by_cases h1' : 97 ≤ ta i ∧ ta i < 105
    · rw [if_pos h1']
      refine ⟨fun w => absurd w (by decide), fun _ => in97_ok b2 ?_⟩
      by_cases h2' : 97 ≤ tb i ∧ tb i < 105
      · rw [if_pos h2']
        refine ⟨fun w => absurd w (by decide), fun _ => ?_⟩
        have hs : 97 ≤ ta i ∧ ta i < 105 ∧ 97 ≤ tb i ∧ tb i < 105 := ⟨h1'.1, h1'.2, h2'.1, h2'.2⟩
        have ea : nI (ta i) - (97 : Int32) = nI (ta i - 97) := pk_sub (b := 97) h1'.1
        have eb : nI (tb i) - (97 : Int32) = nI (tb i - 97) := pk_sub (b := 97) h2'.1
        unfold f_X11_like_J157
        refine ⟨fun w => absurd w (by decide), fun _ => ?_⟩
        simp only [forall_eq, ea, eb]
        generalize hx : ta i - 97 = x
        generalize hy : tb i - 97 = y
        have hx8 : x < 8 := by omega
        have hy8 : y < 8 := by omega
        have lx := nb4_lt N x
        have ly := nb4_lt B y
        have hinx : vp_in (nI x) 8 := vp_in_nI hx8 (by omega)
        have hiny : vp_in (nI y) 8 := vp_in_nI hy8 (by omega)
        have hcx : (nI x).toNatClampNeg = x := nI_clamp (by omega)
        have hcy : (nI y).toNatClampNeg = y := nI_clamp (by omega)
        have px := (hP x hx8).1
        have py := (hP y hy8).2
        have jn : ¬ (nb4 N x = 0 ∧ nb4 B y = 0) → f_X11_like_J225 S0 142 (nI a) (nI b) (nI i) (nI x) (nI y) M (fun x3 M => f_X11_like_L86 S0 142 (nI a) (nI b) EK K (r + 1) x3 M) K := by
          intro hn
          unfold f_X11_like_J225
          simp only [fx_142_68 hF, fx_142_69 hF, ex_some, shp_ne (show (175 : Nat) ≠ 100000 by decide), shp_ne (show (176 : Nat) ≠ 100000 by decide), s0_175, s0_176, ex_sh, hinx, hiny, hcx, hcy, true_and, forall_eq, nI_1, px, py]
          rw [m1_eq _ lx y hy8, m1_eq _ ly x hx8]
          have hn' : ¬ (nb4 N (ta i - 97) = 0 ∧ nb4 B (tb i - 97) = 0) := by rw [hx, hy]; exact hn
          refine ⟨fun e1 => ⟨fun e2 => go (N, B) ?_ M hf hP, fun e2 => no ?_ M hf⟩, fun e1 => no ?_ M hf⟩
          · unfold lks; rw [if_pos hs, if_neg hn', hx, hy, if_pos ⟨e1, e2⟩]
          · unfold lks; rw [if_pos hs, if_neg hn', hx, hy, if_neg (fun h => e2 h.2)]
          · unfold lks; rw [if_pos hs, if_neg hn', hx, hy, if_neg (fun h => e1 h.1)]
        simp only [fx_142_68 hF, fx_142_69 hF, rIr, ex_some, shp_ne (show (175 : Nat) ≠ 100000 by decide), shp_ne (show (176 : Nat) ≠ 100000 by decide), s0_175, s0_176, ex_sh, hinx, hiny, hcx, hcy, true_and, forall_eq, px, py]
        rw [m1_le _ lx, m1_le _ ly]
        refine ⟨fun e1 => jn (fun h => e1 h.1), fun e1 => ⟨fun e2 => jn (fun h => e2 h.2), fun e2 => ?_⟩⟩
        have e1' : nb4 N x = 0 := Classical.not_not.mp e1
        have e2' : nb4 B y = 0 := Classical.not_not.mp e2
        have f5 : Fr dLk eN M0 (stI (stI M 175 x (nI y)) 176 y (nI x)) := Fr_I rfl (Fr_I rfl hf)
        have hF5 : FX (stI (stI M 175 x (nI y)) 176 y (nI x)) := FX_fr f5 hF0
        unfold f_X11_like_J225
        have q1 : (stI (stI M 175 x (nI y)) 176 y (nI x)).1 175 x = nI y := by rw [rI_ne (by omega), rI_eq]
        have q2 : (stI (stI M 175 x (nI y)) 176 y (nI x)).1 176 y = nI x := rI_eq
        simp only [fx_142_68 hF5, fx_142_69 hF5, ex_some, shp_ne (show (175 : Nat) ≠ 100000 by decide), shp_ne (show (176 : Nat) ≠ 100000 by decide), s0_175, s0_176, ex_sh, hinx, hiny, hcx, hcy, true_and, forall_eq, nI_1, q1, q2]
        refine ⟨fun _ => ⟨fun _ => go (put N (4 * x) 4 (y + 1), put B (4 * y) 4 (x + 1)) ?_ _ f5 (PT_put hx8 hy8 hP), fun w => absurd trivial w⟩, fun w => absurd trivial w⟩
        unfold lks
        rw [if_pos hs, hx, hy, if_pos ⟨e1', e2'⟩]
      · rw [if_neg h2']
        exact ⟨fun _ => nos (fun h => h2' h.2.2), fun w => absurd rfl w⟩
    · rw [if_neg h1']
      exact ⟨fun _ => nos (fun h => h1' ⟨h.1, h.2.1⟩), fun w => absurd rfl w⟩
theorem likI {a b : Int32} {M0 : Mm} {EK : Mm → Prop} {K : Int32 → Mm → Prop} (hF0 : FX M0) (hK : ∀ M', Fr dLk eN M0 M' → PT M' 0 0 → EK M') :
    ∀ (r k : Nat) (M : Mm), k + r = 8 → Fr dLk eN M0 M → (∀ j, j < k → M.1 175 j = -1 ∧ M.1 176 j = -1) → f_X11_like_L58 S0 142 a b EK K (r + 1) (nI k) M
  | 0, k, M, hk, hf, hP => by
    unfold f_X11_like_L58 f_X11_like_B58
    refine ⟨fun _ => hK M hf (fun j hj => ?_), fun w => absurd (show nI 8 ≤ nI k from nI_le (by omega) (by omega)) w⟩
    have e : nI (nb4 0 j) - 1 = -1 := by unfold nb4 fld; simp only [Nat.zero_div, Nat.zero_mod]; decide
    rw [e]; exact hP j (by omega)
  | r + 1, k, M, hk, hf, hP => by
    unfold f_X11_like_L58 f_X11_like_B58
    have hF : FX M := FX_fr hf hF0
    have hin : vp_in (nI k) 8 := vp_in_nI (by omega) (by omega)
    have hcl : (nI k).toNatClampNeg = k := nI_clamp (by omega)
    refine ⟨fun w => absurd (show nI 8 ≤ nI k from w) (nI_ge (by omega) (by omega)), fun _ => ?_⟩
    simp only [fx_142_68 hF, fx_142_69 hF, rIr, ex_some, s0_175, s0_176, ex_sh, hin, hcl, true_and, forall_eq, nI_1]
    refine likI hF0 hK r (k + 1) _ (by omega) (Fr_I rfl (Fr_I rfl hf)) (fun j hj => ?_)
    rw [rI_ne (by omega), rI, rI]
    by_cases e : j = k
    · rw [if_pos ⟨rfl, e⟩, if_pos ⟨rfl, e⟩]; exact ⟨rfl, rfl⟩
    · rw [if_neg (by omega), if_neg (by omega), rI_ne (by omega)]; exact hP j (by omega)
/-- one number more is told -/
theorem tlN {k : Nat} {x : Int64} {M : Mm} {K : Mm → Prop} (hF : FX M) (h : M.1 116 1 = nI k) (hk : k < 20) (hK : ∀ M', Fr dTd eTd M M' → M'.1 116 1 = nI (k + 1) → (∀ j, j ≠ k → M'.2.1 117 j = M.2.1 117 j) → M'.2.1 117 k = x → K M') : f_X7_tellNext S0 116 x M K := by
  unfold f_X7_tellNext
  have hin : vp_in (nI k) 20 := vp_in_nI hk (by omega)
  have hcl : (nI k).toNatClampNeg = k := nI_clamp (by omega)
  have e1 : (stJ M 117 k x).1 116 1 = nI k := h
  simp only [h, fx_116_0 hF, ex_some, s0_117, ex_sh, hin, hcl, true_and, forall_eq, e1, nI_1]
  refine ⟨fun w => absurd (show nI 20 ≤ nI k from w) (nI_ge hk (by omega)), fun _ => hK _ (Fr_I rfl (Fr_J rfl (Fr_refl _ _ _))) rI_eq (fun j hj => ?_) ?_⟩
  · show (stJ M 117 k x).2.1 117 j = _
    rw [rJ, if_neg (by omega)]
  · show (stJ M 117 k x).2.1 117 k = _
    rw [stJ_get]
theorem enN {k : Nat} {x : Int64} {M : Mm} {K : Mm → Prop} (hF : FX M) (h : M.1 142 1 = nI k) (hk : k < 64) (hK : ∀ M', Fr dWy eWy M M' → M'.1 142 1 = nI (k + 1) → (∀ j, j ≠ k → M'.2.1 143 j = M.2.1 143 j) → M'.2.1 143 k = x → K M') : f_X11_enters S0 142 x M K := by
  unfold f_X11_enters
  have hin : vp_in (nI k) 64 := vp_in_nI hk (by omega)
  have hcl : (nI k).toNatClampNeg = k := nI_clamp (by omega)
  have e1 : (stJ M 143 k x).1 142 1 = nI k := h
  simp only [h, fx_142_2 hF, ex_some, s0_143, ex_sh, hin, hcl, true_and, forall_eq, e1, nI_1]
  refine hK _ (Fr_I rfl (Fr_J rfl (Fr_refl _ _ _))) rI_eq (fun j hj => ?_) ?_
  · show (stJ M 143 k x).2.1 143 j = _
    rw [rJ, if_neg (by omega)]
  · show (stJ M 143 k x).2.1 143 k = _
    rw [stJ_get]
theorem likTC {N : Nat} {M0 : Mm} {EK : Mm → Prop} {K : Int32 → Mm → Prop} (hN : N < 2 ^ 32) (hF0 : FX M0) (hK : ∀ M', Fr dTd eTd M0 M' → M'.1 116 1 = nI 8 → (∀ j, j < 8 → M'.2.1 117 j = (nI (nb4 N j) - 1).toInt64) → EK M') :
    ∀ (r k : Nat) (M : Mm), k + r = 8 → Fr dTd eTd M0 M → M.1 116 1 = nI k → (∀ j, j < k → M.2.1 117 j = (nI (nb4 N j) - 1).toInt64) → f_X10_tellShape_L173 S0 0 (lN N) EK K (r + 1) (nI k) M
  | 0, k, M, hk, hf, h1, h2 => by
    unfold f_X10_tellShape_L173 f_X10_tellShape_B173
    have e : k = 8 := by omega
    subst e
    exact ⟨fun _ => hK M hf h1 h2, fun w => absurd (show nI 8 ≤ nI 8 from nI_le (by omega) (by omega)) w⟩
  | r + 1, k, M, hk, hf, h1, h2 => by
    unfold f_X10_tellShape_L173 f_X10_tellShape_B173
    have hF : FX M := FX_fr hf hF0
    refine ⟨fun w => absurd (show nI 8 ≤ nI k from w) (nI_ge (by omega) (by omega)), fun _ => ?_⟩
    simp only [fx_0_6 hF, ex_some]
    refine nib_ok hN (by omega) ⟨s0_116, tlN hF h1 (by omega) (fun M' f' g1 g2 g3 => ?_)⟩
    simp only [forall_eq, nI_1]
    refine likTC hN hF0 hK r (k + 1) M' (by omega) (Fr_tr hf f') g1 (fun j hj => ?_)
    by_cases e : j = k
    · rw [e]; exact g3
    · rw [g2 j e]; exact h2 j (by omega)
theorem likTM {N B : Nat} {M0 : Mm} {EK : Mm → Prop} {K : Int32 → Mm → Prop} (hF0 : FX M0) (hP0 : PT M0 N B) (hK : ∀ M', Fr dWy eWy M0 M' → M'.1 142 1 = nI 8 → (∀ j, j < 8 → M'.2.1 143 j = (nI (nb4 N j) - 1).toInt64) → EK M') :
    ∀ (r k : Nat) (M : Mm), k + r = 8 → Fr dWy eWy M0 M → M.1 142 1 = nI k → (∀ j, j < k → M.2.1 143 j = (nI (nb4 N j) - 1).toInt64) → f_X11_like_L264 S0 142 EK K (r + 1) (nI k) M
  | 0, k, M, hk, hf, h1, h2 => by
    unfold f_X11_like_L264 f_X11_like_B264
    have e : k = 8 := by omega
    subst e
    exact ⟨fun _ => hK M hf h1 h2, fun w => absurd (show nI 8 ≤ nI 8 from nI_le (by omega) (by omega)) w⟩
  | r + 1, k, M, hk, hf, h1, h2 => by
    unfold f_X11_like_L264 f_X11_like_B264
    have hF : FX M := FX_fr hf hF0
    have hin : vp_in (nI k) 8 := vp_in_nI (by omega) (by omega)
    have hcl : (nI k).toNatClampNeg = k := nI_clamp (by omega)
    refine ⟨fun w => absurd (show nI 8 ≤ nI k from w) (nI_ge (by omega) (by omega)), fun _ => ?_⟩
    have px : M.1 175 k = nI (nb4 N k) - 1 := (hf.1 175 k rfl).trans (hP0 k (by omega)).1
    simp only [fx_142_68 hF, ex_some, shp_ne (show (175 : Nat) ≠ 100000 by decide), s0_175, ex_sh, hin, hcl, true_and, px]
    refine enN hF h1 (by omega) (fun M' f' g1 g2 g3 => ?_)
    simp only [forall_eq, nI_1]
    refine likTM hF0 hP0 hK r (k + 1) M' (by omega) (Fr_tr hf f') g1 (fun j hj => ?_)
    by_cases e : j = k
    · rw [e]; exact g3
    · rw [g2 j e]; exact h2 j (by omega)
/-- V of a memory where only what is told, the model's flag and its scratch rows differ -/
def dTl : Nat → Nat → Bool := fun b j => (b == 116 && j == 1) || (b == 142 && (j == 0 || j == 1)) || b == 175 || b == 176 || b == 184
def eTl : Nat → Bool := fun b => b == 117 || b == 143
theorem V_tl {M M' : Mm} (hV : V M) (f : Fr dTl eTl M M') (ht : V_told M') : V M' := by
  have hV' := hV
  obtain ⟨h1, h2, h3, h4, h5, h6, h7, h8, h9, h10, h11, h12, h13, h14, h15, h16, h17, h18, h19⟩ := hV'
  refine V_mk hV (Fr_mono (fun b j hd => ?_) (fun b hd => ?_) f) (V_txt_ag (f.1 1 1 rfl) (f.1 142 4 rfl) (Fr_row f 2 (fun _ => rfl)) (Fr_row f 144 (fun _ => rfl)) h2) ht (V_last_ag (f.1 0 12 rfl) (f.1 142 32 rfl) (Fr_row f 113 (fun _ => rfl)) (f.1 142 28 rfl) (f.1 142 29 rfl) (f.1 142 30 rfl) (f.1 142 31 rfl) h8) (V_now_ag (Fr_row f 153 (fun _ => rfl)) (Fr_row f 154 (fun _ => rfl)) (Fr_row f 155 (fun _ => rfl)) (Fr_row f 156 (fun _ => rfl)) (f.2.1 113 rfl) (f.1 11 10 rfl) (Fr_row f 150 (fun _ => rfl)) h15) (V_walk_ag (f.1 10 10 rfl) (Fr_row f 108 (fun _ => rfl)) (Fr_row f 109 (fun _ => rfl)) (by rw [f.2.2]) h17)
  · unfold DV at hd; unfold dTl
    simp only [Bool.or_eq_false_iff, Bool.and_eq_false_iff, beq_eq_false_iff_ne, decide_eq_false_iff_not] at *; omega
  · unfold EV at hd; unfold eTl
    simp only [Bool.or_eq_false_iff, Bool.and_eq_false_iff, beq_eq_false_iff_ne, decide_eq_false_iff_not] at *; omega
theorem dTd_tl {M M' : Mm} (h : Fr dTd eTd M M') : Fr dTl eTl M M' :=
  Fr_mono (fun b j hd => by unfold dTl at hd; unfold dTd; simp only [Bool.or_eq_false_iff, Bool.and_eq_false_iff, beq_eq_false_iff_ne] at *; omega) (fun b hd => by unfold eTl at hd; unfold eTd; simp only [Bool.or_eq_false_iff, beq_eq_false_iff_ne] at *; omega) h
theorem dWy_tl {M M' : Mm} (h : Fr dWy eWy M M') : Fr dTl eTl M M' :=
  Fr_mono (fun b j hd => by unfold dTl at hd; unfold dWy; simp only [Bool.or_eq_false_iff, Bool.and_eq_false_iff, beq_eq_false_iff_ne] at *; omega) (fun b hd => by unfold eTl at hd; unfold eWy; simp only [Bool.or_eq_false_iff, beq_eq_false_iff_ne] at *; omega) h
theorem dLk_tl {M M' : Mm} (h : Fr dLk eN M M') : Fr dTl eTl M M' :=
  Fr_mono (fun b j hd => by unfold dTl at hd; unfold dLk; simp only [Bool.or_eq_false_iff, Bool.and_eq_false_iff, beq_eq_false_iff_ne] at *; omega) (fun b hd => rfl) h
theorem isN_ar {M : Mm} {a j b : Nat} (hb : b < 2 ^ 31) (h : isN (M.1 a j) b) : M.1 a j = nI (ar M a j) ∧ ar M a j < b := by
  obtain ⟨q, h1, h2⟩ := h
  have e : ar M a j = q := by unfold ar; rw [h2, nI_clamp (by omega)]
  rw [e]; exact ⟨h2, h1⟩
theorem op33 (p1 p2 : Int32) (M : Mm) (K : Mm → Prop) (hV : V M) (hK : ∀ m, V m → K m) : OP33 p1 p2 M K := by
  have hF := hV.1
  have ne1 : ¬ (1 : Int32) = 0 := by decide
  have hV' := hV
  obtain ⟨h1, h2, h3, h4, h5, h6, h7, h8, h9, h10, h11, h12, h13, h14, h15, h16, h17, h18, h19⟩ := hV'
  obtain ⟨nt, nb, on, np, n1, n2, n3, n4, c1, c2, -⟩ := h9
  have h15' : (stI M 142 0 0).1 142 15 = nI nt := c2
  have hend : ∀ r, AN r K r (stI M 142 0 0) := fun r => an_ok rfl (hK _ (V_thr _ hV))
  show f_X10_like S0 0 p1 p2 M (fun r m1 => f_X11_like S0 142 p1 p2 m1 (AN r K))
  have ref : (p1 < 0 ∨ ¬ p1 < nI nt ∨ p2 < 0 ∨ ¬ p2 < nI nt) → f_X11_like S0 142 p1 p2 M (AN (-1) K) := by
    intro hx
    unfold f_X11_like
    simp only [forall_eq]
    refine f_in (nI nt - 1) (by rw [h15']) (fun a b => ⟨fun z => absurd z ne1, fun _ => ?_⟩) (fun _ => ⟨fun _ => hend _, fun z => absurd rfl z⟩)
    refine f_in (nI nt - 1) (by rw [h15']) (fun a2 b2 => ?_) (fun _ => ⟨fun _ => hend _, fun z => absurd rfl z⟩)
    rw [sub1_lt (by omega) a] at b
    rw [sub1_lt (by omega) a2] at b2
    rcases hx with h | h | h | h
    · exact absurd h a
    · exact absurd h b
    · exact absurd h a2
    · exact absurd h b2
  unfold f_X10_like
  simp only [fx_0_2 hF, ex_some, s0_11, true_and, forall_eq, c1]
  refine ⟨fun h => ref (Or.inl h), fun g1 => ⟨fun h => ref (Or.inr (Or.inl (Int32.not_lt.mpr h))), fun g2 => ⟨fun h => ref (Or.inr (Or.inr (Or.inl h))), fun g3 => ⟨fun g4 => ?_, fun h => ref (Or.inr (Or.inr (Or.inr h)))⟩⟩⟩⟩
  obtain ⟨a, ha, rfl⟩ := nI_of g1
  obtain ⟨b, hb, rfl⟩ := nI_of g3
  have ha4 : a < nt := Nat.lt_of_not_le (fun z => g2 (nI_le z ha))
  have hb4 : b < nt := (nI_ltI hb (by omega)).mp g4
  obtain ⟨p, n, z, hp, rp, -, -, hz, -, -, -, tz, mz, tx⟩ := h11 a (by omega) (by rw [c1]; exact nI_lt ha4 (by omega))
  obtain ⟨q, n', z', hq, rq, -, -, hz', -, -, -, tz', mz', tx'⟩ := h11 b (by omega) (by rw [c1]; exact nI_lt hb4 (by omega))
  have hina : vp_in (nI a) 4 := vp_in_nI (by omega) (by omega)
  have hinb : vp_in (nI b) 4 := vp_in_nI (by omega) (by omega)
  have hca : (nI a).toNatClampNeg = a := nI_clamp (by omega)
  have hcb : (nI b).toNatClampNeg = b := nI_clamp (by omega)
  have ta : ∀ j, j < z → M.1 (p + 1) j = nI (ar M (p + 1) j) ∧ ar M (p + 1) j < 256 := fun j hj => isN_ar (by omega) (tx j hj).2
  have tb : ∀ j, j < z' → M.1 (q + 1) j = nI (ar M (q + 1) j) ∧ ar M (q + 1) j < 256 := fun j hj => isN_ar (by omega) (tx' j hj).2
  have model : ∀ (M1 : Mm) (r : Int32), Fr dTd eTd M M1 → ((¬ z = z' ∨ (z = z' ∧ lkr (ar M (p + 1)) (ar M (q + 1)) z 0 0 0 = none)) → r = 0 ∧ V_told M1) → (∀ P, z = z' → lkr (ar M (p + 1)) (ar M (q + 1)) z 0 0 0 = some P → r = 1 ∧ M1.1 116 1 = nI 8 ∧ ∀ j, j < 8 → M1.2.1 117 j = (nI (nb4 P.1 j) - 1).toInt64) → f_X11_like S0 142 (nI a) (nI b) M1 (AN r K) := by
    intro M1 r f1 t0 t1
    have h15'' : (stI M1 142 0 0).1 142 15 = nI nt := (rI_ne (by omega)).trans ((f1.1 142 15 rfl).trans c2)
    have f2 : Fr dTl eTl M (stI M1 142 0 0) := Fr_I rfl (dTd_tl f1)
    have hF2 : FX (stI M1 142 0 0) := FX_fr f2 hF
    unfold f_X11_like
    simp only [forall_eq]
    refine f_in (nI nt - 1) (by rw [h15'']) (fun _ _ => ⟨fun z => absurd z ne1, fun _ => ?_⟩) (fun h => (h.elim g1 (fun h => ((sub1_lt (by omega) g1).mp h) (nI_lt ha4 (by omega)))).elim)
    refine f_in (nI nt - 1) (by rw [h15'']) (fun _ _ => ⟨fun z => absurd z ne1, fun _ => ?_⟩) (fun h => (h.elim g3 (fun h => ((sub1_lt (by omega) g3).mp h) (nI_lt hb4 (by omega)))).elim)
    have ma : (stI M1 142 0 0).1 152 a = nI z := (f2.1 152 a rfl).trans mz
    have mb : (stI M1 142 0 0).1 152 b = nI z' := (f2.1 152 b rfl).trans mz'
    simp only [fx_142_18 hF2, ex_some, shp_ne (show (152 : Nat) ≠ 100000 by decide), s0_152, ex_sh, hina, hinb, hca, hcb, true_and, ma, mb]
    rw [nI_eq (by omega) (by omega)]
    have told0 : V_told M1 → ∀ M', Fr dLk eN (stI M1 142 0 0) M' → V M' := fun td M' f' => V_tl hV (Fr_tr f2 (dLk_tl f')) (told_fr f' rfl rfl rfl rfl (V_told_ag (M := M1) rfl rfl rfl rfl td))
    refine ⟨fun ez => ?_, fun ez => ?_⟩
    · subst ez
      refine ⟨8 + 1, likI hF2 (fun M3 f3 P3 => ⟨z + 1, ?_⟩) 8 0 _ (by omega) (Fr_refl _ _ _) (fun j hj => absurd hj (by omega))⟩
      have hF3 : FX M3 := FX_fr f3 hF2
      have f23 : Fr dTl eTl M M3 := Fr_tr f2 (dLk_tl f3)
      refine likM (z := z) (ta := ar M (p + 1)) (tb := ar M (q + 1)) (by omega) (by omega) hF3 ((f3.1 152 a rfl).trans ma) hz (fun j hj => ?_) (fun j hj => ?_) z 0 0 0 M3 (by omega) (by omega) (by omega) (Fr_refl _ _ _) P3 (fun hn M4 f4 => ?_) (fun P hs M4 f4 P4 => ?_)
      · rw [f23.1 151 _ rfl, ← (tx j hj).1]; exact ta j hj
      · rw [f23.1 151 _ rfl, ← (tx' j hj).1]; exact tb j hj
      · obtain ⟨e0, td⟩ := t0 (Or.inr ⟨rfl, hn⟩)
        exact an_ok e0 (hK _ (told0 td M4 (Fr_tr f3 f4)))
      · obtain ⟨e0, td1, td2⟩ := t1 P rfl hs
        have f5 : Fr dTl eTl M (stI M4 142 1 0) := Fr_I rfl (Fr_tr f23 (dLk_tl f4))
        have P5 : PT (stI M4 142 1 0) P.1 P.2 := fun k hk => P4 k hk
        refine ⟨8 + 1, likTM (FX_fr f5 hF) P5 (fun M6 f6 g1 g2 => an_ok e0 (hK _ (V_tl hV (Fr_tr f5 (dWy_tl f6)) ⟨8, by omega, ?_, g1, fun j hj => ?_⟩))) 8 0 _ (by omega) (Fr_refl _ _ _) rI_eq (fun j hj => absurd hj (by omega))⟩
        · rw [f6.1 116 1 rfl, rI_ne (by omega), f4.1 116 1 rfl, f3.1 116 1 rfl, rI_ne (by omega)]; exact td1
        · rw [g2 j hj, f6.2.1 117 rfl]
          show M4.2.1 117 j = _
          rw [f4.2.1 117 rfl, f3.2.1 117 rfl]
          exact td2 j hj
    · obtain ⟨e0, td⟩ := t0 (Or.inl ez)
      exact an_ok e0 (hK _ (told0 td _ (Fr_refl _ _ _)))
  simp only [fx_11_0 hF, s0_12, ex_sh, hina, hinb, hca, hcb, rp, rq, ex_some, (pr_sh p hp).1, (pr_sh q hq).1, true_and]
  unfold f_X10_tellShape
  rw [tz, tz', nI_eq (by omega) (by omega)]
  refine ⟨fun ez => ?_, fun ez => ⟨fun _ => model M 0 (Fr_refl _ _ _) (fun _ => ⟨rfl, h7⟩) (fun P e => absurd e ez), fun w => absurd rfl w⟩⟩
  subst ez
  refine ⟨z + 1, likC (ta := ar M (p + 1)) (tb := ar M (q + 1)) hp hq hF tz hz ta tb z 0 0 0 (by omega) (by omega) (by omega) (fun hn => ⟨fun _ => model M 0 (Fr_refl _ _ _) (fun _ => ⟨rfl, h7⟩) (fun P _ e => by rw [hn] at e; exact absurd e (by simp)), fun w => absurd rfl w⟩) (fun P hs hP => ?_)⟩
  unfold f_X7_clear
  simp only [fx_0_6 hF, ex_some, s0_116, true_and, forall_eq]
  have f1 : Fr dTd eTd M (stI M 116 1 0) := Fr_I rfl (Fr_refl _ _ _)
  refine ⟨8 + 1, likTC hP (FX_fr f1 hF) (fun M2 f2 g1 g2 => ⟨fun w => absurd w (by decide), fun _ => model M2 1 (Fr_tr f1 f2) (fun h => ?_) (fun P' _ e => ?_)⟩) 8 0 _ (by omega) (Fr_refl _ _ _) rI_eq (fun j hj => absurd hj (by omega))⟩
  · rcases h with h | h
    · exact absurd rfl h
    · rw [hs] at h; exact absurd h.2 (by simp)
  · rw [hs] at e
    simp only [Option.some.injEq] at e
    subst e
    exact ⟨rfl, g1, g2⟩
