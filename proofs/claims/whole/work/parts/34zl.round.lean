/-! round -/
theorem wS_fld (A n : Nat) : ∀ k, fld (wS A (n + k + 1)) (8 * k) 8 = qS A n
  | 0 => by
    unfold fld
    have h := qS_lt A n
    show wS A (n + 1) / 2 ^ 0 % 2 ^ 8 = qS A n
    unfold wS
    omega
  | k + 1 => by
    have ih := wS_fld A n k
    have h := qS_lt A (n + k + 1)
    unfold fld at ih ⊢
    have e : wS A (n + (k + 1) + 1) / 2 ^ (8 * (k + 1)) = wS A (n + k + 1) / 2 ^ (8 * k) := by
      rw [show 8 * (k + 1) = 8 + 8 * k by omega, Nat.pow_add, ← Nat.div_div_eq_div_mul]
      congr 1
      show (2 ^ 8 * wS A (n + k + 1) + qS A (n + k + 1)) / 2 ^ 8 = _
      omega
    rw [e]; exact ih
theorem qS_PA (A : Nat) {k : Nat} (hk : k < 8) : qS (PA A) k = qS A (7 - k) := by
  rw [← wS_8]
  have h := wS_fld A (7 - k) k
  rw [show 7 - k + k + 1 = 8 by omega] at h
  exact h
theorem PA_put {A s v : Nat} (hs : s < 8) (hv : v < 256) : PA (put A (8 * s) 8 v) = put (PA A) (8 * (7 - s)) 8 v := by
  refine eq_S (PA_lt _) (put_lt (PA_lt _) (by omega) (by omega)) (fun k hk => ?_)
  rw [qS_PA _ hk, qS_put hv, qS_put hv, qS_PA _ hk]
  by_cases e : k = 7 - s
  · rw [if_pos (by omega), if_pos e]
  · rw [if_neg (by omega), if_neg e]
/-- how many of the first v have it -/
def cnt (b : Nat → Bool) : Nat → Nat
  | 0 => 0
  | v + 1 => cnt b v + if b v = true then 1 else 0
theorem cnt_le (b : Nat → Bool) : ∀ v, cnt b v ≤ v
  | 0 => Nat.le_refl _
  | v + 1 => by
    have := cnt_le b v
    unfold cnt
    split <;> omega
theorem cnt_hit {b : Nat → Bool} {j : Nat} : ∀ v, j < cnt b v → ∃ u, u < v ∧ b u = true ∧ cnt b u = j
  | 0, h => absurd h (by unfold cnt; omega)
  | v + 1, h => by
    unfold cnt at h
    rcases Nat.lt_or_ge j (cnt b v) with z | z
    · obtain ⟨u, h1, h2, h3⟩ := cnt_hit v z
      exact ⟨u, by omega, h2, h3⟩
    · by_cases e : b v = true
      · rw [if_pos e] at h; exact ⟨v, by omega, e, by omega⟩
      · rw [if_neg e] at h; omega
theorem cnt_t {b : Nat → Bool} {v : Nat} (h : b v = true) : cnt b (v + 1) = cnt b v + 1 := by
  show cnt b v + (if b v = true then 1 else 0) = _
  rw [if_pos h]
theorem cnt_f {b : Nat → Bool} {v : Nat} (h : ¬ b v = true) : cnt b (v + 1) = cnt b v := by
  show cnt b v + (if b v = true then 1 else 0) = _
  rw [if_neg h, Nat.add_zero]
theorem cnt_mono {b : Nat → Bool} {u v : Nat} (h : u ≤ v) : cnt b u ≤ cnt b v := by
  induction h with
  | refl => exact Nat.le_refl _
  | step _ ih => exact Nat.le_trans ih (Nat.le_add_right _ _)
/-- the class tells them -/
theorem tbL {b : Nat → Bool} {M0 : Mm} {EK K : Int32 → Mm → Prop} (hF0 : FX M0) (hb : ∀ u, u < 256 → (M0.1 115 u = 0 ↔ ¬ b u = true)) (hK : ∀ M', Fr dTd eTd M0 M' → M'.1 116 1 = nI (min (cnt b 256) 20) → (∀ u, u < 256 → b u = true → cnt b u < 20 → M'.2.1 117 (cnt b u) = lN u) → EK (nI (cnt b 256)) M') :
    ∀ (r v : Nat) (M : Mm), v + r = 256 → Fr dTd eTd M0 M → M.1 116 1 = nI (min (cnt b v) 20) → (∀ u, u < v → b u = true → cnt b u < 20 → M.2.1 117 (cnt b u) = lN u) → f_X10_tellBreakingNumbers_L11 S0 0 EK K (r + 1) (nI (cnt b v)) (nI v) M
  | 0, v, M, hv, hf, h1, h2 => by
    unfold f_X10_tellBreakingNumbers_L11 f_X10_tellBreakingNumbers_B11
    have e : v = 256 := by omega
    subst e
    exact ⟨fun _ => hK M hf h1 h2, fun z => absurd (show nI 256 ≤ nI 256 from nI_le (Nat.le_refl _) (by omega)) z⟩
  | r + 1, v, M, hv, hf, h1, h2 => by
    unfold f_X10_tellBreakingNumbers_L11 f_X10_tellBreakingNumbers_B11
    have hF := FX_fr hf hF0
    have hin : vp_in (nI v) 256 := vp_in_nI (by omega) (by omega)
    have hcl : (nI v).toNatClampNeg = v := nI_clamp (by omega)
    have hc := cnt_le b v
    refine ⟨fun z => absurd (show nI 256 ≤ nI v from z) (nI_ge (by omega) (by omega)), fun _ => ?_⟩
    have e5 : M.1 115 v = M0.1 115 v := hf.1 115 v rfl
    simp only [fx_0_5 hF, fx_0_6 hF, ex_some, s0_115, s0_116, ex_sh, hin, hcl, true_and, forall_eq, nI_1]
    rw [e5, hb v (by omega)]
    refine ⟨fun e => ?_, fun e => ?_⟩
    · have ih := tbL (K := K) hF0 hb hK r (v + 1) M (by omega) hf (by rw [cnt_f e]; exact h1) (fun u hu hbu => by
        rcases Nat.lt_or_ge u v with z | z
        · exact h2 u z hbu
        · rw [show u = v by omega] at hbu; exact absurd hbu e)
      rw [cnt_f e] at ih
      exact ih
    · have e' : b v = true := Classical.not_not.mp e
      have go : ∀ M', Fr dTd eTd M0 M' → M'.1 116 1 = nI (min (cnt b (v + 1)) 20) → (∀ u, u < v + 1 → b u = true → cnt b u < 20 → M'.2.1 117 (cnt b u) = lN u) → f_X10_tellBreakingNumbers_L11 S0 0 EK K (r + 1) (nI (cnt b v + 1)) (nI (v + 1)) M' := by
        intro M' f' g1 g2
        have ih := tbL (K := K) hF0 hb hK r (v + 1) M' (by omega) f' g1 g2
        rw [cnt_t e'] at ih
        exact ih
      rcases Nat.lt_or_ge (cnt b v) 20 with z | z
      · rw [Nat.min_eq_left (by omega)] at h1
        refine tlN hF h1 z (fun M' f' g1 g2 g3 => go M' (Fr_tr hf f') (by rw [cnt_t e', Nat.min_eq_left (by omega)]; exact g1) (fun u hu hbu hc' => ?_))
        rcases Nat.lt_or_ge u v with y | y
        · have : cnt b u ≠ cnt b v := by
            have := cnt_mono (b := b) (show u + 1 ≤ v by omega)
            rw [cnt_t hbu] at this; omega
          rw [g2 _ this]; exact h2 u y hbu hc'
        · have : u = v := by omega
          subst this
          rw [g3, nI_l (by omega)]
      · rw [Nat.min_eq_right (by omega)] at h1
        unfold f_X7_tellNext
        rw [h1]
        refine ⟨fun _ => go M hf (by rw [cnt_t e', Nat.min_eq_right (by omega)]; exact h1) (fun u hu hbu hc' => ?_), fun y => absurd (show nI 20 ≤ nI 20 from nI_le (Nat.le_refl _) (by omega)) y⟩
        rcases Nat.lt_or_ge u v with y | y
        · exact h2 u y hbu hc'
        · have : u = v := by omega
          subst this; omega
def dRo : Nat → Nat → Bool := fun b j => dE b j || b == 115
def eRo : Nat → Bool := fun b => eG b || b == 114
theorem dE_dRo {M M' : Mm} (h : Fr dE eG M M') : Fr dRo eRo M M' :=
  Fr_mono (fun b j hd => by unfold dRo at hd; simp only [Bool.or_eq_false_iff] at hd; exact hd.1) (fun b hd => by unfold eRo at hd; simp only [Bool.or_eq_false_iff] at hd; exact hd.1) h
theorem dRo_prc {M M' : Mm} (h : Fr dRo eRo M M') : ∀ a, prc a → M'.1 a = M.1 a := fun a ha => Fr_row h a (fun j => by
  unfold prc at ha; unfold dRo dE; simp only [Bool.or_eq_false_iff, Bool.and_eq_false_iff, beq_eq_false_iff_ne, decide_eq_false_iff_not]; omega)
theorem CC_dRo {C : Cf} {M M' : Mm} (h : Fr dRo eRo M M') (hC : CC M C) : CC M' C :=
  CC_ag (dRo_prc h) (h.1 _ _ rfl) (h.1 _ _ rfl) (h.1 _ _ rfl) (Fr_row h _ (fun _ => rfl)) (by rw [h.2.2]) (by rw [h.2.2]) (by rw [h.2.2]) hC
theorem vp_nar_b0 : vp_nar .boolean (0 : Int32) = 0 := by rfl
/-- the class goes through all values of a slot -/
theorem rndC {C : Cf} {ky w A B n s : Nat} {F : F4} {mu : Option (List Nat)} {tm bk : Nat → Bool} {M0 : Mm} {EK : Mm → Prop} {K : Int32 → Mm → Prop} (hF0 : FX M0) (hC0 : CC M0 C) (hmu0 : mC M0 mu) (k13 : M0.1 11 13 = nI ky) (hky : ky < 5) (hw : w = cT C * (ky + 1)) (hT : 0 < cT C) (hm : MO M0 113 A B F) (hsi : SI C A B) (hn : n ≤ 20) (hs : s < 8)
    (htm : ∀ v, tm v = true ↔ 300 < (bf C ky w (put A (8 * s) 8 v) B (Ed C ky w (put A (8 * s) 8 v) B n * w)).length) (hbk : ∀ v, bk v = true ↔ (tm v = false ∧ ∃ k, k < Ed C ky w (put A (8 * s) 8 v) B n * w ∧ pB C ky w (put A (8 * s) 8 v) B mu k = true))
    (h3 : ∀ v, v < 256 → tm v = true → ∀ M', Fr dRo eRo M0 M' → V_walk M' → K (-3) M') (h1 : (∀ u, u < 256 → tm u = false) → ∀ M', Fr dRo eRo M0 M' → V_walk M' → (∀ u, u < 256 → (M'.1 115 u = 0 ↔ ¬ bk u = true)) → EK M') :
    ∀ (r v : Nat) (M : Mm), v + r = 256 → Fr dRo eRo M0 M → V_walk M → (∀ u, u < v → tm u = false ∧ (M.1 115 u = 0 ↔ ¬ bk u = true)) → f_X10_round_L28 S0 0 (nI s) (nI n) EK K (r + 1) (nI v) M
  | 0, v, M, hv, hf, hwk, hp => by
    unfold f_X10_round_L28 f_X10_round_B28
    have e : v = 256 := by omega
    subst e
    exact ⟨fun _ => h1 (fun u hu => (hp u hu).1) M hf hwk (fun u hu => (hp u hu).2), fun z => absurd (show nI 256 ≤ nI 256 from nI_le (Nat.le_refl _) (by omega)) z⟩
  | r + 1, v, M, hv, hf, hwk, hp => by
    unfold f_X10_round_L28 f_X10_round_B28 f_X4_copy
    have hF := FX_fr hf hF0
    have c1 := hC0.1.1
    have hwp : 0 < w := by rw [hw]; exact Nat.mul_pos hT (by omega)
    have hw20 : w ≤ 20 := by
      rw [hw]
      have : cT C * (ky + 1) ≤ 4 * 5 := Nat.mul_le_mul c1 (by omega)
      omega
    refine ⟨fun z => absurd (show nI 256 ≤ nI v from z) (nI_ge (by omega) (by omega)), fun _ => ?_⟩
    have e0 : M.2.1 113 0 = lN A := by rw [hf.2.1 113 rfl]; exact hm.2.2.1
    have e1 : M.2.1 113 1 = lN B := by rw [hf.2.1 113 rfl]; exact hm.2.2.2.1
    have e1' : (stJ M 114 0 (lN A)).2.1 113 1 = lN B := e1
    simp only [fx_0_4 hF, fx_0_3 hF, ex_some, s0_114, s0_113, true_and, forall_eq, e0, e1', rJr]
    refine putSlot_ok (A := A) hs (by rw [rJ, if_neg (by omega), stJ_get]) ?_
    have ek : (nI v).toBitVec.toNat % 256 = v := by rw [pk_tn (by omega)]; omega
    rw [ek]
    generalize hM3 : stJ (stJ (stJ M 114 0 (lN A)) 114 1 (lN B)) 114 0 (lN (put A (8 * s) 8 v)) = M3
    have f3 : Fr dRo eRo M0 M3 := by rw [← hM3]; exact Fr_J rfl (Fr_J rfl (Fr_J rfl hf))
    have hF3 := FX_fr f3 hF0
    have w3 : V_walk M3 := by rw [← hM3]; exact V_walk_ag (M := M) rfl rfl rfl rfl hwk
    have i3 : ∀ j, M3.1 115 j = M.1 115 j := fun j => by rw [← hM3]; rfl
    simp only [fx_0_1 hF3, fx_0_4 hF3, ex_some, s0_10, s0_114, true_and]
    have hsi' : SI C (put A (8 * s) 8 v) B := ⟨put_ltn hsi.1 (by omega) (by omega), hsi.2.1, hsi.2.2⟩
    refine seekG (C := C) (w := w) (mo := 300) (so := fun _ _ _ _ => false) (A := put A (8 * s) 8 v) (B := B) hF3 w3 (CC_dRo f3 hC0) (mC_ag (dRo_prc f3) (by rw [f3.2.2]) hmu0) ((f3.1 _ _ rfl).trans k13) hky hw (Or.inr rfl) (by rw [← hM3, stJ_get]) (by rw [← hM3, rJ, if_neg (by omega), stJ_get]) hsi' (by omega) (by omega) hn (fun M' _ h12 _ => SO_0 h12) (fun hgt M4 f4 w4 => ⟨fun _ => h3 v (by omega) ((htm v).mpr hgt) M4 (Fr_tr f3 (dE_dRo f4)) w4, fun z => absurd rfl z⟩) (fun M4 f4 w4 X4 T4 => ⟨fun z => absurd z (by decide), fun _ => ?_⟩)
    have f04 := Fr_tr f3 (dE_dRo f4)
    have hF4 := FX_fr f04 hF0
    have htv : tm v = false := by
      rcases hq : tm v with _ | _
      · rfl
      · have := (htm v).mp hq
        have := X4.2.2.2.2
        omega
    have hbv : 0 ≤ M4.1 10 14 ↔ bk v = true := by
      rw [hbk v, FB_ge hwp hw20 ?_ X4.2.2.1]
      · exact ⟨fun h => ⟨htv, h⟩, fun h => h.2⟩
      · rw [Nat.mul_div_cancel _ hwp]
        have h1 := Ed_mono (C := C) (ky := ky) (w := w) (A0 := put A (8 * s) 8 v) (B0 := B) n
        rw [Ed_succ] at h1
        have := X4.1.2.1
        omega
    have hin : vp_in (nI v) 256 := vp_in_nI (by omega) (by omega)
    have hcl : (nI v).toNatClampNeg = v := nI_clamp (by omega)
    simp only [fx_0_5 hF4, fx_0_1 hF4, ex_some, s0_10, s0_115, ex_sh, hin, hcl, true_and, forall_eq, nI_1, vp_nar_b0, vp_nar_b1]
    have go : ∀ x : Int32, (x = 0 ↔ ¬ bk v = true) → f_X10_round_L28 S0 0 (nI s) (nI n) EK K (r + 1) (nI (v + 1)) (stI M4 115 v x) := by
      intro x hx
      refine rndC hF0 hC0 hmu0 k13 hky hw hT hm hsi hn hs htm hbk h3 h1 r (v + 1) _ (by omega) (Fr_I rfl f04) (V_walk_ag (M := M4) rfl rfl rfl rfl w4) (fun u hu => ?_)
      rw [rI]
      rcases Nat.lt_or_ge u v with z | z
      · rw [if_neg (by omega), f4.1 115 u rfl, i3]; exact hp u z
      · have : u = v := by omega
        subst this
        rw [if_pos ⟨rfl, rfl⟩]; exact ⟨htv, hx⟩
    refine ⟨fun z => go 0 ?_, fun z => go 1 ?_⟩
    · refine ⟨fun _ h => absurd (hbv.mpr h) (Int32.not_le.mpr z), fun _ => rfl⟩
    · refine ⟨fun h => absurd h (by decide), fun h => absurd (hbv.mp (Int32.not_lt.mp z)) h⟩
def dRq : Nat → Nat → Bool := fun b j => dQ b j || b == 172
def eRq : Nat → Bool := fun b => eP b || b == 142
theorem dQ_dRq {M M' : Mm} (h : Fr dQ eP M M') : Fr dRq eRq M M' :=
  Fr_mono (fun b j hd => by unfold dRq at hd; simp only [Bool.or_eq_false_iff] at hd; exact hd.1) (fun b hd => by unfold eRq at hd; simp only [Bool.or_eq_false_iff] at hd; exact hd.1) h
theorem CM_dRq {C : Cf} {M M' : Mm} (h : Fr dRq eRq M M') (hC : CM M C) : CM M' C :=
  CM_ag (h.1 _ _ rfl) (h.1 _ _ rfl) (h.1 _ _ rfl) (h.1 _ _ rfl) (h.1 _ _ rfl) (Fr_row h _ (fun _ => rfl)) (Fr_row h _ (fun _ => rfl)) (Fr_row h _ (fun _ => rfl)) (Fr_row h _ (fun _ => rfl)) (Fr_row h _ (fun _ => rfl)) (Fr_row h _ (fun _ => rfl)) (Fr_row h _ (fun _ => rfl)) (Fr_row h _ (fun _ => rfl)) hC
theorem wr8 {N s v : Nat} (hs : s < 8) (hv : v < 256) : ((lN N &&& (((255 : Int64) <<< ((nI (8 * (7 - s))).toInt64 &&& 63)) ^^^ (-1 : Int64))) ||| (lN v <<< ((nI (8 * (7 - s))).toInt64 &&& 63))) = lN (put N (8 * (7 - s)) 8 v) := by
  have h := bt_wr (N := N) (8 * (7 - s)) 8 v (by omega) (by omega) (by omega)
  rw [show lN (2 ^ 8 - 1) = (255 : Int64) from rfl] at h
  exact h
/-- the model goes through all values -/
theorem rndM {C : Cf} {ky w A B n s : Nat} {mu : Option (List Nat)} {tm bk : Nat → Bool} {M0 : Mm} {EK : Int32 → Int32 → Mm → Prop} {K : Int32 → Mm → Prop} (hB0 : BM C ky M0) (hmu0 : mM M0 mu) (hky : ky < 5) (hw : w = cT C * (ky + 1)) (hT : 0 < cT C) (hsi : SI C A B) (e46 : M0.2.1 142 46 = lN (PB B)) (hn : n ≤ 20) (hs : s < 8)
    (htm : ∀ v, tm v = true ↔ 300 < (bf C ky w (put A (8 * s) 8 v) B (Ed C ky w (put A (8 * s) 8 v) B n * w)).length) (hbk : ∀ v, bk v = true ↔ (tm v = false ∧ ∃ k, k < Ed C ky w (put A (8 * s) 8 v) B n * w ∧ pB C ky w (put A (8 * s) 8 v) B mu k = true))
    (hK : ∀ x M', Fr dRq eRq M0 M' → M'.2.1 142 46 = lN (PB B) → (x = 0 ↔ ∀ u, u < 256 → tm u = false) → (∀ u, u < 256 → bk u = true → cnt bk u < 20 → M'.1 172 (cnt bk u) = nI u) → EK x (nI (cnt bk 256)) M') :
    ∀ (r v : Nat) (x : Int32) (M : Mm), v + r = 256 → Fr dRq eRq M0 M → M.2.1 142 46 = lN (PB B) → (x = 0 ↔ ∀ u, u < v → tm u = false) → (∀ u, u < v → bk u = true → cnt bk u < 20 → M.1 172 (cnt bk u) = nI u) → f_X11_round_L56 S0 142 (nI s) (nI n) (lN (PA A)) EK K (r + 1) x (nI (cnt bk v)) (nI v) M
  | 0, v, x, M, hv, hf, hR, hx, hp => by
    unfold f_X11_round_L56 f_X11_round_B56
    have e : v = 256 := by omega
    subst e
    exact ⟨fun _ => hK x M hf hR hx hp, fun z => absurd (show nI 256 ≤ nI 256 from nI_le (Nat.le_refl _) (by omega)) z⟩
  | r + 1, v, x, M, hv, hf, hR, hx, hp => by
    unfold f_X11_round_L56 f_X11_round_B56
    have hF := FX_fr hf hB0.1
    refine ⟨fun z => absurd (show nI 256 ≤ nI v from z) (nI_ge (by omega) (by omega)), fun _ => ?_⟩
    have e8 : (8 : Int32) * ((7 : Int32) - nI s) = nI (8 * (7 - s)) := by
      rw [show (7 : Int32) = nI 7 from rfl, pk_sub (by omega), show (8 : Int32) = nI 8 from rfl, pk_mul]
    have ew : ((lN (PA A) &&& (((255 : Int64) <<< ((nI (8 * (7 - s))).toInt64 &&& 63)) ^^^ (-1 : Int64))) ||| ((nI v).toInt64 <<< ((nI (8 * (7 - s))).toInt64 &&& 63))) = lN (PA (put A (8 * s) 8 v)) := by
      rw [PA_put hs (by omega), nI_l (n := v) (by omega)]
      exact wr8 hs (by omega)
    simp only [forall_eq, e8, ew]
    have fx : Fr dRq eRq M0 (stJ M 142 45 (lN (PA (put A (8 * s) 8 v)))) := Fr_J rfl hf
    have hBx : BM C ky (stJ M 142 45 (lN (PA (put A (8 * s) 8 v)))) := ⟨FX_fr fx hB0.1, CM_dRq fx hB0.2.1, (fx.1 _ _ rfl).trans hB0.2.2⟩
    have hsi' : SI C (put A (8 * s) 8 v) B := ⟨put_ltn hsi.1 (by omega) (by omega), hsi.2.1, hsi.2.2⟩
    have hc := cnt_le bk v
    have hin20 : cnt bk v < 20 → vp_in (nI (cnt bk v)) 20 := fun z => vp_in_nI z (by omega)
    have hcl : (nI (cnt bk v)).toNatClampNeg = cnt bk v := nI_clamp (by omega)
    -- behind someBreaks
    have tail : ∀ (r15 : Int32) (M2 : Mm) (x' : Int32), Fr dQ eP (stJ M 142 45 (lN (PA (put A (8 * s) 8 v)))) M2 → (r15 = 1 ↔ bk v = true) → (x' = 0 ↔ ∀ u, u < v + 1 → tm u = false) → f_X11_round_J123 S0 142 (nI s) (nI n) (lN (PA A)) (nI (cnt bk v)) (nI v) r15 x' M2 (fun x5 x6 x7 M => f_X11_round_L56 S0 142 (nI s) (nI n) (lN (PA A)) EK K (r + 1) x5 x6 x7 M) K := by
      intro r15 M2 x' f2 hb hx'
      have f02 : Fr dRq eRq M0 M2 := Fr_tr fx (dQ_dRq f2)
      have hF2 := FX_fr f02 hB0.1
      have r2 : M2.2.1 142 46 = lN (PB B) := by
        rw [f2.2.1 142 rfl, rJ, if_neg (by omega)]; exact hR
      have i2 : ∀ j, M2.1 172 j = M.1 172 j := fun j => f2.1 172 j rfl
      unfold f_X11_round_J123
      refine ⟨fun e => ?_, fun e => ?_⟩
      · have hbv := hb.mp e
        have go : ∀ M3, Fr dRq eRq M0 M3 → M3.2.1 142 46 = lN (PB B) → (∀ u, u < v + 1 → bk u = true → cnt bk u < 20 → M3.1 172 (cnt bk u) = nI u) → f_X11_round_J147 S0 142 (nI s) (nI n) (lN (PA A)) x' (nI (cnt bk v)) (nI v) r15 M3 (fun x5 x6 x7 M => f_X11_round_L56 S0 142 (nI s) (nI n) (lN (PA A)) EK K (r + 1) x5 x6 x7 M) K := by
          intro M3 f3 r3 p3
          unfold f_X11_round_J147 f_X11_round_J160
          refine ⟨fun _ => tr_ok ?_, fun z => absurd e z⟩
          rw [if_neg (by decide)]
          simp only [forall_eq, nI_1]
          rw [← cnt_t hbv]
          exact rndM hB0 hmu0 hky hw hT hsi e46 hn hs htm hbk hK r (v + 1) x' M3 (by omega) f3 r3 hx' p3
        refine ⟨fun z => go M2 f02 r2 (fun u hu hbu hcu => ?_), fun z => ?_⟩
        · rcases Nat.lt_or_ge u v with y | y
          · rw [i2]; exact hp u y hbu hcu
          · have : u = v := by omega
            subst this
            exact absurd (show nI 20 ≤ nI (cnt bk u) from z) (nI_ge hcu (by omega))
        · have z20 : cnt bk v < 20 := Nat.lt_of_not_le (fun y => z (show nI 20 ≤ nI (cnt bk v) from nI_le y (by omega)))
          simp only [fx_142_59 hF2, ex_some, s0_172, ex_sh, hin20 z20, hcl, true_and, forall_eq]
          refine go _ (Fr_I rfl f02) r2 (fun u hu hbu hcu => ?_)
          rw [rI]
          rcases Nat.lt_or_ge u v with y | y
          · have : cnt bk u ≠ cnt bk v := by
              have := cnt_mono (b := bk) (show u + 1 ≤ v by omega)
              rw [cnt_t hbu] at this; omega
            rw [if_neg (by omega), i2]; exact hp u y hbu hcu
          · have : u = v := by omega
            subst this
            rw [if_pos ⟨rfl, rfl⟩]
      · have hbv : ¬ bk v = true := fun z => e (hb.mpr z)
        unfold f_X11_round_J147 f_X11_round_J160
        refine ⟨fun z => absurd z e, fun _ => tr_ok ?_⟩
        simp only [forall_eq, nI_1, if_true]
        rw [show nI (cnt bk v) + (0 : Int32) = nI (cnt bk (v + 1)) by rw [cnt_f hbv, show (0 : Int32) = nI 0 from rfl, nI_add]; rfl]
        refine rndM hB0 hmu0 hky hw hT hsi e46 hn hs htm hbk hK r (v + 1) x' M2 (by omega) f02 r2 hx' (fun u hu hbu hcu => ?_)
        rcases Nat.lt_or_ge u v with y | y
        · rw [i2]; exact hp u y hbu hcu
        · rw [show u = v by omega] at hbu; exact absurd hbu hbv
    have one : ∀ (r15 : Int32) (M2 : Mm), Fr dQ eP (stJ M 142 45 (lN (PA (put A (8 * s) 8 v)))) M2 → (r15 = 1 ↔ bk v = true) → (r15 = -3 ↔ tm v = true) → ((x = 0 → ((r15 = -3 → f_X11_round_J118 S0 142 (nI s) (nI n) (lN (PA A)) (nI (cnt bk v)) (nI v) r15 M2 (fun x5 x6 x7 M => f_X11_round_L56 S0 142 (nI s) (nI n) (lN (PA A)) EK K (r + 1) x5 x6 x7 M) K) ∧ (¬ r15 = -3 → f_X11_round_J123 S0 142 (nI s) (nI n) (lN (PA A)) (nI (cnt bk v)) (nI v) r15 (0 : Int32) M2 (fun x5 x6 x7 M => f_X11_round_L56 S0 142 (nI s) (nI n) (lN (PA A)) EK K (r + 1) x5 x6 x7 M) K))) ∧ (¬ x = 0 → f_X11_round_J118 S0 142 (nI s) (nI n) (lN (PA A)) (nI (cnt bk v)) (nI v) r15 M2 (fun x5 x6 x7 M => f_X11_round_L56 S0 142 (nI s) (nI n) (lN (PA A)) EK K (r + 1) x5 x6 x7 M) K)) := by
      intro r15 M2 f2 hb ht
      unfold f_X11_round_J118
      refine ⟨fun ex => ⟨fun e3 => tail r15 M2 1 f2 hb ⟨fun z => absurd z (by decide), fun z => ?_⟩, fun e3 => tail r15 M2 0 f2 hb ⟨fun _ u hu => ?_, fun _ => rfl⟩⟩, fun ex => tail r15 M2 1 f2 hb ⟨fun z => absurd z (by decide), fun z => ?_⟩⟩
      · have := z v (by omega)
        rw [ht.mp e3] at this; exact absurd this (by decide)
      · rcases Nat.lt_or_ge u v with y | y
        · exact hx.mp ex u y
        · have : u = v := by omega
          subst this
          rcases hq : tm u with _ | _
          · rfl
          · exact absurd (ht.mpr hq) e3
      · exact absurd (hx.mpr (fun u hu => z u (by omega))) ex
    refine someB_ok (C := C) (mo := 300) (A0 := put A (8 * s) 8 v) (B0 := B) hBx (mM_ag (Fr_row fx _ fun _ => rfl) (Fr_row fx _ fun _ => rfl) (fx.1 _ _ rfl) hmu0) hky hw hT hsi' stJ_get (by rw [rJ, if_neg (by omega)]; exact hR) hn (by omega) (by omega) (fun hgt M2 f2 => ?_) (fun hle hno M2 f2 => ?_) (fun hle k hk hpk M2 f2 => ?_)
    · have t := (htm v).mpr hgt
      refine one (-3) M2 f2 ⟨fun z => absurd z (by decide), fun z => ?_⟩ ⟨fun _ => t, fun _ => rfl⟩
      have := ((hbk v).mp z).1
      rw [t] at this; exact absurd this (by decide)
    · have t : tm v = false := by
        rcases hq : tm v with _ | _
        · rfl
        · exact absurd ((htm v).mp hq) (by omega)
      refine one 0 M2 f2 ⟨fun z => absurd z (by decide), fun z => ?_⟩ ⟨fun z => absurd z (by decide), fun z => by rw [t] at z; exact absurd z (by decide)⟩
      obtain ⟨-, k, u1, u2⟩ := (hbk v).mp z
      rw [hno k u1] at u2; exact absurd u2 (by decide)
    · have t : tm v = false := by
        rcases hq : tm v with _ | _
        · rfl
        · exact absurd ((htm v).mp hq) (by omega)
      exact one 1 M2 f2 ⟨fun _ => (hbk v).mpr ⟨t, k, hk, hpk⟩, fun _ => rfl⟩ ⟨fun z => absurd z (by decide), fun z => by rw [t] at z; exact absurd z (by decide)⟩
/-- the model tells them -/
theorem rtL {b : Nat → Bool} {N : Nat} {M0 : Mm} {EK : Mm → Prop} {K : Int32 → Mm → Prop} (hN : N = cnt b 256) (hF0 : FX M0) (hb : ∀ u, u < 256 → b u = true → cnt b u < 20 → M0.1 172 (cnt b u) = nI u) (hK : ∀ M', Fr dWy eWy M0 M' → M'.1 142 1 = nI (min N 20) → (∀ u, u < 256 → b u = true → cnt b u < 20 → M'.2.1 143 (cnt b u) = lN u) → EK M') :
    ∀ (r k : Nat) (M : Mm), k + r = min N 20 → Fr dWy eWy M0 M → M.1 142 1 = nI k → (∀ u, u < 256 → b u = true → cnt b u < k → M.2.1 143 (cnt b u) = lN u) → f_X11_round_L197 S0 142 (nI N) EK K (r + 1) (nI k) M
  | 0, k, M, hk, hf, h1, h2 => by
    unfold f_X11_round_L197 f_X11_round_B197
    have hc := cnt_le b 256
    have hK' : EK M := hK M hf (by rw [← hk]; exact h1) (fun u hu hbu hcu => h2 u hu hbu (by
      have := cnt_mono (b := b) (show u + 1 ≤ 256 by omega)
      rw [cnt_t hbu] at this
      omega))
    refine ⟨fun _ => hK', fun z => ⟨fun _ => hK', fun y => ?_⟩⟩
    exfalso
    have z' : k < N := Nat.lt_of_not_le (fun q => z (nI_le q (by omega)))
    have y' : k < 20 := Nat.lt_of_not_le (fun q => y (show nI 20 ≤ nI k from nI_le q (by omega)))
    omega
  | r + 1, k, M, hk, hf, h1, h2 => by
    unfold f_X11_round_L197 f_X11_round_B197
    have hF := FX_fr hf hF0
    have hc := cnt_le b 256
    have hkN : k < N ∧ k < 20 := by omega
    have hin : vp_in (nI k) 20 := vp_in_nI (by omega) (by omega)
    have hcl : (nI k).toNatClampNeg = k := nI_clamp (by omega)
    refine ⟨fun z => absurd z (nI_ge (by omega) (by omega)), fun _ => ⟨fun z => absurd (show nI 20 ≤ nI k from z) (nI_ge (by omega) (by omega)), fun _ => ?_⟩⟩
    obtain ⟨u, u1, u2, u3⟩ := cnt_hit (b := b) 256 (show k < cnt b 256 by omega)
    have e : M.1 172 k = nI u := by rw [hf.1 172 k rfl, ← u3]; exact hb u u1 u2 (by omega)
    simp only [fx_142_59 hF, ex_some, shp_ne (show (172 : Nat) ≠ 100000 by decide), s0_172, ex_sh, hin, hcl, true_and, e]
    refine enN hF h1 (by omega) (fun M' f' g1 g2 g3 => ?_)
    simp only [forall_eq, nI_1]
    refine rtL hN hF0 hb hK r (k + 1) M' (by omega) (Fr_tr hf f') g1 (fun v hv hbv hcv => ?_)
    by_cases ev : cnt b v = k
    · have : v = u := by
        rcases Nat.lt_trichotomy v u with z | z | z
        · have := cnt_mono (b := b) (show v + 1 ≤ u by omega)
          rw [cnt_t hbv] at this; omega
        · exact z
        · have := cnt_mono (b := b) (show u + 1 ≤ v by omega)
          rw [cnt_t u2] at this; omega
      rw [ev, g3, nI_l (by omega), this]
    · rw [g2 _ ev]; exact h2 v hv hbv (by omega)
