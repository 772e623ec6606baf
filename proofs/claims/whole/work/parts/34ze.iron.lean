/-! iron -/
/-- the machine with other bolts on -/
def setOn (C : Cf) (x : Nat) : Cf := (C.1, C.2.1, C.2.2.1, C.2.2.2.1, C.2.2.2.2.1, x, C.2.2.2.2.2.2)
theorem CO_on {C : Cf} {x : Nat} (h : CO C) (hx : x < 8) : CO (setOn C x) := ⟨h.1, h.2.1, hx, h.2.2.2⟩
theorem CC_on {C : Cf} {x : Nat} {M M' : Mm} (hx : x < 8) (ep : ∀ a, prc a → M'.1 a = M.1 a) (e0 : M'.1 11 10 = M.1 11 10) (e1 : M'.1 11 11 = M.1 11 11) (e2 : M'.1 11 14 = nI x) (e3 : M'.1 18 = M.1 18) (rr : M'.2.2 = M.2.2) (h : CC M C) : CC M' (setOn C x) := by
  obtain ⟨h0, h1, h2, h3, h4, h5, h6⟩ := h
  refine ⟨CO_on h0 hx, by rw [e0]; exact h1, by rw [e1]; exact h2, e2, by rw [e3]; exact h4, fun b hb => ?_, fun t ht => ?_⟩
  · obtain ⟨p, hp, a1, a2⟩ := h5 b hb
    exact ⟨p, hp, by rw [rr]; exact a1, PE_ag ep hp a2⟩
  · obtain ⟨p, hp, a1, a2, a3⟩ := h6 t ht
    refine ⟨p, hp, by rw [rr]; exact a1, by rw [ep _ (pr_prc0 hp)]; exact a2, fun i hi => ?_⟩
    rw [rr]
    exact (a3 i hi).imp (fun z => ⟨z.1, LC_ag ep hp z.2⟩) (fun ⟨p', z1, z2, z3⟩ => ⟨p', z1, z2, LC_ag ep z1 z3⟩)
theorem CM_on {C : Cf} {x : Nat} {M M' : Mm} (hx : x < 8) (f0 : M'.1 142 15 = M.1 142 15) (f1 : M'.1 142 20 = M.1 142 20) (f2 : M'.1 142 21 = nI x) (f3 : M'.1 142 34 = M.1 142 34) (f4 : M'.1 142 33 = M.1 142 33) (e5 : M'.1 145 = M.1 145) (e6 : M'.1 146 = M.1 146) (e7 : M'.1 147 = M.1 147) (e8 : M'.1 148 = M.1 148) (e0 : M'.1 150 = M.1 150) (e1 : M'.1 157 = M.1 157) (e2 : M'.1 158 = M.1 158) (e3 : M'.1 159 = M.1 159) (h : CM M C) : CM M' (setOn C x) := by
  obtain ⟨h0, h1, h2, h3, h4, h5, np, pd, pt, pl, a1, a2, a3, a4, a5, a6⟩ := h
  refine ⟨CO_on h0 hx, f0.trans h1, f1.trans h2, f2, by rw [e1]; exact h4, fun b hb => RwM_ag e7 e8 (h5 b hb), np, pd, pt, pl, a1, a2, f3.trans a3, f4.trans a4, by rw [e2, e3]; exact a5, fun t ht => ⟨by rw [e0]; exact (a6 t ht).1, fun i hi => LnM_ag e5 e6 e7 e8 ((a6 t ht).2 i hi)⟩⟩
def dI : Nat → Nat → Bool := fun b j => dE b j || (b == 11 && j == 14)
def dJ : Nat → Nat → Bool := fun b j => dQ b j || (b == 142 && j == 21)
theorem dE_dI {M M' : Mm} (h : Fr dE eG M M') : Fr dI eG M M' := Fr_mono (fun b j hd => by unfold dI at hd; simp only [Bool.or_eq_false_iff] at hd; exact hd.1) (fun b h => h) h
theorem dQ_dJ {M M' : Mm} (h : Fr dQ eP M M') : Fr dJ eP M M' := Fr_mono (fun b j hd => by unfold dJ at hd; simp only [Bool.or_eq_false_iff] at hd; exact hd.1) (fun b h => h) h
theorem FB_ge {w idx : Nat} {P : Nat → Bool} {x : Int32} (hw : 0 < w) (hw2 : w ≤ 20) (hi : idx / w ≤ 4000) (h : FB w P idx x) : 0 ≤ x ↔ ∃ k, k < idx ∧ P k = true := by
  rcases h with ⟨a, b⟩ | ⟨k, a, b, c, d⟩
  · refine ⟨fun z => absurd z (by rw [b]; decide), fun ⟨k, h1, h2⟩ => by rw [a k h1] at h2; exact absurd h2 (by decide)⟩
  · refine ⟨fun _ => ⟨k, a, b⟩, fun _ => ?_⟩
    rw [d]
    have h1 : k / w ≤ idx / w := Nat.div_le_div_right (by omega)
    have h2 : k % w < w := Nat.mod_lt _ hw
    exact le0 (by omega)
/-- the model tries sets of bolts -/
theorem irM {C : Cf} {ky w A B n : Nat} {mu : Option (List Nat)} {tm bk : Nat → Bool} {on : Int32} {m5 : Mm} {EK : Int32 → Int32 → Mm → Prop} {K : Int32 → Mm → Prop} (hB5 : BM C ky m5) (hmu5 : mM m5 mu) (hky : ky < 5) (hw : w = cT C * (ky + 1)) (hT : 0 < cT C) (h0 : SI C A B) (e0 : m5.2.1 142 45 = lN (PA A)) (e1 : m5.2.1 142 46 = lN (PB B)) (hn : n ≤ 20)
    (htm : ∀ x, tm x = true ↔ 4000 < (bf (setOn C x) ky w A B (Ed (setOn C x) ky w A B n * w)).length) (hbk : ∀ x, bk x = true ↔ ∃ k, k < Ed (setOn C x) ky w A B n * w ∧ pB (setOn C x) ky w A B mu k = true) :
    ∀ (r : List Nat) (x : Nat) (f : Int32) (M : Mm), chn (cb C) (x :: r) = true → Fr dJ eP m5 M → (∀ y M', (oc tm bk (x :: r)).2 = some y → Fr dJ eP m5 M' → EK 0 (nI y) M') → (∀ f' M', (oc tm bk (x :: r)).2 = none → (oc tm bk (x :: r)).1 = -3 → Fr dJ eP m5 M' → EK (-3) f' M') → (∀ f' M', oc tm bk (x :: r) = (-2, none) → Fr dJ eP m5 M' → EK 1 f' M') → f_X11_iron_L32 S0 142 (nI n) on EK K (r.length + 1 + 1) (nI x) (1 : Int32) f M
  | r, x, f, M, hch, hJ, k1, k2, k3 => by
    have c2 := hB5.2.1.1.2.1
    have hx : x < 2 ^ cb C := by
      match r, hch with
      | [], hch => simp only [chn, Bool.and_eq_true, decide_eq_true_eq] at hch; exact hch.2
      | y :: r, hch => simp only [chn, Bool.and_eq_true, decide_eq_true_eq] at hch; exact hch.1.2
    have h8 : 2 ^ cb C ≤ 2 ^ 3 := Nat.pow_le_pow_right (by omega) c2
    unfold f_X11_iron_L32 f_X11_iron_B32
    refine ⟨fun z => absurd z (nI_pos (by omega)), fun _ => ⟨fun _ => ?_, fun z => absurd rfl z⟩⟩
    simp only [forall_eq]
    have fx : Fr dJ eP m5 (stI M 142 21 (nI x)) := Fr_I rfl hJ
    have hBx : BM (setOn C x) ky (stI M 142 21 (nI x)) := ⟨FX_fr fx hB5.1, CM_on (by omega) (fx.1 _ _ rfl) (fx.1 _ _ rfl) rI_eq (fx.1 _ _ rfl) (fx.1 _ _ rfl) (Fr_row fx _ (fun _ => rfl)) (Fr_row fx _ (fun _ => rfl)) (Fr_row fx _ (fun _ => rfl)) (Fr_row fx _ (fun _ => rfl)) (Fr_row fx _ (fun _ => rfl)) (Fr_row fx _ (fun _ => rfl)) (Fr_row fx _ (fun _ => rfl)) (Fr_row fx _ (fun _ => rfl)) hB5.2.1, (fx.1 _ _ rfl).trans hB5.2.2⟩
    have hmx : mM (stI M 142 21 (nI x)) mu := mM_ag (Fr_row fx _ fun _ => rfl) (Fr_row fx _ fun _ => rfl) (fx.1 _ _ rfl) hmu5
    -- behind someBreaks
    have tail : ∀ (r11 : Int32) (M2 : Mm), Fr dQ eP (stI M 142 21 (nI x)) M2 → (¬ r11 = 1 → EK r11 (nI x) M2) → (r11 = 1 → tm x = false ∧ bk x = true) → f_X11_nextSet S0 (nI x) (M2.1 142 20) M2 (fun (r13 : Int32) (m12 : Mm) => f_X11_iron_L32 S0 142 (nI n) on EK K (r.length + 1) r13 r11 (nI x) m12) := by
      intro r11 M2 f2 h1 h2
      have f2' : Fr dJ eP m5 M2 := Fr_tr fx (dQ_dJ f2)
      rw [f2'.1 142 20 rfl, hB5.2.1.2.2.1]
      refine next_ok (by omega) hx ?_
      by_cases e : r11 = 1
      · obtain ⟨t1, t2⟩ := h2 e
        have eo : oc tm bk (x :: r) = oc tm bk r := by
          conv => lhs; unfold oc
          rw [if_neg (by rw [t1]; decide), if_neg (by rw [t2]; decide)]
        rw [e]
        match r, hch, k1, k2, k3, eo with
        | [], hch, k1, k2, k3, eo =>
          simp only [chn, Bool.and_eq_true, decide_eq_true_eq] at hch
          rw [hch.1]
          unfold f_X11_iron_L32 f_X11_iron_B32
          exact ⟨fun _ => k3 _ M2 eo f2', fun z => absurd (by decide) z⟩
        | y :: r, hch, k1, k2, k3, eo =>
          simp only [chn, Bool.and_eq_true, decide_eq_true_eq] at hch
          rw [hch.1.1]
          rw [eo] at k1 k2 k3
          exact irM hB5 hmu5 hky hw hT h0 e0 e1 hn htm hbk r y (nI x) M2 hch.2 f2' k1 k2 k3
      · unfold f_X11_iron_L32 f_X11_iron_B32
        exact ⟨fun _ => h1 e, fun _ => ⟨fun z => absurd z e, fun _ => h1 e⟩⟩
    refine someB_ok (C := setOn C x) (mo := 4000) hBx hmx hky hw hT h0 (by rw [show (stI M 142 21 (nI x)).2.1 142 45 = m5.2.1 142 45 by rw [fx.2.1 142 rfl]]; exact e0) (by rw [show (stI M 142 21 (nI x)).2.1 142 46 = m5.2.1 142 46 by rw [fx.2.1 142 rfl]]; exact e1) hn (by omega) (by omega) (fun hgt M2 f2 => ?_) (fun hle hno M2 f2 => ?_) (fun hle k hk hp M2 f2 => ?_)
    · have t := (htm x).mpr hgt
      have eo : oc tm bk (x :: r) = (-3, none) := by unfold oc; rw [if_pos t]
      exact tail (-3) M2 f2 (fun _ => k2 _ M2 (by rw [eo]) (by rw [eo]) (Fr_tr fx (dQ_dJ f2))) (fun z => absurd z (by decide))
    · have t : tm x = false := by
        rcases hq : tm x with _ | _
        · rfl
        · exact absurd ((htm x).mp hq) (by omega)
      have b : bk x = false := by
        rcases hq : bk x with _ | _
        · rfl
        · obtain ⟨k, u1, u2⟩ := (hbk x).mp hq
          rw [hno k u1] at u2; exact absurd u2 (by decide)
      have eo : oc tm bk (x :: r) = (nI (pc x), some x) := by unfold oc; rw [if_neg (by rw [t]; decide), if_pos b]
      exact tail 0 M2 f2 (fun _ => k1 x M2 (by rw [eo]) (Fr_tr fx (dQ_dJ f2))) (fun z => absurd z (by decide))
    · have t : tm x = false := by
        rcases hq : tm x with _ | _
        · rfl
        · exact absurd ((htm x).mp hq) (by omega)
      exact tail 1 M2 f2 (fun z => absurd rfl z) (fun _ => ⟨t, (hbk x).mpr ⟨k, hk, hp⟩⟩)
theorem oc_none {tm bk : Nat → Bool} : ∀ l, (oc tm bk l).2 = none → (oc tm bk l).1 = -3 ∨ oc tm bk l = (-2, none)
  | [], _ => Or.inr rfl
  | x :: r, h => by
    unfold oc at h ⊢
    split
    · exact Or.inl rfl
    · rename_i h1
      rw [if_neg h1] at h
      split
      · rename_i h2
        rw [if_pos h2] at h; exact absurd h (by simp)
      · rename_i h2
        rw [if_neg h2] at h
        exact oc_none r h
theorem oc_some {tm bk : Nat → Bool} {y : Nat} : ∀ l, (oc tm bk l).2 = some y → (oc tm bk l).1 = nI (pc y)
  | [], h => by simp [oc] at h
  | x :: r, h => by
    unfold oc at h ⊢
    split
    · rename_i h1
      rw [if_pos h1] at h; exact absurd h (by simp)
    · rename_i h1
      rw [if_neg h1] at h
      split
      · rename_i h2
        rw [if_pos h2] at h
        simp only [Option.some.injEq] at h
        rw [h]
      · rename_i h2
        rw [if_neg h2] at h
        exact oc_some r h
theorem ent_ok {x : Int64} {M : Mm} {K : Mm → Prop} (hF : FX M) (hK : ∀ M', Fr dWy eWy M M' → M'.1 142 1 = 1 → M'.2.1 143 0 = x → K M') : f_X11_enters S0 142 x (stI M 142 1 0) K := by
  unfold f_X11_enters
  have e0 : (stI M 142 1 0).1 142 1 = 0 := rI_eq
  have hin : vp_in (0 : Int32) 64 := by unfold vp_in; decide
  have e1 : ∀ y, (stJ (stI M 142 1 0) 143 (0 : Int32).toNatClampNeg y).1 142 1 = 0 := fun y => e0
  simp only [rIr, fx_142_2 hF, ex_some, s0_143, ex_sh, e0, hin, true_and, forall_eq, e1]
  refine hK _ (Fr_I rfl (Fr_J rfl (Fr_I rfl (Fr_refl _ _ _)))) rI_eq ?_
  show (stJ (stI M 142 1 0) 143 0 x).2.1 143 0 = x
  rw [stJ_get]
theorem op24 (p1 : Int32) (M : Mm) (K : Mm → Prop) (hV : V M) (hK : ∀ m, V m → K m) : OP24 p1 M K := by
  have hF := hV.1
  obtain ⟨C, mu, ky, A, B, F, hC, hCM, hmC, hmM, hky, k13, k27, hm, hs, hf, hsi⟩ := run_of hV
  have c1 := hC.1.1
  have c2 := hC.1.2.1
  have c3 := hC.1.2.2.1
  have htd : V_told M := hV.2.2.2.2.2.2.1
  have hwk : V_walk M := hV.2.2.2.2.2.2.2.2.2.2.2.2.2.2.2.2.1
  obtain ⟨w, hw⟩ : ∃ w, w = cT C * (ky + 1) := ⟨_, rfl⟩
  have hw20 : w ≤ 20 := by
    rw [hw]
    have : cT C * (ky + 1) ≤ 4 * 5 := Nat.mul_le_mul c1 (by omega)
    omega
  show f_X10_iron S0 0 p1 M (fun r m1 => f_X11_iron S0 142 p1 m1 (AN r K))
  unfold f_X10_iron
  refine refuses_ok hF hC.2.1 c1 (fun g1 g2 g3 => ⟨fun _ => ?_, fun z => absurd rfl z⟩) (fun hx => ⟨fun z => absurd z (by decide), fun _ => ?_⟩)
  · obtain ⟨n, hn0, rfl⟩ := nI_of g1
    have hn : n ≤ 20 := by
      rcases Nat.lt_or_ge 20 n with z | z
      · exact absurd (show nI 20 < nI n from nI_lt z hn0) g2
      · exact z
    have hwp : 0 < w := by rw [hw]; exact Nat.mul_pos g3 (by omega)
    obtain ⟨tm, htm⟩ : ∃ tm : Nat → Bool, ∀ x, tm x = true ↔ 4000 < (bf (setOn C x) ky w A B (Ed (setOn C x) ky w A B n * w)).length := ⟨fun x => decide (4000 < (bf (setOn C x) ky w A B (Ed (setOn C x) ky w A B n * w)).length), fun x => by simp⟩
    obtain ⟨bk, hbk⟩ : ∃ bk : Nat → Bool, ∀ x, bk x = true ↔ ∃ k, k < Ed (setOn C x) ky w A B n * w ∧ pB (setOn C x) ky w A B mu k = true := ⟨fun x => @decide (∃ k, k < Ed (setOn C x) ky w A B n * w ∧ pB (setOn C x) ky w A B mu k = true) (Classical.propDecidable _), fun x => by simp⟩
    have h8 : 2 ^ cb C ≤ 2 ^ 3 := Nat.pow_le_pow_right (by omega) c2
    obtain ⟨och, och0⟩ := ord_chn (cb C) (by omega)
    obtain ⟨rl, hrl⟩ : ∃ rl, ord (cb C) = 0 :: rl := by
      match hq : ord (cb C), och0 with
      | y :: rl, h => simp only [List.head?_cons, Option.some.injEq] at h; exact ⟨rl, by rw [h]⟩
    -- the model
    have model : ∀ (M1 : Mm), PM C ky A B F mu M M1 → ((oc tm bk (ord (cb C))).2 = none → V_told M1) → (∀ y, (oc tm bk (ord (cb C))).2 = some y → y < 2 ^ cb C ∧ M1.1 116 1 = 1 ∧ M1.2.1 117 0 = lN y) → f_X11_iron S0 142 (nI n) M1 (AN (oc tm bk (ord (cb C))).1 K) := by
      intro M1 pm tn ts
      obtain ⟨p1', p2, p3, p4, p5, p6, p7, p8⟩ := pm
      unfold f_X11_iron
      simp only [forall_eq]
      refine isRun_ok (nt := cT C) p3.2.1 c1 (fun _ _ _ => ⟨fun z => absurd z (by decide), fun _ => ?_⟩) (fun w => ?_)
      · refine runM2 (ky := ky) (A := A) (B := B) (F := F) p2 p3 p4 p5 p6 (fun M2 f2 b2 r2 => ?_)
        have w2 : V_walk M2 := walk_fr f2 rfl (fun _ => rfl) (fun _ => rfl) p8
        have f3 : Fr dRun eRun M M2 := Fr_tr p1' (dRm0_run f2)
        have m2 : mM M2 mu := mM_ag (Fr_row f2 _ fun _ => rfl) (Fr_row f2 _ fun _ => rfl) (f2.1 _ _ rfl) p7
        have e21 : M2.1 142 21 = nI (con C) := b2.2.1.2.2.2.1
        have k21 : M.1 142 21 = nI (con C) := hCM.2.2.2.1
        have cb' : ∀ (M3 : Mm) (Q : Mm → Prop), Fr dJ eP M2 M3 → (∀ M4, FX M4 → (∀ M5, Fr dWy eWy M4 M5 → V_told M5 → V M5) → V_told M2 ∨ True → M4.1 116 1 = M1.1 116 1 → M4.2.1 117 = M1.2.1 117 → (V_told M1 → V_told M4) → Q M4) → f_X11_comesBack S0 142 (stI M3 142 21 (M2.1 142 21)) Q := by
          intro M3 Q f4 hQ
          have f5 : Fr dQ eP M2 (stI M3 142 21 (M2.1 142 21)) := by
            refine ⟨fun b j hd => ?_, f4.2.1, f4.2.2⟩
            rw [rI]
            split
            · rename_i e; rw [e.1, e.2]
            · rename_i e
              refine f4.1 b j ?_
              unfold dJ
              simp only [Bool.or_eq_false_iff, Bool.and_eq_false_iff, beq_eq_false_iff_ne]
              exact ⟨hd, by omega⟩
          refine comes_ok (FX_fr f5 b2.1) (RM_dQ f5 r2) (fun M4 f6 m4 mf4 z4 => hQ M4 (FX_fr f6 (FX_fr f5 b2.1)) (fun M5 f7 td5 => ?_) (Or.inr trivial) ?_ ?_ (fun td => ?_))
          · refine V_run hV (Fr_tr f3 (Fr_tr (dQ_run f5) (Fr_tr (dCb_run f6) (dWy_run f7)))) ((f7.1 _ _ rfl).trans z4) hm (MS_ag (Fr_row f7 _ fun _ => rfl) (Fr_row f7 _ fun _ => rfl) (Fr_row f7 _ fun _ => rfl) (Fr_row f7 _ fun _ => rfl) m4) ⟨(f7.1 _ _ rfl).trans mf4.1, (f7.1 _ _ rfl).trans mf4.2.1, (f7.1 _ _ rfl).trans mf4.2.2.1, (f7.1 _ _ rfl).trans mf4.2.2.2⟩ ?_ td5
            exact walk_fr f7 rfl (fun _ => rfl) (fun _ => rfl) (walk_fr f6 rfl (fun _ => rfl) (fun _ => rfl) (walk_fr f5 rfl (fun _ => rfl) (fun _ => rfl) w2))
          · rw [f6.1 116 1 rfl, f5.1 116 1 rfl, f2.1 116 1 rfl]
          · rw [f6.2.1 117 rfl, f5.2.1 117 rfl, f2.2.1 117 rfl]
          · exact told_fr f6 rfl rfl rfl rfl (told_fr f5 rfl rfl rfl rfl (told_fr f2 rfl rfl rfl rfl td))
        refine ⟨rl.length + 1 + 1, ?_⟩
        rw [hrl] at och tn ts ⊢
        refine irM (C := C) (on := M2.1 142 21) (tm := tm) (bk := bk) b2 m2 hky hw g3 hsi r2.1 r2.2.1 hn htm hbk rl 0 0 M2 och (Fr_refl _ _ _) (fun y M3 hy f4 => ?_) (fun f' M3 hy hy2 f4 => ?_) (fun f' M3 hy f4 => ?_)
        · refine cb' M3 _ f4 (fun M4 hF4 v4 _ i4 j4 t4 => ⟨fun _ => ?_, fun z => absurd rfl z⟩)
          obtain ⟨y1, y2, y3⟩ := ts y hy
          refine ent_ok hF4 (fun M5 f7 q1 q2 => bc_ok (by omega) (an_ok (oc_some _ hy) (hK _ (v4 M5 f7 ⟨1, by omega, ?_, q1, fun i hi => ?_⟩))))
          · rw [f7.1 116 1 rfl, i4]; exact y2
          · have e : i = 0 := by omega
            rw [e, f7.2.1 117 rfl, j4, q2, y3, nI_l (by omega)]
        · refine cb' M3 _ f4 (fun M4 hF4 v4 _ i4 j4 t4 => ⟨fun z => absurd z (by decide), fun _ => ⟨fun z => absurd z (by decide), fun _ => ?_⟩⟩)
          exact an_ok hy2 (hK _ (v4 M4 (Fr_refl _ _ _) (t4 (tn hy))))
        · refine cb' M3 _ f4 (fun M4 hF4 v4 _ i4 j4 t4 => ⟨fun z => absurd z (by decide), fun _ => ⟨fun _ => ?_, fun z => absurd rfl z⟩⟩)
          exact an_ok (by rw [hy]) (hK _ (v4 M4 (Fr_refl _ _ _) (t4 (tn (by rw [hy])))))
      · exact (w.elim g1 (fun w => w.elim g2 (fun w => by omega))).elim
    simp only [fx_0_2 hF, ex_some, s0_11, true_and, forall_eq]
    rw [hC.2.2.1, hC.2.2.2.1]
    have back : ∀ M1, Fr dI eG M M1 → Fr dE eG M (stI M1 11 14 (nI (con C))) := by
      intro M1 f1
      refine ⟨fun b j hd => ?_, f1.2.1, f1.2.2⟩
      rw [rI]
      split
      · rename_i e; rw [e.1, e.2]; exact hC.2.2.2.1.symm
      · rename_i e
        refine f1.1 b j ?_
        unfold dI
        simp only [Bool.or_eq_false_iff, Bool.and_eq_false_iff, beq_eq_false_iff_ne]
        exact ⟨hd, by omega⟩
    refine fewest_ok (tm := tm) (bk := bk) (I := fun m => Fr dI eG M m ∧ V_walk m) (by omega) (by decide) (fun m h => FX_fr h.1 hF) ⟨Fr_refl _ _ _, hwk⟩ ?_ ⟨fun M1 hI ho => ?_, fun y M0 M1 ho hy hI f1 q1 q2 => ?_⟩
    · intro x M1 Q hx hI hQ
      unfold f_X10_useSet
      have hF1 := FX_fr hI.1 hF
      refine ⟨fun _ => ?_, fun z => absurd rfl z⟩
      simp only [fx_0_2 hF1, ex_some, s0_11, true_and, forall_eq]
      have f2 : Fr dI eG M (stI M1 11 14 (nI x)) := Fr_I rfl hI.1
      have ep : ∀ a, prc a → (stI M1 11 14 (nI x)).1 a = M.1 a := by
        intro a ha
        refine Fr_row f2 a (fun j => ?_)
        unfold dI dE
        unfold prc at ha
        simp only [Bool.or_eq_false_iff, Bool.and_eq_false_iff, beq_eq_false_iff_ne]
        omega
      refine hQ _ (FX_fr f2 hF) (fun KK h0 h1 => ?_)
      refine seekG (C := setOn C x) (w := w) (mo := 4000) (so := fun _ _ _ _ => false) (FX_fr f2 hF) (V_walk_ag (M := M1) rfl rfl rfl rfl hI.2) (CC_on (by omega) ep (f2.1 _ _ rfl) (f2.1 _ _ rfl) rI_eq (Fr_row f2 _ (fun _ => rfl)) f2.2.2 hC) (mC_ag ep (by rw [f2.2.2]) hmC) ((f2.1 _ _ rfl).trans k13) hky hw (Or.inl rfl) (by rw [f2.2.1 113 rfl]; exact hm.2.2.1) (by rw [f2.2.1 113 rfl]; exact hm.2.2.2.1) hsi (by omega) (by omega) hn (fun M' _ h12 _ => SO_0 h12) (fun hgt M2 f3 w3 => h0 ((htm x).mpr hgt) M2 ⟨Fr_tr f2 (dE_dI f3), w3⟩) (fun M2 f3 w3 X3 T3 => h1 ?_ M2 ⟨Fr_tr f2 (dE_dI f3), w3⟩ ?_)
      · rcases hq : tm x with _ | _
        · rfl
        · have := (htm x).mp hq
          have := X3.2.2.2.2
          omega
      · rw [hbk x]
        refine FB_ge hwp hw20 ?_ X3.2.2.1
        rw [Nat.mul_div_cancel _ hwp]
        have h1 := Ed_mono (C := setOn C x) (ky := ky) (w := w) (A0 := A) (B0 := B) n
        rw [Ed_succ] at h1
        have := X3.1.2.1
        omega
    · simp only [fx_0_2 (FX_fr hI.1 hF), ex_some, s0_11, true_and, forall_eq]
      have f2 := back M1 hI.1
      refine model _ (PM_1 hF hCM k27 hs hf hmM f2 (V_walk_ag (M := M1) rfl rfl rfl rfl hI.2)) (fun _ => told_fr f2 rfl rfl rfl rfl htd) (fun y hy => by rw [ho] at hy; exact absurd hy (by simp))
    · simp only [fx_0_2 (FX_fr f1 (FX_fr hI.1 hF)), ex_some, s0_11, true_and, forall_eq]
      have f2 := back M0 hI.1
      have f3 : Fr dTd eTd (stI M0 11 14 (nI (con C))) (stI M1 11 14 (nI (con C))) := by
        refine ⟨fun b j hd => ?_, f1.2.1, f1.2.2⟩
        rw [rI, rI]
        split
        · rfl
        · exact f1.1 b j hd
      refine model _ (PM_2 (PM_1 hF hCM k27 hs hf hmM f2 (V_walk_ag (M := M0) rfl rfl rfl rfl hI.2)) f3) (fun h => by rw [ho] at h; exact absurd h (by simp)) (fun y' hy' => ?_)
      rw [ho] at hy'
      simp only [Option.some.injEq] at hy'
      subst hy'
      exact ⟨hy, (rI_ne (by omega)).trans q1, q2⟩
  · unfold f_X11_iron
    simp only [forall_eq]
    refine isRun_ok (nt := cT C) hCM.2.1 c1 (fun a b c => ?_) (fun _ => ⟨fun _ => an_ok rfl (hK _ (V_thr _ hV)), fun z => absurd rfl z⟩)
    exact (hx.elim a (fun w => w.elim b (fun w => by omega))).elim
