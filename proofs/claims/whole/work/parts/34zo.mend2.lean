/-! mend: the call -/
def dJ3 : Nat → Nat → Bool := fun b j => dQ b j || (b == 142 && j == 33)
theorem dQ_dJ3 {M M' : Mm} (h : Fr dQ eP M M') : Fr dJ3 eP M M' := Fr_mono (fun b j hd => by unfold dJ3 at hd; simp only [Bool.or_eq_false_iff] at hd; exact hd.1) (fun b h => h) h
/-- the model tries sets of patches -/
theorem mdM {C : Cf} {ky w A B n np : Nat} {pt pl pp : Nat → Nat} {PL : Nat → Nat × Nat × List Nat} {mu : Option (List Nat)} {tm bk : Nat → Bool} {m5 : Mm} {EK : Int32 → Int32 → Mm → Prop} {K : Int32 → Mm → Prop} (hB5 : BM C ky m5) (hT5 : PTs m5 np pt pl pp PL) (hmu5 : mM m5 mu) (hky : ky < 5) (hw : w = cT C * (ky + 1)) (hT : 0 < cT C) (h0 : SI C A B) (e0 : m5.2.1 142 45 = lN (PA A)) (e1 : m5.2.1 142 46 = lN (PB B)) (hn : n ≤ 20)
    (htm : ∀ x, tm x = true ↔ 4000 < (bf (ptC C x np pt pl PL) ky w A B (Ed (ptC C x np pt pl PL) ky w A B n * w)).length) (hbk : ∀ x, bk x = true ↔ ∃ k, k < Ed (ptC C x np pt pl PL) ky w A B n * w ∧ pB (ptC C x np pt pl PL) ky w A B mu k = true) :
    ∀ (r : List Nat) (x : Nat) (f : Int32) (M : Mm), chn np (x :: r) = true → Fr dJ3 eP m5 M → (∀ y M', (oc tm bk (x :: r)).2 = some y → Fr dJ3 eP m5 M' → EK 0 (nI y) M') → (∀ f' M', (oc tm bk (x :: r)).2 = none → (oc tm bk (x :: r)).1 = -3 → Fr dJ3 eP m5 M' → EK (-3) f' M') → (∀ f' M', oc tm bk (x :: r) = (-2, none) → Fr dJ3 eP m5 M' → EK 1 f' M') → f_X11_mend_L26 S0 142 (nI n) EK K (r.length + 1 + 1) (nI x) (1 : Int32) f M
  | r, x, f, M, hch, hJ, k1, k2, k3 => by
    have c2 := hT5.1
    have hx : x < 2 ^ np := by
      match r, hch with
      | [], hch => simp only [chn, Bool.and_eq_true, decide_eq_true_eq] at hch; exact hch.2
      | y :: r, hch => simp only [chn, Bool.and_eq_true, decide_eq_true_eq] at hch; exact hch.1.2
    have h8 : 2 ^ np ≤ 2 ^ 5 := Nat.pow_le_pow_right (by omega) c2
    unfold f_X11_mend_L26 f_X11_mend_B26
    refine ⟨fun z => absurd z (nI_pos (by omega)), fun _ => ⟨fun _ => ?_, fun z => absurd rfl z⟩⟩
    simp only [forall_eq]
    have fx : Fr dJ3 eP m5 (stI M 142 33 (nI x)) := Fr_I rfl hJ
    have hBx : BM (ptC C x np pt pl PL) ky (stI M 142 33 (nI x)) := ⟨FX_fr fx hB5.1, CM_pt (by omega) hB5.2.1 hT5 (fx.1 _ _ rfl) (fx.1 _ _ rfl) (fx.1 _ _ rfl) (fx.1 _ _ rfl) rI_eq (Fr_row fx _ (fun _ => rfl)) (Fr_row fx _ (fun _ => rfl)) (Fr_row fx _ (fun _ => rfl)) (Fr_row fx _ (fun _ => rfl)) (Fr_row fx _ (fun _ => rfl)) (Fr_row fx _ (fun _ => rfl)) (Fr_row fx _ (fun _ => rfl)) (Fr_row fx _ (fun _ => rfl)), (fx.1 _ _ rfl).trans hB5.2.2⟩
    have hmx : mM (stI M 142 33 (nI x)) mu := mM_ag (Fr_row fx _ fun _ => rfl) (Fr_row fx _ fun _ => rfl) (fx.1 _ _ rfl) hmu5
    -- behind someBreaks
    have tail : ∀ (r11 : Int32) (M2 : Mm), Fr dQ eP (stI M 142 33 (nI x)) M2 → (¬ r11 = 1 → EK r11 (nI x) M2) → (r11 = 1 → tm x = false ∧ bk x = true) → f_X11_nextSet S0 (nI x) (M2.1 142 34) M2 (fun (r13 : Int32) (m12 : Mm) => f_X11_mend_L26 S0 142 (nI n) EK K (r.length + 1) r13 r11 (nI x) m12) := by
      intro r11 M2 f2 h1 h2
      have f2' : Fr dJ3 eP m5 M2 := Fr_tr fx (dQ_dJ3 f2)
      rw [f2'.1 142 34 rfl, hT5.2.2.1]
      refine next_ok (by omega) hx ?_
      by_cases e : r11 = 1
      · obtain ⟨t1, t2⟩ := h2 e
        have eo : oc tm bk (x :: r) = oc tm bk r := by
          conv => lhs; unfold oc
          rw [if_neg (by rw [t1]; decide), if_neg (by rw [t2]; decide)]
        rw [e]
        match r, hch, k1, k2, k3, eo with
        | [], hch, k1, k2, k3, eo =>
          simp only [chn, Bool.and_eq_true, decide_eq_true_eq] at hch
          rw [hch.1]
          unfold f_X11_mend_L26 f_X11_mend_B26
          exact ⟨fun _ => k3 _ M2 eo f2', fun z => absurd (by decide) z⟩
        | y :: r, hch, k1, k2, k3, eo =>
          simp only [chn, Bool.and_eq_true, decide_eq_true_eq] at hch
          rw [hch.1.1]
          rw [eo] at k1 k2 k3
          exact mdM hB5 hT5 hmu5 hky hw hT h0 e0 e1 hn htm hbk r y (nI x) M2 hch.2 f2' k1 k2 k3
      · unfold f_X11_mend_L26 f_X11_mend_B26
        exact ⟨fun _ => h1 e, fun _ => ⟨fun z => absurd z e, fun _ => h1 e⟩⟩
    refine someB_ok (C := ptC C x np pt pl PL) (mo := 4000) hBx hmx hky hw hT h0 (by rw [show (stI M 142 33 (nI x)).2.1 142 45 = m5.2.1 142 45 by rw [fx.2.1 142 rfl]]; exact e0) (by rw [show (stI M 142 33 (nI x)).2.1 142 46 = m5.2.1 142 46 by rw [fx.2.1 142 rfl]]; exact e1) hn (by omega) (by omega) (fun hgt M2 f2 => ?_) (fun hle hno M2 f2 => ?_) (fun hle k hk hp M2 f2 => ?_)
    · have t := (htm x).mpr hgt
      have eo : oc tm bk (x :: r) = (-3, none) := by unfold oc; rw [if_pos t]
      exact tail (-3) M2 f2 (fun _ => k2 _ M2 (by rw [eo]) (by rw [eo]) (Fr_tr fx (dQ_dJ3 f2))) (fun z => absurd z (by decide))
    · have t : tm x = false := by
        rcases hq : tm x with _ | _
        · rfl
        · exact absurd ((htm x).mp hq) (by omega)
      have b : bk x = false := by
        rcases hq : bk x with _ | _
        · rfl
        · obtain ⟨k, u1, u2⟩ := (hbk x).mp hq
          rw [hno k u1] at u2; exact absurd u2 (by decide)
      have eo : oc tm bk (x :: r) = (nI (pc x), some x) := by unfold oc; rw [if_neg (by rw [t]; decide), if_pos b]
      exact tail 0 M2 f2 (fun _ => k1 x M2 (by rw [eo]) (Fr_tr fx (dQ_dJ3 f2))) (fun z => absurd z (by decide))
    · have t : tm x = false := by
        rcases hq : tm x with _ | _
        · rfl
        · exact absurd ((htm x).mp hq) (by omega)
      exact tail 1 M2 f2 (fun z => absurd rfl z) (fun _ => ⟨t, (hbk x).mpr ⟨k, hk, hp⟩⟩)
theorem PTs_fr {D : Nat → Nat → Bool} {E : Nat → Bool} {M M' : Mm} {np : Nat} {pt pl pp : Nat → Nat} {PL : Nat → Nat × Nat × List Nat} (f : Fr D E M M') (hp : ∀ a, prc a → ∀ j, D a j = false) (d1 : D 11 12 = false) (d2 : D 142 34 = false) (d3 : D 142 33 = false) (d4 : ∀ j, D 15 j = false) (d5 : ∀ j, D 16 j = false) (d6 : ∀ j, D 158 j = false) (d7 : ∀ j, D 159 j = false) (d8 : D 11 10 = false) (d9 : ∀ a j, 145 ≤ a → a ≤ 148 → D a j = false) (h : PTs M np pt pl pp PL) : PTs M' np pt pl pp PL := by
  obtain ⟨t1, t2, t3, t4, t5⟩ := h
  refine ⟨t1, (f.1 _ _ d1).trans t2, (f.1 _ _ d2).trans t3, (f.1 _ _ d3).trans t4, fun j hj => ?_⟩
  obtain ⟨u1, u2, u3, u4, u5, u6, u7, u8, u9, u10, u11, u12⟩ := t5 j hj
  exact ⟨(f.1 _ _ (d4 j)).trans u1, (f.1 _ _ (d6 j)).trans u2, (f.1 _ _ (d5 j)).trans u3, (f.1 _ _ (d7 j)).trans u4, u5, by rw [f.1 _ _ d8]; exact u6, u7, u8, by rw [f.2.2]; exact u9, LC_ag (fun a ha => Fr_row f a (hp a ha)) u8 u10, LnM_ag (Fr_row f _ (fun j => d9 _ j (by omega) (by omega))) (Fr_row f _ (fun j => d9 _ j (by omega) (by omega))) (Fr_row f _ (fun j => d9 _ j (by omega) (by omega))) (Fr_row f _ (fun j => d9 _ j (by omega) (by omega))) u11, u12⟩
theorem op26 (p1 : Int32) (M : Mm) (K : Mm → Prop) (hV : V M) (hK : ∀ m, V m → K m) : OP26 p1 M K := by
  have hF := hV.1
  obtain ⟨C, mu, ky, A, B, F, hC, hCM, hmC, hmM, hky, k13, k27, hm, hs, hf, hsi⟩ := run_of hV
  obtain ⟨np, pt, pl, pp, PL, hP⟩ := pts_of hV
  have c1 := hC.1.1
  have c2 := hP.1
  have htd : V_told M := hV.2.2.2.2.2.2.1
  have hwk : V_walk M := hV.2.2.2.2.2.2.2.2.2.2.2.2.2.2.2.2.1
  have h17 : ∀ j, j < 64 → M.2.2 17 j = none := hV.2.2.2.2.2.2.2.2.2.1.2
  obtain ⟨w, hw⟩ : ∃ w, w = cT C * (ky + 1) := ⟨_, rfl⟩
  have hw20 : w ≤ 20 := by
    rw [hw]
    have : cT C * (ky + 1) ≤ 4 * 5 := Nat.mul_le_mul c1 (by omega)
    omega
  show f_X10_mend S0 0 p1 M (fun r m1 => f_X11_mend S0 142 p1 m1 (AN r K))
  unfold f_X10_mend
  refine refuses_ok hF hC.2.1 c1 (fun g1 g2 g3 => ⟨fun _ => ?_, fun z => absurd rfl z⟩) (fun hx => ⟨fun z => absurd z (by decide), fun _ => ?_⟩)
  · obtain ⟨n, hn0, rfl⟩ := nI_of g1
    have hn : n ≤ 20 := by
      rcases Nat.lt_or_ge 20 n with z | z
      · exact absurd (show nI 20 < nI n from nI_lt z hn0) g2
      · exact z
    have hwp : 0 < w := by rw [hw]; exact Nat.mul_pos g3 (by omega)
    obtain ⟨tm, htm⟩ : ∃ tm : Nat → Bool, ∀ x, tm x = true ↔ 4000 < (bf (ptC C x np pt pl PL) ky w A B (Ed (ptC C x np pt pl PL) ky w A B n * w)).length := ⟨fun x => decide (4000 < (bf (ptC C x np pt pl PL) ky w A B (Ed (ptC C x np pt pl PL) ky w A B n * w)).length), fun x => by simp⟩
    obtain ⟨bk, hbk⟩ : ∃ bk : Nat → Bool, ∀ x, bk x = true ↔ ∃ k, k < Ed (ptC C x np pt pl PL) ky w A B n * w ∧ pB (ptC C x np pt pl PL) ky w A B mu k = true := ⟨fun x => @decide (∃ k, k < Ed (ptC C x np pt pl PL) ky w A B n * w ∧ pB (ptC C x np pt pl PL) ky w A B mu k = true) (Classical.propDecidable _), fun x => by simp⟩
    have h8 : 2 ^ np ≤ 2 ^ 5 := Nat.pow_le_pow_right (by omega) c2
    obtain ⟨och, och0⟩ := ord_chn np (by omega)
    obtain ⟨rl, hrl⟩ : ∃ rl, ord np = 0 :: rl := by
      match hq : ord np, och0 with
      | y :: rl, h => simp only [List.head?_cons, Option.some.injEq] at h; exact ⟨rl, by rw [h]⟩
    -- the model
    have model : ∀ (M1 : Mm), PM C ky A B F mu M M1 → PTs M1 np pt pl pp PL → ((oc tm bk (ord np)).2 = none → V_told M1) → (∀ y, (oc tm bk (ord np)).2 = some y → y < 2 ^ np ∧ M1.1 116 1 = 1 ∧ M1.2.1 117 0 = lN y) → f_X11_mend S0 142 (nI n) M1 (AN (oc tm bk (ord np)).1 K) := by
      intro M1 pm hP1 tn ts
      obtain ⟨p1', p2, p3, p4, p5, p6, p7, p8⟩ := pm
      unfold f_X11_mend
      simp only [forall_eq]
      refine isRun_ok (nt := cT C) p3.2.1 c1 (fun _ _ _ => ⟨fun z => absurd z (by decide), fun _ => ?_⟩) (fun w => ?_)
      · refine runM2 (ky := ky) (A := A) (B := B) (F := F) p2 p3 p4 p5 p6 (fun M2 f2 b2 r2 => ?_)
        have w2 : V_walk M2 := walk_fr f2 rfl (fun _ => rfl) (fun _ => rfl) p8
        have f3 : Fr dRun eRun M M2 := Fr_tr p1' (dRm0_run f2)
        have m2 : mM M2 mu := mM_ag (Fr_row f2 _ fun _ => rfl) (Fr_row f2 _ fun _ => rfl) (f2.1 _ _ rfl) p7
        have hP2 : PTs M2 np pt pl pp PL := PTs_fr f2 (fun a ha j => by unfold prc at ha; unfold dRm0; simp only [Bool.or_eq_false_iff, Bool.and_eq_false_iff, beq_eq_false_iff_ne]; omega) rfl rfl rfl (fun _ => rfl) (fun _ => rfl) (fun _ => rfl) (fun _ => rfl) rfl (fun a j h1 h2 => by unfold dRm0; simp only [Bool.or_eq_false_iff, Bool.and_eq_false_iff, beq_eq_false_iff_ne]; omega) hP1
        have cb' : ∀ (M3 : Mm) (Q : Mm → Prop), Fr dJ3 eP M2 M3 → (∀ M4, FX M4 → (∀ M5, Fr dWy eWy M4 M5 → V_told M5 → V M5) → M4.1 116 1 = M1.1 116 1 → M4.2.1 117 = M1.2.1 117 → (V_told M1 → V_told M4) → Q M4) → f_X11_comesBack S0 142 M3 Q := by
          intro M3 Q f4 hQ
          have f5 : Fr dRun eRun M2 M3 := Fr_mono (fun b j hd => by unfold dRun at hd; unfold dJ3 dQ; simp only [Bool.or_eq_false_iff, Bool.and_eq_false_iff, beq_eq_false_iff_ne, decide_eq_false_iff_not] at *; omega) (fun b hd => by unfold eRun at hd; unfold eP; simp only [Bool.or_eq_false_iff, Bool.and_eq_false_iff, beq_eq_false_iff_ne, decide_eq_false_iff_not] at *; omega) f4
          refine comes_ok (FX_fr f4 b2.1) (RM_fr (fun j h1 h2 => by unfold dJ3 dQ; simp only [Bool.or_eq_false_iff, Bool.and_eq_false_iff, beq_eq_false_iff_ne, decide_eq_false_iff_not]; omega) rfl f4 r2) (fun M4 f6 m4 mf4 z4 => hQ M4 (FX_fr f6 (FX_fr f4 b2.1)) (fun M5 f7 td5 => ?_) ?_ ?_ (fun td => ?_))
          · refine V_run hV (Fr_tr f3 (Fr_tr f5 (Fr_tr (dCb_run f6) (dWy_run f7)))) ((f7.1 _ _ rfl).trans z4) hm (MS_ag (Fr_row f7 _ fun _ => rfl) (Fr_row f7 _ fun _ => rfl) (Fr_row f7 _ fun _ => rfl) (Fr_row f7 _ fun _ => rfl) m4) ⟨(f7.1 _ _ rfl).trans mf4.1, (f7.1 _ _ rfl).trans mf4.2.1, (f7.1 _ _ rfl).trans mf4.2.2.1, (f7.1 _ _ rfl).trans mf4.2.2.2⟩ ?_ td5
            exact walk_fr f7 rfl (fun _ => rfl) (fun _ => rfl) (walk_fr f6 rfl (fun _ => rfl) (fun _ => rfl) (walk_fr f4 rfl (fun _ => rfl) (fun _ => rfl) w2))
          · rw [f6.1 116 1 rfl, f4.1 116 1 rfl, f2.1 116 1 rfl]
          · rw [f6.2.1 117 rfl, f4.2.1 117 rfl, f2.2.1 117 rfl]
          · exact told_fr f6 rfl rfl rfl rfl (told_fr f4 rfl rfl rfl rfl (told_fr f2 rfl rfl rfl rfl td))
        refine ⟨rl.length + 1 + 1, ?_⟩
        rw [hrl] at och tn ts ⊢
        refine mdM (C := C) (tm := tm) (bk := bk) b2 hP2 m2 hky hw g3 hsi r2.1 r2.2.1 hn htm hbk rl 0 0 M2 och (Fr_refl _ _ _) (fun y M3 hy f4 => ?_) (fun f' M3 hy hy2 f4 => ?_) (fun f' M3 hy f4 => ?_)
        · refine cb' M3 _ f4 (fun M4 hF4 v4 i4 j4 t4 => ⟨fun _ => ?_, fun z => absurd rfl z⟩)
          obtain ⟨y1, y2, y3⟩ := ts y hy
          refine ent_ok hF4 (fun M5 f7 q1 q2 => bc_ok (by omega) (an_ok (oc_some _ hy) (hK _ (v4 M5 f7 ⟨1, by omega, ?_, q1, fun i hi => ?_⟩))))
          · rw [f7.1 116 1 rfl, i4]; exact y2
          · have e : i = 0 := by omega
            rw [e, f7.2.1 117 rfl, j4, q2, y3, nI_l (by omega)]
        · refine cb' M3 _ f4 (fun M4 hF4 v4 i4 j4 t4 => ⟨fun z => absurd z (by decide), fun _ => ⟨fun z => absurd z (by decide), fun _ => ?_⟩⟩)
          exact an_ok hy2 (hK _ (v4 M4 (Fr_refl _ _ _) (t4 (tn hy))))
        · refine cb' M3 _ f4 (fun M4 hF4 v4 i4 j4 t4 => ⟨fun z => absurd z (by decide), fun _ => ⟨fun _ => ?_, fun z => absurd rfl z⟩⟩)
          exact an_ok (by rw [hy]) (hK _ (v4 M4 (Fr_refl _ _ _) (t4 (tn (by rw [hy])))))
      · exact (w.elim g1 (fun w => w.elim g2 (fun w => by omega))).elim
    simp only [fx_0_2 hF, ex_some, s0_11, true_and]
    rw [hP.2.1]
    -- what usePatches needs, of every memory on the way
    have pts : ∀ m, Gr M m → ∀ k, k < np → m.1 15 k = nI (pt k) ∧ m.1 16 k = nI (pl k) ∧ pt k < 4 ∧ pl k < 16 ∧ pp k ∈ PR ∧ m.2.2 14 k = some (pp k) ∧ (fun t => cN C t) (pt k) ≤ 16 ∧ ∃ q, q ∈ PR ∧ m.2.2 12 (pt k) = some q ∧ m.1 q 6 = nI ((fun t => cN C t) (pt k)) := by
      intro m hg k hk
      obtain ⟨u1, u2, u3, u4, u5, u6, u7, u8, u9, u10, u11, u12⟩ := hP.2.2.2.2 k hk
      have ht : pt k < cT C := by
        rw [hC.2.1, nI_ltI (by omega) (by omega)] at u6; exact u6
      obtain ⟨q, q1, q2, q3, q4⟩ := hC.2.2.2.2.2.2 (pt k) ht
      have hq6 : dE q 6 = false := by
        have := pr_le q q1
        unfold dE
        simp only [Bool.or_eq_false_iff, Bool.and_eq_false_iff, beq_eq_false_iff_ne, decide_eq_false_iff_not]
        have h19 := pr_n19 q q1 0 (by omega)
        omega
      exact ⟨(hg.1 15 k rfl).trans u1, (hg.1 16 k rfl).trans u3, u5, u7, u8, by rw [hg.2.2 14 k (by omega)]; exact u9, (hC.1.2.2.2.2.2 (pt k) ht).2.1, q, q1, by rw [hg.2.2 12 _ (by omega)]; exact q2, (hg.1 q 6 hq6).trans q3⟩
    have gprc : ∀ m, Gr M m → ∀ a, prc a → m.1 a = M.1 a := by
      intro m hg a ha
      funext j
      refine hg.1 a j ?_
      unfold prc at ha
      unfold dE
      simp only [Bool.or_eq_false_iff, Bool.and_eq_false_iff, beq_eq_false_iff_ne, decide_eq_false_iff_not]
      omega
    have gtr : ∀ m m', Gr M m → Fr dE eG m m' → Gr M m' := fun m m' hg f => ⟨fun b j hd => (f.1 b j hd).trans (hg.1 b j hd), fun b hd => (f.2.1 b hd).trans (hg.2.1 b hd), fun b j hbj => by rw [f.2.2]; exact hg.2.2 b j hbj⟩
    have grow : ∀ m, Gr M m → ∀ a, (∀ j, dE a j = false) → m.1 a = M.1 a := fun m hg a ha => by funext j; exact hg.1 a j (ha j)
    -- back to no patches
    have back : ∀ (m : Mm) (Q : Mm → Prop), Gr M m → V_walk m → (∀ m', Fr dE eG M m' → V_walk m' → m'.1 = m.1 → m'.2.1 = m.2.1 → Q m') → f_X3_usePatches S0 11 (0 : Int32) m Q := by
      intro m Q hg hwm hQ
      refine up_ok (x := 0) (np := np) (ln := fun t => cN C t) (pt := pt) (pl := pl) (pp := pp) (by omega) (FX_gr hg.2.2 hF) c2 ((hg.1 11 12 rfl).trans hP.2.1) (pts m hg) (fun m' h1 h2 h3 h4 => hQ m' ⟨fun b j hd => by rw [h1]; exact hg.1 b j hd, fun b hd => by rw [h2]; exact hg.2.1 b hd, ?_⟩ ?_ h1 h2)
      · funext b j
        by_cases e : b = 17 ∧ j < 64
        · have := h4 (j / 16) (j % 16) (by omega) (by omega)
          rw [show 16 * (j / 16) + j % 16 = j by omega, rpk_0] at this
          rw [e.1, this, h17 j e.2]
        · rw [h3 b j e]; exact hg.2.2 b j e
      · refine V_walk_ag (by rw [h1]) (by rw [h1]) (by rw [h1]) ?_ hwm
        funext j
        exact h3 10 j (by omega)
    have hPt : ∀ m', Fr dE eG M m' → PTs m' np pt pl pp PL := fun m' f => PTs_fr f (fun a ha j => by unfold prc at ha; unfold dE; simp only [Bool.or_eq_false_iff, Bool.and_eq_false_iff, beq_eq_false_iff_ne, decide_eq_false_iff_not]; omega) rfl rfl rfl (fun _ => rfl) (fun _ => rfl) (fun _ => rfl) (fun _ => rfl) rfl (fun a j h1 h2 => by unfold dE; simp only [Bool.or_eq_false_iff, Bool.and_eq_false_iff, beq_eq_false_iff_ne, decide_eq_false_iff_not]; omega) hP
    refine fewest_ok (tm := tm) (bk := bk) (I := fun m => Gr M m ∧ V_walk m) (by omega) (by decide) (fun m h => FX_gr h.1.2.2 hF) ⟨⟨fun _ _ _ => rfl, fun _ _ => rfl, fun _ _ _ => rfl⟩, hwk⟩ ?_ ⟨fun M1 hI ho => ?_, fun y M0 M1 ho hy hI f1 q1 q2 => ?_⟩
    · intro x M1 Q hx hI hQ
      unfold f_X10_useSet
      have hF1 := FX_gr hI.1.2.2 hF
      refine ⟨fun z => absurd z (by decide), fun _ => ⟨fun _ => ?_, fun z => absurd rfl z⟩⟩
      simp only [fx_0_2 hF1, ex_some, s0_11, true_and]
      refine up_ok (x := x) (np := np) (ln := fun t => cN C t) (pt := pt) (pl := pl) (pp := pp) (by omega) hF1 c2 ((hI.1.1 11 12 rfl).trans hP.2.1) (pts M1 hI.1) (fun m' h1 h2 h3 h4 => ?_)
      have g2 : Gr M m' := ⟨fun b j hd => by rw [h1]; exact hI.1.1 b j hd, fun b hd => by rw [h2]; exact hI.1.2.1 b hd, fun b j hbj => (h3 b j hbj).trans (hI.1.2.2 b j hbj)⟩
      have w2 : V_walk m' := by
        refine V_walk_ag (by rw [h1]) (by rw [h1]) (by rw [h1]) ?_ hI.2
        funext j
        exact h3 10 j (by omega)
      have hCx : CC m' (ptC C x np pt pl PL) := CC_pt hC (gprc m' g2) (fun j hj => by
        obtain ⟨u1, u2, u3, u4, u5, u6, u7, u8, u9, u10, u11, u12⟩ := hP.2.2.2.2 j hj
        exact ⟨u8, u10, u12⟩) (fun _ => Or.inr trivial) (g2.1 _ _ rfl) (g2.1 _ _ rfl) (g2.1 _ _ rfl) (grow m' g2 18 (fun _ => rfl)) g2.2.2 h17 h4
      refine hQ _ (FX_gr g2.2.2 hF) (fun KK h0 h1' => ?_)
      refine seekG (C := ptC C x np pt pl PL) (w := w) (mo := 4000) (so := fun _ _ _ _ => false) (FX_gr g2.2.2 hF) w2 hCx (mC_ag (gprc m' g2) (g2.2.2 11 8 (by omega)) hmC) ((g2.1 _ _ rfl).trans k13) hky hw (Or.inl rfl) (by rw [g2.2.1 113 rfl]; exact hm.2.2.1) (by rw [g2.2.1 113 rfl]; exact hm.2.2.2.1) hsi (by omega) (by omega) hn (fun M' _ h12 _ => SO_0 h12) (fun hgt M2 f3 w3 => h0 ((htm x).mpr hgt) M2 ⟨gtr _ _ g2 f3, w3⟩) (fun M2 f3 w3 X3 T3 => h1' ?_ M2 ⟨gtr _ _ g2 f3, w3⟩ ?_)
      · rcases hq : tm x with _ | _
        · rfl
        · have := (htm x).mp hq
          have := X3.2.2.2.2
          omega
      · rw [hbk x]
        refine FB_ge hwp hw20 ?_ X3.2.2.1
        rw [Nat.mul_div_cancel _ hwp]
        have h1 := Ed_mono (C := ptC C x np pt pl PL) (ky := ky) (w := w) (A0 := A) (B0 := B) n
        rw [Ed_succ] at h1
        have := X3.1.2.1
        omega
    · simp only [fx_0_2 (FX_gr hI.1.2.2 hF), ex_some, s0_11, true_and]
      refine back M1 _ hI.1 hI.2 (fun m' f' w' _ _ => ?_)
      exact model m' (PM_1 hF hCM k27 hs hf hmM f' w') (hPt m' f') (fun _ => told_fr f' rfl rfl rfl rfl htd) (fun y hy => by rw [ho] at hy; exact absurd hy (by simp))
    · have hg1 : ∀ b j, ¬ (b = 17 ∧ j < 64) → M1.2.2 b j = M.2.2 b j := fun b j hbj => by rw [f1.2.2]; exact hI.1.2.2 b j hbj
      have hF1 := FX_gr hg1 hF
      simp only [fx_0_2 hF1, ex_some, s0_11, true_and]
      -- the same, behind what is told
      have pts1 : ∀ k, k < np → M1.1 15 k = nI (pt k) ∧ M1.1 16 k = nI (pl k) ∧ pt k < 4 ∧ pl k < 16 ∧ pp k ∈ PR ∧ M1.2.2 14 k = some (pp k) ∧ (fun t => cN C t) (pt k) ≤ 16 ∧ ∃ q, q ∈ PR ∧ M1.2.2 12 (pt k) = some q ∧ M1.1 q 6 = nI ((fun t => cN C t) (pt k)) := by
        intro k hk
        obtain ⟨u1, u2, u3, u4, u5, u6, u7, q, v1, v2, v3⟩ := pts M0 hI.1 k hk
        have := pr_le q v1
        exact ⟨(f1.1 15 k rfl).trans u1, (f1.1 16 k rfl).trans u2, u3, u4, u5, by rw [f1.2.2]; exact u6, u7, q, v1, by rw [f1.2.2]; exact v2, (f1.1 q 6 (by unfold dTd; simp only [Bool.and_eq_false_iff, beq_eq_false_iff_ne]; omega)).trans v3⟩
      refine up_ok (x := 0) (np := np) (ln := fun t => cN C t) (pt := pt) (pl := pl) (pp := pp) (by omega) hF1 c2 ((f1.1 11 12 rfl).trans ((hI.1.1 11 12 rfl).trans hP.2.1)) pts1 (fun m' h1 h2 h3 h4 => ?_)
      have rr : m'.2.2 = M.2.2 := by
        funext b j
        by_cases e : b = 17 ∧ j < 64
        · have := h4 (j / 16) (j % 16) (by omega) (by omega)
          rw [show 16 * (j / 16) + j % 16 = j by omega, rpk_0] at this
          rw [e.1, this, h17 j e.2]
        · rw [h3 b j e]; exact hg1 b j e
      -- a memory between
      have fa : Fr dE eG M (M0.1, M0.2.1, M.2.2) := ⟨hI.1.1, hI.1.2.1, rfl⟩
      have fb : Fr dTd eTd (M0.1, M0.2.1, M.2.2) m' := ⟨fun b j hd => by rw [h1]; exact f1.1 b j hd, fun b hd => by rw [h2]; exact f1.2.1 b hd, rr⟩
      have wa : V_walk (M0.1, M0.2.1, M.2.2) := V_walk_ag (M := M0) (M' := (M0.1, M0.2.1, M.2.2)) rfl rfl rfl (by
        funext j
        exact (hI.1.2.2 10 j (by omega)).symm) hI.2
      refine model m' (PM_2 (PM_1 hF hCM k27 hs hf hmM fa wa) fb) (PTs_fr fb (fun a ha j => by unfold prc at ha; unfold dTd; simp only [Bool.and_eq_false_iff, beq_eq_false_iff_ne]; omega) rfl rfl rfl (fun _ => rfl) (fun _ => rfl) (fun _ => rfl) (fun _ => rfl) rfl (fun a j h1 h2 => by unfold dTd; simp only [Bool.and_eq_false_iff, beq_eq_false_iff_ne]; omega) (hPt _ fa)) (fun h => by rw [ho] at h; exact absurd h (by simp)) (fun y' hy' => ?_)
      rw [ho] at hy'
      simp only [Option.some.injEq] at hy'
      subst hy'
      exact ⟨hy, by rw [h1]; exact q1, by rw [h2]; exact q2⟩
  · unfold f_X11_mend
    simp only [forall_eq]
    refine isRun_ok (nt := cT C) hCM.2.1 c1 (fun a b c => ?_) (fun _ => ⟨fun _ => an_ok rfl (hK _ (V_thr _ hV)), fun z => absurd rfl z⟩)
    exact (hx.elim a (fun w => w.elim b (fun w => by omega))).elim
