/-! round: the call -/
theorem dRo_run {M M' : Mm} (h : Fr dRo eRo M M') : Fr dRun eRun M M' :=
  Fr_mono (fun b j hd => by unfold dRun at hd; unfold dRo dE; simp only [Bool.or_eq_false_iff, Bool.and_eq_false_iff, beq_eq_false_iff_ne, decide_eq_false_iff_not] at *; omega) (fun b hd => by unfold eRun at hd; unfold eRo eG; simp only [Bool.or_eq_false_iff, Bool.and_eq_false_iff, beq_eq_false_iff_ne, decide_eq_false_iff_not] at *; omega) h
theorem dRq_run {M M' : Mm} (h : Fr dRq eRq M M') : Fr dRun eRun M M' :=
  Fr_mono (fun b j hd => by unfold dRun at hd; unfold dRq dQ; simp only [Bool.or_eq_false_iff, Bool.and_eq_false_iff, beq_eq_false_iff_ne, decide_eq_false_iff_not] at *; omega) (fun b hd => by unfold eRun at hd; unfold eRq eP; simp only [Bool.or_eq_false_iff, Bool.and_eq_false_iff, beq_eq_false_iff_ne, decide_eq_false_iff_not] at *; omega) h
theorem PM_ro {C : Cf} {ky A B : Nat} {F : F4} {mu : Option (List Nat)} {M M1 : Mm} (hF : FX M) (hCM : CM M C) (k27 : M.1 142 27 = nI ky) (hs : MS M A B) (hf : MF M F) (hmM : mM M mu) (f1 : Fr dRo eRo M M1) (w1 : V_walk M1) : PM C ky A B F mu M M1 :=
  ⟨dRo_run f1, FX_fr f1 hF, CM_ag (f1.1 _ _ rfl) (f1.1 _ _ rfl) (f1.1 _ _ rfl) (f1.1 _ _ rfl) (f1.1 _ _ rfl) (Fr_row f1 _ (fun _ => rfl)) (Fr_row f1 _ (fun _ => rfl)) (Fr_row f1 _ (fun _ => rfl)) (Fr_row f1 _ (fun _ => rfl)) (Fr_row f1 _ (fun _ => rfl)) (Fr_row f1 _ (fun _ => rfl)) (Fr_row f1 _ (fun _ => rfl)) (Fr_row f1 _ (fun _ => rfl)) hCM, (f1.1 142 27 rfl).trans k27, MS_ag (Fr_row f1 _ fun _ => rfl) (Fr_row f1 _ fun _ => rfl) (Fr_row f1 _ fun _ => rfl) (Fr_row f1 _ fun _ => rfl) hs, ⟨(f1.1 142 28 rfl).trans hf.1, (f1.1 142 29 rfl).trans hf.2.1, (f1.1 142 30 rfl).trans hf.2.2.1, (f1.1 142 31 rfl).trans hf.2.2.2⟩, mM_ag (Fr_row f1 _ fun _ => rfl) (Fr_row f1 _ fun _ => rfl) (f1.1 _ _ rfl) hmM, w1⟩
theorem op21 (p1 p2 : Int32) (M : Mm) (K : Mm → Prop) (hV : V M) (hK : ∀ m, V m → K m) : OP21 p1 p2 M K := by
  have hF := hV.1
  have ne1 : ¬ (1 : Int32) = 0 := by decide
  obtain ⟨C, mu, ky, A, B, F, hC, hCM, hmC, hmM, hky, k13, k27, hm, hs, hf, hsi⟩ := run_of hV
  have c1 := hC.1.1
  have htd : V_told M := hV.2.2.2.2.2.2.1
  have hwk : V_walk M := hV.2.2.2.2.2.2.2.2.2.2.2.2.2.2.2.2.1
  obtain ⟨w, hw⟩ : ∃ w, w = cT C * (ky + 1) := ⟨_, rfl⟩
  have hend : ∀ r, AN r K r (stI M 142 0 0) := fun r => an_ok rfl (hK _ (V_thr _ hV))
  have e15 : (stI M 142 0 0).1 142 15 = nI (cT C) := hCM.2.1
  show f_X10_round S0 0 p1 p2 M (fun r m1 => f_X11_round S0 142 p1 p2 m1 (AN r K))
  have ref : (p1 < 0 ∨ (7 : Int32) < p1 ∨ p2 < 0 ∨ (6 : Int32) < p2 ∨ cT C = 0) → f_X11_round S0 142 p1 p2 M (AN (-1) K) := by
    intro hx
    unfold f_X11_round
    simp only [forall_eq]
    refine f_in 7 rfl (fun a b => ⟨fun z => absurd z ne1, fun _ => ?_⟩) (fun _ => ⟨fun _ => hend _, fun z => absurd rfl z⟩)
    refine f_in 6 rfl (fun a2 b2 => ⟨fun z => absurd z ne1, fun _ => ⟨fun _ => hend _, fun z => absurd ?_ z⟩⟩) (fun _ => ⟨fun _ => hend _, fun z => absurd rfl z⟩)
    rcases hx with h | h | h | h | h
    · exact absurd h a
    · exact absurd h b
    · exact absurd h a2
    · exact absurd h b2
    · rw [e15, h]; rfl
  have l620 : ∀ x : Int32, ¬ x < 0 → (20 : Int32) < x → (6 : Int32) < x := fun x h h2 => by
    obtain ⟨k, hk, rfl⟩ := nI_of h
    have := (nI_ltI (by omega) hk).mp (show nI 20 < nI k from h2)
    exact (show nI 6 < nI k from nI_lt (by omega) hk)
  have l87 : ¬ p1 < 0 → ¬ p1 < (8 : Int32) → (7 : Int32) < p1 := fun h h2 => by
    obtain ⟨k, hk, rfl⟩ := nI_of h
    have : ¬ k < 8 := fun z => h2 (show nI k < nI 8 from nI_lt z (by omega))
    exact (show nI 7 < nI k from nI_lt (by omega) hk)
  unfold f_X10_round
  refine refuses_ok hF hC.2.1 c1 (fun g1 g2 g3 => ⟨fun _ => ⟨fun h => ref (Or.inr (Or.inr (Or.inr (Or.inl h)))), fun g4 => ⟨fun h => ref (Or.inl h), fun g5 => ⟨fun g6 => ?_, fun h => ref (Or.inr (Or.inl (l87 g5 h)))⟩⟩⟩, fun z => absurd rfl z⟩) (fun hx => ⟨fun z => absurd z (by decide), fun _ => ref ?_⟩)
  · obtain ⟨n, hn, rfl⟩ := nI_le' (n := 6) (by decide) rfl g1 g4
    obtain ⟨s, hs0, rfl⟩ := nI_of g5
    have hs8 : s < 8 := (nI_ltI hs0 (by omega)).mp (show nI s < nI 8 from g6)
    obtain ⟨tm, htm⟩ : ∃ tm : Nat → Bool, ∀ v, tm v = true ↔ 300 < (bf C ky w (put A (8 * s) 8 v) B (Ed C ky w (put A (8 * s) 8 v) B n * w)).length := ⟨fun v => decide (300 < (bf C ky w (put A (8 * s) 8 v) B (Ed C ky w (put A (8 * s) 8 v) B n * w)).length), fun v => by simp⟩
    obtain ⟨bk, hbk⟩ : ∃ bk : Nat → Bool, ∀ v, bk v = true ↔ (tm v = false ∧ ∃ k, k < Ed C ky w (put A (8 * s) 8 v) B n * w ∧ pB C ky w (put A (8 * s) 8 v) B mu k = true) := ⟨fun v => @decide (tm v = false ∧ ∃ k, k < Ed C ky w (put A (8 * s) 8 v) B n * w ∧ pB C ky w (put A (8 * s) 8 v) B mu k = true) (Classical.propDecidable _), fun v => by simp⟩
    have hc := cnt_le bk 256
    -- the model
    have model : ∀ (M1 : Mm) (r : Int32), PM C ky A B F mu M M1 → ((∃ v, v < 256 ∧ tm v = true) → r = -3 ∧ V_told M1) → ((∀ u, u < 256 → tm u = false) → r = nI (cnt bk 256) ∧ M1.1 116 1 = nI (min (cnt bk 256) 20) ∧ ∀ u, u < 256 → bk u = true → cnt bk u < 20 → M1.2.1 117 (cnt bk u) = lN u) → f_X11_round S0 142 (nI s) (nI n) M1 (AN r K) := by
      intro M1 r pm t3 t1
      obtain ⟨q1, q2, q3, q4, q5, q6, q7, q8⟩ := pm
      have e15' : (stI M1 142 0 0).1 142 15 = nI (cT C) := q3.2.1
      unfold f_X11_round
      simp only [forall_eq]
      refine f_in 7 rfl (fun a b => ⟨fun z => absurd z ne1, fun _ => ?_⟩) (fun q => (q.elim g5 (fun q => ?_)).elim)
      · refine f_in 6 rfl (fun a b => ⟨fun z => absurd z ne1, fun _ => ⟨fun z => ?_, fun _ => ?_⟩⟩) (fun q => (q.elim g1 g4).elim)
        · rw [e15'] at z
          exact absurd z (nI_ne0 g3 (by omega))
        · refine runM2 (ky := ky) (A := A) (B := B) (F := F) q2 q3 q4 q5 q6 (fun M2 f2 b2 r2 => ?_)
          have f02 : Fr dRun eRun M M2 := Fr_tr q1 (dRm0_run f2)
          have w2 : V_walk M2 := walk_fr f2 rfl (fun _ => rfl) (fun _ => rfl) q8
          have m2 : mM M2 mu := mM_ag (Fr_row f2 _ fun _ => rfl) (Fr_row f2 _ fun _ => rfl) (f2.1 _ _ rfl) q7
          simp only [r2.1]
          refine ⟨256 + 1, rndM (C := C) (w := w) (A := A) (B := B) (tm := tm) (bk := bk) b2 m2 hky hw g3 hsi r2.2.1 (by omega) hs8 htm hbk (fun x M3 f3 r3 hx p3 => ?_) 256 0 0 M2 (by omega) (Fr_refl _ _ _) r2.2.1 ⟨fun _ u hu => absurd hu (by omega), fun _ => rfl⟩ (fun u hu => absurd hu (by omega))⟩
          have f3' : Fr dRq eRq M2 (stJ M3 142 45 (lN (PA A))) := Fr_J rfl f3
          have rm3 : RM (stJ M3 142 45 (lN (PA A))) A B F := ⟨stJ_get, by rw [rJ, if_neg (by omega)]; exact r3, (f3.1 _ _ rfl).trans r2.2.2.1, (f3.1 _ _ rfl).trans r2.2.2.2.1, (f3.1 _ _ rfl).trans r2.2.2.2.2.1, (f3.1 _ _ rfl).trans r2.2.2.2.2.2⟩
          have f03 : Fr dRun eRun M (stJ M3 142 45 (lN (PA A))) := Fr_tr f02 (dRq_run f3')
          refine comes_ok (FX_fr f03 hF) rm3 (fun M4 f4 m4 mf4 z4 => ?_)
          have f04 : Fr dRun eRun M M4 := Fr_tr f03 (dCb_run f4)
          have w4 : V_walk M4 := walk_fr f4 rfl (fun _ => rfl) (fun _ => rfl) (walk_fr f3' rfl (fun _ => rfl) (fun _ => rfl) w2)
          have i116 : M4.1 116 1 = M1.1 116 1 := by rw [f4.1 116 1 rfl, f3'.1 116 1 rfl, f2.1 116 1 rfl]
          have i117 : M4.2.1 117 = M1.2.1 117 := by rw [f4.2.1 117 rfl, f3'.2.1 117 rfl, f2.2.1 117 rfl]
          refine ⟨fun ex => ?_, fun ex => ?_⟩
          · have hall := hx.mp ex
            obtain ⟨e1, e2, e3⟩ := t1 hall
            have f5 : Fr dRun eRun M (stI M4 142 1 0) := Fr_I rfl f04
            have i172 : ∀ j, (stI M4 142 1 0).1 172 j = M3.1 172 j := fun j => by rw [rI_ne (by omega), f4.1 172 j rfl]; rfl
            refine ⟨min (cnt bk 256) 20 + 1, rtL (b := bk) rfl (FX_fr f5 hF) (fun u hu hbu hcu => by rw [i172]; exact p3 u hu hbu hcu) (fun M6 f6 g1' g2' => an_ok e1 (hK _ ?_)) (min (cnt bk 256) 20) 0 _ (by omega) (Fr_refl _ _ _) rI_eq (fun u _ _ h => absurd h (by omega))⟩
            refine V_run hV (Fr_tr f5 (dWy_run f6)) ((f6.1 _ _ rfl).trans z4) hm (MS_ag (Fr_row f6 _ fun _ => rfl) (Fr_row f6 _ fun _ => rfl) (Fr_row f6 _ fun _ => rfl) (Fr_row f6 _ fun _ => rfl) m4) ⟨(f6.1 _ _ rfl).trans mf4.1, (f6.1 _ _ rfl).trans mf4.2.1, (f6.1 _ _ rfl).trans mf4.2.2.1, (f6.1 _ _ rfl).trans mf4.2.2.2⟩ ?_ ⟨min (cnt bk 256) 20, by omega, ?_, g1', fun j hj => ?_⟩
            · exact walk_fr f6 rfl (fun _ => rfl) (fun _ => rfl) (V_walk_ag (M := M4) rfl rfl rfl rfl w4)
            · rw [f6.1 116 1 rfl, rI_ne (by omega), i116]; exact e2
            · obtain ⟨u, u1, u2, u3⟩ := cnt_hit (b := bk) 256 (show j < cnt bk 256 by omega)
              have a1 := g2' u u1 u2 (by omega)
              have a2 := e3 u u1 u2 (by omega)
              rw [u3] at a1 a2
              rw [a1, f6.2.1 117 rfl]
              show M4.2.1 117 j = _
              rw [i117, a2]
          · have hex : ∃ v, v < 256 ∧ tm v = true := by
              refine Classical.byContradiction (fun hno => ex (hx.mpr (fun u hu => ?_)))
              rcases hq : tm u with _ | _
              · rfl
              · exact absurd ⟨u, hu, hq⟩ hno
            obtain ⟨e1, e2⟩ := t3 hex
            exact an_ok e1 (hK _ (V_run hV f04 z4 hm m4 mf4 w4 (told_fr f4 rfl rfl rfl rfl (told_fr f3' rfl rfl rfl rfl (told_fr f2 rfl rfl rfl rfl e2)))))
      · have : ¬ s < 8 := fun z => absurd (show nI 7 < nI s from q) (nI_nlt (by omega) (by omega))
        omega
    refine ⟨256 + 1, rndC (C := C) (w := w) (A := A) (B := B) (F := F) (tm := tm) (bk := bk) hF hC hmC k13 hky hw g3 hm hsi (by omega) hs8 htm hbk (fun v hv ht M1 f1 w1 => ?_) (fun hall M1 f1 w1 p1 => ?_) 256 0 M (by omega) (Fr_refl _ _ _) hwk (fun u hu => absurd hu (by omega))⟩
    · refine model M1 (-3) (PM_ro hF hCM k27 hs hf hmM f1 w1) (fun _ => ⟨rfl, told_fr f1 rfl rfl rfl rfl htd⟩) (fun hall => ?_)
      rw [hall v hv] at ht; exact absurd ht (by decide)
    · unfold f_X10_tellBreakingNumbers f_X7_clear
      have hF1 := FX_fr f1 hF
      simp only [fx_0_6 hF1, ex_some, s0_116, true_and, forall_eq]
      have f2 : Fr dTd eTd M1 (stI M1 116 1 0) := Fr_I rfl (Fr_refl _ _ _)
      refine ⟨256 + 1, tbL (b := bk) (FX_fr f2 hF1) (fun u hu => by rw [f2.1 115 u rfl]; exact p1 u hu) (fun M3 f3 q1 q2 => model M3 (nI (cnt bk 256)) (PM_2 (PM_ro hF hCM k27 hs hf hmM f1 w1) (Fr_tr f2 f3)) (fun ⟨v, hv, ht⟩ => ?_) (fun _ => ⟨rfl, q1, q2⟩)) 256 0 _ (by omega) (Fr_refl _ _ _) rI_eq (fun u hu => absurd hu (by omega))⟩
      rw [hall v hv] at ht; exact absurd ht (by decide)
  · rcases hx with h | h | h
    · exact Or.inr (Or.inr (Or.inl h))
    · by_cases h0 : p2 < 0
      · exact Or.inr (Or.inr (Or.inl h0))
      · exact Or.inr (Or.inr (Or.inr (Or.inl (l620 p2 h0 h))))
    · exact Or.inr (Or.inr (Or.inr (Or.inr h)))
