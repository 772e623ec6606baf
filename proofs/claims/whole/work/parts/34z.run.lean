/-! calls over all runs: their common parts; all -/
def dRun : Nat → Nat → Bool := fun b j => b == 10 || b == 19 || (104 ≤ b && b ≤ 112 : Bool) || (114 ≤ b && b ≤ 117 : Bool) || b == 120 || (b == 142 && (j == 0 || j == 1 || (28 ≤ j && j ≤ 31 : Bool) || j == 33 || j == 37 || (44 ≤ j && j ≤ 52 : Bool) || (62 ≤ j && j ≤ 66 : Bool))) || b == 143 || b == 149 || (153 ≤ b && b ≤ 156 : Bool) || (160 ≤ b && b ≤ 170 : Bool) || b == 172 || (174 ≤ b && b ≤ 176 : Bool) || b == 184 || b == 191
def eRun : Nat → Bool := fun b => b == 10 || (104 ≤ b && b ≤ 112 : Bool) || (114 ≤ b && b ≤ 117 : Bool) || b == 142 || b == 143 || (160 ≤ b && b ≤ 170 : Bool) || b == 174
theorem V_run {M M' : Mm} {A B : Nat} {F : F4} (hV : V M) (fr : Fr dRun eRun M M') (h33 : M'.1 142 33 = 0) (hm : MO M 113 A B F) (hs : MS M' A B) (hf : MF M' F) (hw : V_walk M') (ht : V_told M') : V M' := by
  have hV' := hV
  obtain ⟨h1, h2, h3, h4, h5, h6, h7, h8, h9, h10, h11, h12, h13, h14, h15, h16, h17, h18, h19⟩ := hV'
  have k33 : M'.1 142 33 = M.1 142 33 := by
    obtain ⟨nt, nb, on, np, a1, a2, a3, a4, b1, b2, b3, b4, b5, b6, b7, b8, b9⟩ := h9
    rw [h33, b9]
  refine V_mk hV ⟨fun b j hd => ?_, fun b hd => fr.2.1 b ?_, fr.2.2⟩ (V_txt_ag (fr.1 _ _ rfl) (fr.1 _ _ rfl) (Fr_row fr _ fun _ => rfl) (Fr_row fr _ fun _ => rfl) h2) ht ?_ ?_ hw
  · by_cases e : b = 142 ∧ j = 33
    · rw [e.1, e.2]; exact k33
    · refine fr.1 b j ?_
      unfold DV at hd
      unfold dRun
      simp only [Bool.or_eq_false_iff, Bool.and_eq_false_iff, beq_eq_false_iff_ne, decide_eq_false_iff_not] at *
      omega
  · unfold EV at hd
    unfold eRun
    simp only [Bool.or_eq_false_iff, Bool.and_eq_false_iff, beq_eq_false_iff_ne, decide_eq_false_iff_not] at *
    omega
  · obtain ⟨q1, q2, q3, q4, q5, q6, q7, q8⟩ := hm
    have e113 := Fr_row fr 113 (fun _ => rfl)
    refine ⟨?_, ?_, ?_, ?_, ?_⟩
    · rw [fr.1 0 12 rfl, fr.1 142 32 rfl]; exact h8.1
    · rw [e113, q5]; exact hf.1.symm
    · rw [e113, q6]; exact hf.2.1.symm
    · rw [e113, q7]; exact hf.2.2.1.symm
    · rw [e113, q8]; exact hf.2.2.2.symm
  · obtain ⟨A', B', y1, y2, y3, y4, y5, y6⟩ := h15
    have eB : B' = B := lN_inj (by omega) (by have := hm.2.1; omega) (by rw [← y5, hm.2.2.2.1])
    refine ⟨A, B, hm.1, hm.2.1, hs, ?_, ?_, fun k hk hl => ?_⟩
    · rw [fr.2.1 113 rfl]; exact hm.2.2.1
    · rw [fr.2.1 113 rfl]; exact hm.2.2.2.1
    · rw [fr.1 11 10 rfl] at hl
      rw [Fr_row fr 150 (fun _ => rfl), ← eB]
      exact y6 k hk hl
def dRm : Nat → Nat → Bool := fun b j => b == 142 && (47 ≤ j && j ≤ 50 : Bool)
def e142 : Nat → Bool := fun b => b == 142
/-- the model's start is remembered -/
def RM (M : Mm) (A B : Nat) (F : F4) : Prop := M.2.1 142 45 = lN (PA A) ∧ M.2.1 142 46 = lN (PB B) ∧ M.1 142 47 = F.1 ∧ M.1 142 48 = F.2.1 ∧ M.1 142 49 = F.2.2.1 ∧ M.1 142 50 = F.2.2.2
theorem remem_ok {A B : Nat} {F : F4} {M : Mm} {K : Mm → Prop} (hF : FX M) (hs : MS M A B) (hf : MF M F) (hK : ∀ M', Fr dRm e142 M M' → RM M' A B F → K M') : f_X11_remembers S0 142 M K := by
  unfold f_X11_remembers
  refine packS_ok hF hs ?_
  simp only [forall_eq]
  refine packR_ok (A := A) (B := B) (FX_ag rfl hF) hs ?_
  refine hK _ (Fr_I rfl (Fr_I rfl (Fr_I rfl (Fr_I rfl (Fr_J rfl (Fr_J rfl (Fr_refl _ _ _))))))) ⟨?_, ?_, ?_, ?_, ?_, ?_⟩
  · show (stJ (stJ M 142 45 (lN (PA A))) 142 46 (lN (PB B))).2.1 142 45 = _
    rw [rJ, if_neg (by omega), stJ_get]
  · show (stJ (stJ M 142 45 (lN (PA A))) 142 46 (lN (PB B))).2.1 142 46 = _
    rw [stJ_get]
  · rw [rI_ne (by omega), rI_ne (by omega), rI_ne (by omega), rI_eq]; exact hf.1
  · rw [rI_ne (by omega), rI_ne (by omega), rI_eq, rI_ne (by omega)]; exact hf.2.1
  · rw [rI_ne (by omega), rI_eq, rI_ne (by omega), rI_ne (by omega)]; exact hf.2.2.1
  · rw [rI_eq, rI_ne (by omega), rI_ne (by omega), rI_ne (by omega)]; exact hf.2.2.2
def dCb : Nat → Nat → Bool := fun b j => (153 ≤ b && b ≤ 156 : Bool) || (b == 142 && ((28 ≤ j && j ≤ 31 : Bool) || j == 33))
theorem comes_ok {A B : Nat} {F : F4} {M : Mm} {K : Mm → Prop} (hF : FX M) (hr : RM M A B F) (hK : ∀ M', Fr dCb eN M M' → MS M' A B → MF M' F → M'.1 142 33 = 0 → K M') : f_X11_comesBack S0 142 M K := by
  obtain ⟨r1, r2, r3, r4, r5, r6⟩ := hr
  unfold f_X11_comesBack
  rw [r1, r2]
  refine unp_ok hF (fun M1 f1 m1 => ?_)
  simp only [forall_eq]
  have f1' : Fr dCb eN M M1 := Fr_mono (fun b j hd => by unfold dCb at hd; unfold dU; simp only [Bool.or_eq_false_iff, Bool.and_eq_false_iff, beq_eq_false_iff_ne, decide_eq_false_iff_not] at *; omega) (fun b h => h) f1
  refine hK _ (Fr_I rfl (Fr_I rfl (Fr_I rfl (Fr_I rfl (Fr_I rfl f1'))))) m1 ⟨?_, ?_, ?_, ?_⟩ rI_eq
  · rw [rI_ne (by omega), rI_ne (by omega), rI_ne (by omega), rI_ne (by omega), rI_eq, f1.1 142 47 rfl]; exact r3
  · rw [rI_ne (by omega), rI_ne (by omega), rI_ne (by omega), rI_eq, rI_ne (by omega), f1.1 142 48 rfl]; exact r4
  · rw [rI_ne (by omega), rI_ne (by omega), rI_eq, rI_ne (by omega), rI_ne (by omega), f1.1 142 49 rfl]; exact r5
  · rw [rI_ne (by omega), rI_eq, rI_ne (by omega), rI_ne (by omega), rI_ne (by omega), f1.1 142 50 rfl]; exact r6
theorem RM_fr {D : Nat → Nat → Bool} {E : Nat → Bool} {M M' : Mm} {A B : Nat} {F : F4} (hd : ∀ j, 47 ≤ j → j ≤ 50 → D 142 j = false) (he : E 142 = false) (h : Fr D E M M') (hr : RM M A B F) : RM M' A B F := by
  obtain ⟨r1, r2, r3, r4, r5, r6⟩ := hr
  refine ⟨by rw [h.2.1 142 he]; exact r1, by rw [h.2.1 142 he]; exact r2, (h.1 _ _ (hd 47 (by omega) (by omega))).trans r3, (h.1 _ _ (hd 48 (by omega) (by omega))).trans r4, (h.1 _ _ (hd 49 (by omega) (by omega))).trans r5, (h.1 _ _ (hd 50 (by omega) (by omega))).trans r6⟩
theorem RM_dQ {M M' : Mm} {A B : Nat} {F : F4} (h : Fr dQ eP M M') (hr : RM M A B F) : RM M' A B F := RM_fr (fun j h1 h2 => by unfold dQ; simp only [Bool.or_eq_false_iff, Bool.and_eq_false_iff, beq_eq_false_iff_ne, decide_eq_false_iff_not]; omega) rfl h hr
theorem isRun_ok {nt : Nat} {x : Int32} {M : Mm} {K : Int32 → Mm → Prop} (h15 : M.1 142 15 = nI nt) (hnt : nt ≤ 4) (h1 : ¬ x < 0 → ¬ (20 : Int32) < x → 0 < nt → K 1 M) (h0 : (x < 0 ∨ (20 : Int32) < x ∨ nt = 0) → K 0 M) : f_X11_isRun S0 142 x M K := by
  unfold f_X11_isRun
  refine f_in 20 rfl (fun a b => ⟨fun z => absurd z (by decide), fun _ => ?_⟩) (fun w => ⟨fun _ => h0 (w.elim Or.inl (fun w => Or.inr (Or.inl w))), fun z => absurd rfl z⟩)
  rw [h15, show (0 : Int32) = nI 0 from rfl, nI_leI (by omega) (by omega)]
  exact ⟨fun z => h0 (Or.inr (Or.inr (by omega))), fun z => h1 a b (by omega)⟩
theorem refuses_ok {nt : Nat} {x : Int32} {M : Mm} {K : Int32 → Mm → Prop} (hF : FX M) (h15 : M.1 11 10 = nI nt) (hnt : nt ≤ 4) (h1 : ¬ x < 0 → ¬ (20 : Int32) < x → 0 < nt → K 0 M) (h0 : (x < 0 ∨ (20 : Int32) < x ∨ nt = 0) → K 1 M) : f_X10_refusesRuns S0 0 x M K := by
  unfold f_X10_refusesRuns
  refine ⟨fun z => h0 (Or.inl z), fun a => ⟨fun z => h0 (Or.inr (Or.inl z)), fun b => ?_⟩⟩
  simp only [fx_0_2 hF, ex_some, s0_11, true_and]
  rw [h15, show (0 : Int32) = nI 0 from rfl, nI_eq (by omega) (by omega)]
  exact ⟨fun z => h0 (Or.inr (Or.inr z)), fun z => h1 a b (by omega)⟩
/-- all that a call over all runs starts from -/
theorem run_of {M : Mm} (hV : V M) : ∃ (C : Cf) (mu : Option (List Nat)) (ky A B : Nat) (F : F4), CC M C ∧ CM M C ∧ mC M mu ∧ mM M mu ∧ ky < 5 ∧ M.1 11 13 = nI ky ∧ M.1 142 27 = nI ky ∧ MO M 113 A B F ∧ MS M A B ∧ MF M F ∧ SI C A B := by
  obtain ⟨C, hC, hCM⟩ := cf_of hV
  obtain ⟨A, B, F, hm, hs, hf, hl⟩ := now_of hV hCM
  obtain ⟨mu, h1, h2⟩ := mu_of hV
  obtain ⟨ky, y1, y2⟩ := hV.2.2.2.2.1.2
  exact ⟨C, mu, ky, A, B, F, hC, hCM, h1, h2, y1, y2, by rw [← hV.2.2.2.2.1.1]; exact y2, hm, hs, hf, hm.1, hm.2.1, hl⟩
def dM1 : Nat → Nat → Bool := fun b j => dQ b j || dRm b j || dCb b j || (b == 142 && j == 0)
def eM1 : Nat → Bool := fun b => b == 160 || b == 161 || b == 142
theorem dE_run {M M' : Mm} (h : Fr dE eG M M') : Fr dRun eRun M M' :=
  Fr_mono (fun b j hd => by unfold dRun at hd; unfold dE; simp only [Bool.or_eq_false_iff, Bool.and_eq_false_iff, beq_eq_false_iff_ne, decide_eq_false_iff_not] at *; omega) (fun b hd => by unfold eRun at hd; unfold eG; simp only [Bool.or_eq_false_iff, Bool.and_eq_false_iff, beq_eq_false_iff_ne, decide_eq_false_iff_not] at *; omega) h
theorem dQ_run {M M' : Mm} (h : Fr dQ eP M M') : Fr dRun eRun M M' :=
  Fr_mono (fun b j hd => by unfold dRun at hd; unfold dQ; simp only [Bool.or_eq_false_iff, Bool.and_eq_false_iff, beq_eq_false_iff_ne, decide_eq_false_iff_not] at *; omega) (fun b hd => by unfold eRun at hd; unfold eP; simp only [Bool.or_eq_false_iff, Bool.and_eq_false_iff, beq_eq_false_iff_ne, decide_eq_false_iff_not] at *; omega) h
theorem dRm_run {M M' : Mm} (h : Fr dRm e142 M M') : Fr dRun eRun M M' :=
  Fr_mono (fun b j hd => by unfold dRun at hd; unfold dRm; simp only [Bool.or_eq_false_iff, Bool.and_eq_false_iff, beq_eq_false_iff_ne, decide_eq_false_iff_not] at *; omega) (fun b hd => by unfold eRun at hd; unfold e142; simp only [Bool.or_eq_false_iff, Bool.and_eq_false_iff, beq_eq_false_iff_ne, decide_eq_false_iff_not] at *; omega) h
theorem dCb_run {M M' : Mm} (h : Fr dCb eN M M') : Fr dRun eRun M M' :=
  Fr_mono (fun b j hd => by unfold dRun at hd; unfold dCb; simp only [Bool.or_eq_false_iff, Bool.and_eq_false_iff, beq_eq_false_iff_ne, decide_eq_false_iff_not] at *; omega) (fun b hd => rfl) h
theorem d0_run {M M' : Mm} {v : Int32} (h : Fr dRun eRun M M') : Fr dRun eRun M (stI M' 142 0 v) := Fr_I rfl h
/-- V_walk needs few cells -/
theorem walk_fr {D : Nat → Nat → Bool} {E : Nat → Bool} {M M' : Mm} (h : Fr D E M M') (d1 : D 10 10 = false) (d2 : ∀ j, D 108 j = false) (d3 : ∀ j, D 109 j = false) (hw : V_walk M) : V_walk M' := V_walk_ag (h.1 _ _ d1) (Fr_row h _ d2) (Fr_row h _ d3) (by rw [h.2.2]) hw
theorem told_fr {D : Nat → Nat → Bool} {E : Nat → Bool} {M M' : Mm} (h : Fr D E M M') (d1 : D 116 1 = false) (d2 : D 142 1 = false) (d3 : E 117 = false) (d4 : E 143 = false) (hw : V_told M) : V_told M' := V_told_ag (h.1 _ _ d1) (h.1 _ _ d2) (h.2.1 _ d3) (h.2.1 _ d4) hw
theorem CM_dE {C : Cf} {M M' : Mm} (h : Fr dE eG M M') (hC : CM M C) : CM M' C :=
  CM_ag (h.1 _ _ rfl) (h.1 _ _ rfl) (h.1 _ _ rfl) (h.1 _ _ rfl) (h.1 _ _ rfl) (Fr_row h _ (fun _ => rfl)) (Fr_row h _ (fun _ => rfl)) (Fr_row h _ (fun _ => rfl)) (Fr_row h _ (fun _ => rfl)) (Fr_row h _ (fun _ => rfl)) (Fr_row h _ (fun _ => rfl)) (Fr_row h _ (fun _ => rfl)) (Fr_row h _ (fun _ => rfl)) hC
theorem CM_dRm {C : Cf} {M M' : Mm} (h : Fr dRm e142 M M') (hC : CM M C) : CM M' C :=
  CM_ag (h.1 _ _ rfl) (h.1 _ _ rfl) (h.1 _ _ rfl) (h.1 _ _ rfl) (h.1 _ _ rfl) (Fr_row h _ (fun _ => rfl)) (Fr_row h _ (fun _ => rfl)) (Fr_row h _ (fun _ => rfl)) (Fr_row h _ (fun _ => rfl)) (Fr_row h _ (fun _ => rfl)) (Fr_row h _ (fun _ => rfl)) (Fr_row h _ (fun _ => rfl)) (Fr_row h _ (fun _ => rfl)) hC
theorem CM_st {C : Cf} {M : Mm} {v : Int32} (hC : CM M C) : CM (stI M 142 0 v) C := CM_ag (M := M) rfl rfl rfl rfl rfl rfl rfl rfl rfl rfl rfl rfl rfl hC
/-- the model's calls over all runs begin alike: refused, or remembered -/
theorem runM {C : Cf} {ky A B : Nat} {F : F4} {M : Mm} {K : Mm → Prop} (hF : FX M) (hC : CM M C) (h27 : M.1 142 27 = nI ky) (hs : MS M A B) (hf : MF M F) (hK : ∀ M', Fr dRun eRun M M' → BM C ky M' → RM M' A B F → V_walk M → V_walk M' → (V_told M → V_told M') → M'.2.2 = M.2.2 → (∀ j, M'.1 142 j = if j = 0 then 0 else if 47 ≤ j ∧ j ≤ 50 then M'.1 142 j else M.1 142 j) → K M') (hw : V_walk M) : f_X11_remembers S0 142 (stI M 142 0 0) K := by
  refine remem_ok (A := A) (B := B) (F := F) (FX_ag rfl hF) hs hf (fun M1 f1 r1 => ?_)
  have f1' : Fr dRun eRun M M1 := Fr_tr (d0_run (Fr_refl _ _ _)) (dRm_run f1)
  refine hK M1 f1' ⟨FX_fr f1' hF, CM_dRm f1 (CM_st hC), (f1.1 142 27 rfl).trans h27⟩ r1 hw (walk_fr f1 rfl (fun _ => rfl) (fun _ => rfl) (V_walk_ag (M := M) rfl rfl rfl rfl hw)) (fun h => told_fr f1 rfl rfl rfl rfl (V_told_ag (M := M) rfl rfl rfl rfl h)) f1'.2.2 (fun j => ?_)
  by_cases e : j = 0
  · rw [if_pos e, e, f1.1 142 0 rfl]; exact rI_eq
  · rw [if_neg e]
    by_cases e2 : 47 ≤ j ∧ j ≤ 50
    · rw [if_pos e2]
    · rw [if_neg e2, f1.1 142 j (by unfold dRm; simp only [Bool.and_eq_false_iff, beq_eq_false_iff_ne, decide_eq_false_iff_not]; omega), rI_ne (by omega)]
theorem op13 (p1 : Int32) (M : Mm) (K : Mm → Prop) (hV : V M) (hK : ∀ m, V m → K m) : OP13 p1 M K := by
  have hF := hV.1
  obtain ⟨C, mu, ky, A, B, F, hC, hCM, hmC, hmM, hky, k13, k27, hm, hs, hf, hsi⟩ := run_of hV
  have c1 := hC.1.1
  have hwk : V_walk M := hV.2.2.2.2.2.2.2.2.2.2.2.2.2.2.2.2.1
  have htd : V_told M := hV.2.2.2.2.2.2.1
  show f_X10_all S0 0 p1 M (fun r m1 => f_X11_all S0 142 p1 m1 (AN r K))
  unfold f_X10_all
  refine refuses_ok hF hC.2.1 c1 (fun g1 g2 g3 => ⟨fun _ => ?_, fun z => absurd rfl z⟩) (fun hx => ⟨fun z => absurd z (by decide), fun _ => ?_⟩)
  · obtain ⟨n, hn0, rfl⟩ := nI_of g1
    have hn : n ≤ 20 := by
      rcases Nat.lt_or_ge 20 n with z | z
      · exact absurd (show nI 20 < nI n from nI_lt z hn0) g2
      · exact z
    have model : ∀ (M1 : Mm) (r : Int32), Fr dE eG M M1 → V_walk M1 → (r = if (bf C ky (cT C * (ky + 1)) A B (Ed C ky (cT C * (ky + 1)) A B n * (cT C * (ky + 1)))).length ≤ 4000 then nI (bf C ky (cT C * (ky + 1)) A B (Ed C ky (cT C * (ky + 1)) A B n * (cT C * (ky + 1)))).length else -3) → f_X11_all S0 142 (nI n) M1 (AN r K) := by
      intro M1 r f1 w1 hr
      have hF1 := FX_fr f1 hF
      have hC1 := CM_dE f1 hCM
      unfold f_X11_all
      simp only [forall_eq]
      refine isRun_ok (nt := cT C) hC1.2.1 c1 (fun _ _ _ => ⟨fun z => absurd z (by decide), fun _ => ?_⟩) (fun w => ?_)
      · refine runM (ky := ky) (A := A) (B := B) (F := F) hF1 hC1 ((f1.1 142 27 rfl).trans k27) (MS_ag (Fr_row f1 _ fun _ => rfl) (Fr_row f1 _ fun _ => rfl) (Fr_row f1 _ fun _ => rfl) (Fr_row f1 _ fun _ => rfl) hs) ⟨(f1.1 142 28 rfl).trans hf.1, (f1.1 142 29 rfl).trans hf.2.1, (f1.1 142 30 rfl).trans hf.2.2.1, (f1.1 142 31 rfl).trans hf.2.2.2⟩ (fun M2 f2 b2 r2 _ w2 t2 rr2 i2 => ?_) w1
        have t2' : V_told M2 := t2 (told_fr f1 rfl rfl rfl rfl htd)
        have cb : ∀ (M3 : Mm) (Q : Mm → Prop), Fr dQ eP M2 M3 → (∀ M4, V M4 → M4.1 142 44 = M3.1 142 44 → Q M4) → f_X11_comesBack S0 142 M3 Q := by
          intro M3 Q f3 hQ
          refine comes_ok (FX_fr f3 b2.1) (RM_dQ f3 r2) (fun M4 f4 m4 mf4 z4 => hQ M4 ?_ (f4.1 142 44 rfl))
          have f23 : Fr dRun eRun M M3 := Fr_tr (dE_run f1) (Fr_tr f2 (dQ_run f3))
          refine V_run hV (Fr_tr f23 (dCb_run f4)) z4 hm m4 mf4 ?_ ?_
          · exact walk_fr f4 rfl (fun _ => rfl) (fun _ => rfl) (walk_fr f3 rfl (fun _ => rfl) (fun _ => rfl) w2)
          · exact told_fr f4 rfl rfl rfl rfl (told_fr f3 rfl rfl rfl rfl t2')
        refine explores_ok (mo := 4000) b2 hky rfl g3 hsi r2.1 r2.2.1 hn (by omega) (by omega) (fun hle M3 f3 W3 D3 => ?_) (fun hgt M3 f3 => ?_)
        · refine cb M3 _ f3 (fun M4 v4 e44 => ⟨fun z => absurd z (by decide), fun _ => ?_⟩)
          rw [e44, W3.1]
          rw [if_pos hle] at hr
          exact an_ok hr (hK _ v4)
        · refine cb M3 _ f3 (fun M4 v4 e44 => ⟨fun _ => ?_, fun z => absurd rfl z⟩)
          rw [if_neg (by omega)] at hr
          exact an_ok hr (hK _ v4)
      · exact (w.elim g1 (fun w => w.elim g2 (fun w => by omega))).elim
    unfold f_X10_explored
    simp only [fx_0_1 hF, fx_0_3 hF, ex_some, s0_10, s0_113, true_and]
    refine explore_ok (mo := 4000) hF hwk hC hmC k13 hky rfl (Or.inl rfl) hm.2.2.1 hm.2.2.2.1 hsi (by omega) (by omega) hn (fun M' _ h12 _ => SO_0 h12) (fun M1 f1 X1 T1 => ⟨Or.inr rfl, fun z => absurd z (by decide), fun _ => ?_⟩) (fun hgt k' M1 f1 W1 => ⟨Or.inl rfl, fun _ => ?_, fun z => absurd rfl z⟩)
    · have hF1 := FX_fr f1 hF
      simp only [fx_0_1 hF1, ex_some, s0_10, true_and]
      rw [X1.1.1]
      exact model M1 _ f1 (WK_walk X1.1 (by rw [f1.2.2]; exact hwk.2)) (by rw [if_pos X1.2.2.2.2])
    · exact model M1 _ f1 (WK_walk W1 (by rw [f1.2.2]; exact hwk.2)) (by rw [if_neg (by omega)])
  · unfold f_X11_all
    simp only [forall_eq]
    refine isRun_ok (nt := cT C) hCM.2.1 c1 (fun a b c => ?_) (fun _ => ⟨fun _ => an_ok rfl (hK _ (V_thr _ hV)), fun z => absurd rfl z⟩)
    exact (hx.elim a (fun w => w.elim b (fun w => by omega))).elim
