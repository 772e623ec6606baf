/-! ask -/
theorem txt_of {M : Mm} (hV : V M) : ∃ (n : Nat) (c : Nat → Nat), n ≤ 100 ∧ M.1 1 1 = nI n ∧ M.1 142 4 = nI n ∧ ∀ j, j < n → M.1 2 j = nI (c j) ∧ M.1 144 j = nI (c j) ∧ c j < 256 := by
  obtain ⟨n, h1, h2, h3, h4⟩ := hV.2.1
  refine ⟨n, fun j => (M.1 2 j).toNatClampNeg, h1, h2, h3, fun j hj => ?_⟩
  obtain ⟨e, q, hq, eq⟩ := h4 j hj
  have hc : (M.1 2 j).toNatClampNeg = q := by rw [eq]; exact nI_clamp (by omega)
  show M.1 2 j = nI (M.1 2 j).toNatClampNeg ∧ M.1 144 j = nI (M.1 2 j).toNatClampNeg ∧ (M.1 2 j).toNatClampNeg < 256
  rw [hc]
  exact ⟨eq, e.symm.trans eq, hq⟩
/-- what the model's reading changes -/
def dRe : Nat → Nat → Bool := fun b j => (b == 142 && (j == 0 || (4 ≤ j && j ≤ 8 : Bool) || j == 13)) || ((b == 145 || b == 146 || b == 148) && (73 ≤ j : Bool)) || (b == 147 && (64 * 73 ≤ j : Bool))
theorem dRw_re {M M' : Mm} (h : Fr (dRw 74) eN M M') : Fr dRe eN M M' :=
  Fr_mono (fun b j hd => by unfold dRe at hd; unfold dRw; simp only [Bool.or_eq_false_iff, Bool.and_eq_false_iff, beq_eq_false_iff_ne, decide_eq_false_iff_not] at *; omega) (fun b hd => hd) h
theorem dBg_re {M M' : Mm} (h : Fr dBg eN M M') : Fr dRe eN M M' :=
  Fr_mono (fun b j hd => by unfold dRe at hd; unfold dBg; simp only [Bool.or_eq_false_iff, Bool.and_eq_false_iff, beq_eq_false_iff_ne, decide_eq_false_iff_not] at *; omega) (fun b hd => hd) h
theorem dCp_re {M M' : Mm} (h : Fr (dCp 73) eN M M') : Fr dRe eN M M' :=
  Fr_mono (fun b j hd => by unfold dRe at hd; unfold dCp; simp only [Bool.or_eq_false_iff, Bool.and_eq_false_iff, beq_eq_false_iff_ne, decide_eq_false_iff_not] at *; omega) (fun b hd => hd) h
theorem dRe_rd {P : Nat} {M M' : Mm} (h : Fr dRe eN M M') : Fr (Drd P) E3 M M' :=
  Fr_mono (fun b j hd => by unfold Drd at hd; unfold dRe; simp only [Bool.or_eq_false_iff, Bool.and_eq_false_iff, beq_eq_false_iff_ne, decide_eq_false_iff_not] at *; omega) (fun b hd => rfl) h
theorem dAs_rd {P : Nat} {M M' : Mm} (h : Fr (dAs P) eN M M') : Fr (Drd P) E3 M M' :=
  Fr_mono (fun b j hd => by unfold Drd at hd; unfold dAs; simp only [Bool.or_eq_false_iff, Bool.and_eq_false_iff, beq_eq_false_iff_ne, decide_eq_false_iff_not] at *; omega) (fun b hd => rfl) h
theorem dTd_rd {P : Nat} {M M' : Mm} (h : Fr dTd eTd M M') : Fr (Drd P) E3 M M' :=
  Fr_mono (fun b j hd => by unfold Drd at hd; unfold dTd; simp only [Bool.or_eq_false_iff, Bool.and_eq_false_iff, beq_eq_false_iff_ne, decide_eq_false_iff_not] at *; omega) (fun b hd => by unfold E3 at hd; unfold eTd; simp only [Bool.or_eq_false_iff, beq_eq_false_iff_ne] at *; omega) h
theorem dWy_rd {P : Nat} {M M' : Mm} (h : Fr dWy eWy M M') : Fr (Drd P) E3 M M' :=
  Fr_mono (fun b j hd => by unfold Drd at hd; unfold dWy; simp only [Bool.or_eq_false_iff, Bool.and_eq_false_iff, beq_eq_false_iff_ne, decide_eq_false_iff_not] at *; omega) (fun b hd => by unfold E3 at hd; unfold eWy; simp only [Bool.or_eq_false_iff, beq_eq_false_iff_ne] at *; omega) h
theorem m1q : ∀ q, q < 100 → ¬ (0 : Int32) ≤ (-1 : Int32) - nI q ∧ (-1 : Int32) - nI q ≠ 0 := by decide +kernel
theorem reads_ok {c : Nat → Nat} {n len N q : Nat} {b : Bool} {e : List Nat} {M : Mm} {K : Int32 → Mm → Prop} (hR : RX c len true N 0 0 0 [] b q e) (hF : FX M) (h4 : M.1 142 4 = nI n) (hn : n ≤ 100) (hlen : len = if 60 < n then 60 else n) (htx : ∀ j, j < n → M.1 144 j = nI (c j) ∧ c j < 256) (he : b = true → e.length ≤ 60)
    (hbad : (b = true → q ≠ len) → ∀ M', Fr dRe eN M M' → M'.1 142 4 = 0 → K ((-1 : Int32) - nI q) M') (hlong : b = true → q = len → 60 < n → ∀ M', Fr dRe eN M M' → M'.1 142 4 = 0 → K (-61) M') (hok : b = true → q = len → n ≤ 60 → ∀ M', Fr dRe eN M M' → M'.1 142 4 = 0 → RwM M' 73 e → K 0 M') : f_X11_reads S0 142 M K := by
  have hle : len ≤ 60 ∧ len ≤ n := by rw [hlen]; split <;> omega
  have bd := RX_bd _ _ _ _ _ _ _ _ hR
  have hq : q ≤ len := by
    rcases hb : b with _ | _
    · exact (bd.2.2 hb).2 (by omega)
    · exact (bd.1 (by omega) hb).2.1
  have mq := m1q q (by omega)
  unfold f_X11_reads
  refine begM_ok (ak := true) h4 hn hlen (fun M1 f1 g4 g5 g7 g8 g6 => ?_)
  have f1' := dBg_re f1
  have key : ∀ M2, Fr (dRw 74) eN M1 M2 → Fr dRe eN M M2 ∧ M2.1 142 4 = 0 := fun M2 f2 => ⟨Fr_tr f1' (dRw_re f2), (f2.1 142 4 rfl).trans g4⟩
  refine readM_ok hR (FX_fr f1 hF) hn hlen (fun j hj => by rw [f1.1 144 j rfl]; exact htx j (by omega)) g5 g7 g8 g6 (fun hb M2 f2 => ⟨fun y => absurd y mq.2, fun _ => hbad hb M2 (key M2 f2).1 (key M2 f2).2⟩) (fun h1 h2 h3 M2 f2 => ⟨fun y => absurd y (by decide), fun _ => hlong h1 h2 h3 M2 (key M2 f2).1 (key M2 f2).2⟩) (fun h1 h2 h3 M2 f2 rw2 => ⟨fun _ => ?_, fun y => absurd rfl y⟩)
  have f12 := (key M2 f2).1
  refine copies_ok (r := 74) (r' := 73) (by omega) (by omega) (by omega) (FX_fr f12 hF) (fun M3 f3 c5 c6 c8 c7 => ?_)
  exact hok h1 h2 h3 M3 (Fr_tr f12 (dCp_re f3)) ((f3.1 142 4 rfl).trans (key M2 f2).2) (Rw_cp c8 c7 (he h1) rw2)
theorem V_rdF {M M' : Mm} {P : Nat} (h : V M) (h6 : M.2.2 1 6 = some P) (f : Fr (Drd P) E3 M M') (e1 : M'.1 1 1 = 0) (e4 : M'.1 142 4 = 0) (w2 : V_told M') : V M' :=
  V_rd h h6 f.1 f.2.1 f.2.2 ⟨0, by omega, e1, e4, fun j hj => absurd hj (by omega)⟩ w2
theorem MO_rd {M M' : Mm} {P A B : Nat} {F : F4} (hP : P ∈ PR) (h : Fr (Drd P) E3 M M') (hm : MO M 113 A B F) : MO M' 113 A B F := by
  have h1 : P + 5 ≤ 103 := by
    have : ∀ P ∈ PR, P + 5 ≤ 103 := by decide
    exact this P hP
  unfold MO at *
  rw [Fr_row h 113 (fun j => by unfold Drd; simp only [Bool.or_eq_false_iff, Bool.and_eq_false_iff, beq_eq_false_iff_ne, decide_eq_false_iff_not]; omega), h.2.1 113 rfl]; exact hm
theorem MS_rd {M M' : Mm} {P A B : Nat} {F : F4} (hP : P ∈ PR) (h : Fr (Drd P) E3 M M') (hs : MS M A B) (hf : MF M F) : MS M' A B ∧ MF M' F := by
  have h1 : P + 5 ≤ 103 := by
    have : ∀ P ∈ PR, P + 5 ≤ 103 := by decide
    exact this P hP
  have d : ∀ b j, (b = 142 ∧ 28 ≤ j) ∨ (150 ≤ b) → Drd P b j = false := by
    intro b j hb
    unfold Drd
    simp only [Bool.or_eq_false_iff, Bool.and_eq_false_iff, beq_eq_false_iff_ne, decide_eq_false_iff_not]
    omega
  exact ⟨MS_ag (Fr_row h _ fun _ => d _ _ (by omega)) (Fr_row h _ fun _ => d _ _ (by omega)) (Fr_row h _ fun _ => d _ _ (by omega)) (Fr_row h _ fun _ => d _ _ (by omega)) hs, ⟨(h.1 142 28 (d _ _ (by omega))).trans hf.1, (h.1 142 29 (d _ _ (by omega))).trans hf.2.1, (h.1 142 30 (d _ _ (by omega))).trans hf.2.2.1, (h.1 142 31 (d _ _ (by omega))).trans hf.2.2.2⟩⟩
theorem E1_rd {M M' : Mm} {P a : Nat} (ha : a = 19 ∨ a = 149) (h : E1 a M M') : Fr (Drd P) E3 M M' :=
  Fr_E1 (fun j => by unfold Drd; rcases ha with rfl | rfl <;> simp) (Fr_refl _ _ _) h
theorem op12 (M : Mm) (K : Mm → Prop) (hV : V M) (hK : ∀ m, V m → K m) : OP12 M K := by
  have hF := hV.1
  obtain ⟨C, mu, ky, A, B, F, hC, hCM, hmC, hmM, hky, k13, k27, hm, hs, hf, hsi⟩ := run_of hV
  obtain ⟨n, c, hn, t1, t4, htx⟩ := txt_of hV
  have htd : V_told M := hV.2.2.2.2.2.2.1
  obtain ⟨P, hP, h6, -⟩ := prg_ne hV.2.2.2.2.2.2.2.2.2.1
  obtain ⟨len, hlen⟩ : ∃ len, len = if 60 < n then 60 else n := ⟨_, rfl⟩
  have hle : len ≤ 60 ∧ len ≤ n := by rw [hlen]; split <;> omega
  have hp := pr_le P hP
  have hP1 : ∀ P ∈ PR, P ≠ 1 ∧ P + 5 ≤ 103 ∧ (2 < P ∨ P + 5 < 2) := by decide
  obtain ⟨z1, z2, z3⟩ := hP1 P hP
  obtain ⟨b, q, e, hR⟩ := RX_ex (c := c) (len := len) (ak := true) 2000 0 0 0 [] (fun _ => ⟨rfl, by omega⟩) (fun z => absurd z (by omega))
  have bd := RX_bd _ _ _ _ _ _ _ _ hR
  have hq : q ≤ len := by
    rcases hb : b with _ | _
    · exact (bd.2.2 hb).2 (by omega)
    · exact (bd.1 (by omega) hb).2.1
  have he : b = true → e.length ≤ 60 := fun hb => by have := bd.1 (by omega) hb; omega
  have wf : b = true → WFx e := fun hb => by
    subst hb
    exact ⟨RX_wf _ _ _ _ _ _ _ hR (fun z => absurd z (by omega)) 0, he rfl⟩
  have mq := m1q q (by omega)
  show f_X10_ask S0 0 M (fun r m1 => f_X11_ask S0 142 m1 (AN r K))
  unfold f_X10_ask f_X10_takeText
  simp only [fx_0_0 hF, ex_some, s0_1, true_and, forall_eq, t1]
  have f0 : Fr (Drd P) E3 M (stI M 1 1 0) := Fr_I (by unfold Drd; simp) (Fr_refl _ _ _)
  -- behind the class
  have dt : ∀ b' j, (b' = 142 ∧ (j = 4 ∨ j = 1)) ∨ b' = 144 ∨ (b' = 1 ∧ j = 1) ∨ b' = 116 → dAs P b' j = false := by
    intro b' j h
    unfold dAs
    simp only [Bool.or_eq_false_iff, Bool.and_eq_false_iff, beq_eq_false_iff_ne, decide_eq_false_iff_not]
    omega
  have model : ∀ (M1 M2 : Mm) (r : Int32), Fr (dAs P) eN (stI M 1 1 0) M1 → Fr (Drd P) E3 M1 M2 → M2.1 1 1 = M1.1 1 1 → M2.1 142 4 = M1.1 142 4 → ((b = true → q ≠ len) → r = (-1 : Int32) - nI q ∧ V_told M2) → (b = true → q = len → 60 < n → r = -61 ∧ V_told M2) → (b = true → q = len → n ≤ 60 → r = 0 ∧ M2.1 116 1 = 1 ∧ M2.2.1 117 0 = (evv (thg A B F) e).toInt64) → f_X11_ask S0 142 M2 (AN r K) := by
    intro M1 M2 r f1 f2 y1 y4 hbad hlong hok
    have f02 : Fr (Drd P) E3 M M2 := Fr_tr f0 (Fr_tr (dAs_rd f1) f2)
    have hF2 := FX_fr f02 hF
    have e1 : M2.1 1 1 = 0 := by rw [y1, f1.1 1 1 (dt _ _ (by omega)), rI_eq]
    have e4 : M2.1 142 4 = nI n := by rw [y4, f1.1 142 4 (dt _ _ (by omega)), rI_ne (by omega)]; exact t4
    have fin : ∀ M3, Fr dRe eN M2 M3 → M3.1 142 4 = 0 → ∀ M4, Fr (Drd P) E3 M3 M4 → M4.1 1 1 = M3.1 1 1 → M4.1 142 4 = M3.1 142 4 → V_told M4 → V M4 := fun M3 f3 g3 M4 f4 x1 x4 td => V_rdF hV h6 (Fr_tr f02 (Fr_tr (dRe_rd f3) f4)) (by rw [x1, f3.1 1 1 rfl]; exact e1) (x4.trans g3) td
    unfold f_X11_ask
    simp only [forall_eq]
    have f3 : Fr dRe eN M2 (stI M2 142 0 0) := Fr_I rfl (Fr_refl _ _ _)
    have i144 : ∀ j, j < n → (stI M2 142 0 0).1 144 j = nI (c j) ∧ c j < 256 := fun j hj => by
      rw [rI_ne (by omega), f02.1 144 j (by unfold Drd; simp only [Bool.or_eq_false_iff, Bool.and_eq_false_iff, beq_eq_false_iff_ne, decide_eq_false_iff_not]; omega)]
      exact (htx j hj).2
    refine reads_ok hR (fx_I hF2) (by rw [rI_ne (by omega)]; exact e4) hn hlen i144 he (fun hb M3 g3 g4 => ⟨fun z => absurd z mq.1, fun _ => ?_⟩) (fun h1 h2 h3 M3 g3 g4 => ⟨fun z => absurd z (by decide), fun _ => ?_⟩) (fun h1 h2 h3 M3 g3 g4 rw3 => ⟨fun _ => ?_, fun z => absurd (by decide) z⟩)
    · obtain ⟨er, td⟩ := hbad hb
      have f23 := Fr_tr f3 g3
      exact an_ok er (hK _ (fin M3 f23 g4 M3 (Fr_refl _ _ _) rfl rfl (told_fr f23 rfl rfl rfl rfl td)))
    · obtain ⟨er, td⟩ := hlong h1 h2 h3
      have f23 := Fr_tr f3 g3
      exact an_ok er (hK _ (fin M3 f23 g4 M3 (Fr_refl _ _ _) rfl rfl (told_fr f23 rfl rfl rfl rfl td)))
    · obtain ⟨er, td1, td2⟩ := hok h1 h2 h3
      have f23 := Fr_tr f3 g3
      have f03 : Fr (Drd P) E3 M M3 := Fr_tr f02 (dRe_rd f23)
      obtain ⟨ms3, mf3⟩ := MS_rd (F := F) hP f03 hs hf
      have hF3 := FX_fr f03 hF
      skip
      refine worked_ok (r := 73) (A := A) (B := B) (F := F) (by omega) (fx_I hF3) ms3 mf3 rw3 (wf h1) (fun M4 hE => ?_)
      have f34 : Fr (Drd P) E3 (stI M3 142 1 0) M4 := E1_rd (Or.inr rfl) hE
      have e44 : M4.1 142 1 = nI 0 := by rw [hE.1 142 (by omega)]; exact rI_eq
      refine enN (k := 0) (FX_fr f34 (fx_I hF3)) e44 (by omega) (fun M5 f5 u1 u2 u3 => an_ok er (hK _ (fin M3 f23 g4 M5 ?_ ?_ ?_ ⟨1, by omega, ?_, u1, fun j hj => ?_⟩)))
      · exact Fr_tr (Fr_tr (Fr_I (by unfold Drd; simp) (Fr_refl _ _ _)) f34) (dWy_rd f5)
      · rw [f5.1 1 1 rfl, hE.1 1 (by omega)]; rfl
      · rw [f5.1 142 4 rfl, hE.1 142 (by omega), rI_ne (by omega)]
      · rw [f5.1 116 1 rfl, hE.1 116 (by omega)]
        show M3.1 116 1 = _
        rw [f23.1 116 1 rfl]; exact td1
      · have ej : j = 0 := by omega
        rw [ej, u3, f5.2.1 117 rfl, hE.2]
        show M3.2.1 117 0 = _
        rw [f23.2.1 117 rfl]; exact td2
  have hF0 := FX_fr f0 hF
  refine asked_ok (c := c) hR hF0 h6 hP hn hlen (fun j hj => by rw [rI_ne (by omega)]; exact ⟨(htx j hj).1, (htx j hj).2.2⟩) (fun hb M1 f1 => ⟨fun z => absurd z (nI_pos (by omega)), fun _ => ?_⟩) (fun h1 h2 h3 M1 f1 => ⟨fun z => absurd z (by decide), fun _ => ?_⟩) (fun h1 h2 h3 M1 f1 g6 g40 g41 g5 => ⟨fun _ => ?_, fun z => absurd (by decide) z⟩)
  · refine model M1 M1 _ f1 (Fr_refl _ _ _) rfl rfl (fun _ => ⟨rfl, ?_⟩) (fun h1 h2 => absurd h2 (hb h1)) (fun h1 h2 => absurd h2 (hb h1))
    exact V_told_ag (M := M) (by rw [f1.1 116 1 (dt _ _ (by omega))]; rfl) (by rw [f1.1 142 1 (dt _ _ (by omega))]; rfl) (f1.2.1 117 rfl) (f1.2.1 143 rfl) htd
  · refine model M1 M1 _ f1 (Fr_refl _ _ _) rfl rfl (fun h => absurd h2 (h h1)) (fun _ _ _ => ⟨by decide, ?_⟩) (fun _ _ h => by omega)
    exact V_told_ag (M := M) (by rw [f1.1 116 1 (dt _ _ (by omega))]; rfl) (by rw [f1.1 142 1 (dt _ _ (by omega))]; rfl) (f1.2.1 117 rfl) (f1.2.1 143 rfl) htd
  · have f01 : Fr (Drd P) E3 M M1 := Fr_tr f0 (dAs_rd f1)
    have hF1 := FX_fr f01 hF
    have e16 : M1.2.2 1 6 = some P := by rw [f01.2.2]; exact h6
    simp only [fx_0_6 hF1, fx_0_2 hF1, fx_0_0 hF1, fx_0_3 hF1, e16, ex_some, s0_1, s0_11, s0_113, (pr_sh P hP).1, true_and]
    have hPE : PE M1 P 0 e := ⟨by omega, by rw [g6]; decide, 0, by have := he h1; omega, g40, by rw [Nat.zero_add e.length]; exact g41, fun j hj => by rw [Nat.zero_add]; exact g5 j hj⟩
    refine value_ok (q := 113) hP hF1 (by omega) (MO_rd hP f01 hm) hPE (Or.inl (wf h1)) (fun M2 hE => ?_)
    have f12 : Fr (Drd P) E3 M1 M2 := E1_rd (Or.inl rfl) hE
    have hF2 := FX_fr f12 hF1
    simp only [s0_116, true_and]
    refine one_ok hF2 (fun M3 f3 u1 u2 => ?_)
    refine model M1 M3 0 f1 (Fr_tr f12 (dTd_rd f3)) ?_ ?_ (fun h => absurd h2 (h h1)) (fun _ _ h => by omega) (fun _ _ _ => ⟨rfl, u1, u2⟩)
    · rw [f3.1 1 1 rfl, hE.1 1 (by omega)]
    · rw [f3.1 142 4 rfl, hE.1 142 (by omega)]
