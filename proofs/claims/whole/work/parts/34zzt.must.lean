/-! must -/
theorem fins_pl : ∀ x ∈ fins, ¬ ((x.1 = 1 ∧ x.2.1 = 6) ∨ (x.1 = 11 ∧ (x.2.1 = 8 ∨ x.2.1 = 9)) ∨ x.1 = 12 ∨ x.1 = 13 ∨ x.1 = 14) := by decide +kernel
theorem FX_pl {M m : Mm} (h : ∀ b j, ¬ ((b = 1 ∧ j = 6) ∨ (b = 11 ∧ (j = 8 ∨ j = 9)) ∨ b = 12 ∨ b = 13 ∨ b = 14) → m.2.2 b j = M.2.2 b j) (hF : FX M) : FX m := fun q hq => by
  rw [h _ _ (fins_pl q hq)]; exact hF q hq
theorem prg_sw8 {M M' : Mm} {P p : Nat} (h : V_prg M) (hP : M.2.2 1 6 = some P) (hp : M.2.2 11 8 = some p) (e : ∀ b j, ¬ (b = 1 ∧ j = 6) → ¬ (b = 11 ∧ j = 8) → M'.2.2 b j = M.2.2 b j) (e1 : M'.2.2 1 6 = some p) (e2 : M'.2.2 11 8 = some P) : V_prg M' := by
  obtain ⟨⟨q, hq, hnd, hmem⟩, hz⟩ := h
  match q, hq, hnd, hmem with
  | [], hq, _, _ => exact absurd hq (by simp [plc])
  | [x0], hq, _, _ => exact absurd hq (by simp [plc])
  | x0 :: x1 :: r, hq, hnd, hmem =>
    unfold plc at hq
    rw [List.map_cons, List.map_cons, List.cons.injEq, List.cons.injEq] at hq
    obtain ⟨a0, a1, a2⟩ := hq
    rw [hP, Option.some.injEq] at a0
    rw [hp, Option.some.injEq] at a1
    refine ⟨⟨x1 :: x0 :: r, ?_, (List.Perm.swap x0 x1 r).nodup_iff.mpr hnd |> fun z => z, fun y hy => hmem y ?_⟩, fun j hj => by rw [e 17 j (by omega) (by omega)]; exact hz j hj⟩
    · unfold plc
      rw [List.map_cons, List.map_cons, ← a2, e1, e2, a0, a1]
      simp only [e 11 9 (by omega) (by omega), e 12 0 (by omega) (by omega), e 12 1 (by omega) (by omega), e 12 2 (by omega) (by omega), e 12 3 (by omega) (by omega), e 13 0 (by omega) (by omega), e 13 1 (by omega) (by omega), e 13 2 (by omega) (by omega), e 14 0 (by omega) (by omega), e 14 1 (by omega) (by omega), e 14 2 (by omega) (by omega), e 14 3 (by omega) (by omega), e 14 4 (by omega) (by omega)]
    · simp only [List.mem_cons] at hy ⊢
      rcases hy with z | z | z
      · exact Or.inr (Or.inl z)
      · exact Or.inl z
      · exact Or.inr (Or.inr z)
/-- must's program is none of the tasks', bolts', patches' -/
theorem prg_ne8 {M : Mm} (h : V_prg M) {p : Nat} (hp8 : M.2.2 11 8 = some p) : p ∈ PR ∧ (∀ t p', t < 4 → M.2.2 12 t = some p' → p' ≠ p ∧ p' ∈ PR) ∧ (∀ b p', b < 3 → M.2.2 13 b = some p' → p' ≠ p ∧ p' ∈ PR) ∧ (∀ j p', j < 5 → M.2.2 14 j = some p' → p' ≠ p ∧ p' ∈ PR) := by
  obtain ⟨P, hP, h6, -⟩ := prg_ne h
  have hs := prg_sw8 (M' := stR (stR M 1 6 (some p)) 11 8 (some P)) h h6 hp8 (fun b j x1 x2 => by
    show (if b = 11 ∧ j = 8 then some P else if b = 1 ∧ j = 6 then some p else M.2.2 b j) = _
    rw [if_neg x2, if_neg x1]) (by
    show (if (1 : Nat) = 11 ∧ (6 : Nat) = 8 then some P else if (1 : Nat) = 1 ∧ (6 : Nat) = 6 then some p else M.2.2 1 6) = _
    rw [if_neg (by omega), if_pos ⟨rfl, rfl⟩]) (by
    show (if (11 : Nat) = 11 ∧ (8 : Nat) = 8 then some P else if (11 : Nat) = 1 ∧ (8 : Nat) = 6 then some p else M.2.2 11 8) = _
    rw [if_pos ⟨rfl, rfl⟩])
  obtain ⟨P', g1, g2, g3, g4, g5, g7⟩ := prg_ne hs
  have e : P' = p := by
    have : (stR (stR M 1 6 (some p)) 11 8 (some P)).2.2 1 6 = some p := by
      show (if (1 : Nat) = 11 ∧ (6 : Nat) = 8 then some P else if (1 : Nat) = 1 ∧ (6 : Nat) = 6 then some p else M.2.2 1 6) = _
      rw [if_neg (by omega), if_pos ⟨rfl, rfl⟩]
    rw [g2, Option.some.injEq] at this; exact this
  subst e
  have r : ∀ b j, b ≠ 1 → b ≠ 11 → (stR (stR M 1 6 (some P')) 11 8 (some P)).2.2 b j = M.2.2 b j := fun b j x1 x2 => by
    show (if b = 11 ∧ j = 8 then some P else if b = 1 ∧ j = 6 then some P' else M.2.2 b j) = _
    rw [if_neg (by omega), if_neg (by omega)]
  exact ⟨g1, fun t p' ht hh => g4 t p' ht (by rw [r _ _ (by omega) (by omega)]; exact hh), fun b p' hb hh => g5 b p' hb (by rw [r _ _ (by omega) (by omega)]; exact hh), fun j p' hj hh => g7 j p' hj (by rw [r _ _ (by omega) (by omega)]; exact hh)⟩
theorem AGP_of {M M' : Mm} {P p : Nat} (hP : P ∈ PR) (hp : p ∈ PR) (hne : p ≠ P) (I : ∀ b j, prc b → (∀ k, k < 6 → b ≠ P + k) → M'.1 b j = M.1 b j) : AGP M M' p := by
  intro i hi
  funext j
  exact I _ _ (pr_prc hp i hi) (fun k hk => pr_dis p hp P hP hne i hi k hk)
theorem op3 (M : Mm) (K : Mm → Prop) (hV : V M) (hK : ∀ m, V m → K m) : OP3 M K := by
  have hF := hV.1
  obtain ⟨n, c, hn, t1, t4, htx⟩ := txt_of hV
  have htd : V_told M := hV.2.2.2.2.2.2.1
  have hprg : V_prg M := hV.2.2.2.2.2.2.2.2.2.1
  have hh := hV
  obtain ⟨h1', h2', h3', h4', h5', h6', h7', h8', h9', h10', h11', h12', h13', h14', h15', h16', h17', h18', h19'⟩ := hh
  obtain ⟨P, hP, h6, q3, q4, q5, q7⟩ := prg_ne hprg
  obtain ⟨p8, hp8, hm8, -⟩ := h12'
  obtain ⟨len, hlen⟩ : ∃ len, len = if 60 < n then 60 else n := ⟨_, rfl⟩
  have hle : len ≤ 60 ∧ len ≤ n := by rw [hlen]; split <;> omega
  have hP1 : ∀ P ∈ PR, P ≠ 1 ∧ P + 5 ≤ 103 ∧ (2 < P ∨ P + 5 < 2) ∧ 4 ≤ P ∧ ((4 ≤ P ∧ P + 5 ≤ 9) ∨ (20 ≤ P ∧ P + 5 ≤ 103)) := by decide
  obtain ⟨z1, z2, z3, z4, z5⟩ := hP1 P hP
  obtain ⟨y1, y2, y3, y4, y5⟩ := hP1 p8 hp8
  have shp8 := (pr_sh p8 hp8).1
  show f_X10_must S0 0 M (fun r m1 => f_X11_must S0 142 m1 (AN r K))
  unfold f_X10_must f_X10_takeText
  simp only [fx_0_0 hF, ex_some, s0_1, true_and, forall_eq, t1]
  have f0 : Fr (Drd P) E3 M (stI M 1 1 0) := Fr_I (by unfold Drd; simp) (Fr_refl _ _ _)
  have hF0 := FX_fr f0 hF
  have tz : ∀ M', M'.1 1 1 = 0 → M'.1 142 4 = 0 → V_txt M' := fun M' a b => ⟨0, by omega, a, b, fun j hj => absurd hj (by omega)⟩
  refine ⟨fun en => ?_, fun en => ?_⟩
  · -- no letters: must is cleared
    have n0 : n = 0 := (nI_eq (by omega) (by omega)).mp en
    subst n0
    obtain ⟨w1, w4, w5, w7⟩ := prg_ne8 hprg hm8
    have m8 : (stI M 1 1 0).2.2 11 8 = some p8 := hm8
    simp only [fx_0_2 hF0, ex_some, s0_11, m8, shp8, true_and]
    unfold f_X5_clear
    simp only [forall_eq]
    unfold f_X11_must
    simp only [forall_eq]
    refine begM_ok (n := 0) (len := 0) (ak := true) ?_ (by omega) (by decide) (fun M2 f2 g4 g5 g7 g8 g6 => ⟨fun _ => ?_, fun z => absurd rfl z⟩)
    · rw [rI_ne (by omega), rI_ne (by omega), rI_ne (by omega), rI_ne (by omega), rI_ne (by omega)]; exact t4
    · generalize hM3 : stI M2 142 19 0 = M3
      have I : ∀ b j, ¬ (b = 1 ∧ j = 1) → b ≠ p8 → ¬ (b = 142 ∧ (j = 0 ∨ (4 ≤ j ∧ j ≤ 8) ∨ j = 19)) → M3.1 b j = M.1 b j := fun b j x1 x2 x3 => by
        rw [← hM3, rI_ne (by omega), f2.1 b j (by unfold dBg; simp only [Bool.and_eq_false_iff, beq_eq_false_iff_ne, decide_eq_false_iff_not]; omega), rI_ne (by omega), rI_ne (by omega), rI_ne (by omega), rI_ne (by omega), rI_ne (by omega)]
      have R : M3.2 = M.2 := by
        rw [← hM3]
        show M2.2 = M.2
        exact Prod.ext (funext fun b => f2.2.1 b rfl) f2.2.2
      have row : ∀ b, b ≠ 1 → b ≠ p8 → b ≠ 142 → M3.1 b = M.1 b := fun b x1 x2 x3 => funext fun j => I b j (by omega) (by omega) (by omega)
      have agp : ∀ p', p' ≠ p8 ∧ p' ∈ PR → AGP M M3 p' := fun p' hp' => AGP_of hp8 hp'.2 hp'.1 (fun b j hb hk => I b j (by unfold prc at hb; omega) (hk 0 (by omega)) (by unfold prc at hb; omega))
      have agr : ∀ r, AGR M M3 r := fun r => ⟨by rw [row 145 (by omega) (by omega) (by omega)], by rw [row 146 (by omega) (by omega) (by omega)], by rw [row 148 (by omega) (by omega) (by omega)], fun j _ => by rw [row 147 (by omega) (by omega) (by omega)]⟩
      have p6 : M3.1 p8 6 = 0 := by
        rw [← hM3, rI_ne (by omega), f2.1 p8 6 (by unfold dBg; simp only [Bool.and_eq_false_iff, beq_eq_false_iff_ne, decide_eq_false_iff_not]; omega), rI_ne (by omega), rI_ne (by omega), rI_eq]
      refine an_ok rfl (hK _ (V_mk3 hV (fun b j hb => I b j ?_ ?_ ?_) (fun b _ => by rw [R]) (FX_ag (by rw [R]) hF) (by rw [R]) (tz _ ?_ ?_) (V_told_ag (I _ _ (by omega) (by omega) (by omega)) (I _ _ (by omega) (by omega) (by omega)) (by rw [R]) (by rw [R]) htd) (V_prg_ag (by rw [R]) hprg) (V_task_pr (by rw [R]) (fun t p' ht hh => agp p' (w4 t p' ht hh)) (fun r _ => agr r) (I _ _ (by omega) (by omega) (by omega)) (row _ (by omega) (by omega) (by omega)) (row _ (by omega) (by omega) (by omega)) (row _ (by omega) (by omega) (by omega)) h11') ⟨p8, hp8, by rw [R]; exact hm8, Or.inl ⟨p6, by rw [← hM3]; exact rI_eq⟩⟩ (V_bolt_pr (by rw [R]) (fun b p' hb hh => agp p' (w5 b p' hb hh)) (fun b _ => agr _) (I _ _ (by omega) (by omega) (by omega)) h13') (V_ptch_pr (by rw [R]) (fun j p' hj hh => agp p' (w7 j p' hj hh)) (fun j _ => agr _) (I _ _ (by omega) (by omega) (by omega)) (I _ _ (by omega) (by omega) (by omega)) (row _ (by omega) (by omega) (by omega)) (row _ (by omega) (by omega) (by omega)) (row _ (by omega) (by omega) (by omega)) (row _ (by omega) (by omega) (by omega)) h14')))
      · intro z
        unfold D3 at hb
        simp only [Bool.or_eq_false_iff, Bool.and_eq_false_iff, beq_eq_false_iff_ne, decide_eq_false_iff_not] at hb
        omega
      · intro z
        unfold D3 at hb
        simp only [Bool.or_eq_false_iff, Bool.and_eq_false_iff, beq_eq_false_iff_ne, decide_eq_false_iff_not] at hb
        omega
      · intro z
        unfold D3 at hb
        simp only [Bool.or_eq_false_iff, Bool.and_eq_false_iff, beq_eq_false_iff_ne, decide_eq_false_iff_not] at hb
        omega
      · rw [← hM3, rI_ne (by omega), f2.1 1 1 rfl, rI_ne (by omega), rI_ne (by omega), rI_ne (by omega), rI_ne (by omega), rI_eq]
      · rw [← hM3, rI_ne (by omega)]; exact g4
  · -- something is to be read
    have nz : n ≠ 0 := fun z => en (by rw [z]; rfl)
    obtain ⟨b, q, e, hR⟩ := RX_ex (c := c) (len := len) (ak := true) 2000 0 0 0 [] (fun _ => ⟨rfl, by omega⟩) (fun z => absurd z (by omega))
    have bd := RX_bd _ _ _ _ _ _ _ _ hR
    have hq : q ≤ len := by
      rcases hb : b with _ | _
      · exact (bd.2.2 hb).2 (by omega)
      · exact (bd.1 (by omega) hb).2.1
    have he : b = true → e.length ≤ 60 := fun hb => by have := bd.1 (by omega) hb; omega
    have wf : b = true → WFx e := fun hb => by
      subst hb
      exact ⟨RX_wf _ _ _ _ _ _ _ hR (fun z => absurd z (by omega)) 0, he rfl⟩
    have mq := m1q q (by omega)
    have dt : ∀ b' j, (b' = 142) ∨ b' = 144 ∨ (b' = 1 ∧ j = 1) ∨ b' = 116 → dAs P b' j = false := by
      intro b' j h
      unfold dAs
      simp only [Bool.or_eq_false_iff, Bool.and_eq_false_iff, beq_eq_false_iff_ne, decide_eq_false_iff_not]
      omega
    have model : ∀ (M1 M2 : Mm) (r : Int32), Fr (dAs P) eN (stI M 1 1 0) M1 → FX M2 → M2.1 = M1.1 → M2.2.1 = M1.2.1 → ((b = true → q ≠ len) → r = (-1 : Int32) - nI q ∧ M2.2.2 = M1.2.2) → (b = true → q = len → 60 < n → r = -61 ∧ M2.2.2 = M1.2.2) → (b = true → q = len → n ≤ 60 → r = 0 ∧ M2.2.2 = (stR (stR M1 1 6 (some p8)) 11 8 (some P)).2.2 ∧ M1.1 P 6 = 1 ∧ M1.1 (P + 4) 0 = 0 ∧ M1.1 (P + 4) 1 = nI e.length ∧ ∀ j, j < e.length → M1.1 (P + 5) j = nI (e.getD j 0)) → f_X11_must S0 142 M2 (AN r K) := by
      intro M1 M2 r f1 hF2 x1 x2 hbad hlong hok
      have e1 : M2.1 1 1 = 0 := by rw [x1, f1.1 1 1 (dt _ _ (by omega)), rI_eq]
      have e4 : M2.1 142 4 = nI n := by rw [x1, f1.1 142 4 (dt _ _ (by omega)), rI_ne (by omega)]; exact t4
      have f01 : Fr (Drd P) E3 M M1 := Fr_tr f0 (dAs_rd f1)
      have I2 : ∀ b j, Drd P b j = false → M2.1 b j = M.1 b j := fun b j hb => by rw [x1]; exact f01.1 b j hb
      have td2 : V_told M2 := V_told_ag (M := M) (by rw [x1, f1.1 116 1 (dt _ _ (by omega))]; rfl) (by rw [x1, f1.1 142 1 (dt _ _ (by omega))]; rfl) (by rw [x2, f1.2.1 117 rfl]; rfl) (by rw [x2, f1.2.1 143 rfl]; rfl) htd
      have plain : M2.2.2 = M1.2.2 → ∀ M3, Fr dRe eN M2 M3 → M3.1 142 4 = 0 → V M3 := by
        intro rr M3 f3 g4
        have f02 : Fr (Drd P) E3 M M2 := ⟨I2, fun b hb => by rw [x2]; exact f01.2.1 b hb, by rw [rr]; exact f01.2.2⟩
        exact V_rdF hV h6 (Fr_tr f02 (dRe_rd f3)) (by rw [f3.1 1 1 rfl]; exact e1) g4 (told_fr f3 rfl rfl rfl rfl td2)
      unfold f_X11_must
      intro m1 em1
      subst em1
      have f3 : Fr dRe eN M2 (stI M2 142 0 0) := Fr_I rfl (Fr_refl _ _ _)
      refine begM_ok (ak := true) (by rw [rI_ne (by omega)]; exact e4) hn hlen (fun M3 f4 g4 g5 g7 g8 g6 => ⟨fun z => absurd ((nI_eq (by omega) (by omega)).mp (show nI n = nI 0 from z)) nz, fun _ => ?_⟩)
      have f23 : Fr dRe eN M2 M3 := Fr_tr f3 (dBg_re f4)
      have i144 : ∀ j, j < len → M3.1 144 j = nI (c j) ∧ c j < 256 := fun j hj => by
        rw [f23.1 144 j rfl, x1, f1.1 144 j (dt _ _ (by omega)), rI_ne (by omega)]
        exact (htx j (by omega)).2
      refine readM_ok hR (FX_fr f23 hF2) hn hlen i144 g5 g7 g8 g6 (fun hb M4 f5 => ⟨fun z => absurd z mq.1, fun _ => ?_⟩) (fun h1 h2 h3 M4 f5 => ⟨fun z => absurd z (by decide), fun _ => ?_⟩) (fun h1 h2 h3 M4 f5 rw4 => ⟨fun _ => ?_, fun z => absurd (by decide) z⟩)
      · obtain ⟨er, rr⟩ := hbad hb
        exact an_ok er (hK _ (plain rr M4 (Fr_tr f23 (dRw_re f5)) ((f5.1 142 4 rfl).trans g4)))
      · obtain ⟨er, rr⟩ := hlong h1 h2 h3
        exact an_ok er (hK _ (plain rr M4 (Fr_tr f23 (dRw_re f5)) ((f5.1 142 4 rfl).trans g4)))
      · obtain ⟨er, rr, p6, p40, p41, p5⟩ := hok h1 h2 h3
        have f24 := Fr_tr f23 (dRw_re f5)
        refine copies_ok (r := 74) (r' := 69) (by omega) (by omega) (by omega) (FX_fr f24 hF2) (fun M5 f6 c5 c6 c8 c7 => ?_)
        simp only [forall_eq]
        generalize hM6 : stI M5 142 19 1 = M6
        have I : ∀ b j, Drd P b j = false → dCp 69 b j = false → ¬ (b = 142 ∧ j = 19) → M6.1 b j = M.1 b j := fun b j w1 w2 w3 => by
          rw [← hM6, rI_ne (by omega), f6.1 b j w2, f24.1 b j ?_]
          · exact I2 b j w1
          · unfold Drd at w1
            unfold dRe
            simp only [Bool.or_eq_false_iff, Bool.and_eq_false_iff, beq_eq_false_iff_ne, decide_eq_false_iff_not] at *
            omega
        have R6 : M6.2.2 = M2.2.2 := by rw [← hM6]; show M5.2.2 = _; rw [f6.2.2, f24.2.2]
        have J6 : ∀ b, M6.2.1 b = M2.2.1 b := fun b => by rw [← hM6]; show M5.2.1 b = _; rw [f6.2.1 b rfl, f24.2.1 b rfl]
        have lo : ∀ b j, b < 142 → M6.1 b j = M1.1 b j := fun b j hb => by
          rw [← hM6, rI_ne (by omega), f6.1 b j (by unfold dCp; simp only [Bool.or_eq_false_iff, Bool.and_eq_false_iff, beq_eq_false_iff_ne, decide_eq_false_iff_not]; omega), f24.1 b j (by unfold dRe; simp only [Bool.or_eq_false_iff, Bool.and_eq_false_iff, beq_eq_false_iff_ne, decide_eq_false_iff_not]; omega), x1]
        have r2 : ∀ b j, M6.2.2 b j = if b = 11 ∧ j = 8 then some P else if b = 1 ∧ j = 6 then some p8 else M.2.2 b j := fun b j => by
          rw [R6, rr]
          show (if b = 11 ∧ j = 8 then some P else if b = 1 ∧ j = 6 then some p8 else M1.2.2 b j) = _
          rw [f01.2.2]
        have rn : ∀ b, b ≠ 1 → b ≠ 11 → M6.2.2 b = M.2.2 b := fun b w1 w2 => funext fun j => by rw [r2, if_neg (by omega), if_neg (by omega)]
        have dC : ∀ b j, b < 145 ∨ 149 ≤ b → dCp 69 b j = false := fun b j hb => by
          unfold dCp; simp only [Bool.or_eq_false_iff, Bool.and_eq_false_iff, beq_eq_false_iff_ne, decide_eq_false_iff_not]; omega
        have I3 : ∀ b j, D3 b j = false → M6.1 b j = M.1 b j := fun b j hb => by
          refine I b j (Drd_D3 hP hb) ?_ ?_
          · unfold D3 at hb
            unfold dCp
            simp only [Bool.or_eq_false_iff, Bool.and_eq_false_iff, beq_eq_false_iff_ne, decide_eq_false_iff_not] at *
            omega
          · intro w
            unfold D3 at hb
            simp only [Bool.or_eq_false_iff, Bool.and_eq_false_iff, beq_eq_false_iff_ne, decide_eq_false_iff_not] at hb
            omega
        have R3 : ∀ a, (∀ j, D3 a j = false) → M6.1 a = M.1 a := fun a ha => funext fun j => I3 a j (ha j)
        have agp : ∀ p', p' ≠ P ∧ p' ∈ PR → AGP M M6 p' := fun p' hp' => AGP_of hP hp'.2 hp'.1 (fun b' j hb hk => by
          have k0 := hk 0 (by omega)
          have k1 := hk 1 (by omega)
          have k2 := hk 2 (by omega)
          have k3 := hk 3 (by omega)
          have k4 := hk 4 (by omega)
          have k5 := hk 5 (by omega)
          unfold prc at hb
          refine I b' j ?_ (dC _ _ (by omega)) (by omega)
          unfold Drd
          simp only [Bool.or_eq_false_iff, Bool.and_eq_false_iff, beq_eq_false_iff_ne, decide_eq_false_iff_not]
          omega)
        have agr : ∀ r', r' < 73 → r' ≠ 69 → AGR M M6 r' := fun r' hr hne => by
          have d1 : ∀ b j, ((b = 145 ∨ b = 146 ∨ b = 148) ∧ j = r') ∨ (b = 147 ∧ 64 * r' ≤ j ∧ j < 64 * r' + 64) → M6.1 b j = M.1 b j := fun b j hb => by
            refine I b j ?_ ?_ (by omega)
            · unfold Drd; simp only [Bool.or_eq_false_iff, Bool.and_eq_false_iff, beq_eq_false_iff_ne, decide_eq_false_iff_not]; omega
            · unfold dCp; simp only [Bool.or_eq_false_iff, Bool.and_eq_false_iff, beq_eq_false_iff_ne, decide_eq_false_iff_not]; omega
          exact ⟨d1 _ _ (by omega), d1 _ _ (by omega), d1 _ _ (by omega), fun j hj => d1 _ _ (by omega)⟩
        have rw69 : RwM M6 69 e := by
          have := Rw_cp c8 c7 (he h1) rw4
          rw [← hM6]
          exact ⟨by rw [rI_ne (by omega)]; exact this.1, fun j hj => by rw [rI_ne (by omega)]; exact this.2 j hj⟩
        have e19 : M6.1 142 19 = 1 := by rw [← hM6]; exact rI_eq
        have td6 : V_told M6 := V_told_ag (M := M2) (by rw [lo 116 1 (by omega), x1]) (by rw [← hM6, rI_ne (by omega), f6.1 142 1 rfl, f24.1 142 1 rfl]) (J6 117) (J6 143) td2
        refine an_ok er (hK _ (V_mk3 hV I3 (fun b hb => by rw [J6, x2]; exact f01.2.1 b hb) (FX_pl (M := M) (fun b j hb => by rw [r2, if_neg (by omega), if_neg (by omega)]) hF) (rn 10 (by omega) (by omega)) (tz _ (by rw [lo 1 1 (by omega), ← x1]; exact e1) (by rw [← hM6, rI_ne (by omega), f6.1 142 4 rfl, f5.1 142 4 rfl]; exact g4)) td6 (prg_sw8 hprg h6 hm8 (fun b j w1 w2 => by rw [r2, if_neg w2, if_neg w1]) (by rw [r2, if_neg (by omega), if_pos ⟨rfl, rfl⟩]) (by rw [r2, if_pos ⟨rfl, rfl⟩])) (V_task_pr (rn 12 (by omega) (by omega)) (fun t p' ht hh => agp p' (q4 t p' ht hh)) (fun r' hr => agr r' (by omega) (by omega)) (I3 _ _ rfl) (R3 _ fun _ => rfl) (R3 _ fun _ => rfl) (R3 _ fun _ => rfl) h11') ⟨P, hP, by rw [r2, if_pos ⟨rfl, rfl⟩], Or.inr ⟨e19, by rw [lo P 6 (by omega)]; exact p6, e, wf h1, by rw [lo _ _ (by omega)]; exact p40, by rw [lo _ _ (by omega)]; exact p41, fun j hj => by rw [lo _ _ (by omega)]; exact p5 j hj, rw69⟩⟩ (V_bolt_pr (rn 13 (by omega) (by omega)) (fun b' p' hb hh => agp p' (q5 b' p' hb hh)) (fun b' hb => agr _ (by omega) (by omega)) (I3 _ _ rfl) h13') (V_ptch_pr (rn 14 (by omega) (by omega)) (fun j p' hj hh => agp p' (q7 j p' hj hh)) (fun j hj => agr _ (by omega) (by omega)) (I3 _ _ rfl) (I3 _ _ rfl) (R3 _ fun _ => rfl) (R3 _ fun _ => rfl) (R3 _ fun _ => rfl) (R3 _ fun _ => rfl) h14')))
    simp only [fx_0_0 hF0, ex_some, s0_1, true_and]
    refine asked_ok (c := c) hR hF0 h6 hP hn hlen (fun j hj => by rw [rI_ne (by omega)]; exact ⟨(htx j hj).1, (htx j hj).2.2⟩) (fun hb M1 f1 => ⟨fun z => absurd z (nI_pos (by omega)), fun _ => ?_⟩) (fun h1 h2 h3 M1 f1 => ⟨fun z => absurd z (by decide), fun _ => ?_⟩) (fun h1 h2 h3 M1 f1 g6 g40 g41 g5 => ⟨fun _ => ?_, fun z => absurd (by decide) z⟩)
    · exact model M1 M1 _ f1 (FX_fr f1 hF0) rfl rfl (fun _ => ⟨rfl, rfl⟩) (fun h1 h2 => absurd h2 (hb h1)) (fun h1 h2 => absurd h2 (hb h1))
    · exact model M1 M1 _ f1 (FX_fr f1 hF0) rfl rfl (fun h => absurd h2 (h h1)) (fun _ _ _ => ⟨by decide, rfl⟩) (fun _ _ h => by omega)
    · have hF1 := FX_fr f1 hF0
      have e16 : M1.2.2 1 6 = some P := by rw [f1.2.2]; exact h6
      have e118 : M1.2.2 11 8 = some p8 := by rw [f1.2.2]; exact hm8
      unfold f_X6_exchange
      simp only [fx_0_2 hF1, fx_0_0 hF1, e118, e16, ex_some, s0_1, s0_11, shp8, true_and, forall_eq]
      refine model M1 _ 0 f1 ?_ rfl rfl (fun h => absurd h2 (h h1)) (fun _ _ h => by omega) (fun _ _ _ => ⟨rfl, rfl, g6, g40, g41, g5⟩)
      exact FX_pl (M := M1) (fun b' j hb => by
        show (if b' = 11 ∧ j = 8 then some P else if b' = 1 ∧ j = 6 then some p8 else M1.2.2 b' j) = _
        rw [if_neg (by omega), if_neg (by omega)]) hF1
