theorem dLm_re {M M' : Mm} (h : Fr (dLm 74) eN M M') : Fr dRe eN M M' :=
  Fr_mono (fun b j hd => by unfold dRe at hd; unfold dLm; simp only [Bool.or_eq_false_iff, Bool.and_eq_false_iff, beq_eq_false_iff_ne, decide_eq_false_iff_not] at *; omega) (fun b hd => hd) h
theorem op25 (p1 p2 : Int32) (M : Mm) (K : Mm → Prop) (hV : V M) (hK : ∀ m, V m → K m) : OP25 p1 p2 M K := by
  have hF := hV.1
  obtain ⟨n, c, hn, t1, t4, htx⟩ := txt_of hV
  have htd : V_told M := hV.2.2.2.2.2.2.1
  have hprg : V_prg M := hV.2.2.2.2.2.2.2.2.2.1
  have hh := hV
  obtain ⟨h1', h2', h3', h4', h5', h6', h7', h8', h9', h10', h11', h12', h13', h14', h15', h16', h17', h18', h19'⟩ := hh
  obtain ⟨nt, nb, on, np, a1, a2, a3, a4, b1, b2, b3, b4, b5, b6, b7, b8, b9⟩ := h9'
  obtain ⟨P, hP, h6, q3, q4, q5, q7⟩ := prg_ne hprg
  obtain ⟨len, hlen⟩ : ∃ len, len = if 60 < n then 60 else n := ⟨_, rfl⟩
  have hle : len ≤ 60 ∧ len ≤ n := by rw [hlen]; split <;> omega
  have hP1 : ∀ P ∈ PR, P ≠ 1 ∧ P + 5 ≤ 103 ∧ (2 < P ∨ P + 5 < 2) ∧ 4 ≤ P ∧ ((4 ≤ P ∧ P + 5 ≤ 9) ∨ (20 ≤ P ∧ P + 5 ≤ 103)) := by decide
  obtain ⟨z1, z2, z3, z4, z5⟩ := hP1 P hP
  show f_X10_patch S0 0 p1 p2 M (fun r m1 => f_X11_patch S0 142 p1 p2 m1 (AN r K))
  unfold f_X10_patch f_X10_takeText
  have e12 : (stI M 1 1 0).1 11 12 = nI np := by rw [rI_ne (by omega)]; exact b7
  have e10 : (stI M 1 1 0).1 11 10 = nI nt := by rw [rI_ne (by omega)]; exact b1
  have f0 : Fr (Drd P) E3 M (stI M 1 1 0) := Fr_I (by unfold Drd; simp) (Fr_refl _ _ _)
  have hF0 := FX_fr f0 hF
  simp only [fx_0_0 hF, ex_some, s0_1, true_and, forall_eq, t1, fx_0_2 hF0, fx_0_0 hF0, s0_11, e12, e10]
  have tz : ∀ M', M'.1 1 1 = 0 → M'.1 142 4 = 0 → V_txt M' := fun M' a b => ⟨0, by omega, a, b, fun j hj => absurd hj (by omega)⟩
  -- a refusal
  have ref : ∀ (X : (Int32 → Mm → Prop) → Mm → Prop), True → True := fun _ _ => trivial
  have refu : (p1 < 0 ∨ nI nt ≤ p1 ∨ np = 5 ∨ p2 < 0 ∨ ∃ t nl, p1 = nI t ∧ t < nt ∧ M.1 150 t = nI nl ∧ nl ≤ 16 ∧ ¬ p2 < nI nl) → f_X11_patch S0 142 p1 p2 (stI M 1 1 0) (AN (-100) K) := by
    intro hx
    unfold f_X11_patch
    intro m1 em1
    subst em1
    have f3 : Fr dRe eN (stI M 1 1 0) (stI (stI M 1 1 0) 142 0 0) := Fr_I rfl (Fr_refl _ _ _)
    refine begM_ok (n := n) (ak := false) (by rw [rI_ne (by omega), rI_ne (by omega)]; exact t4) hn hlen (fun M3 f4 g4 g5 g7 g8 g6 => ?_)
    have f23 : Fr dRe eN (stI M 1 1 0) M3 := Fr_tr f3 (dBg_re f4)
    have fin : AN (-100) K (-100) M3 := an_ok rfl (hK _ (V_rdF hV h6 (Fr_tr f0 (dRe_rd f23)) (by rw [f23.1 1 1 rfl, rI_eq]) g4 (told_fr f23 rfl rfl rfl rfl (V_told_ag (M := M) rfl rfl rfl rfl htd))))
    have i15 : M3.1 142 15 = nI nt := by rw [f23.1 142 15 rfl, rI_ne (by omega)]; exact b2
    have i34 : M3.1 142 34 = nI np := by rw [f23.1 142 34 rfl, rI_ne (by omega)]; exact b8
    have hF3 : FX M3 := FX_fr f23 hF0
    rw [i15]
    refine f_in (nI nt - 1) rfl (fun x y => ⟨fun z => absurd z (by decide), fun _ => ?_⟩) (fun _ => ⟨fun _ => fin, fun z => absurd rfl z⟩)
    have hlt : p1 < nI nt := Classical.byContradiction (fun z => y ((sub1_lt (by omega) x).mpr z))
    obtain ⟨t, ht0, rfl⟩ := nI_of x
    have htn : t < nt := (nI_ltI ht0 (by omega)).mp hlt
    obtain ⟨p, nl, zz, w1, w2, w3, w4, w5, w6, w7, -⟩ := h11' t (by omega) (by rw [b1]; exact hlt)
    have i150 : M3.1 150 t = nI nl := by rw [f23.1 150 t rfl, rI_ne (by omega)]; exact w7
    have hin : vp_in (nI t) 4 := vp_in_nI (by omega) (by omega)
    have hcl : (nI t).toNatClampNeg = t := nI_clamp (by omega)
    simp only [fx_142_16 hF3, ex_some, shp_ne (show (150 : Nat) ≠ 100000 by decide), s0_150, ex_sh, hin, hcl, true_and, i150]
    refine f_in (nI nl - 1) rfl (fun x2 y2 => ⟨fun z => absurd z (by decide), fun _ => ⟨fun _ => fin, fun n5 => ?_⟩⟩) (fun _ => ⟨fun _ => fin, fun z => absurd rfl z⟩)
    exfalso
    rcases hx with h | h | h | h | ⟨t', nl', e1, e2, e3, e4, e5⟩
    · exact x h
    · exact absurd hlt (Int32.not_lt.mpr h)
    · exact n5 (by rw [i34, h]; rfl)
    · exact x2 h
    · have : t = t' := (nI_eq ht0 (by omega)).mp e1
      subst this
      rw [w7] at e3
      have : nl = nl' := (nI_eq (by omega) (by omega)).mp e3
      subst this
      exact y2 ((sub1_lt (by omega) x2).mpr e5)
  refine ⟨fun h => refu (Or.inl h), fun x => ⟨fun h => refu (Or.inr (Or.inl h)), fun y => ?_⟩⟩
  obtain ⟨t, ht0, rfl⟩ := nI_of x
  have htn : t < nt := (nI_ltI ht0 (by omega)).mp (Int32.not_le.mp y)
  obtain ⟨p, nl, zz, w1, w2, w3, w4, w5, w6, w7, -⟩ := h11' t (by omega) (by rw [b1]; exact nI_lt htn (by omega))
  rw [show (5 : Int32) = nI 5 from rfl, nI_ltI (by omega) (by omega)]
  refine ⟨fun hnp => ⟨fun h => refu (Or.inr (Or.inr (Or.inr (Or.inl h)))), fun x2 => ?_⟩, fun h => refu (Or.inr (Or.inr (Or.inl (by omega))))⟩
  have hin : vp_in (nI t) 4 := vp_in_nI (by omega) (by omega)
  have hcl : (nI t).toNatClampNeg = t := nI_clamp (by omega)
  have m12 : (stI M 1 1 0).2.2 12 t = some p := w2
  have hpw := hP1 p w1
  have p6 : (stI M 1 1 0).1 p 6 = nI nl := by rw [rI_ne (by omega)]; exact w6
  simp only [fx_11_0 hF0, m12, ex_some, s0_12, ex_sh, hin, hcl, (pr_sh p w1).1, true_and, p6]
  refine ⟨fun y2 => ?_, fun h => refu (Or.inr (Or.inr (Or.inr (Or.inr ⟨t, nl, rfl, htn, w7, w4, h⟩))))⟩
  obtain ⟨u, hu0, rfl⟩ := nI_of x2
  have hun : u < nl := (nI_ltI hu0 (by omega)).mp y2
  obtain ⟨b, q, kd, nu, e, hL⟩ := LX_ex (c := c) (p := 0) hle.1
  have bd := LX_bd hle.1 (by omega) hL
  have hq : q ≤ len := by
    rcases hb : b with _ | _
    · exact (bd.2 hb).2
    · exact (bd.1 hb).2.1
  have mq := m1q q (by omega)
  obtain ⟨p4, hp4, hm4⟩ := prg_14 hprg hnp
  have shp4 := (pr_sh p4 hp4).1
  have shP := (pr_sh P hP).1
  have dt : ∀ b' j, (b' = 142) ∨ b' = 144 ∨ (b' = 1 ∧ j = 1) ∨ b' = 116 ∨ b' = 11 ∨ b' = 15 ∨ b' = 16 ∨ b' = 150 → dAs P b' j = false := by
    intro b' j h
    have : ∀ P ∈ PR, (11 < P ∨ P + 5 < 11) ∧ (15 < P ∨ P + 5 < 15) ∧ (16 < P ∨ P + 5 < 16) := by decide
    have := this P hP
    unfold dAs
    simp only [Bool.or_eq_false_iff, Bool.and_eq_false_iff, beq_eq_false_iff_ne, decide_eq_false_iff_not]
    omega
  have hin5 : vp_in (nI np) 5 := vp_in_nI (by omega) (by omega)
  have hcl5 : (nI np).toNatClampNeg = np := nI_clamp (by omega)
  have model : ∀ (M1 M2 : Mm) (r : Int32), Fr (dAs P) eN (stI M 1 1 0) M1 → FX M2 → (∀ b j, ¬ (b = 11 ∧ j = 12) → ¬ ((b = 15 ∨ b = 16) ∧ j = np) → M2.1 b j = M1.1 b j) → M2.2.1 = M1.2.1 → ((b = true → q ≠ len) → r = (-1 : Int32) - nI q ∧ M2 = M1) → (b = true → q = len → 60 < n → r = -61 ∧ M2 = M1) → (b = true → q = len → n ≤ 60 → r = nI np ∧ M2.2.2 = (stR (stR M1 1 6 (some p4)) 14 np (some P)).2.2 ∧ M2.1 11 12 = nI (np + 1) ∧ M2.1 15 np = nI t ∧ M2.1 16 np = nI u ∧ M1.1 P 6 = 1 ∧ LnC M1 P 0 kd nu e) → f_X11_patch S0 142 (nI t) (nI u) M2 (AN r K) := by
    intro M1 M2 r f1 hF2 x1 x2' hbad hlong hok
    have e1 : M2.1 1 1 = 0 := by rw [x1 1 1 (by omega) (by omega), f1.1 1 1 (dt _ _ (by omega)), rI_eq]
    have i142 : ∀ j, M2.1 142 j = M.1 142 j := fun j => by rw [x1 142 j (by omega) (by omega), f1.1 142 j (dt _ _ (by omega)), rI_ne (by omega)]
    have e4 : M2.1 142 4 = nI n := by rw [i142]; exact t4
    have f01 : Fr (Drd P) E3 M M1 := Fr_tr f0 (dAs_rd f1)
    have td2 : V_told M2 := V_told_ag (M := M) (by rw [x1 116 1 (by omega) (by omega), f1.1 116 1 (dt _ _ (by omega))]; rfl) (i142 1) (by rw [x2', f1.2.1 117 rfl]; rfl) (by rw [x2', f1.2.1 143 rfl]; rfl) htd
    have plain : M2 = M1 → ∀ M3, Fr dRe eN M2 M3 → M3.1 142 4 = 0 → V M3 := by
      intro rr M3 f3 g4
      rw [rr] at f3
      exact V_rdF hV h6 (Fr_tr f01 (dRe_rd f3)) (by rw [f3.1 1 1 rfl, ← rr]; exact e1) g4 (told_fr f3 rfl rfl rfl rfl (by rw [← rr]; exact td2))
    unfold f_X11_patch
    intro m1 em1
    subst em1
    have f3 : Fr dRe eN M2 (stI M2 142 0 0) := Fr_I rfl (Fr_refl _ _ _)
    refine begM_ok (n := n) (ak := false) (by rw [rI_ne (by omega)]; exact e4) hn hlen (fun M3 f4 g4 g5 g7 g8 g6 => ?_)
    have f23 : Fr dRe eN M2 M3 := Fr_tr f3 (dBg_re f4)
    have i15 : M3.1 142 15 = nI nt := by rw [f23.1 142 15 rfl, i142]; exact b2
    have i34 : M3.1 142 34 = nI np := by rw [f23.1 142 34 rfl, i142]; exact b8
    have hF3 : FX M3 := FX_fr f23 hF2
    rw [i15]
    refine f_in (nI nt - 1) rfl (fun x' y' => ⟨fun z => absurd z (by decide), fun _ => ?_⟩) (fun z => absurd (z.resolve_left x) (fun z' => (sub1_lt (by omega) x).mp z' (nI_lt htn (by omega))))
    have i150 : M3.1 150 t = nI nl := by rw [f23.1 150 t rfl, x1 150 t (by omega) (by omega), f1.1 150 t (dt _ _ (by omega)), rI_ne (by omega)]; exact w7
    simp only [fx_142_16 hF3, ex_some, shp_ne (show (150 : Nat) ≠ 100000 by decide), s0_150, ex_sh, hin, hcl, true_and, i150]
    refine f_in (nI nl - 1) rfl (fun x' y' => ⟨fun z => absurd z (by decide), fun _ => ⟨fun z => absurd ((nI_eq (by omega) (by omega)).mp (show nI np = nI 5 by rw [← i34]; exact z)) (by omega), fun _ => ?_⟩⟩) (fun z => absurd (z.resolve_left x2) (fun z' => (sub1_lt (by omega) x2).mp z' (nI_lt hun (by omega))))
    have i144 : ∀ j, j < len → M3.1 144 j = nI (c j) ∧ c j < 256 := fun j hj => by
      rw [f23.1 144 j rfl, x1 144 j (by omega) (by omega), f1.1 144 j (dt _ _ (by omega)), rI_ne (by omega)]
      exact (htx j (by omega)).2
    refine line1M_ok hL hF3 hn hlen i144 g5 g7 g8 g6 (fun hb M4 f5 => ⟨fun z => absurd z mq.1, fun _ => ?_⟩) (fun h1 h2 h3 M4 f5 => ⟨fun z => absurd z (by decide), fun _ => ?_⟩) (fun h1 h2 h3 M4 f5 rw4 => ⟨fun _ => ?_, fun z => absurd (by decide) z⟩)
    · obtain ⟨er, rr⟩ := hbad hb
      exact an_ok er (hK _ (plain rr M4 (Fr_tr f23 (dLm_re f5)) ((f5.1 142 4 rfl).trans g4)))
    · obtain ⟨er, rr⟩ := hlong h1 h2 h3
      exact an_ok er (hK _ (plain rr M4 (Fr_tr f23 (dLm_re f5)) ((f5.1 142 4 rfl).trans g4)))
    · obtain ⟨er, rr, s12, s15, s16, p6', lc⟩ := hok h1 h2 h3
      have bt := bd.1 h1
      have f24 := Fr_tr f23 (dLm_re f5)
      have hF4 := FX_fr f24 hF2
      have j34 : M4.1 142 34 = nI np := by rw [f5.1 142 34 rfl]; exact i34
      rw [j34, show (64 : Int32) = nI 64 from rfl, nI_add]
      refine copies_ok (r := 74) (r' := 64 + np) (by omega) (by omega) (by omega) hF4 (fun M5 f6 c5 c6 c8 c7 => ?_)
      have d142 : ∀ j, dCp (64 + np) 142 j = false := fun j => by unfold dCp; simp
      have g34 : M5.1 142 34 = nI np := by rw [f6.1 142 34 (d142 _)]; exact j34
      have hF5 := FX_fr f6 hF4
      have k34 : (stI M5 158 np (nI t)).1 142 34 = nI np := by rw [rI_ne (by omega)]; exact g34
      have l34 : (stI (stI M5 158 np (nI t)) 159 np (nI u)).1 142 34 = nI np := by rw [rI_ne (by omega)]; exact k34
      simp only [rIr, fx_142_35 hF5, fx_142_36 hF5, ex_some, s0_158, s0_159, ex_sh, g34, hin5, hcl5, true_and, forall_eq, k34, l34, nI_1]
      generalize hM6 : stI (stI (stI M5 158 np (nI t)) 159 np (nI u)) 142 34 (nI (np + 1)) = M6
      have o6 : ∀ b j, ¬ (b = 142 ∧ j = 34) → ¬ ((b = 158 ∨ b = 159) ∧ j = np) → M6.1 b j = M5.1 b j := fun b j w1 w2 => by
        rw [← hM6, rI_ne (by omega), rI_ne (by omega), rI_ne (by omega)]
      have e6 : M6.1 142 34 = nI (np + 1) := by rw [← hM6, rI_eq]
      have e68 : M6.1 158 np = nI t := by rw [← hM6, rI_ne (by omega), rI_ne (by omega), rI_eq]
      have e69 : M6.1 159 np = nI u := by rw [← hM6, rI_ne (by omega), rI_eq]
      have lo : ∀ b j, b < 142 → M6.1 b j = M2.1 b j := fun b j hb => by
        rw [o6 b j (by omega) (by omega), f6.1 b j (by unfold dCp; simp only [Bool.or_eq_false_iff, Bool.and_eq_false_iff, beq_eq_false_iff_ne, decide_eq_false_iff_not]; omega), f24.1 b j (by unfold dRe; simp only [Bool.or_eq_false_iff, Bool.and_eq_false_iff, beq_eq_false_iff_ne, decide_eq_false_iff_not]; omega)]
      have loP : ∀ b j, P ≤ b → b ≤ P + 5 → M6.1 b j = M1.1 b j := fun b j w1 w2 => by
        have : ∀ P ∈ PR, ∀ k, k < 6 → P + k ≠ 11 ∧ P + k ≠ 15 ∧ P + k ≠ 16 := by decide
        have k0 := this P hP (b - P) (by omega)
        rw [lo b j (by omega), x1 b j (by omega) (by omega)]
      have I : ∀ b j, Drd P b j = false → dCp (64 + np) b j = false → ¬ (b = 142 ∧ j = 34) → ¬ ((b = 158 ∨ b = 159) ∧ j = np) → ¬ (b = 11 ∧ j = 12) → ¬ ((b = 15 ∨ b = 16) ∧ j = np) → M6.1 b j = M.1 b j := fun b j w1 w2 w3 w4 w5 w6 => by
        rw [o6 b j w3 w4, f6.1 b j w2, f24.1 b j ?_, x1 b j w5 w6]
        · exact f01.1 b j w1
        · unfold Drd at w1
          unfold dRe
          simp only [Bool.or_eq_false_iff, Bool.and_eq_false_iff, beq_eq_false_iff_ne, decide_eq_false_iff_not] at *
          omega
      have R6 : M6.2.2 = M2.2.2 := by rw [← hM6]; show M5.2.2 = _; rw [f6.2.2, f24.2.2]
      have J6 : ∀ b, M6.2.1 b = M2.2.1 b := fun b => by rw [← hM6]; show M5.2.1 b = _; rw [f6.2.1 b rfl, f24.2.1 b rfl]
      have r2 : ∀ b j, M6.2.2 b j = if b = 14 ∧ j = np then some P else if b = 1 ∧ j = 6 then some p4 else M.2.2 b j := fun b j => by
        rw [R6, rr]
        show (if b = 14 ∧ j = np then some P else if b = 1 ∧ j = 6 then some p4 else M1.2.2 b j) = _
        rw [f01.2.2]
      have rn : ∀ b, b ≠ 1 → b ≠ 14 → M6.2.2 b = M.2.2 b := fun b w1 w2 => funext fun j => by rw [r2, if_neg (by omega), if_neg (by omega)]
      have I5 : ∀ b j, D5 b j = false → M6.1 b j = M.1 b j := fun b j hb => by
        unfold D5 at hb
        simp only [Bool.or_eq_false_iff, Bool.and_eq_false_iff, beq_eq_false_iff_ne, decide_eq_false_iff_not] at hb
        obtain ⟨⟨⟨⟨⟨⟨hd3, hd1⟩, hd2⟩, hd4⟩, hd5⟩, hd6⟩, hd7⟩ := hb
        refine I b j (Drd_D3 hP hd3) ?_ (by omega) (by omega) (by omega) (by omega)
        unfold D3 at hd3
        unfold dCp
        simp only [Bool.or_eq_false_iff, Bool.and_eq_false_iff, beq_eq_false_iff_ne, decide_eq_false_iff_not] at *
        omega
      have R5 : ∀ a, (∀ j, D5 a j = false) → M6.1 a = M.1 a := fun a ha => funext fun j => I5 a j (ha j)
      have agp : ∀ p', p' ≠ P ∧ p' ∈ PR → AGP M M6 p' := fun p' hp' => AGP_of hP hp'.2 hp'.1 (fun b' j hb hk => by
        have k0 := hk 0 (by omega)
        have k1 := hk 1 (by omega)
        have k2 := hk 2 (by omega)
        have k3 := hk 3 (by omega)
        have k4 := hk 4 (by omega)
        have k5 := hk 5 (by omega)
        unfold prc at hb
        refine I b' j ?_ ?_ (by omega) (by omega) (by omega) (by omega)
        · unfold Drd
          simp only [Bool.or_eq_false_iff, Bool.and_eq_false_iff, beq_eq_false_iff_ne, decide_eq_false_iff_not]
          omega
        · unfold dCp; simp only [Bool.or_eq_false_iff, Bool.and_eq_false_iff, beq_eq_false_iff_ne, decide_eq_false_iff_not]; omega)
      have agr : ∀ r', r' < 73 → r' ≠ 64 + np → AGR M M6 r' := fun r' hr hne => by
        have d1 : ∀ b j, ((b = 145 ∨ b = 146 ∨ b = 148) ∧ j = r') ∨ (b = 147 ∧ 64 * r' ≤ j ∧ j < 64 * r' + 64) → M6.1 b j = M.1 b j := fun b j hb => by
          refine I b j ?_ ?_ (by omega) (by omega) (by omega) (by omega)
          · unfold Drd; simp only [Bool.or_eq_false_iff, Bool.and_eq_false_iff, beq_eq_false_iff_ne, decide_eq_false_iff_not]; omega
          · unfold dCp; simp only [Bool.or_eq_false_iff, Bool.and_eq_false_iff, beq_eq_false_iff_ne, decide_eq_false_iff_not]; omega
        exact ⟨d1 _ _ (by omega), d1 _ _ (by omega), d1 _ _ (by omega), fun j hj => d1 _ _ (by omega)⟩
      have lnm : LnM M6 (64 + np) kd nu e := by
        have := Rw_cp c8 c7 (by omega) rw4.2.2
        exact ⟨by rw [o6 _ _ (by omega) (by omega), c5]; exact rw4.1, by rw [o6 _ _ (by omega) (by omega), c6]; exact rw4.2.1, by rw [o6 _ _ (by omega) (by omega)]; exact this.1, fun j hj => by rw [o6 _ _ (by omega) (by omega)]; exact this.2 j hj⟩
      have lnc : LnC M6 P 0 kd nu e := by
        obtain ⟨l1, l2, s, l3, l4, l5, l6⟩ := lc
        exact ⟨by rw [loP _ _ (by omega) (by omega)]; exact l1, by rw [loP _ _ (by omega) (by omega)]; exact l2, s, l3, by rw [loP _ _ (by omega) (by omega)]; exact l4, by rw [loP _ _ (by omega) (by omega)]; exact l5, fun j hj => by rw [loP _ _ (by omega) (by omega)]; exact l6 j hj⟩
      have td6 : V_told M6 := V_told_ag (M := M2) (lo 116 1 (by omega)) (by rw [o6 _ _ (by omega) (by omega), f6.1 142 1 (d142 _), f24.1 142 1 rfl]) (J6 117) (J6 143) td2
      have i1110 : M6.1 11 10 = nI nt := (I5 _ _ rfl).trans b1
      rw [e6, nI_pred]
      refine an_ok er (hK _ (V_mk5 hV I5 (fun b hb => by rw [J6, x2']; exact f01.2.1 b hb) (FX_pl (M := M) (fun b j hb => by rw [r2, if_neg (by omega), if_neg (by omega)]) hF) (rn 10 (by omega) (by omega)) (tz _ (by rw [lo 1 1 (by omega)]; exact e1) (by rw [o6 _ _ (by omega) (by omega), f6.1 142 4 (d142 _), f5.1 142 4 rfl]; exact g4)) td6 ?_ (prg_sw14 hprg hnp h6 hm4 (fun b j w1 w2 => by rw [r2, if_neg w2, if_neg w1]) (by rw [r2, if_neg (by omega), if_pos ⟨rfl, rfl⟩]) (by rw [r2, if_pos ⟨rfl, rfl⟩])) (V_task_pr (rn 12 (by omega) (by omega)) (fun t p' ht hh => agp p' (q4 t p' ht hh)) (fun r' hr => agr r' (by omega) (by omega)) (I5 _ _ rfl) (R5 _ fun _ => rfl) (R5 _ fun _ => rfl) (R5 _ fun _ => rfl) h11') (V_must_pr (by rw [rn 11 (by omega) (by omega)]) (fun p' hh => agp p' (q3 p' hh)) (agr 69 (by omega) (by omega)) (I _ _ ?_ (d142 _) (by omega) (by omega) (by omega) (by omega)) h12') (V_bolt_pr (rn 13 (by omega) (by omega)) (fun b' p' hb hh => agp p' (q5 b' p' hb hh)) (fun b' hb => agr _ (by omega) (by omega)) (I5 _ _ rfl) h13') (fun j' hj' hl' => ?_)))
      · exact ⟨nt, nb, on, np + 1, a1, a2, a3, by omega, i1110, (I5 _ _ rfl).trans b2, (I5 _ _ rfl).trans b3, (I5 _ _ rfl).trans b4, (I5 _ _ rfl).trans b5, (I5 _ _ rfl).trans b6, (lo _ _ (by omega)).trans s12, e6, (I5 _ _ rfl).trans b9⟩
      · unfold Drd
        simp only [Bool.or_eq_false_iff, Bool.and_eq_false_iff, beq_eq_false_iff_ne, decide_eq_false_iff_not]
        omega
      · rw [lo 11 12 (by omega), s12, nI_ltI (by omega) (by omega)] at hl'
        by_cases eb : j' = np
        · subst eb
          have l15 : M6.1 15 j' = nI t := (lo _ _ (by omega)).trans s15
          have l16 : M6.1 16 j' = nI u := (lo _ _ (by omega)).trans s16
          exact ⟨P, hP, by rw [r2, if_pos ⟨rfl, rfl⟩], by rw [loP _ _ (by omega) (by omega)]; exact p6', ⟨kd, nu, e, bt.2.2.2, lnc, lnm⟩, l15.trans e68.symm, l16.trans e69.symm, ⟨t, by omega, l15⟩, by rw [l15, i1110]; exact nI_lt htn (by omega), ⟨u, by omega, l16⟩⟩
        · obtain ⟨p', g1', g2', g3', g4', g5', g6', g7', g8', g9'⟩ := h14' j' hj' (by rw [b7]; exact nI_lt (by omega) (by omega))
          have ha := agp p' (q7 j' p' hj' g2')
          have p0 := ha 0 (by omega)
          rw [Nat.add_zero] at p0
          have c0 : ∀ b, (b = 15 ∨ b = 16 ∨ b = 158 ∨ b = 159) → M6.1 b j' = M.1 b j' := fun b hb => by
            refine I b j' ?_ ?_ (by omega) (by omega) (by omega) (by omega)
            · have : ∀ P ∈ PR, (15 < P ∨ P + 5 < 15) ∧ (16 < P ∨ P + 5 < 16) := by decide
              have := this P hP
              unfold Drd
              simp only [Bool.or_eq_false_iff, Bool.and_eq_false_iff, beq_eq_false_iff_ne, decide_eq_false_iff_not]
              omega
            · unfold dCp; simp only [Bool.or_eq_false_iff, Bool.and_eq_false_iff, beq_eq_false_iff_ne, decide_eq_false_iff_not]; omega
          refine ⟨p', g1', by rw [r2, if_neg (by omega), if_neg (by omega)]; exact g2', by rw [p0]; exact g3', LN_pr ha (agr _ (by omega) (by omega)) g4', ?_⟩
          rw [c0 15 (by omega), c0 16 (by omega), c0 158 (by omega), c0 159 (by omega), i1110, ← b1]
          exact ⟨g5', g6', g7', g8', g9'⟩
  refine line1C_ok (c := c) hL hF0 h6 hP hn hlen (fun j hj => by rw [rI_ne (by omega)]; exact ⟨(htx j hj).1, (htx j hj).2.2⟩) (fun hb M1 f1 => ⟨fun z => absurd z (nI_pos (by omega)), fun _ => ?_⟩) (fun h1 h2 h3 M1 f1 => ⟨fun z => absurd z (by decide), fun _ => ?_⟩) (fun h1 h2 h3 M1 f1 g6 lc => ⟨fun _ => ?_, fun z => absurd (by decide) z⟩)
  · exact model M1 M1 _ f1 (FX_fr f1 hF0) (fun _ _ _ _ => rfl) rfl (fun _ => ⟨rfl, rfl⟩) (fun h1 h2 => absurd h2 (hb h1)) (fun h1 h2 => absurd h2 (hb h1))
  · exact model M1 M1 _ f1 (FX_fr f1 hF0) (fun _ _ _ _ => rfl) rfl (fun h => absurd h2 (h h1)) (fun _ _ _ => ⟨by decide, rfl⟩) (fun _ _ h => by omega)
  · have hF1 := FX_fr f1 hF0
    have e16 : M1.2.2 1 6 = some P := by rw [f1.2.2]; exact h6
    have e14 : M1.2.2 14 np = some p4 := by rw [f1.2.2]; exact hm4
    have hFs : FX (stR (stR M1 1 6 (some p4)) 14 np (some P)) := FX_pl (M := M1) (fun b' j hb => by
      show (if b' = 14 ∧ j = np then some P else if b' = 1 ∧ j = 6 then some p4 else M1.2.2 b' j) = _
      rw [if_neg (by omega), if_neg (by omega)]) hF1
    have i12 : M1.1 11 12 = nI np := by rw [f1.1 11 12 (dt _ _ (by omega))]; exact e12
    unfold f_X6_exchange
    simp only [fx_0_2 hF1, fx_0_0 hF1, fx_11_2 hF1, e14, e16, ex_some, s0_1, s0_11, s0_14, ex_sh, hin5, hcl5, shp4, shP, true_and, forall_eq, fx_0_2 hFs, fx_11_3 hFs, s0_15]
    have hFt : FX (stI (stR (stR M1 1 6 (some p4)) 14 np (some P)) 15 np (nI t)) := fx_I hFs
    simp only [fx_0_2 hFt, fx_11_4 hFt, ex_some, s0_11, s0_16, ex_sh, hin5, hcl5, true_and, forall_eq]
    have hFu : FX (stI (stI (stR (stR M1 1 6 (some p4)) 14 np (some P)) 15 np (nI t)) 16 np (nI u)) := fx_I hFt
    have j12 : (stI (stI (stR (stR M1 1 6 (some p4)) 14 np (some P)) 15 np (nI t)) 16 np (nI u)).1 11 12 = nI np := by rw [rI_ne (by omega), rI_ne (by omega)]; exact i12
    simp only [fx_0_2 hFu, ex_some, s0_11, true_and, forall_eq, j12, nI_1]
    refine model M1 _ (nI np) f1 (fx_I hFu) (fun b' j w1 w2 => ?_) rfl (fun h => absurd h2 (h h1)) (fun _ _ h => by omega) (fun _ _ _ => ⟨rfl, rfl, rI_eq, ?_, ?_, g6, lc⟩)
    · rw [rI_ne (by omega), rI_ne (by omega), rI_ne (by omega)]; rfl
    · rw [rI_ne (by omega), rI_ne (by omega), rI_eq]
    · rw [rI_ne (by omega), rI_eq]
