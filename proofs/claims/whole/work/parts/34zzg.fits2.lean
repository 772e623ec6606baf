theorem op30 (M : Mm) (K : Mm → Prop) (hV : V M) (hK : ∀ m, V m → K m) : OP30 M K := by
  have hF := hV.1
  obtain ⟨C, mu, ky, A, B, F, hC, hCM, hmC, hmM, hky, k13, k27, hm, hs, hf, hsi⟩ := run_of hV
  obtain ⟨len, ty, hlen, t118, t142, hty⟩ := typ_of hV
  have c1 := hC.1.1
  have htd : V_told M := hV.2.2.2.2.2.2.1
  have hwk : V_walk M := hV.2.2.2.2.2.2.2.2.2.2.2.2.2.2.2.2.1
  have ref : (cT C = 0 ∨ len = 0) → f_X11_fits S0 142 M (AN (-1) K) := by
    intro hx
    unfold f_X11_fits
    simp only [forall_eq]
    have e15 : (stI M 142 0 0).1 142 15 = nI (cT C) := hCM.2.1
    have e60 : (stI M 142 0 0).1 142 60 = nI len := t142
    have hend : AN (-1) K (-1) (stI M 142 0 0) := an_ok rfl (hK _ (V_thr _ hV))
    rw [e15, e60]
    refine ⟨fun _ => hend, fun z => ⟨fun _ => hend, fun z' => ?_⟩⟩
    rcases hx with h | h
    · rw [h] at z; exact absurd rfl z
    · rw [h] at z'; exact absurd rfl z'
  show f_X10_fits S0 0 M (fun r m1 => f_X11_fits S0 142 m1 (AN r K))
  unfold f_X10_fits f_X10_refusesTyping
  simp only [fx_0_2 hF, fx_0_7 hF, ex_some, s0_11, s0_118, true_and, hC.2.1, t118]
  refine ⟨fun h => ⟨fun z => absurd z (by decide), fun _ => ref (Or.inl ((nI_eq (by omega) (by omega)).mp h))⟩, fun g1 => ⟨fun h => ⟨fun z => absurd z (by decide), fun _ => ref (Or.inr ((nI_eq (by omega) (by omega)).mp h))⟩, fun g2 => ⟨fun _ => ?_, fun z => absurd trivial z⟩⟩⟩
  have hT : 0 < cT C := Nat.pos_of_ne_zero (fun z => g1 (by rw [z]; rfl))
  have hl1 : 1 ≤ len := Nat.pos_of_ne_zero (fun z => g2 (by rw [z]; rfl))
  have model : ∀ (M1 : Mm) (r : Int32), PM C ky A B F mu M M1 → M1.1 142 60 = nI len → (∀ j, j < len → M1.1 173 j = nI (ty j)) → (tryI C mu (ksf ty ky 0) len len 0 0 (ts0 A B) = none → r = -3 ∧ V_told M1) → (∀ σ, tryI C mu (ksf ty ky 0) len len 0 0 (ts0 A B) = some σ → (tE σ = none → r = 0 ∧ V_told M1) ∧ ∀ p, tE σ = some p → r = 1 ∧ CW (tL σ) p.1 p.2 M1) → f_X11_fits S0 142 M1 (AN r K) := by
    intro M1 r pm e60 e173 h0 h1
    unfold f_X11_fits
    simp only [forall_eq]
    have e15' : (stI M1 142 0 0).1 142 15 = nI (cT C) := pm.2.2.1.2.1
    have e60' : (stI M1 142 0 0).1 142 60 = nI len := e60
    rw [e15', e60']
    refine ⟨fun z => absurd z g1, fun _ => ⟨fun z => absurd z g2, fun _ => ?_⟩⟩
    refine typM pm hsi hky hl1 hlen e60 (fun j hj => ⟨e173 j hj, (hty j hj).2.2⟩) (fun σ hσ M4 hi f4 T4 z62 m4 mf4 z33 => ?_) (fun hσ M4 f4 z62 m4 mf4 z33 => ?_)
    · obtain ⟨q1, q2⟩ := h1 σ hσ
      have e60'' : M4.1 142 60 = nI len := (f4.1 142 60 rfl).trans e60
      obtain ⟨v0, d0⟩ := TIv_0 (D := len - 1) hsi
      obtain ⟨dd, hI⟩ := tryI_inv (D := len - 1) hC.1 (fun i _ => (ksf_lt hky).2) (by omega) len 0 0 (ts0 A B) σ (by omega) (by omega) v0 d0 hσ
      obtain ⟨i1, i2, i3, i4, i5, i6, i7, i8, i9⟩ := hI
      rw [z62]
      refine ⟨fun _ => ?_, fun z => absurd rfl z⟩
      have hF4 : FX M4 := FX_fr f4 pm.2.1
      rcases hE : tE σ with _ | p
      · rw [T4.2.2.2.2.2.1 hE]
        obtain ⟨er, td⟩ := q1 hE
        exact ⟨fun z => absurd z (by decide), fun _ => an_ok er (hK _ (typV hV hm pm f4 m4 mf4 z33 (Fr_refl _ _ _) (told_tm f4 td)))⟩
      · obtain ⟨u1, u2⟩ := T4.2.2.2.2.2.2 p hE
        obtain ⟨w1, w2, w3⟩ := i9 p hE
        obtain ⟨er, cw⟩ := q2 p hE
        rw [u1]
        refine ⟨fun _ => ?_, fun z => absurd (le0 (by omega)) z⟩
        rw [e60'', show nI len - (2 : Int32) = nI (len - 1) + (-1 : Int32) by rw [← sub2, show len - 1 + 1 = len by omega]]
        refine ⟨len - 1 + 1, ?_⟩
        have main := wayF_L (w := 4) (s := p.1) (L := tL σ) (M0 := M4) (EK := fun m21 => f_X11_enters S0 142 ((stI m21 142 1 ((m21.1 142 60) - (1 : Int32))).1 142 66).toInt64 (stI m21 142 1 ((m21.1 142 60) - (1 : Int32))) (fun m23 => AN r K 1 m23)) (K := AN r K) hF4 T4.2.1 i3 i6 (by omega) w1 (by omega) (fun M5 g1 g2 g3 g4 => ?_) (len - 1) 0 M4 (by omega) rfl rfl (fun _ _ => rfl) (fun i hi => by omega)
        · exact main
        · have f5 : Fr dWy eWy M4 M5 := ⟨fun b j _ => by rw [g1], fun b hd => by unfold eWy at hd; rw [g3 b (by simpa using hd)], g2⟩
          have e5 : M5.1 142 60 - (1 : Int32) = nI (len - 1) := by
            rw [g1, e60'', show len = (len - 1) + 1 by omega, nI_pred, show len - 1 + 1 - 1 = len - 1 by omega]
          rw [e5]
          have e66 : (stI M5 142 1 (nI (len - 1))).1 142 66 = nI p.2 := by rw [rI_ne (by omega), g1]; exact u2
          rw [e66, nI_l (n := p.2) (by omega)]
          have f6 : Fr dWy eWy M4 (stI M5 142 1 (nI (len - 1))) := Fr_I rfl f5
          refine enN (k := len - 1) (FX_fr f6 hF4) rI_eq (by omega) (fun M7 f7 y1 y2 y3 => an_ok er (hK _ ?_))
          have f47 := Fr_tr f6 f7
          refine typV hV hm pm f4 m4 mf4 z33 f47 ?_
          refine told_way (s := p.1) (bY := p.2) (L := tL σ) (by omega) ?_ (fun j hj => ?_) ?_ (fun j hj => ?_) ?_
          · rw [f47.1 116 1 rfl, f4.1 116 1 rfl]; exact cw.1
          · rw [f47.2.1 117 rfl, f4.2.1 117 rfl]; exact cw.2 j hj
          · rw [w3]; exact y1
          · rw [y2 _ (by omega)]; exact g4 j hj
          · rw [w3]; exact y3
    · obtain ⟨er, td⟩ := h0 hσ
      rw [z62]
      exact ⟨fun z => absurd z (by decide), fun _ => an_ok er (hK _ (typV hV hm pm f4 m4 mf4 z33 (Fr_refl _ _ _) (told_tm f4 td)))⟩
  refine followed_ok (ty := ty) hF hwk hC hmC hm hsi hky k13 hl1 hlen t118 (fun j hj => ⟨(hty j hj).1, (hty j hj).2.2⟩) (fun σ hσ M1 f1 T1 w1 => ⟨fun z => absurd z (by decide), fun _ => ?_⟩) (fun hσ M1 f1 w1 => ⟨fun _ => ?_, fun z => absurd rfl z⟩)
  · have pm := PM_T hF hCM k27 hs hf hmM f1 w1
    have hF1 := FX_fr f1 hF
    have e60 : M1.1 142 60 = nI len := (f1.1 142 60 rfl).trans t142
    have e173 : ∀ j, j < len → M1.1 173 j = nI (ty j) := fun j hj => (f1.1 173 j rfl).trans (hty j hj).2.1
    have td1 : V_told M1 := told_fr f1 rfl rfl rfl rfl htd
    obtain ⟨v0, d0⟩ := TIv_0 (D := len - 1) hsi
    obtain ⟨dd, hI⟩ := tryI_inv (D := len - 1) hC.1 (fun i _ => (ksf_lt hky).2) (by omega) len 0 0 (ts0 A B) σ (by omega) (by omega) v0 d0 hσ
    obtain ⟨i1, i2, i3, i4, i5, i6, i7, i8, i9⟩ := hI
    simp only [fx_0_1 hF1, fx_0_6 hF1, ex_some, s0_10, s0_116, true_and, T1.2.2.2.1]
    rw [enc_ge (fun p hp => by obtain ⟨a, b, _⟩ := i9 p hp; exact ⟨by omega, by omega⟩)]
    refine ⟨fun hne => ?_, fun he => ?_⟩
    · rcases hE : tE σ with _ | p
      · exact absurd hE hne
      · obtain ⟨a1, a2, a3⟩ := i9 p hE
        show f_X9_tellSteps S0 10 (nI (32 * p.1 + p.2)) 116 M1 _
        refine tellS_ok hF1 T1.1 i6 (by omega) a1 (by omega) (by omega) (fun M2 f2 c1' c2' => ?_)
        refine model M2 1 (PM_2 pm f2) ((f2.1 142 60 rfl).trans e60) (fun j hj => (f2.1 173 j rfl).trans (e173 j hj)) (fun h => by rw [hσ] at h; exact absurd h (by simp)) (fun σ2 h2 => ?_)
        rw [hσ, Option.some.injEq] at h2
        subst h2
        refine ⟨fun z => by rw [hE] at z; exact absurd z (by simp), fun p' hp' => ?_⟩
        rw [hE, Option.some.injEq] at hp'
        subst hp'
        exact ⟨rfl, c1', c2'⟩
    · have he' : tE σ = none := Classical.byContradiction he
      refine model M1 0 pm e60 e173 (fun h => by rw [hσ] at h; exact absurd h (by simp)) (fun σ2 h2 => ?_)
      rw [hσ, Option.some.injEq] at h2
      subst h2
      exact ⟨fun _ => ⟨rfl, td1⟩, fun p hp => by rw [he'] at hp; exact absurd hp (by simp)⟩
  · exact model M1 (-3) (PM_T hF hCM k27 hs hf hmM f1 w1) ((f1.1 142 60 rfl).trans t142) (fun j hj => (f1.1 173 j rfl).trans (hty j hj).2.1) (fun _ => ⟨rfl, told_fr f1 rfl rfl rfl rfl htd⟩) (fun σ h => by rw [hσ] at h; exact absurd h (by simp))
theorem op31 (M : Mm) (K : Mm → Prop) (hV : V M) (hK : ∀ m, V m → K m) : OP31 M K := by
  have hF := hV.1
  obtain ⟨C, mu, ky, A, B, F, hC, hCM, hmC, hmM, hky, k13, k27, hm, hs, hf, hsi⟩ := run_of hV
  obtain ⟨len, ty, hlen, t118, t142, hty⟩ := typ_of hV
  have c1 := hC.1.1
  have htd : V_told M := hV.2.2.2.2.2.2.1
  have hwk : V_walk M := hV.2.2.2.2.2.2.2.2.2.2.2.2.2.2.2.2.1
  have ref : (cT C = 0 ∨ len = 0) → f_X11_many S0 142 M (AN (-1) K) := by
    intro hx
    unfold f_X11_many
    simp only [forall_eq]
    have e15 : (stI M 142 0 0).1 142 15 = nI (cT C) := hCM.2.1
    have e60 : (stI M 142 0 0).1 142 60 = nI len := t142
    have hend : AN (-1) K (-1) (stI M 142 0 0) := an_ok rfl (hK _ (V_thr _ hV))
    rw [e15, e60]
    refine ⟨fun _ => hend, fun z => ⟨fun _ => hend, fun z' => ?_⟩⟩
    rcases hx with h | h
    · rw [h] at z; exact absurd rfl z
    · rw [h] at z'; exact absurd rfl z'
  show f_X10_many S0 0 M (fun r m1 => f_X11_many S0 142 m1 (AN r K))
  unfold f_X10_many f_X10_refusesTyping
  simp only [fx_0_2 hF, fx_0_7 hF, ex_some, s0_11, s0_118, true_and, hC.2.1, t118]
  refine ⟨fun h => ⟨fun z => absurd z (by decide), fun _ => ref (Or.inl ((nI_eq (by omega) (by omega)).mp h))⟩, fun g1 => ⟨fun h => ⟨fun z => absurd z (by decide), fun _ => ref (Or.inr ((nI_eq (by omega) (by omega)).mp h))⟩, fun g2 => ⟨fun _ => ?_, fun z => absurd trivial z⟩⟩⟩
  have hT : 0 < cT C := Nat.pos_of_ne_zero (fun z => g1 (by rw [z]; rfl))
  have hl1 : 1 ≤ len := Nat.pos_of_ne_zero (fun z => g2 (by rw [z]; rfl))
  have hpw : cT C ^ len ≤ 10 ^ 12 := Nat.le_trans (Nat.pow_le_pow_left c1 len) (Nat.le_trans (Nat.pow_le_pow_right (by omega) hlen) (by decide))
  have begin_ : ∀ (M1 : Mm) (r : Int32), PM C ky A B F mu M M1 → M1.1 142 60 = nI len → f_X11_remembers S0 142 (stI M1 142 0 0) (fun m4 => f_X11_types S0 142 (0 : Int32) m4 (fun m5 => f_X11_comesBack S0 142 m5 (fun m6 => (((m6.1 142 62) = 0 → ∀ m8 : Mm, m8 = stI m6 142 1 (0 : Int32) → f_X11_enters S0 142 (m8.2.1 142 64) m8 (fun m9 => f_X11_power S0 (m9.1 142 15).toInt64 (m9.1 142 60) m9 (fun r11 m10 => f_X11_enters S0 142 r11 m10 (fun m12 => AN r K (0 : Int32) m12)))) ∧ (¬ (m6.1 142 62) = 0 → AN r K (-3 : Int32) m6))))) → f_X11_many S0 142 M1 (AN r K) := by
    intro M1 r pm e60 h
    unfold f_X11_many
    intro m1 hm1
    subst hm1
    have e15' : (stI M1 142 0 0).1 142 15 = nI (cT C) := pm.2.2.1.2.1
    have e60' : (stI M1 142 0 0).1 142 60 = nI len := e60
    rw [e15', e60']
    exact ⟨fun z => absurd z g1, fun _ => ⟨fun z => absurd z g2, fun _ => h⟩⟩
  refine followed_ok (ty := ty) hF hwk hC hmC hm hsi hky k13 hl1 hlen t118 (fun j hj => ⟨(hty j hj).1, (hty j hj).2.2⟩) (fun σ hσ M1 f1 T1 w1 => ⟨fun z => absurd z (by decide), fun _ => ?_⟩) (fun hσ M1 f1 w1 => ⟨fun _ => ?_, fun z => absurd rfl z⟩)
  · have pm := PM_T hF hCM k27 hs hf hmM f1 w1
    have hF1 := FX_fr f1 hF
    have e60 : M1.1 142 60 = nI len := (f1.1 142 60 rfl).trans t142
    have e173 : ∀ j, j < len → M1.1 173 j = nI (ty j) := fun j hj => (f1.1 173 j rfl).trans (hty j hj).2.1
    simp only [fx_0_1 hF1, fx_0_2 hF1, fx_0_6 hF1, fx_0_7 hF1, ex_some, s0_10, s0_11, s0_118, true_and, T1.2.2.2.2, (f1.1 118 2 rfl).trans t118, (f1.1 11 10 rfl).trans hC.2.1]
    refine power_ok (b := cT C) (n := len) (by omega) (by omega) (fun _ => ?_) (fun h => by omega)
    simp only [s0_116, true_and]
    refine tell2_ok hF1 (fun M2 f2 t1 t2 t3 => ?_)
    have pm2 := PM_2 pm f2
    have e60b : M2.1 142 60 = nI len := (f2.1 142 60 rfl).trans e60
    refine begin_ M2 0 pm2 e60b (typM pm2 hsi hky hl1 hlen e60b (fun j hj => ⟨(f2.1 173 j rfl).trans (e173 j hj), (hty j hj).2.2⟩) (fun σ2 h2 M4 hi f4 T4 z62 m4 mf4 z33 => ?_) (fun h => by rw [hσ] at h; exact absurd h (by simp)))
    rw [hσ, Option.some.injEq] at h2
    subst h2
    refine ⟨fun _ => ?_, fun z => absurd z62 z⟩
    simp only [forall_eq]
    have hF4 : FX M4 := FX_fr f4 pm2.2.1
    have e64 : (stI M4 142 1 0).2.1 142 64 = lN (tB σ) := T4.2.2.2.2.1
    rw [e64]
    refine enN (k := 0) (fx_I hF4) rI_eq (by omega) (fun m6 f6 u1 u2 u3 => ?_)
    have f6' : Fr dWy eWy M4 m6 := Fr_tr (Fr_I rfl (Fr_refl _ _ _)) f6
    have e15c : m6.1 142 15 = nI (cT C) := (f6'.1 142 15 rfl).trans ((f4.1 142 15 rfl).trans pm2.2.2.1.2.1)
    have e60c : m6.1 142 60 = nI len := (f6'.1 142 60 rfl).trans ((f4.1 142 60 rfl).trans e60b)
    rw [e15c, e60c]
    refine powerM_ok (b := cT C) (nI_l (by omega)) (by omega) (by omega) (fun _ => ?_) (fun h => by omega)
    refine enN (k := 1) (FX_fr f6' hF4) u1 (by omega) (fun m7 f7 y1 y2 y3 => an_ok rfl (hK _ (typV hV hm pm2 f4 m4 mf4 z33 (Fr_tr f6' f7) ⟨2, by omega, ?_, y1, fun j hj => ?_⟩)))
    · rw [f7.1 116 1 rfl, f6'.1 116 1 rfl, f4.1 116 1 rfl]; exact t1
    · rw [f7.2.1 117 rfl, f6'.2.1 117 rfl, f4.2.1 117 rfl]
      have : j = 0 ∨ j = 1 := by omega
      rcases this with rfl | rfl
      · rw [t2, y2 0 (by omega), u3]
      · rw [t3, y3]
  · have pm := PM_T hF hCM k27 hs hf hmM f1 w1
    have e60 : M1.1 142 60 = nI len := (f1.1 142 60 rfl).trans t142
    have td1 : V_told M1 := told_fr f1 rfl rfl rfl rfl htd
    refine begin_ M1 (-3) pm e60 (typM pm hsi hky hl1 hlen e60 (fun j hj => ⟨(f1.1 173 j rfl).trans (hty j hj).2.1, (hty j hj).2.2⟩) (fun σ h => by rw [hσ] at h; exact absurd h (by simp)) (fun _ M4 f4 z62 m4 mf4 z33 => ⟨fun z => by rw [z62] at z; exact absurd z (by decide), fun _ => an_ok rfl (hK _ (typV hV hm pm f4 m4 mf4 z33 (Fr_refl _ _ _) (told_tm f4 td1)))⟩))
