theorem ans_rch : ∀ q, q < 100 → (-99 : Int32) + ((-1 : Int32) - nI q) = (-100 : Int32) - nI q := by decide +kernel
theorem op15 (p1 : Int32) (M : Mm) (K : Mm → Prop) (hV : V M) (hK : ∀ m, V m → K m) : OP15 p1 M K := by
  have hF := hV.1
  obtain ⟨C, mu, ky, A, B, F, hC, hCM, hmC, hmM, hky, k13, k27, hm, hs, hf, hsi⟩ := run_of hV
  obtain ⟨n, c, hn, t1, t4, htx⟩ := txt_of hV
  have c1 := hC.1.1
  have htd : V_told M := hV.2.2.2.2.2.2.1
  have hwk : V_walk M := hV.2.2.2.2.2.2.2.2.2.2.2.2.2.2.2.2.1
  have hprg : V_prg M := hV.2.2.2.2.2.2.2.2.2.1
  obtain ⟨P, hP, h6, q3, q4, q5, q7⟩ := prg_ne hprg
  obtain ⟨p9, hp9, h9⟩ := prg_9 hprg
  obtain ⟨len, hlen⟩ : ∃ len, len = if 60 < n then 60 else n := ⟨_, rfl⟩
  have hle : len ≤ 60 ∧ len ≤ n := by rw [hlen]; split <;> omega
  have hP1 : ∀ P ∈ PR, P ≠ 1 ∧ P + 5 ≤ 103 ∧ (2 < P ∨ P + 5 < 2) ∧ 4 ≤ P ∧ ((4 ≤ P ∧ P + 5 ≤ 9) ∨ (20 ≤ P ∧ P + 5 ≤ 103)) := by decide
  obtain ⟨z1, z2, z3, z4, z5⟩ := hP1 P hP
  obtain ⟨b, q, e, hR⟩ := RX_ex (c := c) (len := len) (ak := true) 2000 0 0 0 [] (fun _ => ⟨rfl, by omega⟩) (fun z => absurd z (by omega))
  have bd := RX_bd _ _ _ _ _ _ _ _ hR
  have hq : q ≤ len := by
    rcases hb : b with _ | _
    · exact (bd.2.2 hb).2 (by omega)
    · exact (bd.1 (by omega) hb).2.1
  have he : b = true → e.length ≤ 60 := fun hb => by have := bd.1 (by omega) hb; omega
  have wf : b = true → WFx e := fun hb => by
    subst hb
    exact ⟨RX_wf _ _ _ _ _ _ _ hR (fun z => absurd z (by omega)) 0, he rfl⟩
  have mq := m1q q (by omega)
  have aq := ans_rch q (by omega)
  obtain ⟨w, hw⟩ : ∃ w, w = cT C * (ky + 1) := ⟨_, rfl⟩
  have hw20 : w ≤ 20 := by
    rw [hw]
    have : cT C * (ky + 1) ≤ 4 * 5 := Nat.mul_le_mul c1 (by omega)
    omega
  show f_X10_reach S0 0 p1 M (fun r m1 => f_X11_reach S0 142 p1 m1 (AN r K))
  unfold f_X10_reach f_X10_takeText
  simp only [fx_0_0 hF, ex_some, s0_1, true_and, forall_eq, t1]
  have f0 : Fr (Drd P) E3 M (stI M 1 1 0) := Fr_I (by unfold Drd; simp) (Fr_refl _ _ _)
  have hF0 := FX_fr f0 hF
  have dt : ∀ b' j, 104 ≤ b' ∨ (b' = 1 ∧ j = 1) ∨ b' = 11 ∨ b' = 18 ∨ b' = 10 ∨ b' = 19 → dAs P b' j = false := by
    intro b' j h
    have : ∀ P ∈ PR, (11 < P ∨ P + 5 < 10) ∧ (19 < P ∨ P + 5 < 18) := by decide
    have := this P hP
    unfold dAs
    simp only [Bool.or_eq_false_iff, Bool.and_eq_false_iff, beq_eq_false_iff_ne, decide_eq_false_iff_not]
    omega
  -- the model where nothing is sought: it refuses, or the text is bad
  have simple : ∀ (M1 : Mm) (r : Int32), Fr (dAs P) eN (stI M 1 1 0) M1 → ((p1 < 0 ∨ (20 : Int32) < p1 ∨ cT C = 0) ∧ r = -1 ∨ (¬ p1 < 0 ∧ ¬ (20 : Int32) < p1 ∧ 0 < cT C) ∧ (((b = true → q ≠ len) ∧ r = (-100 : Int32) - nI q) ∨ (b = true ∧ q = len ∧ 60 < n ∧ r = -160))) → f_X11_reach S0 142 p1 M1 (AN r K) := by
    intro M1 r f1 hcase
    have f01 : Fr (Drd P) E3 M M1 := Fr_tr f0 (dAs_rd f1)
    have hF1 := FX_fr f01 hF
    have e1 : M1.1 1 1 = 0 := by rw [f1.1 1 1 (dt _ _ (by omega)), rI_eq]
    have i142 : ∀ j, M1.1 142 j = M.1 142 j := fun j => by rw [f1.1 142 j (dt _ _ (by omega)), rI_ne (by omega)]
    have td1 : V_told M1 := V_told_ag (M := M) (by rw [f1.1 116 1 (dt _ _ (by omega))]; rfl) (i142 1) (f1.2.1 117 rfl) (f1.2.1 143 rfl) htd
    have fin : ∀ M3, Fr dRe eN M1 M3 → M3.1 142 4 = 0 → V M3 := fun M3 f3 g4 => V_rdF hV h6 (Fr_tr f01 (dRe_rd f3)) (by rw [f3.1 1 1 rfl]; exact e1) g4 (told_fr f3 rfl rfl rfl rfl td1)
    unfold f_X11_reach
    simp only [forall_eq]
    have f3 : Fr dRe eN M1 (stI M1 142 0 0) := Fr_I rfl (Fr_refl _ _ _)
    have i144 : ∀ j, j < n → (stI M1 142 0 0).1 144 j = nI (c j) ∧ c j < 256 := fun j hj => by
      rw [rI_ne (by omega), f1.1 144 j (dt _ _ (by omega)), rI_ne (by omega)]
      exact (htx j hj).2
    have ir : ∀ M3, Fr dRe eN (stI M1 142 0 0) M3 → M3.1 142 15 = nI (cT C) := fun M3 g3 => by rw [g3.1 142 15 rfl, rI_ne (by omega), i142]; exact hCM.2.1
    refine reads_ok hR (fx_I hF1) (by rw [rI_ne (by omega), i142]; exact t4) hn hlen i144 he (fun hb M3 g3 g4 => ?_) (fun h1 h2 h3 M3 g3 g4 => ?_) (fun h1 h2 h3 M3 g3 g4 rw3 => ?_)
    · refine isRun_ok (nt := cT C) (ir M3 g3) c1 (fun x y z => ⟨fun v => absurd v (by decide), fun _ => ⟨fun v => absurd v mq.1, fun _ => ?_⟩⟩) (fun x => ⟨fun _ => ?_, fun v => absurd rfl v⟩)
      · rcases hcase with ⟨v, _⟩ | ⟨_, ⟨_, v⟩ | ⟨v1, v2, _⟩⟩
        · exact (v.elim x (fun v => v.elim y (fun v => by omega))).elim
        · exact an_ok (by rw [v, aq]) (hK _ (fin M3 (Fr_tr f3 g3) g4))
        · exact absurd v2 (hb v1)
      · rcases hcase with ⟨_, v⟩ | ⟨⟨v1, v2, v3⟩, _⟩
        · exact an_ok v (hK _ (fin M3 (Fr_tr f3 g3) g4))
        · exact (x.elim v1 (fun x => x.elim v2 (fun x => by omega))).elim
    · refine isRun_ok (nt := cT C) (ir M3 g3) c1 (fun x y z => ⟨fun v => absurd v (by decide), fun _ => ⟨fun v => absurd v (by decide), fun _ => ?_⟩⟩) (fun x => ⟨fun _ => ?_, fun v => absurd rfl v⟩)
      · rcases hcase with ⟨v, _⟩ | ⟨_, ⟨v, _⟩ | ⟨_, _, _, v⟩⟩
        · exact (v.elim x (fun v => v.elim y (fun v => by omega))).elim
        · exact absurd h2 (v h1)
        · exact an_ok (by rw [v]; decide) (hK _ (fin M3 (Fr_tr f3 g3) g4))
      · rcases hcase with ⟨_, v⟩ | ⟨⟨v1, v2, v3⟩, _⟩
        · exact an_ok v (hK _ (fin M3 (Fr_tr f3 g3) g4))
        · exact (x.elim v1 (fun x => x.elim v2 (fun x => by omega))).elim
    · refine isRun_ok (nt := cT C) (ir M3 g3) c1 (fun x y z => ?_) (fun x => ⟨fun _ => ?_, fun v => absurd rfl v⟩)
      · rcases hcase with ⟨v, _⟩ | ⟨_, ⟨v, _⟩ | ⟨_, _, v, _⟩⟩
        · exact (v.elim x (fun v => v.elim y (fun v => by omega))).elim
        · exact absurd h2 (v h1)
        · omega
      · rcases hcase with ⟨_, v⟩ | ⟨⟨v1, v2, v3⟩, _⟩
        · exact an_ok v (hK _ (fin M3 (Fr_tr f3 g3) g4))
        · exact (x.elim v1 (fun x => x.elim v2 (fun x => by omega))).elim
  have e1110 : ∀ M1, Fr (dAs P) eN (stI M 1 1 0) M1 → M1.1 11 10 = nI (cT C) := fun M1 f1 => by rw [f1.1 11 10 (dt _ _ (by omega)), rI_ne (by omega)]; exact hC.2.1
  refine asked_ok (c := c) hR hF0 h6 hP hn hlen (fun j hj => by rw [rI_ne (by omega)]; exact ⟨(htx j hj).1, (htx j hj).2.2⟩) (fun hb M1 f1 => ?_) (fun h1 h2 h3 M1 f1 => ?_) (fun h1 h2 h3 M1 f1 g6 g40 g41 g5 => ?_)
  · refine refuses_ok (FX_fr f1 hF0) (e1110 M1 f1) c1 (fun x y z => ⟨fun _ => ⟨fun v => absurd v (nI_pos (by omega)), fun _ => simple M1 _ f1 (Or.inr ⟨⟨x, y, z⟩, Or.inl ⟨hb, rfl⟩⟩)⟩, fun v => absurd rfl v⟩) (fun x => ⟨fun v => absurd v (by decide), fun _ => simple M1 _ f1 (Or.inl ⟨x, rfl⟩)⟩)
  · refine refuses_ok (FX_fr f1 hF0) (e1110 M1 f1) c1 (fun x y z => ⟨fun _ => ⟨fun v => absurd v (by decide), fun _ => simple M1 _ f1 (Or.inr ⟨⟨x, y, z⟩, Or.inr ⟨h1, h2, h3, by decide⟩⟩)⟩, fun v => absurd rfl v⟩) (fun x => ⟨fun v => absurd v (by decide), fun _ => simple M1 _ f1 (Or.inl ⟨x, rfl⟩)⟩)
  · refine refuses_ok (FX_fr f1 hF0) (e1110 M1 f1) c1 (fun x y z => ⟨fun _ => ⟨fun _ => ?_, fun v => absurd (by decide) v⟩, fun v => absurd rfl v⟩) (fun x => ⟨fun v => absurd v (by decide), fun _ => simple M1 _ f1 (Or.inl ⟨x, rfl⟩)⟩)
    obtain ⟨k, hk0, rfl⟩ := nI_of x
    have hk : k ≤ 20 := by
      rcases Nat.lt_or_ge 20 k with v | v
      · exact absurd (show nI 20 < nI k from nI_lt v hk0) y
      · exact v
    have hwp : 0 < w := by rw [hw]; exact Nat.mul_pos z (by omega)
    have f01 : Fr (Drd P) E3 M M1 := Fr_tr f0 (dAs_rd f1)
    have hF1 := FX_fr f01 hF
    have r1 : M1.2.2 = M.2.2 := f01.2.2
    have shP := (pr_sh P hP).1
    have sh9 := (pr_sh p9 hp9).1
    have e16 : M1.2.2 1 6 = some P := by rw [r1]; exact h6
    have e119 : M1.2.2 11 9 = some p9 := by rw [r1]; exact h9
    unfold f_X6_exchange
    simp only [fx_0_2 hF1, fx_0_0 hF1, e16, e119, ex_some, s0_1, s0_11, sh9, true_and, forall_eq]
    have rx : ∀ b' j, (stR (stR M1 1 6 (some p9)) 11 9 (some P)).2.2 b' j = if b' = 11 ∧ j = 9 then some P else if b' = 1 ∧ j = 6 then some p9 else M.2.2 b' j := fun b' j => by
      show (if b' = 11 ∧ j = 9 then some P else if b' = 1 ∧ j = 6 then some p9 else M1.2.2 b' j) = _
      rw [r1]
    have x1 : (stR (stR M1 1 6 (some p9)) 11 9 (some P)).1 = M1.1 := rfl
    have x2 : (stR (stR M1 1 6 (some p9)) 11 9 (some P)).2.1 = M1.2.1 := rfl
    have midf : ∀ M3 M4, Fr dCl eCl (stR (stR M1 1 6 (some p9)) 11 9 (some P)) M3 → Fr dRe eN (stI M3 142 0 0) M4 → Fr dRun eRun (midN P M M4) M4 := fun M3 M4 => mid_fr hP f1
    have hFx : FX (stR (stR M1 1 6 (some p9)) 11 9 (some P)) := FX_pl (M := M) (fun b' j hb => by rw [rx, if_neg (by omega), if_neg (by omega)]) hF
    generalize stR (stR M1 1 6 (some p9)) 11 9 (some P) = Mx at *
    have I : ∀ b' j, Drd P b' j = false → Mx.1 b' j = M.1 b' j := fun b' j hb => by rw [x1]; exact f01.1 b' j hb
    have ix : ∀ b' j, 104 ≤ b' ∨ b' = 11 ∨ b' = 18 ∨ b' = 10 → Mx.1 b' j = M.1 b' j := fun b' j hb => by rw [x1, f1.1 b' j (dt _ _ (by omega)), rI_ne (by omega)]
    have jx : ∀ b', Mx.2.1 b' = M.2.1 b' := fun b' => by rw [x2, f1.2.1 b' rfl]; rfl
    have ng : ∀ p, p ≠ P ∧ p ∈ PR → AGP M Mx p := fun p hp => AGP_rd hP hp.2 hp.1 I
    have rnx : ∀ b', b' ≠ 1 → b' ≠ 11 → Mx.2.2 b' = M.2.2 b' := fun b' v1 v2 => funext fun j => by rw [rx, if_neg (by omega), if_neg (by omega)]
    have hCx : CC Mx C := CC_pr hprg.2 (rnx 12 (by omega) (by omega)) (rnx 13 (by omega) (by omega)) (rnx 17 (by omega) (by omega)) (ix _ _ (by omega)) (ix _ _ (by omega)) (ix _ _ (by omega)) (funext fun j => ix _ _ (by omega)) (fun t p ht hp => ng p (q4 t p ht hp)) (fun b' p hb hp => ng p (q5 b' p hb hp)) hC
    have hmCx : mC Mx mu := mC_pr (by rw [rx, if_neg (by omega), if_neg (by omega)]) (fun p hp => ng p (q3 p hp)) hmC
    have hwkx : V_walk Mx := V_walk_ag (M := M) (ix _ _ (by omega)) (funext fun j => ix _ _ (by omega)) (funext fun j => ix _ _ (by omega)) (rnx 10 (by omega) (by omega)) hwk
    have hmx : MO Mx 113 A B F := by
      unfold MO at *
      rw [ix 113 2 (by omega), ix 113 3 (by omega), ix 113 4 (by omega), ix 113 5 (by omega), jx]; exact hm
    have hPEx : PE Mx P 0 e := ⟨by omega, by rw [x1, g6]; decide, 0, by have := he h1; omega, by rw [x1]; exact g40, by rw [x1, Nat.zero_add e.length]; exact g41, fun j hj => by rw [x1, Nat.zero_add]; exact g5 j hj⟩
    have h9x : Mx.2.2 11 9 = some P := by rw [rx, if_pos ⟨rfl, rfl⟩]
    have tdx : V_told Mx := V_told_ag (M := M) (ix _ _ (by omega)) (ix _ _ (by omega)) (jx _) (jx _) htd
    simp only [fx_0_1 hFx, fx_0_3 hFx, ex_some, s0_10, s0_113, true_and]
    -- the model
    have model : ∀ (M3 : Mm) (r : Int32), Fr dCl eCl Mx M3 → V_walk M3 → (4000 < (bf C ky w A B (Ed C ky w A B k * w)).length → r = -3 ∧ V_told M3) → ((bf C ky w A B (Ed C ky w A B k * w)).length ≤ 4000 → ¬ evv (thg A B F) e = 0 → r = 0 ∧ M3.1 116 1 = nI 0) → ((bf C ky w A B (Ed C ky w A B k * w)).length ≤ 4000 → evv (thg A B F) e = 0 → (∀ k', k' < Ed C ky w A B k * w → pS C ky w A B (soQ e) k' = false) → r = -2 ∧ V_told M3) → ((bf C ky w A B (Ed C ky w A B k * w)).length ≤ 4000 → evv (thg A B F) e = 0 → ∀ k', k' < Ed C ky w A B k * w → pS C ky w A B (soQ e) k' = true → (∀ j, j < k' → pS C ky w A B (soQ e) j = false) → r = nI ((gt (bf C ky w A B (Ed C ky w A B k * w)) (k' / w)).2.2.2.2 + 1) ∧ CW (bf C ky w A B (Ed C ky w A B k * w)) (k' / w) (k' % w) M3) → f_X11_reach S0 142 (nI k) M3 (AN r K) := by
      intro M3 r f3 w3 u3 uq u2 u1
      have hF3 := FX_fr f3 hFx
      have d3 : ∀ b' j, 142 ≤ b' ∨ (b' = 1) → dCl b' j = false := fun b' j hb => by
        unfold dCl dE dTd
        simp only [Bool.or_eq_false_iff, Bool.and_eq_false_iff, beq_eq_false_iff_ne, decide_eq_false_iff_not]
        omega
      have i3 : ∀ b' j, 142 ≤ b' → M3.1 b' j = M.1 b' j := fun b' j hb => by rw [f3.1 b' j (d3 _ _ (by omega)), ix _ _ (by omega)]
      have e11 : M3.1 1 1 = 0 := by rw [f3.1 1 1 (d3 _ _ (by omega)), x1, f1.1 1 1 (dt _ _ (by omega)), rI_eq]
      unfold f_X11_reach
      simp only [forall_eq]
      have i144 : ∀ j, j < n → (stI M3 142 0 0).1 144 j = nI (c j) ∧ c j < 256 := fun j hj => by
        rw [rI_ne (by omega), i3 _ _ (by omega)]
        exact (htx j hj).2
      refine reads_ok hR (fx_I hF3) (by rw [rI_ne (by omega), i3 _ _ (by omega)]; exact t4) hn hlen i144 he (fun hb => absurd h2 (hb h1)) (fun _ _ h => by omega) (fun _ _ _ M4 f4 g4 rw4 => ?_)
      have fN := midf M3 M4 f3 f4
      have VN : V (midN P M M4) := V_mid hV hP h6 h9 (fun b' j => by rw [f4.2.2]; show M3.2.2 b' j = _; rw [f3.2.2]; exact rx b' j) (by rw [f4.1 1 1 rfl, rI_ne (by omega)]; exact e11) g4
      have i4 : ∀ b' j, 142 ≤ b' → dRe b' j = false → M4.1 b' j = M.1 b' j := fun b' j v1 v2 => by
        have n1 : ¬ (b' = 142 ∧ j = 0) := by
          unfold dRe at v2
          simp only [Bool.or_eq_false_iff, Bool.and_eq_false_iff, beq_eq_false_iff_ne, decide_eq_false_iff_not] at v2
          omega
        rw [f4.1 b' j v2, rI_ne (by omega)]
        exact i3 b' j v1
      have r4 : ∀ b', 142 ≤ b' → (∀ j, dRe b' j = false) → M4.1 b' = M.1 b' := fun b' v1 v2 => funext fun j => i4 b' j v1 (v2 j)
      have hF4 : FX M4 := FX_fr f4 (fx_I hF3)
      have ag4 : ∀ r', r' < 73 → AGR M M4 r' := fun r' hr => by
        have d1 : ∀ b' j, ((b' = 145 ∨ b' = 146 ∨ b' = 148) ∧ j = r') ∨ (b' = 147 ∧ 64 * r' ≤ j ∧ j < 64 * r' + 64) → M4.1 b' j = M.1 b' j := fun b' j hb => i4 b' j (by omega) (by
          unfold dRe; simp only [Bool.or_eq_false_iff, Bool.and_eq_false_iff, beq_eq_false_iff_ne, decide_eq_false_iff_not]; omega)
        exact ⟨d1 _ _ (by omega), d1 _ _ (by omega), d1 _ _ (by omega), fun j hj => d1 _ _ (by omega)⟩
      have CM4 : CM M4 C := CM_pr ag4 (i4 _ _ (by omega) rfl) (i4 _ _ (by omega) rfl) (i4 _ _ (by omega) rfl) (i4 _ _ (by omega) rfl) (i4 _ _ (by omega) rfl) (r4 _ (by omega) fun _ => rfl) (r4 _ (by omega) fun _ => rfl) (r4 _ (by omega) fun _ => rfl) (r4 _ (by omega) fun _ => rfl) hCM
      have k4 : M4.1 142 27 = nI ky := (i4 _ _ (by omega) rfl).trans k27
      have ms4 : MS M4 A B := MS_ag (r4 _ (by omega) fun _ => rfl) (r4 _ (by omega) fun _ => rfl) (r4 _ (by omega) fun _ => rfl) (r4 _ (by omega) fun _ => rfl) hs
      have mf4 : MF M4 F := ⟨(i4 _ _ (by omega) rfl).trans hf.1, (i4 _ _ (by omega) rfl).trans hf.2.1, (i4 _ _ (by omega) rfl).trans hf.2.2.1, (i4 _ _ (by omega) rfl).trans hf.2.2.2⟩
      have w4 : V_walk M4 := walk_fr f4 rfl (fun _ => rfl) (fun _ => rfl) (V_walk_ag (M := M3) rfl rfl rfl rfl w3)
      have td4 : V_told M3 → V_told M4 := fun h => told_fr f4 rfl rfl rfl rfl (V_told_ag (M := M3) rfl rfl rfl rfl h)
      have i116 : M4.1 116 1 = M3.1 116 1 := by rw [f4.1 116 1 rfl, rI_ne (by omega)]
      have i117 : M4.2.1 117 = M3.2.1 117 := f4.2.1 117 rfl
      have mN : MO (midN P M M4) 113 A B F := by
        have dn : ∀ j, (midN P M M4).1 113 j = M.1 113 j := fun j => by
          show (if dNx P 113 j = true then M4.1 113 j else M.1 113 j) = _
          rw [if_neg]
          intro v
          unfold dNx at v
          simp only [Bool.or_eq_true, Bool.and_eq_true, beq_iff_eq, decide_eq_true_eq] at v
          omega
        unfold MO at *
        rw [dn 2, dn 3, dn 4, dn 5]; exact hm
      refine isRun_ok (nt := cT C) CM4.2.1 c1 (fun _ _ _ => ⟨fun v => absurd v (by decide), fun _ => ⟨fun _ => ?_, fun v => absurd (by decide) v⟩⟩) (fun v => (v.elim x (fun v => v.elim y (fun v => by omega))).elim)
      refine remem_ok (A := A) (B := B) (F := F) hF4 ms4 mf4 (fun M5 f5 r5 => ?_)
      have b5 : BM C ky M5 := ⟨FX_fr f5 hF4, CM_dRm f5 CM4, (f5.1 142 27 rfl).trans k4⟩
      have w5 : V_walk M5 := walk_fr f5 rfl (fun _ => rfl) (fun _ => rfl) w4
      have back : ∀ M6, Fr dQ eP M5 M6 → ∀ M7, Fr dCb eN M6 M7 → MS M7 A B → MF M7 F → M7.1 142 33 = 0 → FX M7 ∧ Fr dRun eRun (midN P M M4) M7 ∧ V_walk M7 ∧ RM M7 A B F ∧ CM M7 C ∧ M7.1 142 27 = nI ky ∧ RwM M7 73 e ∧ M7.1 116 1 = M3.1 116 1 ∧ M7.2.1 117 = M3.2.1 117 ∧ (V_told M3 → V_told M7) ∧ (∀ M8, Fr dRun eRun M7 M8 → M8.1 142 33 = 0 → MS M8 A B → MF M8 F → V_walk M8 → V_told M8 → V M8) := by
        intro M6 f6 M7 f7 ms7 mf7 z33
        have f47 : Fr dRun eRun M4 M7 := Fr_tr (dRm_run f5) (Fr_tr (dQ_run f6) (dCb_run f7))
        refine ⟨FX_fr f47 hF4, Fr_tr fN f47, walk_fr f7 rfl (fun _ => rfl) (fun _ => rfl) (walk_fr f6 rfl (fun _ => rfl) (fun _ => rfl) w5), RM_fr (fun j _ _ => by unfold dCb; simp only [Bool.or_eq_false_iff, Bool.and_eq_false_iff, beq_eq_false_iff_ne, decide_eq_false_iff_not]; omega) rfl f7 (RM_dQ f6 r5), ?_, ?_, ?_, ?_, ?_, fun h => told_fr f7 rfl rfl rfl rfl (told_fr f6 rfl rfl rfl rfl (told_fr f5 rfl rfl rfl rfl (td4 h))), fun M8 f8 v33 v1 v2 v3 v4 => V_run VN (Fr_tr (Fr_tr fN f47) f8) v33 mN v1 v2 v3 v4⟩
        · have c6 := CM_dQ f6 b5.2.1
          refine CM_ag (f7.1 _ _ rfl) (f7.1 _ _ rfl) (f7.1 _ _ rfl) (f7.1 _ _ rfl) ?_ (Fr_row f7 _ fun _ => rfl) (Fr_row f7 _ fun _ => rfl) (Fr_row f7 _ fun _ => rfl) (Fr_row f7 _ fun _ => rfl) (Fr_row f7 _ fun _ => rfl) (Fr_row f7 _ fun _ => rfl) (Fr_row f7 _ fun _ => rfl) (Fr_row f7 _ fun _ => rfl) c6
          rw [z33, f6.1 142 33 rfl, f5.1 142 33 rfl, i4 142 33 (by omega) rfl]
          exact (hV.2.2.2.2.2.2.2.2.1).choose_spec.choose_spec.choose_spec.choose_spec.2.2.2.2.2.2.2.2.2.2.2.2.symm
        · rw [f7.1 142 27 rfl, f6.1 142 27 rfl]; exact b5.2.2
        · exact RwM_ag (Fr_row f7 _ fun _ => rfl) (Fr_row f7 _ fun _ => rfl) (RwM_ag (Fr_row f6 _ fun _ => rfl) (Fr_row f6 _ fun _ => rfl) (RwM_ag (Fr_row f5 _ fun _ => rfl) (Fr_row f5 _ fun _ => rfl) rw4))
        · rw [f7.1 116 1 rfl, f6.1 116 1 rfl, f5.1 116 1 rfl, i116]
        · rw [f7.2.1 117 rfl, f6.2.1 117 rfl, f5.2.1 117 rfl, i117]
      refine explores_ok (mo := 4000) b5 hky hw z hsi r5.1 r5.2.1 hk (by omega) (by omega) (fun hle6 M6 f6 _ _ => ?_) (fun hgt M6 f6 => ?_)
      · refine comes_ok (FX_fr f6 b5.1) (RM_dQ f6 r5) (fun M7 f7 ms7 mf7 z33 => ⟨fun v => absurd v (by decide), fun _ => ?_⟩)
        obtain ⟨hF7, fN7, w7, rm7, cm7, k7, rw7, j116, j117, td7, vv⟩ := back M6 f6 M7 f7 ms7 mf7 z33
        refine worked_ok (r := 73) (A := A) (B := B) (F := F) (by omega) hF7 ms7 mf7 rw7 (wf h1) (fun M8 hE => ?_)
        have f78 : Fr dRun eRun M7 M8 := Fr_E1 (fun _ => rfl) (Fr_refl _ _ _) hE
        have i8 : ∀ b', b' ≠ 149 → M8.1 b' = M7.1 b' := fun b' h => hE.1 b' h
        have hF8 := FX_fr f78 hF7
        refine ⟨fun hz => ?_, fun hz => ?_⟩
        · refine findsBack (M := midN P M M4) (so := soQ e) VN hK (Fr_I rfl (Fr_tr fN7 f78)) ⟨fx_I hF8, ?_, ?_⟩ ?_ mN ?_ hky hw z hsi hk (fun M' f' => ?_) ?_ ?_ ?_
          · exact CM_ag (M := M7) (by rw [rI_ne (by omega), i8 142 (by omega)]) (by rw [rI_ne (by omega), i8 142 (by omega)]) (by rw [rI_ne (by omega), i8 142 (by omega)]) (by rw [rI_ne (by omega), i8 142 (by omega)]) (by rw [rI_ne (by omega), i8 142 (by omega)]) (by rw [stI_row (by omega), i8 _ (by omega)]) (by rw [stI_row (by omega), i8 _ (by omega)]) (by rw [stI_row (by omega), i8 _ (by omega)]) (by rw [stI_row (by omega), i8 _ (by omega)]) (by rw [stI_row (by omega), i8 _ (by omega)]) (by rw [stI_row (by omega), i8 _ (by omega)]) (by rw [stI_row (by omega), i8 _ (by omega)]) (by rw [stI_row (by omega), i8 _ (by omega)]) cm7
          · rw [rI_ne (by omega), i8 142 (by omega)]; exact k7
          · refine RM_run (M := M7) (fun j v1 v2 => by rw [rI_ne (by omega), i8 142 (by omega)]) (by show M8.2.1 142 = _; rw [hE.2]) rm7
          · exact V_walk_ag (M := M7) (by rw [rI_ne (by omega), i8 10 (by omega)]) (by rw [stI_row (by omega), i8 _ (by omega)]) (by rw [stI_row (by omega), i8 _ (by omega)]) (by show M8.2.2 10 = _; rw [hE.2]) w7
          · refine IF_1 (FX_fr f' (fx_I hF8)) (RwM_ag (Fr_row f' _ fun _ => rfl) (Fr_row f' _ fun _ => rfl) (RwM_ag (M := M7) (by rw [stI_row (by omega), i8 _ (by omega)]) (by rw [stI_row (by omega), i8 _ (by omega)]) rw7)) (wf h1) ((f'.1 142 51 rfl).trans rI_eq)
          · intro h; omega
          · intro h h'
            obtain ⟨er, td⟩ := u2 h hz h'
            exact ⟨er, V_told_ag (M := M7) (by rw [rI_ne (by omega), i8 116 (by omega)]) (by rw [rI_ne (by omega), i8 142 (by omega)]) (by show M8.2.1 117 = _; rw [hE.2]) (by show M8.2.1 143 = _; rw [hE.2]) (td7 td)⟩
          · intro h k' v1 v2 v3
            obtain ⟨er, y2, y3⟩ := u1 h hz k' v1 v2 v3
            refine ⟨er, ?_, fun j hj => ?_⟩
            · rw [rI_ne (by omega), i8 116 (by omega), j116]; exact y2
            · show M8.2.1 117 _ = _
              rw [hE.2, j117]; exact y3 j hj
        · obtain ⟨er, y2⟩ := uq hle6 hz
          refine an_ok er (hK _ (vv _ (Fr_I rfl f78) ?_ ?_ ⟨?_, ?_, ?_, ?_⟩ ?_ ⟨0, by omega, ?_, rI_eq, fun j hj => absurd hj (by omega)⟩))
          · rw [rI_ne (by omega), i8 142 (by omega)]; exact z33
          · exact MS_ag (M := M7) (by rw [stI_row (by omega), i8 _ (by omega)]) (by rw [stI_row (by omega), i8 _ (by omega)]) (by rw [stI_row (by omega), i8 _ (by omega)]) (by rw [stI_row (by omega), i8 _ (by omega)]) ms7
          · rw [rI_ne (by omega), i8 142 (by omega)]; exact mf7.1
          · rw [rI_ne (by omega), i8 142 (by omega)]; exact mf7.2.1
          · rw [rI_ne (by omega), i8 142 (by omega)]; exact mf7.2.2.1
          · rw [rI_ne (by omega), i8 142 (by omega)]; exact mf7.2.2.2
          · exact V_walk_ag (M := M7) (by rw [rI_ne (by omega), i8 10 (by omega)]) (by rw [stI_row (by omega), i8 _ (by omega)]) (by rw [stI_row (by omega), i8 _ (by omega)]) (by show M8.2.2 10 = _; rw [hE.2]) w7
          · rw [rI_ne (by omega), i8 116 (by omega), j116]; exact y2
      · refine comes_ok (FX_fr f6 b5.1) (RM_dQ f6 r5) (fun M7 f7 ms7 mf7 z33 => ⟨fun _ => ?_, fun v => absurd rfl v⟩)
        obtain ⟨hF7, fN7, w7, rm7, cm7, k7, rw7, j116, j117, td7, vv⟩ := back M6 f6 M7 f7 ms7 mf7 z33
        obtain ⟨er, td⟩ := u3 hgt
        exact an_ok er (hK _ (vv M7 (Fr_refl _ _ _) z33 ms7 mf7 w7 (td7 td)))
    refine seekG (C := C) (w := w) (mo := 4000) (so := soQ e) hFx hwkx hCx hmCx ((ix _ _ (by omega)).trans k13) hky hw (Or.inl rfl) hmx.2.2.1 hmx.2.2.2.1 hsi (by omega) (by omega) hk (fun M' f' h12 _ => SO_1 (FX_fr f' hFx) hP (by rw [f'.2.2]; exact h9x) (PE_ag (dE_prc f') hP hPEx) (wf h1) h12) (fun hgt M2 f2 w2 => ⟨fun _ => ?_, fun v => absurd rfl v⟩) (fun M2 f2 w2 X2 T2 => ⟨fun v => absurd v (by decide), fun _ => ?_⟩)
    · exact model M2 _ (dE_cl f2) w2 (fun _ => ⟨rfl, told_fr f2 rfl rfl rfl rfl tdx⟩) (fun h => by omega) (fun h => by omega) (fun h => by omega)
    · have hF2 := FX_fr f2 hFx
      have h9' : M2.2.2 11 9 = some P := by rw [f2.2.2]; exact h9x
      simp only [fx_0_2 hF2, fx_0_3 hF2, h9', ex_some, s0_11, s0_113, shP, true_and]
      have hm2 : MO M2 113 A B F := by
        unfold MO at *
        rw [Fr_row f2 113 (fun _ => rfl), f2.2.1 113 rfl]; exact hmx
      refine value_ok (q := 113) hP hF2 (by omega) hm2 (PE_ag (dE_prc f2) hP hPEx) (Or.inl (wf h1)) (fun M3 hE => ?_)
      have f23 : Fr dCl eCl Mx M3 := Fr_tr (dE_cl f2) (E19_cl hE)
      have hF3 := FX_fr f23 hFx
      have w3 : V_walk M3 := V_walk_ag (M := M2) (by rw [hE.1 10 (by omega)]) (hE.1 _ (by omega)) (hE.1 _ (by omega)) (by rw [hE.2]) w2
      have td3 : V_told M3 := V_told_ag (M := M2) (by rw [hE.1 116 (by omega)]) (by rw [hE.1 142 (by omega)]) (by rw [hE.2]) (by rw [hE.2]) (told_fr f2 rfl rfl rfl rfl tdx)
      have le4 := X2.2.2.2.2
      refine ⟨fun hz => ?_, fun hz => ?_⟩
      · have i15 : M3.1 10 15 = M2.1 10 15 := by rw [hE.1 10 (by omega)]
        simp only [fx_0_1 hF3, ex_some, s0_10, true_and, i15]
        have W3 : WK M3 (bf C ky w A B (Ed C ky w A B k * w)) := WK_mo (M := M2) (fun b' hb => hE.1 b' (by omega)) (by rw [hE.1 10 (by omega)]) (fun b' hb => by rw [hE.2]) X2.1
        refine tellTo hF3 W3 (bf_tr hwp _) hwp hw20 X2.2.2.2.1 (fun k' hk' => ?_) (fun hno => ?_) (fun k' v1 v2 v3 M4 f4 cw => ?_)
        · have hks : k' / w < Ed C ky w A B k := (Nat.div_lt_iff_lt_mul hwp).mpr hk'
          have hlen' : k' / w < (bf C ky w A B (Ed C ky w A B k * w)).length := Nat.lt_of_lt_of_le (bf_sl hks) (bf_mono (Nat.mul_le_mul_right _ (by omega)))
          have hdp := (dp_lt hwp hlen' (Nat.le_refl _)).mpr hks
          exact ⟨hlen', by omega⟩
        · exact model M3 _ f23 w3 (fun h => by omega) (fun _ h => absurd hz h) (fun _ _ _ => ⟨rfl, td3⟩) (fun _ _ k' v1 v2 => by rw [hno k' v1] at v2; exact absurd v2 (by decide))
        · refine model M4 _ (Fr_tr f23 (dTd_cl f4)) (walk_fr f4 rfl (fun _ => rfl) (fun _ => rfl) w3) (fun h => by omega) (fun _ h => absurd hz h) (fun _ _ h' => by rw [h' k' v1] at v2; exact absurd v2 (by decide)) (fun _ _ k2 y1 y2 y3 => ?_)
          have ek : k2 = k' := by
            rcases Nat.lt_trichotomy k2 k' with l | l | l
            · rw [v3 k2 l] at y2; exact absurd y2 (by decide)
            · exact l
            · rw [y3 k' l] at v2; exact absurd v2 (by decide)
          subst ek
          exact ⟨rfl, cw⟩
      · simp only [fx_0_6 hF3, ex_some, s0_116, true_and]
        unfold f_X7_clear
        simp only [forall_eq]
        have f34 : Fr dTd eTd M3 (stI M3 116 1 0) := Fr_I rfl (Fr_refl _ _ _)
        exact model _ _ (Fr_tr f23 (dTd_cl f34)) (walk_fr f34 rfl (fun _ => rfl) (fun _ => rfl) w3) (fun h => by omega) (fun _ _ => ⟨rfl, rI_eq⟩) (fun _ h => absurd h hz) (fun _ h => absurd h hz)
