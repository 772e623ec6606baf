/-! a told typing: the class follows it -/
def enc (o : Option (Nat × Nat)) : Int32 := match o with
  | none => -1
  | some p => nI (32 * p.1 + p.2)
theorem enc_ge {o : Option (Nat × Nat)} (h : ∀ p, o = some p → p.1 < 4001 ∧ p.2 < 32) : 0 ≤ enc o ↔ ¬ o = none := by
  match o, h with
  | none, h => exact ⟨fun z => absurd z (by decide), fun z => absurd rfl z⟩
  | some p, h =>
    obtain ⟨a, b⟩ := h p rfl
    exact ⟨fun _ => by simp, fun _ => le0 (by omega)⟩
theorem enc_or {o : Option (Nat × Nat)} {p : Nat × Nat} : enc (orE o p) = if o = none then nI (32 * p.1 + p.2) else enc o := by
  match o with
  | none => rfl
  | some q => rw [if_neg (by simp)]; rfl
/-- the class's walk is σ -/
def CT (M : Mm) (σ : TS) : Prop := WK M (tL σ) ∧ (∃ X Y, wy M X Y ∧ ∀ s, s < (tL σ).length → M.2.1 X s = lN (tW σ s)) ∧ M.1 10 14 = enc (tF σ) ∧ M.1 10 17 = enc (tE σ) ∧ M.2.1 10 18 = lN (tB σ)
def dFo : Nat → Nat → Bool := fun b j => b == 19 || b == 104 || b == 107 || b == 108 || b == 109 || (b == 10 && (j == 10 || j == 14 || j == 17))
def BT (C : Cf) (mu : Option (List Nat)) (M : Mm) : Prop := FX M ∧ CC M C ∧ mC M mu ∧ M.1 10 11 = nI 4000
theorem dFo_prc {M M' : Mm} (h : Fr dFo eG M M') : ∀ a, prc a → M'.1 a = M.1 a := fun a ha => Fr_row h a (fun j => by
  unfold prc at ha; unfold dFo; simp only [Bool.or_eq_false_iff, Bool.and_eq_false_iff, beq_eq_false_iff_ne]; omega)
theorem BT_fr {C : Cf} {mu : Option (List Nat)} {M M' : Mm} (f : Fr dFo eG M M') (h : BT C mu M) : BT C mu M' :=
  ⟨FX_fr f h.1, CC_ag (dFo_prc f) (f.1 _ _ rfl) (f.1 _ _ rfl) (f.1 _ _ rfl) (Fr_row f _ (fun _ => rfl)) (by rw [f.2.2]) (by rw [f.2.2]) (by rw [f.2.2]) h.2.1, mC_ag (dFo_prc f) (by rw [f.2.2]) h.2.2.1, (f.1 _ _ rfl).trans h.2.2.2⟩
theorem aA_dFo {M M' : Mm} (h : Fr (dA 104) (eA 104) M M') : Fr dFo eG M M' :=
  Fr_mono (fun b j hd => by unfold dFo at hd; unfold dA; simp only [Bool.or_eq_false_iff, beq_eq_false_iff_ne] at *; omega) (fun b hd => by unfold eG at hd; unfold eA; simp only [Bool.or_eq_false_iff, beq_eq_false_iff_ne] at *; omega) h
theorem dF_dFo {M M' : Mm} (h : Fr dF eF M M') : Fr dFo eG M M' :=
  Fr_mono (fun b j hd => by unfold dFo at hd; unfold dF; simp only [Bool.or_eq_false_iff, Bool.and_eq_false_iff, beq_eq_false_iff_ne] at *; omega) (fun b hd => by unfold eG at hd; unfold eF; simp only [Bool.or_eq_false_iff, beq_eq_false_iff_ne] at *; omega) h
theorem fo1 {C : Cf} {mu : Option (List Nat)} {hi s t key d D : Nat} {last : Bool} {σ : TS} {M : Mm} {BK EK : Mm → Prop} {BKt : Int32 → Mm → Prop} {K : Int32 → Mm → Prop} (hB : BT C mu M) (hT : CT M σ) (hI : TIv C hi d D σ) (hs : s < hi) (ht : t < cT C) (hkey : key < 256)
    (hBK : (tL (t1 C mu hi s t key last σ)).length ≤ 4000 → ∀ M', Fr dFo eG M M' → CT M' (t1 C mu hi s t key last σ) → BKt (nI (t + 1)) M') (hFl : 4000 < (tL (t1 C mu hi s t key last σ)).length → ∀ M', Fr dFo eG M M' → WK M' (tL σ) → K 0 M') : f_X9_followFrom_B3 S0 10 (nI s) (nI hi) (nI key) (if last = true then 1 else 0) (nI t) M BKt EK K := by
  obtain ⟨b1, b2, b3, b4⟩ := hB
  obtain ⟨W, ⟨X, Y, hXY, hW⟩, T14, T17, T18⟩ := hT
  obtain ⟨i1, i2, i3, i4, i5, i6, i7, i8, i9⟩ := hI
  have c1 := b2.1.1
  have hsl : s < (tL σ).length := by omega
  obtain ⟨y1, y2, y3, y4, y5⟩ := W.2.2.1 s hsl
  have hsi := i4 s hsl
  have hs4 : s < 4000 := by omega
  have hins : vp_in (nI s) 4000 := vp_in_nI hs4 (by omega)
  have hcls : (nI s).toNatClampNeg = s := nI_clamp (by omega)
  obtain ⟨sX, sY, nXY⟩ := wy_sh hXY
  have hX12 : X = 111 ∨ X = 112 := by rcases hXY.2.2 with z | z <;> omega
  have hbd := stp_bd (key := key) b2.1 ht hsi.2.2 hkey hsi.1 hsi.2.1
  unfold f_X9_followFrom_B3
  simp only [fx_10_0 b1, ex_some, s0_11, true_and, b2.2.1]
  refine ⟨fun z => absurd z (nI_ge ht (by omega)), fun _ => ?_⟩
  simp only [rJr, fx_10_0 b1, fx_10_1 b1, fx_10_2 b1, fx_10_3 b1, ex_some, s0_11, s0_104, s0_105, s0_106, ex_sh, hins, hcls, true_and, forall_eq, y1]
  have e2 : (stJ M 104 0 (lN (gt (tL σ) s).1)).2.1 106 s = lN (gt (tL σ) s).2.1 := by rw [rJ, if_neg (by omega)]; exact y2
  rw [e2]
  have f1 : Fr dFo eG M (stJ (stJ M 104 0 (lN (gt (tL σ) s).1)) 104 1 (lN (gt (tL σ) s).2.1)) := Fr_J rfl (Fr_J rfl (Fr_refl _ _ _))
  generalize hY : stJ (stJ M 104 0 (lN (gt (tL σ) s).1)) 104 1 (lN (gt (tL σ) s).2.1) = Z at f1
  have yi : Z.1 = M.1 := by rw [← hY]; rfl
  have mY : MO Z 104 (gt (tL σ) s).1 (gt (tL σ) s).2.1 (M.1 104 2, M.1 104 3, M.1 104 4, M.1 104 5) := by
    refine ⟨y3, y4, ?_, ?_, by rw [yi], by rw [yi], by rw [yi], by rw [yi]⟩
    · rw [← hY, rJ, if_neg (by omega), stJ_get]
    · rw [← hY, stJ_get]
  have YJ : ∀ b, b ≠ 104 → Z.2.1 b = M.2.1 b := fun b hb => by rw [← hY, stJ_row hb, stJ_row hb]
  have BZ : BT C mu Z := BT_fr f1 ⟨b1, b2, b3, b4⟩
  refine act_ok (Or.inl rfl) BZ.2.1 BZ.1 mY ht hkey (hsi.2.2 t ht) (fun M2 f2 m2 z2 => ?_)
  have f2' : Fr dFo eG M M2 := Fr_tr f1 (aA_dFo f2)
  have hF2 := FX_fr f2' b1
  rw [shl5 hs4 (show t < 32 by omega)]
  simp only [fx_10_0 hF2, fx_10_1 hF2, ex_some, s0_11, s0_104, true_and, forall_eq]
  refine breaks_ok hF2 (BT_fr f2' ⟨b1, b2, b3, b4⟩).2.2.1 (by decide) m2 (fun M3 hE => ?_)
  have f3 : Fr dFo eG M M3 := Fr_E1 (fun _ => rfl) f2' hE
  have B3 : BT C mu M3 := BT_fr f3 ⟨b1, b2, b3, b4⟩
  have m3 := MO_E1 (by decide) hE m2
  have hF3 := B3.1
  have I3 : ∀ j, M3.1 10 j = M.1 10 j := fun j => by rw [hE.1 10 (by decide), f2.1 10 j rfl, yi]
  have J3 : ∀ b, b ≠ 104 → M3.2.1 b = M.2.1 b := fun b hb => by rw [hE.2, f2.2.1 b (by unfold eA; simp only [beq_eq_false_iff_ne]; exact hb), YJ b hb]
  have W3 : WK M3 (tL σ) := by
    refine WK_mo (fun b hb => ?_) (I3 10) (fun b hb => J3 b (by omega)) W
    rw [hE.1 b (by omega), Fr_row f2 b (fun j => by unfold dA; simp; omega), yi]
  have wy3 : wy M3 X Y := by unfold wy; rw [f3.2.2]; exact hXY
  have hW3 : ∀ a, a < (tL σ).length → M3.2.1 X a = lN (tW σ a) := fun a ha => by rw [J3 X (by omega)]; exact hW a ha
  unfold t1 at hBK hFl
  generalize stp C (gt (tL σ) s).1 (gt (tL σ) s).2.1 t key = q at *
  by_cases hbr : brk mu q.1 q.2.1 q.2.2.1 = true
  · rw [if_pos hbr] at hBK hFl ⊢
    have hBK' := hBK i3
    refine ⟨fun z => absurd z (by decide), fun _ => ?_⟩
    have ok14 : ∀ p, tF σ = some p → p.1 < 4001 ∧ p.2 < 32 := fun p hp => by obtain ⟨u, v⟩ := i8 p hp; omega
    have ok17 : ∀ p, tE σ = some p → p.1 < 4001 ∧ p.2 < 32 := fun p hp => by obtain ⟨u, v, _⟩ := i9 p hp; omega
    have j94 : ∀ v, v = enc (orE (tF σ) (s, t)) → f_X9_followFrom_J94 S0 10 (nI s) (nI hi) (nI key) (if last = true then 1 else 0) (nI t) (nI (32 * s + t)) v 10 M3 BKt K := by
      intro v hv
      unfold f_X9_followFrom_J94
      refine ⟨s0_10, ?_⟩
      simp only [forall_eq, nI_1]
      have f4 : Fr dFo eG M (stI M3 10 14 v) := Fr_I rfl f3
      have W4 : WK (stI M3 10 14 v) (tL σ) := WK_mo (fun b hb => stI_row (by omega)) (rI_ne (by omega)) (fun _ _ => rfl) W3
      have wy4 : wy (stI M3 10 14 v) X Y := wy3
      refine ⟨fun el => ?_, fun el => ?_⟩
      · have el' : ¬ last = true := fun z => by rw [if_pos z] at el; exact absurd el (by decide)
        refine hBK' _ f4 ⟨W4, ⟨X, Y, wy4, hW3⟩, ?_, ?_, ?_⟩
        · rw [rI_eq]; exact hv
        · rw [rI_ne (by omega), I3, T17]
          show _ = enc (if last = true then orE (tE σ) (s, t) else tE σ)
          rw [if_neg el']
        · show M3.2.1 10 18 = lN (if last = true then tB σ + tW σ s else tB σ)
          rw [if_neg el', J3 10 (by omega)]; exact T18
      · have el' : last = true := by
          rcases hq : last with _ | _
          · rw [hq, if_neg (by decide)] at el; exact absurd rfl el
          · rfl
        have i17 : (stI M3 10 14 v).1 10 17 = enc (tE σ) := by rw [rI_ne (by omega), I3]; exact T17
        rw [i17, enc_ge ok17]
        have j119 : ∀ u, u = enc (orE (tE σ) (s, t)) → f_X9_followFrom_J119 S0 10 (nI s) (nI hi) (nI key) (if last = true then 1 else 0) (nI t) u 10 (stI M3 10 14 v) BKt K := by
          intro u hu
          unfold f_X9_followFrom_J119
          refine ⟨s0_10, ?_⟩
          have r8 : (stI (stI M3 10 14 v) 10 17 u).2.2 10 8 = some X := wy3.1
          simp only [forall_eq, nI_1, r8, ex_some, sX, ex_sh, hins, hcls, true_and]
          have e18 : (stI (stI M3 10 14 v) 10 17 u).2.1 10 18 = lN (tB σ) := by show M3.2.1 10 18 = _; rw [J3 10 (by omega)]; exact T18
          have eX : (stI (stI M3 10 14 v) 10 17 u).2.1 X s = lN (tW σ s) := hW3 s hsl
          rw [e18, eX, lN_add]
          refine hBK' _ (Fr_J rfl (Fr_I rfl f4)) ⟨?_, ⟨X, Y, wy3, fun a ha => ?_⟩, ?_, ?_, ?_⟩
          · exact WK_mo (M := M3) (fun b hb => by show (stI (stI M3 10 14 v) 10 17 u).1 b = _; rw [stI_row (by omega), stI_row (by omega)]) (by show (stI (stI M3 10 14 v) 10 17 u).1 10 10 = _; rw [rI_ne (by omega), rI_ne (by omega)]) (fun b hb => by rw [stJ_row (by omega)]; rfl) W3
          · rw [rJ, if_neg (by omega)]; exact hW3 a ha
          · show (stI (stI M3 10 14 v) 10 17 u).1 10 14 = _
            rw [rI_ne (by omega), rI_eq]; exact hv
          · show (stI (stI M3 10 14 v) 10 17 u).1 10 17 = enc (if last = true then orE (tE σ) (s, t) else tE σ)
            rw [rI_eq, if_pos el']; exact hu
          · rw [stJ_get]
            show lN (tB σ + tW σ s) = lN (if last = true then tB σ + tW σ s else tB σ)
            rw [if_pos el']
        refine ⟨fun z => j119 _ (by rw [enc_or, if_neg z]), fun z => j119 _ ?_⟩
        rw [enc_or, if_pos (Classical.not_not.mp z)]
    rw [I3, T14, enc_ge ok14]
    refine ⟨fun z => j94 _ (by rw [enc_or, if_neg z]), fun z => j94 _ ?_⟩
    rw [enc_or, if_pos (Classical.not_not.mp z)]
  · rw [if_neg hbr] at hBK hFl ⊢
    refine ⟨fun _ => ?_, fun z => absurd rfl z⟩
    refine find_okW (L := tL σ) (A := q.1) (B := q.2.1) (mo := 4000) (lo := hi) (fs := s) (fm := t) (dp := (gt (tL σ) s).2.2.2.2 + 1) hF3 (by unfold wyR; rcases hX12 with e | e <;> rw [wy3.1, e] <;> simp) B3.2.2.2 (by omega) hbd.1 hbd.2 m3.2.2.1 m3.2.2.2.1 i1 (by unfold frm; rw [if_neg (by omega)]) W3 (fun s' h1 h2 h3 => ?_) (fun hno hlt M4 f4 W4 hx4 => ?_) (fun hno hge => ?_)
    · -- there already
      have hfd : fdx (tL σ) hi q.1 q.2.1 = some s' := by
        rcases hq : fdx (tL σ) hi q.1 q.2.1 with _ | s''
        · exact absurd h3 (fdx_none hq s' h1 h2)
        · obtain ⟨u1, u2, u3⟩ := fdx_some hq
          have : s'' = s' := i5 s'' s' u1 u2 h1 h2 (u3.1.trans h3.1.symm) (u3.2.trans h3.2.symm)
          rw [this]
      rw [hfd] at hBK
      refine ⟨fun _ => ?_, fun z => absurd (le0 (by omega)) z⟩
      have hin' : vp_in (nI s') 4000 := vp_in_nI (by omega) (by omega)
      have hcl' : (nI s').toNatClampNeg = s' := nI_clamp (by omega)
      simp only [wy3.1, ex_some, sX, ex_sh, hins, hcls, hin', hcl', true_and, forall_eq, nI_1, hW3 s' h2, hW3 s hsl, lN_add]
      refine hBK i3 _ (Fr_J (by rcases hX12 with rfl | rfl <;> rfl) f3) ⟨?_, ⟨X, Y, wy3, fun a ha => ?_⟩, ?_, ?_, ?_⟩
      · exact WK_mo (M := M3) (fun b hb => rfl) rfl (fun b hb => by rw [stJ_row (by omega)]) W3
      · rw [rJ]
        show _ = lN (upn (tW σ) s' (tW σ s' + tW σ s) a)
        by_cases ea : a = s'
        · rw [if_pos ⟨rfl, ea⟩, ea, upn_eq]
        · rw [if_neg (fun z => ea z.2), upn_ne ea]; exact hW3 a ha
      · show M3.1 10 14 = _; rw [I3]; exact T14
      · show M3.1 10 17 = _; rw [I3]; exact T17
      · rw [stJ_row (by omega), J3 10 (by omega)]; exact T18
    · -- a new one
      have hfd : fdx (tL σ) hi q.1 q.2.1 = none := by
        rcases hq : fdx (tL σ) hi q.1 q.2.1 with _ | s''
        · rfl
        · obtain ⟨u1, u2, u3⟩ := fdx_some hq
          exact absurd u3 (hno s'' u1 u2)
      rw [hfd] at hBK
      have hlen : (tL σ ++ [(q.1, q.2.1, s, t, (gt (tL σ) s).2.2.2.2 + 1)]).length = (tL σ).length + 1 := by simp
      obtain ⟨x1, x2⟩ := hx4 X wy3.1
      refine ⟨fun _ => ?_, fun z => absurd (le0 (by omega)) z⟩
      have hin' : vp_in (nI (tL σ).length) 4000 := vp_in_nI (by omega) (by omega)
      have hcl' : (nI (tL σ).length).toNatClampNeg = (tL σ).length := nI_clamp (by omega)
      have wy4 : wy M4 X Y := by unfold wy; rw [f4.2.2]; exact wy3
      have eS : M4.2.1 X s = lN (tW σ s) := by rw [x1 X hX12 s (by omega)]; exact hW3 s hsl
      simp only [wy4.1, ex_some, sX, ex_sh, hins, hcls, hin', hcl', true_and, forall_eq, nI_1, x2, eS]
      rw [show (0 : Int64) + lN (tW σ s) = lN (tW σ s) by rw [show (0 : Int64) = lN 0 from rfl, lN_add, Nat.zero_add]]
      have f4' : Fr dFo eG M M4 := Fr_tr f3 (dF_dFo f4)
      refine hBK (by show (tL σ ++ _).length ≤ 4000; rw [hlen]; omega) _ (Fr_J (by rcases hX12 with rfl | rfl <;> rfl) f4') ⟨?_, ⟨X, Y, wy4, fun a ha => ?_⟩, ?_, ?_, ?_⟩
      · exact WK_mo (M := M4) (fun b hb => rfl) rfl (fun b hb => by rw [stJ_row (by omega)]) W4
      · have ha : a < (tL σ).length + 1 := by rw [← hlen]; exact ha
        rw [rJ]
        show _ = lN (upn (tW σ) (tL σ).length (tW σ s) a)
        by_cases ea : a = (tL σ).length
        · rw [if_pos ⟨rfl, ea⟩, ea, upn_eq]
        · rw [if_neg (fun z => ea z.2), upn_ne ea, x1 X hX12 a (fun z => ea z.2)]; exact hW3 a (by omega)
      · show M4.1 10 14 = _; rw [f4.1 10 14 rfl, I3]; exact T14
      · show M4.1 10 17 = _; rw [f4.1 10 17 rfl, I3]; exact T17
      · rw [stJ_row (by omega), f4.2.1 10 rfl, J3 10 (by omega)]; exact T18
    · -- too many
      have hfd : fdx (tL σ) hi q.1 q.2.1 = none := by
        rcases hq : fdx (tL σ) hi q.1 q.2.1 with _ | s''
        · rfl
        · obtain ⟨u1, u2, u3⟩ := fdx_some hq
          exact absurd u3 (hno s'' u1 u2)
      rw [hfd] at hFl
      refine ⟨fun z => absurd z (by decide), fun _ => hFl ?_ M3 f3 W3⟩
      show 4000 < (tL σ ++ [_]).length
      rw [List.length_append]
      simp only [List.length_cons, List.length_nil]
      omega
