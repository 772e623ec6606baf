/-! a told typing: the model -/
/-- the model's rows are σ; its table holds those from hi on -/
def MTy (M : Mm) (σ : TS) (hi : Nat) : Prop := WM M (tL σ) hi ∧ (∀ s, s < (tL σ).length → s ≠ 0 → M.1 162 s = nI (gt (tL σ) s).2.2.1 ∧ M.1 163 s = nI (gt (tL σ) s).2.2.2.1) ∧ (∀ s, s < (tL σ).length → M.2.1 174 s = lN (tW σ s)) ∧ M.1 142 63 = (if tF σ = none then 0 else 1) ∧ M.2.1 142 64 = lN (tB σ) ∧ (tE σ = none → M.1 142 65 = -1) ∧ ∀ p, tE σ = some p → M.1 142 65 = nI p.1 ∧ M.1 142 66 = nI p.2
def dTy : Nat → Nat → Bool := fun b j => dQ b j || (b == 142 && (j == 62 || j == 63 || j == 65 || j == 66))
def eTy : Nat → Bool := fun b => b == 160 || b == 161 || b == 174 || b == 142
def FrT (M M' : Mm) : Prop := Fr dTy eTy M M' ∧ M'.2.1 142 45 = M.2.1 142 45 ∧ M'.2.1 142 46 = M.2.1 142 46
theorem FrT_refl (M : Mm) : FrT M M := ⟨Fr_refl _ _ _, rfl, rfl⟩
theorem FrT_tr {M M' M'' : Mm} (h : FrT M M') (h' : FrT M' M'') : FrT M M'' := ⟨Fr_tr h.1 h'.1, h'.2.1.trans h.2.1, h'.2.2.trans h.2.2⟩
theorem FrT_Q {M M' M'' : Mm} (h : FrT M M') (f : Fr dQ eP M' M'') : FrT M M'' :=
  FrT_tr h ⟨Fr_mono (fun b j hd => by unfold dTy at hd; simp only [Bool.or_eq_false_iff] at hd; exact hd.1) (fun b hd => by unfold eTy at hd; unfold eP; simp only [Bool.or_eq_false_iff] at *; exact hd.1.1) f, by rw [f.2.1 142 rfl], by rw [f.2.1 142 rfl]⟩
theorem FrT_I {M M' : Mm} {a k : Nat} {v : Int32} (hd : dTy a k = true) (h : FrT M M') : FrT M (stI M' a k v) := ⟨Fr_I hd h.1, h.2.1, h.2.2⟩
theorem FrT_J {M M' : Mm} {a k : Nat} {v : Int64} (hd : eTy a = true) (hk : ¬ (a = 142 ∧ (k = 45 ∨ k = 46))) (h : FrT M M') : FrT M (stJ M' a k v) := ⟨Fr_J hd h.1, by rw [rJ, if_neg (by omega)]; exact h.2.1, by rw [rJ, if_neg (by omega)]; exact h.2.2⟩
theorem RM_frT {M M' : Mm} {A B : Nat} {F : F4} (h : FrT M M') (hr : RM M A B F) : RM M' A B F := by
  obtain ⟨a1, a2, a3, a4, a5, a6⟩ := hr
  exact ⟨h.2.1.trans a1, h.2.2.trans a2, (h.1.1 _ _ rfl).trans a3, (h.1.1 _ _ rfl).trans a4, (h.1.1 _ _ rfl).trans a5, (h.1.1 _ _ rfl).trans a6⟩
def BY (C : Cf) (mu : Option (List Nat)) (ky len : Nat) (M : Mm) : Prop := FX M ∧ CM M C ∧ mM M mu ∧ M.1 142 27 = nI ky ∧ M.1 142 60 = nI len
theorem BY_fr {C : Cf} {mu : Option (List Nat)} {ky len : Nat} {M M' : Mm} (h : FrT M M') (b : BY C mu ky len M) : BY C mu ky len M' :=
  ⟨FX_fr h.1 b.1, CM_ag (h.1.1 _ _ rfl) (h.1.1 _ _ rfl) (h.1.1 _ _ rfl) (h.1.1 _ _ rfl) (h.1.1 _ _ rfl) (Fr_row h.1 _ (fun _ => rfl)) (Fr_row h.1 _ (fun _ => rfl)) (Fr_row h.1 _ (fun _ => rfl)) (Fr_row h.1 _ (fun _ => rfl)) (Fr_row h.1 _ (fun _ => rfl)) (Fr_row h.1 _ (fun _ => rfl)) (Fr_row h.1 _ (fun _ => rfl)) (Fr_row h.1 _ (fun _ => rfl)) b.2.1, mM_ag (Fr_row h.1 _ fun _ => rfl) (Fr_row h.1 _ fun _ => rfl) (h.1.1 _ _ rfl) b.2.2.1, (h.1.1 _ _ rfl).trans b.2.2.2.1, (h.1.1 _ _ rfl).trans b.2.2.2.2⟩
theorem mo1 {C : Cf} {mu : Option (List Nat)} {ky len hi s t i key d D : Nat} {last : Bool} {σ : TS} {x1 x5 : Int32} {M : Mm} {EK K : Mm → Prop} {BKt : Int32 → Mm → Prop} (hB : BY C mu ky len M) (hT : MTy M σ hi) (h62 : M.1 142 62 = 0) (hI : TIv C hi d D σ) (hs : s < hi) (ht : t < cT C) (hky : ky < 5) (hkey : key ≤ ky) (hlen : len ≤ 8) (hl1 : 1 ≤ len) (hi8 : i < 8) (hlast : i + 1 = len ↔ last = true)
    (hBK : (tL (t1 C mu hi s t key last σ)).length ≤ 4000 → ∀ M', FrT M M' → MTy M' (t1 C mu hi s t key last σ) hi → M'.1 142 62 = 0 → BKt (nI (t + 1)) M') (hFl : 4000 < (tL (t1 C mu hi s t key last σ)).length → ∀ M', FrT M M' → M'.1 142 62 = 1 → BKt (nI (t + 1)) M') : f_X11_types_B147 S0 142 x1 (nI i) (nI key) x5 (nI s) (nI t) M BKt EK K := by
  obtain ⟨b1, b2, b3, b4, b5⟩ := hB
  obtain ⟨W, Wp, Wr, W63, W64, W65, W66⟩ := hT
  obtain ⟨i1, i2, i3, i4, i5, i6, i7, i8, i9⟩ := hI
  have c1 := b2.1.1
  have hsl : s < (tL σ).length := by omega
  have hsi := i4 s hsl
  have hbd := stp_bd (key := key) b2.1 ht hsi.2.2 (by omega) hsi.1 hsi.2.1
  unfold f_X11_types_B147
  rw [b2.2.1, h62]
  refine ⟨fun z => absurd z (nI_ge ht (by omega)), fun _ => ⟨fun _ => ?_, fun z => absurd rfl z⟩⟩
  have ix : nI t * (M.1 142 27 + (1 : Int32)) + nI key = nI (t * (ky + 1) + key) := by rw [b4, nI_1, pk_mul, nI_add]
  rw [ix]
  refine goes_ok (t := t) (key := key) b1 b2 b4 hky W hsl hsi.2.2 ht hkey rfl (fun M1 f1 m1 mf1 z1 => ?_)
  have ft1 : FrT M M1 := FrT_Q (FrT_refl M) (dD_dQ f1)
  have hF1 := FX_fr f1 b1
  unfold t1 at hBK hFl
  generalize stp C (gt (tL σ) s).1 (gt (tL σ) s).2.1 t key = q at *
  refine breaksM_ok hF1 (BY_fr ft1 ⟨b1, b2, b3, b4, b5⟩).2.2.1 m1 mf1 (fun M2 hE => ?_)
  have f2 : Fr dD eN M M2 := Fr_E1 (fun _ => rfl) f1 hE
  have ft2 : FrT M M2 := FrT_Q (FrT_refl M) (dD_dQ f2)
  have hF2 := FX_fr f2 b1
  have W2 := WM_dD f2 W
  have Wp2 : ∀ a, a < (tL σ).length → a ≠ 0 → M2.1 162 a = nI (gt (tL σ) a).2.2.1 ∧ M2.1 163 a = nI (gt (tL σ) a).2.2.2.1 := fun a ha hz => by rw [f2.1 162 a rfl, f2.1 163 a rfl]; exact Wp a ha hz
  have J2 : ∀ b, M2.2.1 b = M.2.1 b := fun b => f2.2.1 b rfl
  have I2 : ∀ j, (j = 44 ∨ j = 60 ∨ j = 62 ∨ j = 63 ∨ j = 65 ∨ j = 66) → M2.1 142 j = M.1 142 j := fun j hj => f2.1 142 j (by unfold dD; simp only [Bool.or_eq_false_iff, Bool.and_eq_false_iff, beq_eq_false_iff_ne]; omega)
  have m2 : MS M2 q.1 q.2.1 := MS_E1 hE m1
  have hins : vp_in (nI s) 4001 := vp_in_nI (by omega) (by omega)
  have hcls : (nI s).toNatClampNeg = s := nI_clamp (by omega)
  by_cases hbr : brk mu q.1 q.2.1 q.2.2.1 = true
  · rw [if_pos hbr] at hBK hFl ⊢
    have hBK' := hBK i3
    refine ⟨fun z => absurd z (by decide), fun _ => ?_⟩
    simp only [forall_eq]
    have ft3 : FrT M (stI M2 142 63 1) := FrT_I rfl ft2
    have hF3 := FX_fr ft3.1 b1
    have i60 : (stI M2 142 63 1).1 142 60 = nI len := by rw [rI_ne (by omega), I2 60 (by omega)]; exact b5
    have hlast' : (nI i = nI len - (1 : Int32)) ↔ last = true := by
      rw [← hlast, show len = (len - 1) + 1 by omega, nI_pred, nI_eq (by omega) (by omega)]; omega
    have n63 : (1 : Int32) = if orE (tF σ) (s, t) = none then 0 else 1 := by
      rw [if_neg (by unfold orE; cases tF σ <;> simp)]
    rw [i60, hlast']
    have W3 : WM (stI M2 142 63 1) (tL σ) hi := WM_ag (M := M2) (by rw [rI_ne (by omega)]) rfl rfl (stI_row (by omega)) W2
    refine ⟨fun el => ?_, fun el => ?_⟩
    · -- the last step
      unfold f_X11_types_J208
      refine ⟨fun z => absurd z (by decide), fun _ => ?_⟩
      simp only [fx_142_67 hF3, ex_some, s0_174, ex_sh, hins, hcls, true_and]
      unfold f_X11_types_J231
      refine ⟨s0_142, ?_⟩
      have eW : (stI M2 142 63 1).2.1 174 s = lN (tW σ s) := by show M2.2.1 174 s = _; rw [J2]; exact Wr s hsl
      have eB : (stI M2 142 63 1).2.1 142 64 = lN (tB σ) := by show M2.2.1 142 64 = _; rw [J2]; exact W64
      simp only [forall_eq, nI_1, eW, eB, lN_add]
      generalize hM4 : stJ (stI M2 142 63 1) 142 64 (lN (tB σ + tW σ s)) = M4
      have ft4 : FrT M M4 := by rw [← hM4]; exact FrT_J rfl (by omega) ft3
      have W4 : WM M4 (tL σ) hi := by
        rw [← hM4]
        exact WM_ag (M := stI M2 142 63 1) rfl (stJ_row (by omega)) (stJ_row (by omega)) rfl W3
      have Wp4 : ∀ a, a < (tL σ).length → a ≠ 0 → M4.1 162 a = nI (gt (tL σ) a).2.2.1 ∧ M4.1 163 a = nI (gt (tL σ) a).2.2.2.1 := fun a ha hz => by rw [← hM4]; exact Wp2 a ha hz
      have Wr4 : ∀ a, a < (tL σ).length → M4.2.1 174 a = lN (tW σ a) := fun a ha => by
        rw [← hM4, stJ_row (by omega)]; show M2.2.1 174 a = _; rw [J2]; exact Wr a ha
      have i63 : M4.1 142 63 = 1 := by rw [← hM4]; show (stI M2 142 63 1).1 142 63 = 1; exact rI_eq
      have i64 : M4.2.1 142 64 = lN (tB σ + tW σ s) := by rw [← hM4, stJ_get]
      have i65 : M4.1 142 65 = M.1 142 65 := by rw [← hM4]; show (stI M2 142 63 1).1 142 65 = _; rw [rI_ne (by omega), I2 65 (by omega)]
      have i66 : M4.1 142 66 = M.1 142 66 := by rw [← hM4]; show (stI M2 142 63 1).1 142 66 = _; rw [rI_ne (by omega), I2 66 (by omega)]
      have i62 : M4.1 142 62 = 0 := by rw [← hM4]; show (stI M2 142 63 1).1 142 62 = _; rw [rI_ne (by omega), I2 62 (by omega)]; exact h62
      refine ⟨fun z => absurd z (by decide), fun _ => ?_⟩
      rw [i65]
      have e64 : lN (tB σ + tW σ s) = lN (if last = true then tB σ + tW σ s else tB σ) := by rw [if_pos el]
      rcases hE' : tE σ with _ | p
      · have m65 := W65 hE'
        rw [m65]
        refine ⟨fun z => absurd z (by decide), fun _ => ?_⟩
        refine hBK' _ (FrT_I rfl (FrT_I rfl ft4)) ⟨?_, fun a ha hz => ?_, Wr4, ?_, ?_, fun hn => ?_, fun p hp => ?_⟩ ?_
        · exact WM_ag (M := M4) (by rw [rI_ne (by omega), rI_ne (by omega)]) rfl rfl (by rw [stI_row (by omega), stI_row (by omega)]) W4
        · rw [rI_ne (by omega), rI_ne (by omega), rI_ne (by omega), rI_ne (by omega)]; exact Wp4 a ha hz
        · rw [rI_ne (by omega), rI_ne (by omega), i63]; exact n63
        · show M4.2.1 142 64 = _; rw [i64]; exact e64
        · have hn : (if last = true then orE (tE σ) (s, t) else tE σ) = none := hn
          rw [if_pos el, hE'] at hn; exact absurd hn (by simp [orE])
        · have hp : (if last = true then orE (tE σ) (s, t) else tE σ) = some p := hp
          rw [if_pos el, hE'] at hp
          have hp : some (s, t) = some p := hp
          simp only [Option.some.injEq] at hp
          rw [← hp, rI_ne (by omega), rI_eq, rI_eq]
          exact ⟨rfl, rfl⟩
        · rw [rI_ne (by omega), rI_ne (by omega)]; exact i62
      · obtain ⟨w65, w66⟩ := W66 p hE'
        obtain ⟨u1, u2, _⟩ := i9 p hE'
        rw [w65]
        refine ⟨fun _ => ?_, fun z => absurd (le0 (by omega)) z⟩
        refine hBK' _ ft4 ⟨W4, Wp4, Wr4, by rw [i63]; exact n63, by rw [i64]; exact e64, fun hn => ?_, fun p' hp => ?_⟩ i62
        · have hn : (if last = true then orE (tE σ) (s, t) else tE σ) = none := hn
          rw [if_pos el, hE'] at hn; exact absurd hn (by simp [orE])
        · have hp : (if last = true then orE (tE σ) (s, t) else tE σ) = some p' := hp
          rw [if_pos el, hE'] at hp
          have hp : some p = some p' := hp
          simp only [Option.some.injEq] at hp
          rw [← hp, i65, i66]; exact ⟨w65, w66⟩
    · -- an earlier one
      unfold f_X11_types_J208
      refine ⟨fun _ => ?_, fun z => absurd rfl z⟩
      unfold f_X11_types_J231
      refine ⟨s0_142, ?_⟩
      have eB : (stI M2 142 63 1).2.1 142 64 = lN (tB σ) := by show M2.2.1 142 64 = _; rw [J2]; exact W64
      simp only [forall_eq, nI_1, eB]
      rw [show lN (tB σ) + (0 : Int64) = lN (tB σ) by rw [show (0 : Int64) = lN 0 from rfl, lN_add, Nat.add_zero], stJ_self eB]
      refine ⟨fun _ => ?_, fun z => absurd trivial z⟩
      refine hBK' _ ft3 ⟨W3, fun a ha hz => ?_, fun a ha => ?_, ?_, ?_, fun hn => ?_, fun p hp => ?_⟩ ?_
      · rw [rI_ne (by omega), rI_ne (by omega)]; exact Wp2 a ha hz
      · show M2.2.1 174 a = _; rw [J2]; exact Wr a ha
      · rw [rI_eq]; exact n63
      · show M2.2.1 142 64 = lN (if last = true then tB σ + tW σ s else tB σ)
        rw [if_neg el, J2]; exact W64
      · have hn : (if last = true then orE (tE σ) (s, t) else tE σ) = none := hn
        rw [if_neg el] at hn
        rw [rI_ne (by omega), I2 65 (by omega)]; exact W65 hn
      · have hp : (if last = true then orE (tE σ) (s, t) else tE σ) = some p := hp
        rw [if_neg el] at hp
        rw [rI_ne (by omega), rI_ne (by omega), I2 65 (by omega), I2 66 (by omega)]; exact W66 p hp
      · rw [rI_ne (by omega), I2 62 (by omega)]; exact h62
  · rw [if_neg hbr] at hBK hFl ⊢
    refine ⟨fun _ => ?_, fun z => absurd rfl z⟩
    have e44 : M2.1 142 44 = nI (tL σ).length := W2.1
    simp only [forall_eq, e44]
    refine packS_ok hF2 m2 (packR_ok hF2 m2 ?_)
    refine place_okM (L := tL σ) (lo := hi) (fs := s) (fm := t) (dp := (gt (tL σ) s).2.2.2.2 + 1) hF2 hbd.1 hbd.2 i1 i3 W2 (fun s' h1 h2 h3 => ?_) (fun hno M3 f3 W3 => ?_)
    · -- there already
      have hfd : fdx (tL σ) hi q.1 q.2.1 = some s' := by
        rcases hq : fdx (tL σ) hi q.1 q.2.1 with _ | s''
        · exact absurd h3 (fdx_none hq s' h1 h2)
        · obtain ⟨u1, u2, u3⟩ := fdx_some hq
          have : s'' = s' := i5 s'' s' u1 u2 h1 h2 (u3.1.trans h3.1.symm) (u3.2.trans h3.2.symm)
          rw [this]
      rw [hfd] at hBK
      refine ⟨fun z => absurd ((nI_eq (by omega) (by omega)).mp z) (by omega), fun _ => ?_⟩
      unfold f_X11_types_J315
      have hin' : vp_in (nI s') 4001 := vp_in_nI (by omega) (by omega)
      have hcl' : (nI s').toNatClampNeg = s' := nI_clamp (by omega)
      have eS' : M2.2.1 174 s' = lN (tW σ s') := by rw [J2]; exact Wr s' h2
      have eS : M2.2.1 174 s = lN (tW σ s) := by rw [J2]; exact Wr s hsl
      simp only [fx_142_67 hF2, ex_some, s0_174, ex_sh, hin', hcl', hins, hcls, true_and, forall_eq, eS', eS, lN_add, nI_1]
      have e44' : (stJ M2 174 s' (lN (tW σ s' + tW σ s))).1 142 44 = nI (tL σ).length := e44
      rw [e44']
      refine ⟨fun _ => ?_, fun z => absurd (show nI (tL σ).length ≤ nI 4000 from nI_le i3 (by omega)) z⟩
      have f4 : FrT M (stI (stJ M2 174 s' (lN (tW σ s' + tW σ s))) 142 62 0) := FrT_I rfl (FrT_J rfl (by omega) ft2)
      refine hBK i3 _ f4 ⟨?_, fun a ha hz => ?_, fun a ha => ?_, ?_, ?_, fun hn => ?_, fun p hp => ?_⟩ rI_eq
      · refine WM_ag (M := M2) ?_ ?_ ?_ ?_ W2
        · rw [rI_ne (by omega)]; rfl
        · show (stJ M2 174 s' _).2.1 160 = _; rw [stJ_row (by omega)]
        · show (stJ M2 174 s' _).2.1 161 = _; rw [stJ_row (by omega)]
        · rw [stI_row (by omega)]; rfl
      · rw [rI_ne (by omega), rI_ne (by omega)]; exact Wp2 a ha hz
      · show (stJ M2 174 s' _).2.1 174 a = lN (upn (tW σ) s' (tW σ s' + tW σ s) a)
        rw [rJ]
        by_cases ea : a = s'
        · rw [if_pos ⟨rfl, ea⟩, ea, upn_eq]
        · rw [if_neg (fun z => ea z.2), upn_ne ea, J2]; exact Wr a ha
      · rw [rI_ne (by omega)]; show M2.1 142 63 = _; rw [I2 63 (by omega)]; exact W63
      · show (stJ M2 174 s' _).2.1 142 64 = _; rw [stJ_row (by omega), J2]; exact W64
      · rw [rI_ne (by omega)]; show M2.1 142 65 = _; rw [I2 65 (by omega)]; exact W65 hn
      · rw [rI_ne (by omega), rI_ne (by omega)]; show M2.1 142 65 = _ ∧ M2.1 142 66 = _; rw [I2 65 (by omega), I2 66 (by omega)]; exact W66 p hp
    · -- a new one
      have hfd : fdx (tL σ) hi q.1 q.2.1 = none := by
        rcases hq : fdx (tL σ) hi q.1 q.2.1 with _ | s''
        · rfl
        · obtain ⟨u1, u2, u3⟩ := fdx_some hq
          exact absurd u3 (hno s'' u1 u2)
      rw [hfd] at hBK hFl
      have hlen' : (tL σ ++ [(q.1, q.2.1, s, t, (gt (tL σ) s).2.2.2.2 + 1)]).length = (tL σ).length + 1 := by simp
      refine ⟨fun _ => ?_, fun z => absurd rfl z⟩
      have ft3 : FrT M M3 := FrT_Q ft2 (dP_dQ f3)
      have hF3 := FX_fr ft3.1 b1
      have hin' : vp_in (nI (tL σ).length) 4001 := vp_in_nI (by omega) (by omega)
      have hcl' : (nI (tL σ).length).toNatClampNeg = (tL σ).length := nI_clamp (by omega)
      simp only [rIr, rJr, fx_142_67 hF3, fx_142_40 hF3, fx_142_41 hF3, ex_some, s0_174, s0_162, s0_163, ex_sh, hin', hcl', true_and, forall_eq]
      generalize hM5 : stI (stI (stJ M3 174 (tL σ).length 0) 162 (tL σ).length (nI s)) 163 (tL σ).length (nI t) = M5
      have ft5 : FrT M M5 := by rw [← hM5]; exact FrT_I rfl (FrT_I rfl (FrT_J rfl (by omega) ft3))
      have hF5 := FX_fr ft5.1 b1
      have J5 : ∀ a, a < (tL σ).length → M5.2.1 174 a = lN (tW σ a) := fun a ha => by
        rw [← hM5]; show (stJ M3 174 (tL σ).length 0).2.1 174 a = _
        rw [rJ, if_neg (by omega), f3.2.1 174 rfl, J2]; exact Wr a ha
      have e0 : M5.2.1 174 (tL σ).length = 0 := by rw [← hM5]; show (stJ M3 174 (tL σ).length 0).2.1 174 _ = _; rw [stJ_get]
      have e44' : M5.1 142 44 = nI ((tL σ).length + 1) := by
        rw [← hM5, rI_ne (by omega), rI_ne (by omega)]; show M3.1 142 44 = _; rw [W3.1, hlen']
      have I5 : ∀ j, (j = 62 ∨ j = 63 ∨ j = 65 ∨ j = 66) → M5.1 142 j = M.1 142 j := fun j hj => by
        rw [← hM5, rI_ne (by omega), rI_ne (by omega)]
        show M3.1 142 j = _
        rw [f3.1 142 j (by unfold dP; simp only [Bool.or_eq_false_iff, Bool.and_eq_false_iff, beq_eq_false_iff_ne]; omega), I2 j (by omega)]
      unfold f_X11_types_J315
      simp only [fx_142_67 hF5, ex_some, s0_174, ex_sh, hin', hcl', hins, hcls, true_and, forall_eq, e0, J5 s hsl, nI_1]
      rw [show (0 : Int64) + lN (tW σ s) = lN (tW σ s) by rw [show (0 : Int64) = lN 0 from rfl, lN_add, Nat.zero_add]]
      have e44'' : (stJ M5 174 (tL σ).length (lN (tW σ s))).1 142 44 = nI ((tL σ).length + 1) := e44'
      rw [e44'', show (4000 : Int32) = nI 4000 from rfl, nI_leI (by omega) (by omega)]
      have ft6 : ∀ v, FrT M (stI (stJ M5 174 (tL σ).length (lN (tW σ s))) 142 62 v) := fun v => FrT_I rfl (FrT_J rfl (by omega) ft5)
      refine ⟨fun hle => ?_, fun hgt => hFl (by show 4000 < (tL σ ++ [_]).length; rw [hlen']; omega) _ (ft6 1) rI_eq⟩
      have gl : ∀ a, a < (tL σ).length → gt (tL σ ++ [(q.1, q.2.1, s, t, (gt (tL σ) s).2.2.2.2 + 1)]) a = gt (tL σ) a := fun a ha => gt_lt ha
      refine hBK (by show (tL σ ++ [_]).length ≤ 4000; rw [hlen']; omega) _ (ft6 0) ⟨?_, fun a ha hz => ?_, fun a ha => ?_, ?_, ?_, fun hn => ?_, fun p hp => ?_⟩ rI_eq
      · refine WM_ag (M := M3) ?_ ?_ ?_ ?_ W3
        · rw [rI_ne (by omega)]; show M5.1 142 44 = _; rw [e44', W3.1, hlen']
        · show (stJ M5 174 _ _).2.1 160 = _; rw [stJ_row (by omega), ← hM5]; show (stJ M3 174 _ _).2.1 160 = _; rw [stJ_row (by omega)]
        · show (stJ M5 174 _ _).2.1 161 = _; rw [stJ_row (by omega), ← hM5]; show (stJ M3 174 _ _).2.1 161 = _; rw [stJ_row (by omega)]
        · rw [stI_row (by omega)]; show M5.1 165 = _; rw [← hM5, stI_row (by omega), stI_row (by omega)]; rfl
      · have ha : a < (tL σ).length + 1 := by rw [← hlen']; exact ha
        rw [rI_ne (by omega), rI_ne (by omega)]
        show M5.1 162 a = nI (gt (tL σ ++ [(q.1, q.2.1, s, t, (gt (tL σ) s).2.2.2.2 + 1)]) a).2.2.1 ∧ M5.1 163 a = nI (gt (tL σ ++ [(q.1, q.2.1, s, t, (gt (tL σ) s).2.2.2.2 + 1)]) a).2.2.2.1
        rw [← hM5]
        by_cases ea : a = (tL σ).length
        · rw [ea, gt_eq, rI_ne (by omega), rI_eq, rI_eq]; exact ⟨rfl, rfl⟩
        · rw [gl a (by omega), rI_ne (by omega), rI_ne (by omega), rI_ne (by omega), rI_ne (by omega)]
          show M3.1 162 a = _ ∧ M3.1 163 a = _
          rw [f3.1 162 a rfl, f3.1 163 a rfl]; exact Wp2 a (by omega) hz
      · have ha : a < (tL σ).length + 1 := by rw [← hlen']; exact ha
        show (stJ M5 174 _ _).2.1 174 a = lN (upn (tW σ) (tL σ).length (tW σ s) a)
        rw [rJ]
        by_cases ea : a = (tL σ).length
        · rw [if_pos ⟨rfl, ea⟩, ea, upn_eq]
        · rw [if_neg (fun z => ea z.2), upn_ne ea]; exact J5 a (by omega)
      · rw [rI_ne (by omega)]; show M5.1 142 63 = _; rw [I5 63 (by omega)]; exact W63
      · show (stJ M5 174 _ _).2.1 142 64 = _
        rw [stJ_row (by omega), ← hM5]
        show (stJ M3 174 _ _).2.1 142 64 = _
        rw [stJ_row (by omega), f3.2.1 142 rfl, J2]; exact W64
      · rw [rI_ne (by omega)]; show M5.1 142 65 = _; rw [I5 65 (by omega)]; exact W65 hn
      · rw [rI_ne (by omega), rI_ne (by omega)]; show M5.1 142 65 = _ ∧ M5.1 142 66 = _; rw [I5 65 (by omega), I5 66 (by omega)]; exact W66 p hp
