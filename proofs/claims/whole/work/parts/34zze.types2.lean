/-! a told typing: the model's loops -/
theorem moT {C : Cf} {mu : Option (List Nat)} {ky len hi s i key d D : Nat} {last : Bool} {x1 x5 : Int32} {EK K : Mm → Prop} (hs : s < hi) (hky : ky < 5) (hkey : key ≤ ky) (hlen : len ≤ 8) (hl1 : 1 ≤ len) (hi8 : i < 8) (hlast : i + 1 = len ↔ last = true) (hl : last = true → d = D) :
    ∀ (n t : Nat) (σ : TS) (M : Mm), t + n = cT C → BY C mu ky len M → MTy M σ hi → M.1 142 62 = 0 → TIv C hi d D σ → (gt (tL σ) s).2.2.2.2 = d → (∀ σ', tryT C mu hi s key last n t σ = some σ' → ∀ M', FrT M M' → MTy M' σ' hi → M'.1 142 62 = 0 → EK M') → (tryT C mu hi s key last n t σ = none → ∀ M', FrT M M' → M'.1 142 62 = 1 → EK M') → f_X11_types_L147 S0 142 x1 (nI i) (nI key) x5 (nI s) EK K (n + 1) (nI t) M
  | 0, t, σ, M, ht, hB, hT, h62, hI, hd, h1, h0 => by
    unfold f_X11_types_L147 f_X11_types_B147
    have c1 := hB.2.1.1.1
    rw [hB.2.1.2.1]
    exact ⟨fun _ => h1 σ rfl M (FrT_refl _) hT h62, fun z => absurd (nI_le (by omega) (by omega)) z⟩
  | n + 1, t, σ, M, ht, hB, hT, h62, hI, hd, h1, h0 => by
    unfold f_X11_types_L147
    have c1 := hB.2.1.1.1
    refine mo1 (last := last) hB hT h62 hI hs (by omega) hky hkey hlen hl1 hi8 hlast (fun hle M' f' T' z' => ?_) (fun hgt M' f' z' => ?_)
    · obtain ⟨v1, p1⟩ := t1_inv (mu := mu) hB.2.1.1 hI hs hd (show t < cT C by omega) (show key < 256 by omega) hl hle
      have hsl : s < (tL σ).length := Nat.lt_of_lt_of_le hs hI.1
      have e : tryT C mu hi s key last (n + 1) t σ = tryT C mu hi s key last n (t + 1) (t1 C mu hi s t key last σ) := by
        conv => lhs; unfold tryT
        rw [if_neg (by omega)]
      exact moT hs hky hkey hlen hl1 hi8 hlast hl n (t + 1) _ M' (by omega) (BY_fr f' hB) T' z' v1 (by rw [p1.2 s hsl]; exact hd) (fun σ' hσ M'' f'' T'' => h1 σ' (by rw [e]; exact hσ) M'' (FrT_tr f' f'') T'') (fun hσ M'' f'' W'' => h0 (by rw [e]; exact hσ) M'' (FrT_tr f' f'') W'')
    · have fin := h0 (by unfold tryT; rw [if_pos hgt]) M' f' z'
      show f_X11_types_L147 S0 142 x1 (nI i) (nI key) x5 (nI s) EK K (n + 1) (nI (t + 1)) M'
      unfold f_X11_types_L147 f_X11_types_B147
      rw [z']
      exact ⟨fun _ => fin, fun _ => ⟨fun z => absurd z (by decide), fun _ => fin⟩⟩
theorem moS {C : Cf} {mu : Option (List Nat)} {ky len hi i key d D : Nat} {last : Bool} {x1 : Int32} {EK K : Mm → Prop} (hky : ky < 5) (hkey : key ≤ ky) (hlen : len ≤ 8) (hl1 : 1 ≤ len) (hi8 : i < 8) (hlast : i + 1 = len ↔ last = true) (hl : last = true → d = D) :
    ∀ (n s : Nat) (σ : TS) (M : Mm), s + n = hi → BY C mu ky len M → MTy M σ hi → M.1 142 62 = 0 → TIv C hi d D σ → (∀ a, s ≤ a → a < hi → (gt (tL σ) a).2.2.2.2 = d) → (∀ σ', tryS C mu hi key last n s σ = some σ' → ∀ M', FrT M M' → MTy M' σ' hi → M'.1 142 62 = 0 → EK M') → (tryS C mu hi key last n s σ = none → ∀ M', FrT M M' → M'.1 142 62 = 1 → EK M') → f_X11_types_L130 S0 142 x1 (nI i) (nI key) (nI hi) EK K (n + 1) (nI s) M
  | 0, s, σ, M, hs, hB, hT, h62, hI, hd, h1, h0 => by
    unfold f_X11_types_L130 f_X11_types_B130
    have := hI.1
    have := hI.2.2.1
    exact ⟨fun _ => h1 σ rfl M (FrT_refl _) hT h62, fun z => absurd (nI_le (by omega) (by omega)) z⟩
  | n + 1, s, σ, M, hs, hB, hT, h62, hI, hd, h1, h0 => by
    unfold f_X11_types_L130 f_X11_types_B130
    have q1 := hI.1
    have q2 := hI.2.2.1
    rw [h62]
    refine ⟨fun z => absurd z (nI_ge (by omega) (by omega)), fun _ => ⟨fun _ => ?_, fun z => absurd rfl z⟩⟩
    refine ⟨cT C + 1, moT (mu := mu) (D := D) (last := last) (show s < hi by omega) hky hkey hlen hl1 hi8 hlast hl (cT C) 0 σ M (by omega) hB hT h62 hI (hd s (by omega) (by omega)) (fun σ1 e1 M1 f1 T1 z1 => ?_) (fun e1 M1 f1 z1 => ?_)⟩
    · simp only [forall_eq, nI_1]
      obtain ⟨v1, p1⟩ := tryT_inv hB.2.1.1 (show s < hi by omega) (show key < 256 by omega) hl (cT C) 0 σ σ1 (by omega) hI (hd s (by omega) (by omega)) e1
      have e : tryS C mu hi key last (n + 1) s σ = tryS C mu hi key last n (s + 1) σ1 := by
        conv => lhs; unfold tryS
        rw [e1]
      exact moS hky hkey hlen hl1 hi8 hlast hl n (s + 1) σ1 M1 (by omega) (BY_fr f1 hB) T1 z1 v1 (fun a ha1 ha2 => by rw [p1.2 a (by omega)]; exact hd a (by omega) ha2) (fun σ' hσ M'' f'' T'' => h1 σ' (by rw [e]; exact hσ) M'' (FrT_tr f1 f'') T'') (fun hσ M'' f'' W'' => h0 (by rw [e]; exact hσ) M'' (FrT_tr f1 f'') W'')
    · simp only [forall_eq, nI_1]
      have fin := h0 (by unfold tryS; rw [e1]) M1 f1 z1
      unfold f_X11_types_L130 f_X11_types_B130
      rw [z1]
      exact ⟨fun _ => fin, fun _ => ⟨fun z => absurd z (by decide), fun _ => fin⟩⟩
theorem clr_L {x1 x2 x3 x4 x5 : Int32} {M0 : Mm} {EK K : Mm → Prop} (hF0 : FX M0) (hK : ∀ M', (∀ b, b ≠ 165 → M'.1 b = M0.1 b) → M'.2 = M0.2 → (∀ k, k < 16384 → M'.1 165 k = -1) → EK M') :
    ∀ (r i : Nat) (M : Mm), i + r = 16384 → (∀ b, b ≠ 165 → M.1 b = M0.1 b) → M.2 = M0.2 → (∀ k, k < i → M.1 165 k = -1) → f_X11_types_L105 S0 142 x1 x2 x3 x4 x5 EK K (r + 1) (nI i) M
  | 0, i, M, hi, h1, h2, h3 => by
    unfold f_X11_types_L105 f_X11_types_B105
    have : i = 16384 := by omega
    subst this
    exact ⟨fun _ => hK M h1 h2 h3, fun z => absurd (show nI 16384 ≤ nI 16384 from nI_le (Nat.le_refl _) (by omega)) z⟩
  | r + 1, i, M, hi, h1, h2, h3 => by
    unfold f_X11_types_L105 f_X11_types_B105
    have hF : FX M := FX_ag (by rw [h2]) hF0
    have hin : vp_in (nI i) 16384 := vp_in_nI (by omega) (by omega)
    have hcl : (nI i).toNatClampNeg = i := nI_clamp (by omega)
    refine ⟨fun z => absurd z (show ¬ nI 16384 ≤ nI i from nI_ge (by omega) (by decide)), fun _ => ?_⟩
    simp only [fx_142_43 hF, ex_some, s0_165, ex_sh, hin, hcl, true_and, forall_eq, nI_1]
    refine clr_L hF0 hK r (i + 1) _ (by omega) (fun b hb => (stI_row hb).trans (h1 b hb)) h2 (fun k hk => ?_)
    by_cases e : k = i
    · rw [e]; exact rI_eq
    · rw [rI_ne (by omega)]; exact h3 k (by omega)
/-- the table emptied -/
theorem clr_ok {x1 x2 x3 x4 x5 : Int32} {σ : TS} {hi : Nat} {M : Mm} {EK K : Mm → Prop} (hF : FX M) (hT : MTy M σ hi) (hK : ∀ M', FrT M M' → MTy M' σ (tL σ).length → M'.1 142 62 = M.1 142 62 → EK M') : ∃ n, f_X11_types_L105 S0 142 x1 x2 x3 x4 x5 EK K n (0 : Int32) M := by
  obtain ⟨n, hn⟩ : ∃ n : Nat, n = 16384 := ⟨_, rfl⟩
  refine ⟨n + 1, clr_L hF (fun M' h1 h2 h3 => ?_) n 0 _ (by omega) (fun _ _ => rfl) rfl (fun k hk => by omega)⟩
  obtain ⟨W, Wp, Wr, W63, W64, W65, W66⟩ := hT
  have e1 : M'.1 142 = M.1 142 := h1 142 (by decide)
  have e2 : M'.2.1 = M.2.1 := by rw [h2]
  refine hK M' ⟨⟨fun b j hd => ?_, fun b _ => by rw [e2], by rw [h2]⟩, by rw [e2], by rw [e2]⟩ ⟨?_, fun s a b => ?_, fun s a => ?_, ?_, ?_, fun a => ?_, fun p a => ?_⟩ (by rw [e1])
  · rw [h1 b (fun z => by rw [z] at hd; exact absurd hd (by simp [dTy, dQ]))]
  · refine ⟨by rw [e1]; exact W.1, W.2.1, fun s hs => by rw [e2]; exact W.2.2.1 s hs, fun _ => 0, ⟨fun s a b => by omega, fun s s' a b => by omega, fun s a b => by omega⟩, fun s a hs => by omega, fun k hk _ => h3 k hk⟩
  · rw [h1 162 (by decide), h1 163 (by decide)]; exact Wp s a b
  · rw [e2]; exact Wr s a
  · rw [e1]; exact W63
  · rw [e2]; exact W64
  · rw [e1]; exact W65 a
  · rw [e1]; exact W66 p a
theorem has_bit8 : ∀ c, c < 256 → ∀ b, b < 8 → (((nI c >>> (nI b &&& 31)) &&& (1 : Int32)) = (1 : Int32) ↔ c.testBit b = true) := by decide +kernel
theorem has8_ok {S : Ss} {c b : Nat} {M : Mm} {K : Int32 → Mm → Prop} (hc : c < 256) (hb : b < 8) (h1 : c.testBit b = true → K 1 M) (h0 : c.testBit b = false → K 0 M) : f_X11_has S (nI c) (nI b) M K := by
  unfold f_X11_has
  rw [has_bit8 c hc b hb]
  exact ⟨h1, fun z => h0 (by simpa using z)⟩
theorem moI {C : Cf} {mu : Option (List Nat)} {ky len x D : Nat} {ty : Nat → Nat} {EK K : Mm → Prop} (hky : ky < 5) (hx : x < 256) (hD : D + 1 = len) (hlen : len ≤ 8) :
    ∀ (n i lo hi : Nat) (σ : TS) (M : Mm), i + n = len → lo ≤ (tL σ).length → (∀ j, j < len → M.1 173 j = nI (ty j) ∧ ty j < 5) → BY C mu ky len M → MTy M σ hi → M.1 142 62 = 0 → TIv C (tL σ).length i D σ → (∀ a, lo ≤ a → a < (tL σ).length → (gt (tL σ) a).2.2.2.2 = i) → (∀ σ', tryI C mu (ksf ty ky x) len n i lo σ = some σ' → ∀ M' hi', FrT M M' → MTy M' σ' hi' → M'.1 142 62 = 0 → EK M') → (tryI C mu (ksf ty ky x) len n i lo σ = none → ∀ M', FrT M M' → M'.1 142 62 = 1 → EK M') → f_X11_types_L48 S0 142 (nI x) EK K (n + 1) (nI lo) (nI i) M
  | 0, i, lo, hi, σ, M, hi', hlo, hk, hB, hT, h62, hI, hd, h1, h0 => by
    unfold f_X11_types_L48 f_X11_types_B48
    rw [hB.2.2.2.2]
    exact ⟨fun _ => h1 σ rfl M hi (FrT_refl _) hT h62, fun z => absurd (nI_le (by omega) (by omega)) z⟩
  | n + 1, i, lo, hi, σ, M, hi', hlo, hk, hB, hT, h62, hI, hd, h1, h0 => by
    unfold f_X11_types_L48 f_X11_types_B48
    have hF := hB.1
    have q3 := hI.2.2.1
    rw [hB.2.2.2.2, h62]
    refine ⟨fun z => absurd z (nI_ge (by omega) (by omega)), fun _ => ⟨fun _ => ?_, fun z => absurd rfl z⟩⟩
    have hl : decide (i + 1 = len) = true → i = D := fun z => by simp only [decide_eq_true_eq] at z; omega
    have e44 : M.1 142 44 = nI (tL σ).length := hT.1.1
    obtain ⟨t1, t2⟩ := hk i (by omega)
    have hin : vp_in (nI i) 8 := vp_in_nI (by omega) (by omega)
    have hcl : (nI i).toNatClampNeg = i := nI_clamp (by omega)
    have go : ∀ key, key = ksf ty ky x i → ∃ n91 : Nat, f_X11_types_L105 S0 142 (nI x) (nI lo) (nI i) (nI key) (nI (tL σ).length) (fun (m87 : Mm) =>
            ∃ n90 : Nat, f_X11_types_L130 S0 142 (nI x) (nI i) (nI key) (nI (tL σ).length) (fun (m88 : Mm) =>
              f_X11_types_L48 S0 142 (nI x) EK K (n + 1) (nI (tL σ).length) (nI (i + 1)) m88) K n90 (nI lo) m87) K n91 (0 : Int32) M := by
      intro key hkey
      have hkk : key ≤ ky := by
        rw [hkey]; unfold ksf
        by_cases e : ty i ≤ ky ∧ x.testBit i = false
        · rw [if_pos e]; exact e.1
        · rw [if_neg e]; omega
      refine clr_ok hF hT (fun M1 f1 T1 z1 => ?_)
      refine ⟨(tL σ).length - lo + 1, moS (mu := mu) (D := D) (d := i) (last := decide (i + 1 = len)) hky hkk hlen (by omega) (by omega) (by simp) hl ((tL σ).length - lo) lo σ M1 (by omega) (BY_fr f1 hB) T1 (z1.trans h62) hI hd (fun σ1 e1 M2 f2 T2 z2 => ?_) (fun e1 M2 f2 z2 => ?_)⟩
      · obtain ⟨v1, p1⟩ := tryS_inv hB.2.1.1 (show key < 256 by omega) hl ((tL σ).length - lo) lo σ σ1 (by omega) hI hd e1
        obtain ⟨v2, d2⟩ := TIv_next v1
        have e : tryI C mu (ksf ty ky x) len (n + 1) i lo σ = tryI C mu (ksf ty ky x) len n (i + 1) (tL σ).length σ1 := by
          conv => lhs; unfold tryI
          rw [← hkey, e1]
        have f12 := FrT_tr f1 f2
        exact moI hky hx hD hlen n (i + 1) (tL σ).length (tL σ).length σ1 M2 (by omega) p1.1 (fun j hj => ⟨(f12.1.1 173 j rfl).trans (hk j hj).1, (hk j hj).2⟩) (BY_fr f12 hB) T2 z2 v2 d2 (fun σ' hσ M'' hi'' f'' T'' => h1 σ' (by rw [e]; exact hσ) M'' hi'' (FrT_tr f12 f'') T'') (fun hσ M'' f'' W'' => h0 (by rw [e]; exact hσ) M'' (FrT_tr f12 f'') W'')
      · have fin := h0 (by unfold tryI; rw [← hkey, e1]) M2 (FrT_tr f1 f2) z2
        unfold f_X11_types_L48 f_X11_types_B48
        rw [z2]
        exact ⟨fun _ => fin, fun _ => ⟨fun z => absurd z (by decide), fun _ => fin⟩⟩
    have no : ¬ (ty i ≤ ky ∧ x.testBit i = false) → f_X11_types_J84 S0 142 (nI x) (nI lo) (nI i) M (fun x2 x3 M => f_X11_types_L48 S0 142 (nI x) EK K (n + 1) x2 x3 M) K := by
      intro hn
      unfold f_X11_types_J84
      simp only [forall_eq, e44, nI_1]
      exact go 0 (by unfold ksf; rw [if_neg hn])
    refine has8_ok hx (by omega) (fun hb => ?_) (fun hb => ?_)
    · exact ⟨fun z => absurd z (by decide), fun _ => no (fun q => by rw [hb] at q; exact absurd q.2 (by decide))⟩
    · refine ⟨fun _ => ?_, fun z => absurd rfl z⟩
      simp only [fx_142_61 hF, ex_some, shp_ne (show (173 : Nat) ≠ 100000 by decide), s0_173, ex_sh, hin, hcl, true_and, forall_eq, t1, hB.2.2.2.1, e44, nI_1]
      rw [nI_leI (by omega) (by omega)]
      exact ⟨fun hle => go (ty i) (by unfold ksf; rw [if_pos ⟨hle, hb⟩]), fun hle => no (fun q => hle q.1)⟩
theorem types_ok {C : Cf} {mu : Option (List Nat)} {ky len x A B : Nat} {ty : Nat → Nat} {M : Mm} {K : Mm → Prop} (hB : BY C mu ky len M) (hky : ky < 5) (hx : x < 256) (hl1 : 1 ≤ len) (hlen : len ≤ 8) (hsi : SI C A B) (e0 : M.2.1 142 45 = lN (PA A)) (e1 : M.2.1 142 46 = lN (PB B)) (hty : ∀ j, j < len → M.1 173 j = nI (ty j) ∧ ty j < 5)
    (h1 : ∀ σ', tryI C mu (ksf ty ky x) len len 0 0 (ts0 A B) = some σ' → ∀ M' hi', FrT M M' → MTy M' σ' hi' → M'.1 142 62 = 0 → K M') (h0 : tryI C mu (ksf ty ky x) len len 0 0 (ts0 A B) = none → ∀ M', FrT M M' → M'.1 142 62 = 1 → K M') : f_X11_types S0 142 (nI x) M K := by
  unfold f_X11_types
  have hF := hB.1
  refine emp_ok hF (fun M1 f1 g1 z1 k1 => ?_)
  have f1' : FrT M M1 := FrT_Q (FrT_refl M) (dP_dQ (Fr_mono (fun _ _ h => h) (fun _ _ => rfl) f1))
  have hF1 := FX_fr f1 hF
  rw [g1, e0, e1]
  have W1 : WM M1 [] 0 := ⟨z1, by simp, fun s hs => absurd hs (by simp), fun _ => 0, ⟨fun s a b => absurd b (by simp), fun s s' a b => absurd b (by simp), fun s a b => absurd b (by simp)⟩, fun s a hs => absurd hs (by simp), fun k hk _ => k1 k hk⟩
  refine place_okM (L := []) (lo := 0) (fs := 0) (fm := 0) (dp := 0) hF1 hsi.1 hsi.2.1 (by simp) (by simp) W1 (fun s _ b => absurd b (by simp)) (fun _ M2 f2 W2 => ?_)
  have f2' := FrT_Q f1' (dP_dQ f2)
  have hF2 := FX_fr f2'.1 hF
  have hin : vp_in (0 : Int32) 4001 := by unfold vp_in; decide
  have hcl : (0 : Int32).toNatClampNeg = 0 := by decide
  simp only [fx_142_67 hF2, ex_some, s0_174, ex_sh, hin, hcl, true_and, forall_eq]
  generalize hM3 : stI (stJ (stI (stI (stJ M2 174 0 1) 142 62 0) 142 63 0) 142 64 0) 142 65 (-1) = M3
  have f3 : FrT M M3 := by rw [← hM3]; exact FrT_I rfl (FrT_J rfl (by omega) (FrT_I rfl (FrT_I rfl (FrT_J rfl (by omega) f2'))))
  obtain ⟨v0, d0⟩ := TIv_0 (D := len - 1) hsi
  have T3 : MTy M3 (ts0 A B) 0 := by
    rw [← hM3]
    refine ⟨?_, fun s hs hz => ?_, fun s hs => ?_, ?_, ?_, fun _ => rI_eq, fun p hp => absurd hp (by simp [ts0, tE])⟩
    · refine WM_ag (M := M2) ?_ ?_ ?_ ?_ W2
      · rw [rI_ne (by omega)]; show (stI (stI (stJ M2 174 0 1) 142 62 0) 142 63 0).1 142 44 = _; rw [rI_ne (by omega), rI_ne (by omega)]; rfl
      · show (stJ (stI (stI (stJ M2 174 0 1) 142 62 0) 142 63 0) 142 64 0).2.1 160 = _; rw [stJ_row (by omega)]; show (stJ M2 174 0 1).2.1 160 = _; rw [stJ_row (by omega)]
      · show (stJ (stI (stI (stJ M2 174 0 1) 142 62 0) 142 63 0) 142 64 0).2.1 161 = _; rw [stJ_row (by omega)]; show (stJ M2 174 0 1).2.1 161 = _; rw [stJ_row (by omega)]
      · rw [stI_row (by omega)]; show (stI (stI (stJ M2 174 0 1) 142 62 0) 142 63 0).1 165 = _; rw [stI_row (by omega), stI_row (by omega)]; rfl
    · have hs : s < 1 := hs
      omega
    · have hs : s < 1 := hs
      have : s = 0 := by omega
      subst this
      show (stJ (stI (stI (stJ M2 174 0 1) 142 62 0) 142 63 0) 142 64 0).2.1 174 0 = _
      rw [stJ_row (by omega)]; show (stJ M2 174 0 1).2.1 174 0 = _; rw [stJ_get]; rfl
    · rw [rI_ne (by omega)]; show (stI (stI (stJ M2 174 0 1) 142 62 0) 142 63 0).1 142 63 = _; rw [rI_eq]; rfl
    · show (stJ (stI (stI (stJ M2 174 0 1) 142 62 0) 142 63 0) 142 64 0).2.1 142 64 = _; rw [stJ_get]; rfl
  have z3 : M3.1 142 62 = 0 := by
    rw [← hM3, rI_ne (by omega)]; show (stI (stI (stJ M2 174 0 1) 142 62 0) 142 63 0).1 142 62 = _; rw [rI_ne (by omega), rI_eq]
  refine ⟨len + 1, moI (C := C) (mu := mu) (ky := ky) (ty := ty) (D := len - 1) hky hx (by omega) hlen len 0 0 0 (ts0 A B) M3 (by omega) (by omega) (fun j hj => ⟨(f3.1.1 173 j rfl).trans (hty j hj).1, (hty j hj).2⟩) (BY_fr f3 hB) T3 z3 v0 d0 (fun σ' hσ M' hi' f' T' => h1 σ' hσ M' hi' (FrT_tr f3 f') T') (fun hσ M' f' W' => h0 hσ M' (FrT_tr f3 f') W')⟩
