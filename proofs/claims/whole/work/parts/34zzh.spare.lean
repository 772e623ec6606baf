/-! spare: keys left out of a typing -/
def ubs (ty : Nat → Nat) : Nat → Nat
  | 0 => 0
  | n + 1 => ubs ty n ||| (if ty n = 0 then 0 else 2 ^ n)
theorem ubs_lt {ty : Nat → Nat} : ∀ n, ubs ty n < 2 ^ n
  | 0 => by show 0 < 1; omega
  | n + 1 => by
    unfold ubs
    have h := ubs_lt (ty := ty) n
    have h2 : 2 ^ n < 2 ^ (n + 1) := Nat.pow_lt_pow_right (by omega) (by omega)
    refine Nat.or_lt_two_pow (by omega) ?_
    split <;> omega
theorem or_bit8 : ∀ x, x < 256 → ∀ i, i < 8 → nI x ||| ((1 : Int32) <<< (nI i &&& 31)) = nI (x ||| 2 ^ i) := by decide +kernel
theorem or_0 (x : Int32) : x ||| (0 : Int32) = x := by
  apply Int32.toBitVec_inj.mp
  rw [Int32.toBitVec_or]
  exact BitVec.or_zero
theorem tyb_L {ty : Nat → Nat} {len : Nat} {M : Mm} {EK K : Int32 → Mm → Prop} (hF : FX M) (hlen : len ≤ 8) (h2 : M.1 118 2 = nI len) (hty : ∀ j, j < len → M.1 119 j = nI (ty j) ∧ ty j < 5) (hK : EK (nI (ubs ty len)) M) :
    ∀ (r i : Nat), i + r = len → f_X8_typedBits_L4 S0 118 EK K (r + 1) (nI (ubs ty i)) (nI i) M
  | 0, i, hi => by
    unfold f_X8_typedBits_L4 f_X8_typedBits_B4
    rw [h2]
    have e : i = len := by omega
    subst e
    exact ⟨fun _ => hK, fun z => absurd (nI_le (Nat.le_refl _) (by omega)) z⟩
  | r + 1, i, hi => by
    unfold f_X8_typedBits_L4 f_X8_typedBits_B4
    obtain ⟨t1, t2⟩ := hty i (by omega)
    have hin : vp_in (nI i) 8 := vp_in_nI (by omega) (by omega)
    have hcl : (nI i).toNatClampNeg = i := nI_clamp (by omega)
    have hu : ubs ty i < 256 := Nat.lt_of_lt_of_le (ubs_lt i) (Nat.le_trans (Nat.pow_le_pow_right (by omega) (show i ≤ 8 by omega)) (by decide))
    have go := tyb_L (EK := EK) (K := K) hF hlen h2 hty hK r (i + 1) (by omega)
    rw [h2]
    refine ⟨fun z => absurd z (nI_ge (by omega) (by omega)), fun _ => ?_⟩
    simp only [fx_118_0 hF, ex_some, shp_ne (show (119 : Nat) ≠ 100000 by decide), s0_119, ex_sh, hin, hcl, true_and, t1, forall_eq, nI_1, or_0, or_bit8 _ hu i (by omega)]
    rw [show (0 : Int32) = nI 0 from rfl, nI_eq (by omega) (by omega)]
    unfold ubs at go
    refine ⟨fun e => ?_, fun e => ?_⟩
    · rw [if_pos e, Nat.or_zero] at go; exact go
    · rw [if_neg e] at go; exact go
theorem spb_L {ty : Nat → Nat} {len : Nat} {M : Mm} {EK K : Int32 → Mm → Prop} (hF : FX M) (hlen : len ≤ 8) (h2 : M.1 142 60 = nI len) (hty : ∀ j, j < len → M.1 173 j = nI (ty j) ∧ ty j < 5) (hK : EK (nI (ubs ty len)) M) :
    ∀ (r i : Nat), i + r = len → f_X11_spare_L25 S0 142 EK K (r + 1) (nI (ubs ty i)) (nI i) M
  | 0, i, hi => by
    unfold f_X11_spare_L25 f_X11_spare_B25
    rw [h2]
    have e : i = len := by omega
    subst e
    exact ⟨fun _ => hK, fun z => absurd (nI_le (Nat.le_refl _) (by omega)) z⟩
  | r + 1, i, hi => by
    unfold f_X11_spare_L25 f_X11_spare_B25
    obtain ⟨t1, t2⟩ := hty i (by omega)
    have hin : vp_in (nI i) 8 := vp_in_nI (by omega) (by omega)
    have hcl : (nI i).toNatClampNeg = i := nI_clamp (by omega)
    have hu : ubs ty i < 256 := Nat.lt_of_lt_of_le (ubs_lt i) (Nat.le_trans (Nat.pow_le_pow_right (by omega) (show i ≤ 8 by omega)) (by decide))
    have go := spb_L (EK := EK) (K := K) hF hlen h2 hty hK r (i + 1) (by omega)
    rw [h2]
    refine ⟨fun z => absurd z (nI_ge (by omega) (by omega)), fun _ => ?_⟩
    simp only [fx_142_61 hF, ex_some, shp_ne (show (173 : Nat) ≠ 100000 by decide), s0_173, ex_sh, hin, hcl, true_and, t1, forall_eq, nI_1, or_0, or_bit8 _ hu i (by omega)]
    rw [show nI (ty i) ≤ (0 : Int32) ↔ ty i = 0 from by rw [show (0 : Int32) = nI 0 from rfl, nI_leI (by omega) (by omega)]; omega]
    unfold ubs at go
    refine ⟨fun e => ?_, fun e => ?_⟩
    · rw [if_pos e, Nat.or_zero] at go; exact go
    · rw [if_neg e] at go; exact go
/-- the class tries sets of keys: what it needs of each try -/
def TRT (sz : Nat) (sb tm bk : Nat → Bool) (I : Mm → Prop) : Prop := ∀ (x : Nat) (M : Mm) (Q : Mm → Prop), x < 2 ^ sz → sb x = true → I M → (∀ m, FX m → m.1 118 2 = nI sz → (∀ KK : Int32 → Mm → Prop, (tm x = true → ∀ M', I M' → KK 0 M') → (tm x = false → ∀ M', I M' → (0 ≤ M'.1 10 14 ↔ bk x = true) → KK 1 M') → f_X9_follow S0 10 113 120 (nI sz) m KK) → Q m) → f_X10_useSet S0 0 2 (nI x) M Q
theorem few38T {n : Int32} {sz nu u : Nat} {sb tm bk : Nat → Bool} {I : Mm → Prop} {oc0 : Int32 × Option Nat} {R : List Nat} {EK : Mm → Prop} {K : Int32 → Mm → Prop} (hsz : sz ≤ 8) (hnu : nu ≤ 8) (hsb : ∀ b, b < 2 ^ sz → (nI b &&& (nI u ^^^ (-1 : Int32)) = 0 ↔ sb b = true)) (hns : ∀ b, sb b = false → tm b = false ∧ bk b = true) (hIF : ∀ M, I M → FX M) (hT : TRT sz sb tm bk I) (hE : ∀ M', I M' → oc tm bk R = oc0 → EK M') (hK : HKf I sz oc0 K) :
    ∀ (r b : Nat) (M : Mm), b + r = 2 ^ sz → I M → oc tm bk (lst sz nu b ++ R) = oc0 → f_X10_fewest_L38 S0 0 2 n (nI sz) (nI (2 ^ sz)) (nI u) (nI nu) EK K (r + 1) (nI b) M
  | 0, b, M, hb, hI, ho => by
    have h8 : 2 ^ sz ≤ 2 ^ 8 := Nat.pow_le_pow_right (by omega) hsz
    unfold f_X10_fewest_L38 f_X10_fewest_B38
    have e : b = 2 ^ sz := by omega
    subst e
    rw [lst_end, List.nil_append] at ho
    exact ⟨fun _ => hE M hI ho, fun z => absurd (nI_le (Nat.le_refl _) (by omega)) z⟩
  | r + 1, b, M, hb, hI, ho => by
    have h8 : 2 ^ sz ≤ 2 ^ 8 := Nat.pow_le_pow_right (by omega) hsz
    have hp := pc_le b
    unfold f_X10_fewest_L38 f_X10_fewest_B38
    refine ⟨fun z => absurd z (nI_ge (by omega) (by omega)), fun _ => bc_ok (by omega) ?_⟩
    rw [lst_cons (by omega)] at ho
    rw [nI_eq (by omega) (by omega), hsb b (by omega)]
    simp only [nI_1]
    refine ⟨fun e => ⟨fun hs => ?_, fun hs => ?_⟩, fun e => ?_⟩
    · rw [if_pos e, List.cons_append] at ho
      unfold oc at ho
      refine hT b M _ (by omega) hs hI (fun m hFm h118 hX => ⟨fun _ => ?_, fun z => absurd trivial z⟩)
      simp only [fx_0_1 hFm, fx_0_3 hFm, fx_0_7 hFm, fx_118_1 hFm, ex_some, s0_10, s0_113, s0_118, true_and, h118]
      refine hX _ (fun ht M' hI' => ?_) (fun ht M' hI' hbk => ?_)
      · unfold f_X10_fewest_J125
        refine ⟨fun _ => ?_, fun z => absurd rfl z⟩
        rw [if_pos ht] at ho
        have := hK.1 M' hI' (by rw [← ho])
        rw [← ho] at this
        exact this
      · unfold f_X10_fewest_J125
        have hF' := hIF M' hI'
        refine ⟨fun z => absurd z (by decide), fun _ => ?_⟩
        simp only [fx_0_1 hF', fx_0_6 hF', ex_some, s0_10, s0_116, true_and, forall_eq, nI_1]
        rw [if_neg (by rw [ht]; decide)] at ho
        refine ⟨fun z => ?_, fun z => ?_⟩
        · have hb1 := hbk.mp z
          rw [if_neg (by rw [hb1]; decide)] at ho
          exact few38T hsz hnu hsb hns hIF hT hE hK r (b + 1) M' (by omega) hI' ho
        · have hb0 : bk b = false := by
            rcases hq : bk b with _ | _
            · rfl
            · exact absurd (hbk.mpr hq) z
          rw [if_pos hb0] at ho
          refine one_ok hF' (fun M2 f2 g1 g2 => ?_)
          have := hK.2 b M' M2 (by rw [← ho]) (by omega) hI' f2 g1 (by rw [g2, nI_l (by omega)])
          rw [← ho] at this
          rw [← e]
          exact this
    · have hs' : sb b = false := by simpa using hs
      obtain ⟨q1, q2⟩ := hns b hs'
      rw [if_pos e, List.cons_append] at ho
      unfold oc at ho
      rw [if_neg (by rw [q1]; decide), if_neg (by rw [q2]; decide)] at ho
      simp only [forall_eq]
      exact few38T hsz hnu hsb hns hIF hT hE hK r (b + 1) M (by omega) hI ho
    · rw [if_neg e] at ho
      simp only [forall_eq]
      exact few38T hsz hnu hsb hns hIF hT hE hK r (b + 1) M (by omega) hI ho
theorem few29T {n : Int32} {sz u : Nat} {sb tm bk : Nat → Bool} {I : Mm → Prop} {oc0 : Int32 × Option Nat} {EK : Mm → Prop} {K : Int32 → Mm → Prop} (hsz : sz ≤ 8) (hsb : ∀ b, b < 2 ^ sz → (nI b &&& (nI u ^^^ (-1 : Int32)) = 0 ↔ sb b = true)) (hns : ∀ b, sb b = false → tm b = false ∧ bk b = true) (hIF : ∀ M, I M → FX M) (hT : TRT sz sb tm bk I) (hE : ∀ M', I M' → oc0 = (-2, none) → EK M') (hK : HKf I sz oc0 K) :
    ∀ (r nu : Nat) (M : Mm), nu + r = sz + 1 → I M → oc tm bk (rst sz r nu) = oc0 → f_X10_fewest_L29 S0 0 2 n (nI sz) (nI (2 ^ sz)) (nI u) EK K (r + 1) (nI nu) M
  | 0, nu, M, hn, hI, ho => by
    unfold f_X10_fewest_L29 f_X10_fewest_B29
    have e : nu = sz + 1 := by omega
    subst e
    exact ⟨fun _ => hE M hI ho.symm, fun z => absurd (nI_lt (by omega) (by omega)) z⟩
  | r + 1, nu, M, hn, hI, ho => by
    unfold f_X10_fewest_L29 f_X10_fewest_B29
    refine ⟨fun z => absurd z (nI_nlt (by omega) (by omega)), fun _ => ⟨2 ^ sz + 1, ?_⟩⟩
    refine few38T (R := rst sz r (nu + 1)) hsz (by omega) hsb hns hIF hT (fun M' hI' ho' => ?_) hK (2 ^ sz) 0 M (by omega) hI ho
    simp only [forall_eq, nI_1]
    exact few29T hsz hsb hns hIF hT hE hK r (nu + 1) M' (by omega) hI' ho'
theorem fewestT {n : Int32} {sz : Nat} {ty : Nat → Nat} {sb tm bk : Nat → Bool} {I : Mm → Prop} {M : Mm} {K : Int32 → Mm → Prop} (hsz : sz ≤ 8) (h2 : M.1 118 2 = nI sz) (hty : ∀ j, j < sz → M.1 119 j = nI (ty j) ∧ ty j < 5) (hsb : ∀ b, b < 2 ^ sz → (nI b &&& (nI (ubs ty sz) ^^^ (-1 : Int32)) = 0 ↔ sb b = true)) (hns : ∀ b, sb b = false → tm b = false ∧ bk b = true) (hIF : ∀ M, I M → FX M) (hI : I M) (hT : TRT sz sb tm bk I) (hK : HKf I sz (oc tm bk (ord sz)) K) : f_X10_fewest S0 0 2 n (nI sz) M K := by
  unfold f_X10_fewest
  have hF := hIF M hI
  simp only [forall_eq]
  rw [sh_sz hsz]
  refine ⟨fun _ => ?_, fun z => absurd trivial z⟩
  simp only [fx_0_7 hF, ex_some, s0_118, true_and]
  unfold f_X8_typedBits
  refine ⟨sz + 1, tyb_L (ty := ty) hF hsz h2 hty ?_ sz 0 (by omega)⟩
  refine ⟨sz + 1 + 1, few29T hsz hsb hns hIF hT (fun M' hI' ho => ?_) hK (sz + 1) 0 M (by omega) hI rfl⟩
  have := hK.1 M' hI' (by rw [ho])
  rw [ho] at this
  exact this
/-- the model tries sets of keys -/
theorem spM {C : Cf} {ky len u A B : Nat} {ty : Nat → Nat} {mu : Option (List Nat)} {sb tm bk : Nat → Bool} {m5 : Mm} {EK : Int32 → Int32 → Mm → Prop} {K : Int32 → Mm → Prop} (hB5 : BY C mu ky len m5) (hky : ky < 5) (hl1 : 1 ≤ len) (hlen : len ≤ 8) (h0 : SI C A B) (e0 : m5.2.1 142 45 = lN (PA A)) (e1 : m5.2.1 142 46 = lN (PB B)) (hty : ∀ j, j < len → m5.1 173 j = nI (ty j) ∧ ty j < 5) (hsb : ∀ b, b < 2 ^ len → (nI b &&& (nI u ^^^ (-1 : Int32)) = 0 ↔ sb b = true)) (hns : ∀ b, sb b = false → tm b = false ∧ bk b = true)
    (htm : ∀ x, sb x = true → (tm x = true ↔ tryI C mu (ksf ty ky x) len len 0 0 (ts0 A B) = none)) (hbk : ∀ x, sb x = true → ∀ σ, tryI C mu (ksf ty ky x) len len 0 0 (ts0 A B) = some σ → (bk x = true ↔ ¬ tF σ = none)) :
    ∀ (r : List Nat) (x : Nat) (M : Mm), chn len (x :: r) = true → FrT m5 M → (∀ y M', (oc tm bk (x :: r)).2 = some y → FrT m5 M' → EK (nI y) 0 M') → (∀ M', (oc tm bk (x :: r)).2 = none → (oc tm bk (x :: r)).1 = -3 → FrT m5 M' → EK (-1) 1 M') → (∀ M', oc tm bk (x :: r) = (-2, none) → FrT m5 M' → EK (-1) 0 M') → f_X11_spare_L69 S0 142 (nI u) EK K (r.length + 1 + 1) (nI x) (-1 : Int32) (0 : Int32) M
  | r, x, M, hch, hJ, k1, k2, k3 => by
    have hx : x < 2 ^ len := by
      match r, hch with
      | [], hch => simp only [chn, Bool.and_eq_true, decide_eq_true_eq] at hch; exact hch.2
      | y :: r, hch => simp only [chn, Bool.and_eq_true, decide_eq_true_eq] at hch; exact hch.1.2
    have h8 : 2 ^ len ≤ 2 ^ 8 := Nat.pow_le_pow_right (by omega) hlen
    -- to the next set
    have tail : ∀ (f v : Int32) (M2 : Mm), FrT m5 M2 → ((0 ≤ f ∨ ¬ v = 0) → EK f v M2) → (f = -1 → v = 0 → tm x = false ∧ bk x = true) → (0 ≤ f ∨ f = -1) → f_X11_spare_J119 S0 142 (nI u) (nI x) f v M2 (fun x2 x3 x4 M => f_X11_spare_L69 S0 142 (nI u) EK K (r.length + 1) x2 x3 x4 M) K := by
      intro f v M2 f2 h1 h2 h3
      unfold f_X11_spare_J119
      rw [(BY_fr f2 hB5).2.2.2.2]
      refine next_ok hlen hx ?_
      by_cases e : 0 ≤ f ∨ ¬ v = 0
      · have fin := h1 e
        unfold f_X11_spare_L69 f_X11_spare_B69
        refine ⟨fun _ => fin, fun _ => ⟨fun _ => fin, fun z => ⟨fun z' => ?_, fun _ => fin⟩⟩⟩
        exact (e.elim z (fun q => q z')).elim
      · have ev : v = 0 := Classical.byContradiction (fun z => e (Or.inr z))
        have ef : f = -1 := h3.elim (fun z => absurd (Or.inl z) e) id
        obtain ⟨t1, t2⟩ := h2 ef ev
        have eo : oc tm bk (x :: r) = oc tm bk r := by
          conv => lhs; unfold oc
          rw [if_neg (by rw [t1]; decide), if_neg (by rw [t2]; decide)]
        rw [ef, ev]
        match r, hch, k1, k2, k3, eo with
        | [], hch, k1, k2, k3, eo =>
          simp only [chn, Bool.and_eq_true, decide_eq_true_eq] at hch
          rw [hch.1]
          unfold f_X11_spare_L69 f_X11_spare_B69
          exact ⟨fun _ => k3 M2 eo f2, fun z => absurd (by decide) z⟩
        | y :: r, hch, k1, k2, k3, eo =>
          simp only [chn, Bool.and_eq_true, decide_eq_true_eq] at hch
          rw [hch.1.1]
          rw [eo] at k1 k2 k3
          exact spM hB5 hky hl1 hlen h0 e0 e1 hty hsb hns htm hbk r y M2 hch.2 f2 k1 k2 k3
    unfold f_X11_spare_L69 f_X11_spare_B69
    rw [hsb x hx]
    refine ⟨fun z => absurd z (nI_pos (by omega)), fun _ => ⟨fun z => absurd z (by decide), fun _ => ⟨fun _ => ⟨fun hs => ?_, fun hs => ?_⟩, fun z => absurd rfl z⟩⟩⟩
    · refine types_ok (C := C) (mu := mu) (ky := ky) (ty := ty) (BY_fr hJ hB5) hky (by omega) hl1 hlen h0 (hJ.2.1.trans e0) (hJ.2.2.trans e1) (fun j hj => ⟨(hJ.1.1 173 j rfl).trans (hty j hj).1, (hty j hj).2⟩) (fun σ hσ M2 hi f2 T2 z2 => ?_) (fun hσ M2 f2 z2 => ?_)
      · simp only [forall_eq]
        have t : tm x = false := by
          rcases hq : tm x with _ | _
          · rfl
          · have := (htm x hs).mp hq; rw [hσ] at this; exact absurd this (by simp)
        rw [z2, T2.2.2.2.1]
        refine ⟨fun _ => ⟨fun z => ?_, fun z => ?_⟩, fun z => absurd rfl z⟩
        · have hn : tF σ = none := Classical.byContradiction (fun q => by rw [if_neg q] at z; exact absurd z (by decide))
          have b : bk x = false := by
            rcases hq : bk x with _ | _
            · rfl
            · exact absurd hn ((hbk x hs σ hσ).mp hq)
          have eo : oc tm bk (x :: r) = (nI (pc x), some x) := by unfold oc; rw [if_neg (by rw [t]; decide), if_pos b]
          unfold f_X11_spare_J118
          exact tail (nI x) 0 M2 (FrT_tr hJ f2) (fun _ => k1 x M2 (by rw [eo]) (FrT_tr hJ f2)) (fun q => absurd (le0 (show x < 2 ^ 31 by omega)) (by rw [q]; decide)) (Or.inl (le0 (by omega)))
        · have hn : ¬ tF σ = none := fun q => z (by rw [if_pos q])
          unfold f_X11_spare_J117 f_X11_spare_J118
          exact tail (-1) 0 M2 (FrT_tr hJ f2) (fun q => (q.elim (fun w => absurd w (by decide)) (fun w => absurd rfl w))) (fun _ _ => ⟨t, (hbk x hs σ hσ).mpr hn⟩) (Or.inr rfl)
      · simp only [forall_eq]
        have t : tm x = true := (htm x hs).mpr hσ
        have eo : oc tm bk (x :: r) = (-3, none) := by unfold oc; rw [if_pos t]
        rw [z2]
        refine ⟨fun z => absurd z (by decide), fun _ => ?_⟩
        unfold f_X11_spare_J117 f_X11_spare_J118
        exact tail (-1) 1 M2 (FrT_tr hJ f2) (fun _ => k2 M2 (by rw [eo]) (by rw [eo]) (FrT_tr hJ f2)) (fun _ q => absurd q (by decide)) (Or.inr rfl)
    · exact tail (-1) 0 M hJ (fun q => (q.elim (fun w => absurd w (by decide)) (fun w => absurd rfl w))) (fun _ _ => hns x (by simpa using hs)) (Or.inr rfl)
theorem op32 (M : Mm) (K : Mm → Prop) (hV : V M) (hK : ∀ m, V m → K m) : OP32 M K := by
  have hF := hV.1
  obtain ⟨C, mu, ky, A, B, F, hC, hCM, hmC, hmM, hky, k13, k27, hm, hs, hf, hsi⟩ := run_of hV
  obtain ⟨len, ty, hlen, t118, t142, hty⟩ := typ_of hV
  have c1 := hC.1.1
  have htd : V_told M := hV.2.2.2.2.2.2.1
  have hwk : V_walk M := hV.2.2.2.2.2.2.2.2.2.2.2.2.2.2.2.2.1
  have ref : (cT C = 0 ∨ len = 0) → f_X11_spare S0 142 M (AN (-1) K) := by
    intro hx
    unfold f_X11_spare
    simp only [forall_eq]
    have e15 : (stI M 142 0 0).1 142 15 = nI (cT C) := hCM.2.1
    have e60 : (stI M 142 0 0).1 142 60 = nI len := t142
    have hend : AN (-1) K (-1) (stI M 142 0 0) := an_ok rfl (hK _ (V_thr _ hV))
    rw [e15, e60]
    refine ⟨fun _ => hend, fun z => ⟨fun _ => hend, fun z' => ?_⟩⟩
    rcases hx with h | h
    · rw [h] at z; exact absurd rfl z
    · rw [h] at z'; exact absurd rfl z'
  show f_X10_spare S0 0 M (fun r m1 => f_X11_spare S0 142 m1 (AN r K))
  unfold f_X10_spare f_X10_refusesTyping
  simp only [fx_0_2 hF, fx_0_7 hF, ex_some, s0_11, s0_118, true_and, hC.2.1, t118]
  refine ⟨fun h => ⟨fun z => absurd z (by decide), fun _ => ref (Or.inl ((nI_eq (by omega) (by omega)).mp h))⟩, fun g1 => ⟨fun h => ⟨fun z => absurd z (by decide), fun _ => ref (Or.inr ((nI_eq (by omega) (by omega)).mp h))⟩, fun g2 => ⟨fun _ => ?_, fun z => absurd trivial z⟩⟩⟩
  have hT : 0 < cT C := Nat.pos_of_ne_zero (fun z => g1 (by rw [z]; rfl))
  have hl1 : 1 ≤ len := Nat.pos_of_ne_zero (fun z => g2 (by rw [z]; rfl))
  have h8 : 2 ^ len ≤ 2 ^ 8 := Nat.pow_le_pow_right (by omega) hlen
  obtain ⟨sb, hsb⟩ : ∃ sb : Nat → Bool, ∀ b, nI b &&& (nI (ubs ty len) ^^^ (-1 : Int32)) = 0 ↔ sb b = true := ⟨fun b => decide (nI b &&& (nI (ubs ty len) ^^^ (-1 : Int32)) = 0), fun b => by simp⟩
  obtain ⟨tm, htm⟩ : ∃ tm : Nat → Bool, ∀ x, tm x = true ↔ (sb x = true ∧ tryI C mu (ksf ty ky x) len len 0 0 (ts0 A B) = none) := ⟨fun x => @decide (sb x = true ∧ tryI C mu (ksf ty ky x) len len 0 0 (ts0 A B) = none) (Classical.propDecidable _), fun x => by simp⟩
  obtain ⟨bk, hbk⟩ : ∃ bk : Nat → Bool, ∀ x, bk x = true ↔ (sb x = true → ∃ σ, tryI C mu (ksf ty ky x) len len 0 0 (ts0 A B) = some σ ∧ ¬ tF σ = none) := ⟨fun x => @decide (sb x = true → ∃ σ, tryI C mu (ksf ty ky x) len len 0 0 (ts0 A B) = some σ ∧ ¬ tF σ = none) (Classical.propDecidable _), fun x => @decide_eq_true_iff _ (Classical.propDecidable _)⟩
  have hns : ∀ b, sb b = false → tm b = false ∧ bk b = true := fun b hb => by
    refine ⟨?_, (hbk b).mpr (fun z => by rw [hb] at z; exact absurd z (by decide))⟩
    rcases hq : tm b with _ | _
    · rfl
    · have := ((htm b).mp hq).1; rw [hb] at this; exact absurd this (by decide)
  have htm' : ∀ x, sb x = true → (tm x = true ↔ tryI C mu (ksf ty ky x) len len 0 0 (ts0 A B) = none) := fun x hx => ⟨fun z => ((htm x).mp z).2, fun z => (htm x).mpr ⟨hx, z⟩⟩
  have hbk' : ∀ x, sb x = true → ∀ σ, tryI C mu (ksf ty ky x) len len 0 0 (ts0 A B) = some σ → (bk x = true ↔ ¬ tF σ = none) := fun x hx σ hσ => by
    refine ⟨fun z => ?_, fun z => (hbk x).mpr (fun _ => ⟨σ, hσ, z⟩)⟩
    obtain ⟨σ2, h1, h2⟩ := (hbk x).mp z hx
    rw [hσ, Option.some.injEq] at h1
    rw [h1]; exact h2
  obtain ⟨och, och0⟩ := ord_chn len (by omega)
  obtain ⟨rl, hrl⟩ : ∃ rl, ord len = 0 :: rl := by
    match hq : ord len, och0 with
    | y :: rl, h => simp only [List.head?_cons, Option.some.injEq] at h; exact ⟨rl, by rw [h]⟩
  have model : ∀ (M1 : Mm), PM C ky A B F mu M M1 → M1.1 142 60 = nI len → (∀ j, j < len → M1.1 173 j = nI (ty j)) → ((oc tm bk (ord len)).2 = none → V_told M1) → (∀ y, (oc tm bk (ord len)).2 = some y → y < 2 ^ len ∧ M1.1 116 1 = 1 ∧ M1.2.1 117 0 = lN y) → f_X11_spare S0 142 M1 (AN (oc tm bk (ord len)).1 K) := by
    intro M1 pm e60 e173 tn ts
    have pm' := pm
    obtain ⟨p1', p2, p3, p4, p5, p6, p7, p8⟩ := pm
    unfold f_X11_spare
    simp only [forall_eq]
    have e15' : (stI M1 142 0 0).1 142 15 = nI (cT C) := p3.2.1
    have e60' : (stI M1 142 0 0).1 142 60 = nI len := e60
    rw [e15', e60']
    refine ⟨fun z => absurd z g1, fun _ => ⟨fun z => absurd z g2, fun _ => ⟨len + 1, spb_L (ty := ty) (fx_I p2) hlen e60' (fun j hj => ⟨e173 j hj, (hty j hj).2.2⟩) ?_ len 0 (by omega)⟩⟩⟩
    refine runM2 (ky := ky) (A := A) (B := B) (F := F) p2 p3 p4 p5 p6 (fun M2 f2 b2 r2 => ?_)
    have cb' : ∀ (M3 : Mm) (Q : Mm → Prop), FrT M2 M3 → (∀ M4, Fr dTm eTy M1 M4 → FX M4 → (∀ M5, Fr dWy eWy M4 M5 → V_told M5 → V M5) → Q M4) → f_X11_comesBack S0 142 M3 Q := by
      intro M3 Q f3 hQ
      refine comes_ok (FX_fr f3.1 b2.1) (RM_frT f3 r2) (fun M4 f4 m4 mf4 z4 => ?_)
      have f14 : Fr dTm eTy M1 M4 := Fr_tr (dRm0_tm f2) (Fr_tr (dTy_tm f3.1) (dCb_tm f4))
      exact hQ M4 f14 (FX_fr f14 p2) (fun M5 f5 td => typV hV hm pm' f14 m4 mf4 z4 f5 td)
    refine ⟨rl.length + 1 + 1, ?_⟩
    rw [hrl] at och tn ts ⊢
    refine spM (C := C) (mu := mu) (ky := ky) (len := len) (ty := ty) (sb := sb) (tm := tm) (bk := bk) ⟨b2.1, b2.2.1, mM_ag (Fr_row f2 _ fun _ => rfl) (Fr_row f2 _ fun _ => rfl) (f2.1 _ _ rfl) p7, b2.2.2, (f2.1 142 60 rfl).trans e60⟩ hky hl1 hlen hsi r2.1 r2.2.1 (fun j hj => ⟨(f2.1 173 j rfl).trans (e173 j hj), (hty j hj).2.2⟩) (fun b _ => hsb b) hns htm' hbk' rl 0 M2 och (FrT_refl _) (fun y M3 hy f3 => ?_) (fun M3 hy hy2 f3 => ?_) (fun M3 hy f3 => ?_)
    · obtain ⟨y1, y2, y3⟩ := ts y hy
      refine cb' M3 _ f3 (fun M4 f4 hF4 v4 => ⟨fun _ => ?_, fun z => absurd (le0 (by omega)) z⟩)
      refine ent_ok hF4 (fun M5 f7 q1 q2 => bc_ok (by omega) (an_ok (oc_some _ hy) (hK _ (v4 M5 f7 ⟨1, by omega, ?_, q1, fun i hi => ?_⟩))))
      · rw [f7.1 116 1 rfl, f4.1 116 1 rfl]; exact y2
      · have e : i = 0 := by omega
        rw [e, f7.2.1 117 rfl, f4.2.1 117 rfl, q2, y3, nI_l (by omega)]
    · refine cb' M3 _ f3 (fun M4 f4 hF4 v4 => ⟨fun z => absurd z (by decide), fun _ => ⟨fun z => absurd z (by decide), fun _ => ?_⟩⟩)
      exact an_ok hy2 (hK _ (v4 M4 (Fr_refl _ _ _) (told_tm f4 (tn hy))))
    · refine cb' M3 _ f3 (fun M4 f4 hF4 v4 => ⟨fun z => absurd z (by decide), fun _ => ⟨fun _ => ?_, fun z => absurd rfl z⟩⟩)
      exact an_ok (by rw [hy]) (hK _ (v4 M4 (Fr_refl _ _ _) (told_tm f4 (tn (by rw [hy])))))
  refine fewestT (ty := ty) (sb := sb) (tm := tm) (bk := bk) (I := fun m => Fr dFl eG M m ∧ V_walk m) hlen t118 (fun j hj => ⟨(hty j hj).1, (hty j hj).2.2⟩) (fun b _ => hsb b) hns (fun m h => FX_fr h.1 hF) ⟨Fr_refl _ _ _, hwk⟩ ?_ ⟨fun M1 hI ho => ?_, fun y M0 M1 ho hy hI f1 q1 q2 => ?_⟩
  · intro x M1 Q hx hsx hI hQ
    unfold f_X10_useSet
    have f0 := hI.1
    have hF1 := FX_fr f0 hF
    refine ⟨fun z => absurd z (by decide), fun _ => ⟨fun z => absurd z (by decide), fun _ => ?_⟩⟩
    have e118 : M1.1 118 2 = nI len := (f0.1 118 2 rfl).trans t118
    have hprA : ∀ a, prc a → M1.1 a = M.1 a := fun a ha => Fr_row f0 a (fun j => by unfold prc at ha; unfold dFl dE; simp only [Bool.or_eq_false_iff, Bool.and_eq_false_iff, beq_eq_false_iff_ne]; omega)
    have hC1 : CC M1 C := CC_ag hprA (f0.1 _ _ rfl) (f0.1 _ _ rfl) (f0.1 _ _ rfl) (Fr_row f0 _ (fun _ => rfl)) (by rw [f0.2.2]) (by rw [f0.2.2]) (by rw [f0.2.2]) hC
    have hmC1 : mC M1 mu := mC_ag hprA (by rw [f0.2.2]) hmC
    simp only [fx_0_2 hF1, fx_0_7 hF1, ex_some, s0_11, s0_118, true_and, (f0.1 11 13 rfl).trans k13]
    refine prep_ok (ty := ty) (x := x) hF1 (by omega) hky hlen e118 (fun j hj => ⟨(f0.1 119 j rfl).trans (hty j hj).1, (hty j hj).2.2⟩) (fun M2 f2 kk2 => ?_)
    have f2' := d120_fl f2
    have hpr : ∀ a, prc a → M2.1 a = M1.1 a := fun a ha => Fr_row f2 a (fun j => by unfold prc at ha; unfold d120; simp only [beq_eq_false_iff_ne]; omega)
    refine hQ M2 (FX_fr f2 hF1) ((f2.1 118 2 rfl).trans e118) (fun KK h0 h1 => ?_)
    refine follow_ok (C := C) (mu := mu) (ks := ksf ty ky x) (A := A) (B := B) (FX_fr f2 hF1) (walk_fr f2 rfl (fun _ => rfl) (fun _ => rfl) hI.2) (CC_ag hpr (f2.1 _ _ rfl) (f2.1 _ _ rfl) (f2.1 _ _ rfl) (Fr_row f2 _ (fun _ => rfl)) (by rw [f2.2.2]) (by rw [f2.2.2]) (by rw [f2.2.2]) hC1) (mC_ag hpr (by rw [f2.2.2]) hmC1) (by rw [f2.2.1 113 rfl, f0.2.1 113 rfl]; exact hm.2.2.1) (by rw [f2.2.1 113 rfl, f0.2.1 113 rfl]; exact hm.2.2.2.1) hsi (fun i _ => (ksf_lt hky).2) hl1 hlen kk2 (fun σ hσ M3 f3 T3 w3 => ?_) (fun hσ M3 f3 w3 => h0 ((htm' x hsx).mpr hσ) M3 ⟨Fr_tr f0 (Fr_tr f2' (dE_fl f3)), w3⟩)
    have t : tm x = false := by
      rcases hq : tm x with _ | _
      · rfl
      · have := (htm' x hsx).mp hq; rw [hσ] at this; exact absurd this (by simp)
    refine h1 t M3 ⟨Fr_tr f0 (Fr_tr f2' (dE_fl f3)), w3⟩ ?_
    obtain ⟨v0, d0⟩ := TIv_0 (D := len - 1) hsi
    obtain ⟨dd, hI2⟩ := tryI_inv (D := len - 1) hC.1 (fun i _ => (ksf_lt hky).2) (by omega) len 0 0 (ts0 A B) σ (by omega) (by omega) v0 d0 hσ
    have i3 := hI2.2.2.1
    rw [T3.2.2.1, hbk' x hsx σ hσ]
    exact enc_ge (fun p hp => by obtain ⟨a, b⟩ := hI2.2.2.2.2.2.2.2.1 p hp; exact ⟨by omega, by omega⟩)
  · exact model M1 (PM_T hF hCM k27 hs hf hmM hI.1 hI.2) ((hI.1.1 142 60 rfl).trans t142) (fun j hj => (hI.1.1 173 j rfl).trans (hty j hj).2.1) (fun _ => told_fr hI.1 rfl rfl rfl rfl htd) (fun y hy => by rw [ho] at hy; exact absurd hy (by simp))
  · refine model M1 (PM_2 (PM_T hF hCM k27 hs hf hmM hI.1 hI.2) f1) ((f1.1 142 60 rfl).trans ((hI.1.1 142 60 rfl).trans t142)) (fun j hj => (f1.1 173 j rfl).trans ((hI.1.1 173 j rfl).trans (hty j hj).2.1)) (fun h => by rw [ho] at h; exact absurd h (by simp)) (fun y' hy' => ?_)
    rw [ho] at hy'
    simp only [Option.some.injEq] at hy'
    subst hy'
    exact ⟨hy, q1, q2⟩
