/-! whether some run breaks must (model); sets in their order; fewest (class) -/
theorem sb29 {C : Cf} {ky w A0 B0 n s : Nat} {mu : Option (List Nat)} {x2 : Int32} {EK : Mm → Prop} {K : Int32 → Mm → Prop} (hky : ky < 5) (hw : w = cT C * (ky + 1)) (hT : 0 < cT C) (h0 : SI C A0 B0) (hn : n ≤ 20) (hsn : s < Ed C ky w A0 B0 n) (hl4 : (bf C ky w A0 B0 (Ed C ky w A0 B0 n * w)).length ≤ 4001) :
    ∀ (r m : Nat) (M : Mm), m + r = w → BM C ky M → mM M mu → WM M (bf C ky w A0 B0 (Ed C ky w A0 B0 n * w)) 0 → WD M (bf C ky w A0 B0 (Ed C ky w A0 B0 n * w)) → (∀ k, k < s * w + m → pB C ky w A0 B0 mu k = false) → (∀ M', Fr dD eN M M' → (∀ k, k < s * w + w → pB C ky w A0 B0 mu k = false) → EK M') → (∀ k, k < Ed C ky w A0 B0 n * w → pB C ky w A0 B0 mu k = true → ∀ M1, Fr dD eN M M1 → K 1 M1) → f_X11_someBreaks_L29 S0 142 (nI n) x2 (nI s) EK K (r + 1) (nI m) M
  | 0, m, M, hm, hB, hI, hW, hD, hP, hK, hFd => by
    unfold f_X11_someBreaks_L29 f_X11_someBreaks_B29 f_X11_width
    obtain ⟨b1, b2, b3⟩ := hB
    have c1 := b2.1.1
    have hw20 : w ≤ 20 := by
      rw [hw]
      have : cT C * (ky + 1) ≤ 4 * 5 := Nat.mul_le_mul c1 (by omega)
      omega
    have e : m = w := by omega
    subst e
    rw [b2.2.1, b3, nI_1 ky, pk_mul, ← hw]
    exact ⟨fun _ => hK M (Fr_refl _ _ _) hP, fun z => absurd (nI_le (Nat.le_refl _) (by omega)) z⟩
  | r + 1, m, M, hm, hB, hI, hW, hD, hP, hK, hFd => by
    have hB' := hB
    obtain ⟨b1, b2, b3⟩ := hB
    have c1 := b2.1.1
    have hw20 : w ≤ 20 := by
      rw [hw]
      have : cT C * (ky + 1) ≤ 4 * 5 := Nat.mul_le_mul c1 (by omega)
      omega
    obtain ⟨d1, d2⟩ := divk (s := s) (show m < w by omega)
    obtain ⟨t1, t2⟩ := mv_t hw (show m < w by omega)
    have hEn : (s + 1) * w ≤ Ed C ky w A0 B0 n * w := Nat.mul_le_mul_right _ hsn
    rw [Nat.add_mul, Nat.one_mul] at hEn
    have hlen0 := bf_sl hsn
    have hlenk : s < (bf C ky w A0 B0 (s * w + m)).length := Nat.lt_of_lt_of_le hlen0 (bf_mono (by omega))
    have hlen : s < (bf C ky w A0 B0 (Ed C ky w A0 B0 n * w)).length := Nat.lt_of_lt_of_le hlen0 (bf_mono (by omega))
    have hdp := (dp_lt (by omega) hlen (Nat.le_refl _)).mpr hsn
    have hins : vp_in (nI s) 4001 := vp_in_nI (by omega) (by omega)
    have hcls : (nI s).toNatClampNeg = s := nI_clamp (by omega)
    have hsi := bf_si b2.1 hky hw hT h0 (Ed C ky w A0 B0 n * w) s hlen
    have enx : nx C ky w (bf C ky w A0 B0 (s * w + m)) (s * w + m) = stp C (gt (bf C ky w A0 B0 (Ed C ky w A0 B0 n * w)) s).1 (gt (bf C ky w A0 B0 (Ed C ky w A0 B0 n * w)) s).2.1 (m / (ky + 1)) (m % (ky + 1)) := by
      unfold nx; rw [d1, d2, bf_gt (show s * w + m ≤ Ed C ky w A0 B0 n * w by omega) hlenk]
    have hps : pB C ky w A0 B0 mu (s * w + m) = brk mu (stp C (gt (bf C ky w A0 B0 (Ed C ky w A0 B0 n * w)) s).1 (gt (bf C ky w A0 B0 (Ed C ky w A0 B0 n * w)) s).2.1 (m / (ky + 1)) (m % (ky + 1))).1 (stp C (gt (bf C ky w A0 B0 (Ed C ky w A0 B0 n * w)) s).1 (gt (bf C ky w A0 B0 (Ed C ky w A0 B0 n * w)) s).2.1 (m / (ky + 1)) (m % (ky + 1))).2.1 (stp C (gt (bf C ky w A0 B0 (Ed C ky w A0 B0 n * w)) s).1 (gt (bf C ky w A0 B0 (Ed C ky w A0 B0 n * w)) s).2.1 (m / (ky + 1)) (m % (ky + 1))).2.2.1 := by
      unfold pB; rw [enx]
    unfold f_X11_someBreaks_L29 f_X11_someBreaks_B29 f_X11_width
    rw [b2.2.1, b3, nI_1 ky, pk_mul, ← hw]
    refine ⟨fun z => absurd z (nI_ge (by omega) (by omega)), fun _ => ?_⟩
    simp only [fx_142_42 b1, ex_some, shp_ne (show (164 : Nat) ≠ 100000 by decide), s0_164, ex_sh, hins, hcls, true_and, (hD s hlen).1]
    refine ⟨fun z => absurd z (nI_ge hdp (by omega)), fun _ => ?_⟩
    refine goes_ok (t := m / (ky + 1)) (key := m % (ky + 1)) b1 b2 b3 hky hW hlen hsi.2.2 t1 (by omega) (by rw [Nat.mul_comm]; exact (Nat.div_add_mod m (ky + 1)).symm) (fun M1 f1 m1 mf1 z1 => ?_)
    refine breaksM_ok (FX_fr f1 b1) (mM_dD f1 hI) m1 mf1 (fun M2 hE2 => ?_)
    have f12 : Fr dD eN M M2 := Fr_E1 (fun _ => rfl) f1 hE2
    rw [← hps]
    refine ⟨fun z => ?_, fun z => ?_⟩
    · have hpf : pB C ky w A0 B0 mu (s * w + m) = false := by
        rcases hq : pB C ky w A0 B0 mu (s * w + m) with _ | _
        · rfl
        · rw [hq] at z; exact absurd z (by decide)
      simp only [forall_eq, nI_1]
      refine sb29 hky hw hT h0 hn hsn hl4 r (m + 1) M2 (by omega) (BM_dD f12 hB') (mM_dD f12 hI) (WM_dD f12 hW) (WD_dD f12 hD) (fun k hk => ?_) (fun M3 f3 => hK M3 (Fr_tr f12 f3)) (fun k a b M3 f3 => hFd k a b M3 (Fr_tr f12 f3))
      by_cases e : k = s * w + m
      · rw [e]; exact hpf
      · exact hP k (by omega)
    · have hpt : pB C ky w A0 B0 mu (s * w + m) = true := by
        rcases hq : pB C ky w A0 B0 mu (s * w + m) with _ | _
        · rw [hq] at z; exact absurd rfl z
        · rfl
      exact hFd (s * w + m) (by omega) hpt M2 f12
theorem sb20 {C : Cf} {ky w A0 B0 n : Nat} {mu : Option (List Nat)} {EK : Mm → Prop} {K : Int32 → Mm → Prop} (hky : ky < 5) (hw : w = cT C * (ky + 1)) (hT : 0 < cT C) (h0 : SI C A0 B0) (hn : n ≤ 20) (hl4 : (bf C ky w A0 B0 (Ed C ky w A0 B0 n * w)).length ≤ 4001) :
    ∀ (r s : Nat) (M : Mm), s + r = (bf C ky w A0 B0 (Ed C ky w A0 B0 n * w)).length → BM C ky M → mM M mu → WM M (bf C ky w A0 B0 (Ed C ky w A0 B0 n * w)) 0 → WD M (bf C ky w A0 B0 (Ed C ky w A0 B0 n * w)) → (∀ k, k < min s (Ed C ky w A0 B0 n) * w → pB C ky w A0 B0 mu k = false) → (∀ M', Fr dD eN M M' → (∀ k, k < Ed C ky w A0 B0 n * w → pB C ky w A0 B0 mu k = false) → EK M') → (∀ k, k < Ed C ky w A0 B0 n * w → pB C ky w A0 B0 mu k = true → ∀ M1, Fr dD eN M M1 → K 1 M1) → f_X11_someBreaks_L20 S0 142 (nI n) (nI (bf C ky w A0 B0 (Ed C ky w A0 B0 n * w)).length) EK K (r + 1) (nI s) M
  | 0, s, M, hr, hB, hI, hW, hD, hP, hK, hFd => by
    unfold f_X11_someBreaks_L20 f_X11_someBreaks_B20
    have hEn : Ed C ky w A0 B0 n ≤ s := by
      have := Ed_mono (C := C) (ky := ky) (w := w) (A0 := A0) (B0 := B0) n
      rw [Ed_succ] at this
      omega
    rw [Nat.min_eq_right hEn] at hP
    have e : s = (bf C ky w A0 B0 (Ed C ky w A0 B0 n * w)).length := by omega
    rw [← e]
    exact ⟨fun _ => hK M (Fr_refl _ _ _) hP, fun z => absurd (nI_le (Nat.le_refl _) (by omega)) z⟩
  | r + 1, s, M, hr, hB, hI, hW, hD, hP, hK, hFd => by
    have hB' := hB
    obtain ⟨b1, b2, b3⟩ := hB
    have c1 := b2.1.1
    have hwp : 0 < w := by rw [hw]; exact Nat.mul_pos hT (by omega)
    have hw20 : w ≤ 20 := by
      rw [hw]
      have : cT C * (ky + 1) ≤ 4 * 5 := Nat.mul_le_mul c1 (by omega)
      omega
    unfold f_X11_someBreaks_L20 f_X11_someBreaks_B20
    refine ⟨fun z => absurd z (nI_ge (by omega) (by omega)), fun _ => ?_⟩
    simp only [forall_eq, nI_1]
    rcases Nat.lt_or_ge s (Ed C ky w A0 B0 n) with q | q
    · rw [Nat.min_eq_left (by omega)] at hP
      refine ⟨w + 1, sb29 hky hw hT h0 hn q hl4 w 0 M (by omega) hB' hI hW hD hP (fun M1 f1 P1 => ?_) hFd⟩
      refine sb20 hky hw hT h0 hn hl4 r (s + 1) M1 (by omega) (BM_dD f1 hB') (mM_dD f1 hI) (WM_dD f1 hW) (WD_dD f1 hD) (fun k hk => P1 k ?_) (fun M2 f2 => hK M2 (Fr_tr f1 f2)) (fun k a b M2 f2 => hFd k a b M2 (Fr_tr f1 f2))
      rw [Nat.min_eq_left (by omega), Nat.add_mul, Nat.one_mul] at hk
      exact hk
    · have hlen : s < (bf C ky w A0 B0 (Ed C ky w A0 B0 n * w)).length := by omega
      have hins : vp_in (nI s) 4001 := vp_in_nI (by omega) (by omega)
      have hcls : (nI s).toNatClampNeg = s := nI_clamp (by omega)
      have hdp : n ≤ (gt (bf C ky w A0 B0 (Ed C ky w A0 B0 n * w)) s).2.2.2.2 := by
        rcases Nat.lt_or_ge (gt (bf C ky w A0 B0 (Ed C ky w A0 B0 n * w)) s).2.2.2.2 n with z | z
        · have := (dp_lt hwp hlen (Nat.le_refl _)).mp z
          omega
        · exact z
      have hdp2 := dp_le (n := n) hwp hlen (Nat.le_refl _)
      have go := sb20 (EK := EK) (K := K) (mu := mu) hky hw hT h0 hn hl4 r (s + 1) M (by omega) hB' hI hW hD (fun k hk => hP k (by rw [Nat.min_eq_right (by omega)] at hk ⊢; exact hk)) hK hFd
      refine ⟨0 + 1, ?_⟩
      unfold f_X11_someBreaks_L29 f_X11_someBreaks_B29 f_X11_width
      rw [b2.2.1, b3, nI_1 ky, pk_mul, ← hw]
      refine ⟨fun z => absurd z (show ¬ nI w ≤ nI 0 from nI_ge (by omega) (by omega)), fun _ => ?_⟩
      simp only [fx_142_42 b1, ex_some, shp_ne (show (164 : Nat) ≠ 100000 by decide), s0_164, ex_sh, hins, hcls, true_and, (hD s hlen).1]
      exact ⟨fun _ => go, fun z => absurd (nI_le hdp (by omega)) z⟩
theorem someB_ok {C : Cf} {ky w A0 B0 n mo : Nat} {mu : Option (List Nat)} {M : Mm} {K : Int32 → Mm → Prop} (hB : BM C ky M) (hmu : mM M mu) (hky : ky < 5) (hw : w = cT C * (ky + 1)) (hT : 0 < cT C) (h0 : SI C A0 B0) (e0 : M.2.1 142 45 = lN (PA A0)) (e1 : M.2.1 142 46 = lN (PB B0)) (hn : n ≤ 20) (hmo : 1 ≤ mo) (hmo2 : mo ≤ 4000)
    (h3 : mo < (bf C ky w A0 B0 (Ed C ky w A0 B0 n * w)).length → ∀ M', Fr dQ eP M M' → K (-3) M') (h2 : (bf C ky w A0 B0 (Ed C ky w A0 B0 n * w)).length ≤ mo → (∀ k, k < Ed C ky w A0 B0 n * w → pB C ky w A0 B0 mu k = false) → ∀ M', Fr dQ eP M M' → K 0 M')
    (h1 : (bf C ky w A0 B0 (Ed C ky w A0 B0 n * w)).length ≤ mo → ∀ k, k < Ed C ky w A0 B0 n * w → pB C ky w A0 B0 mu k = true → ∀ M', Fr dQ eP M M' → K 1 M') : f_X11_someBreaks S0 142 (nI n) (nI mo) M K := by
  unfold f_X11_someBreaks
  refine explores_ok (mo := mo) hB hky hw hT h0 e0 e1 hn hmo hmo2 (fun hle M1 f1 W1 D1 => ⟨fun z => absurd z (by decide), fun _ => ?_⟩) (fun hgt M1 f1 => ⟨fun _ => h3 hgt M1 f1, fun z => absurd rfl z⟩)
  simp only [forall_eq]
  rw [W1.1]
  refine ⟨(bf C ky w A0 B0 (Ed C ky w A0 B0 n * w)).length + 1, ?_⟩
  have main := sb20 (mu := mu) (EK := fun m23 => K 0 m23) (K := K) hky hw hT h0 hn (by omega) (bf C ky w A0 B0 (Ed C ky w A0 B0 n * w)).length 0 M1 (by omega) (BM_fr f1 hB) (mM_dQ f1 hmu) W1 D1 (fun k hk => by rw [Nat.zero_min, Nat.zero_mul] at hk; omega) (fun M2 f2 P2 => h2 hle P2 M2 (Fr_tr f1 (dD_dQ f2))) (fun k a b M2 f2 => h1 hle k a b M2 (Fr_tr f1 (dD_dQ f2)))
  exact main
/-! sets in their order: by how many, then by bits -/
def pc (x : Nat) : Nat := (if x.testBit 0 then 1 else 0) + (if x.testBit 1 then 1 else 0) + (if x.testBit 2 then 1 else 0) + (if x.testBit 3 then 1 else 0) + (if x.testBit 4 then 1 else 0) + (if x.testBit 5 then 1 else 0) + (if x.testBit 6 then 1 else 0) + (if x.testBit 7 then 1 else 0)
def bc1 (x : Int32) : Int32 := x - ((x.toUInt32 >>> ((1 : Int32).toUInt32 &&& Int32.toUInt32 31)).toInt32 &&& (1431655765 : Int32))
def bc2 (v : Int32) : Int32 := (v &&& (858993459 : Int32)) + ((v.toUInt32 >>> ((2 : Int32).toUInt32 &&& Int32.toUInt32 31)).toInt32 &&& (858993459 : Int32))
def bc3 (v : Int32) : Int32 := (v + (v.toUInt32 >>> ((4 : Int32).toUInt32 &&& Int32.toUInt32 31)).toInt32) &&& (252645135 : Int32)
def bc4 (v : Int32) : Int32 := v + (v.toUInt32 >>> ((8 : Int32).toUInt32 &&& Int32.toUInt32 31)).toInt32
def bc5 (v : Int32) : Int32 := v + (v.toUInt32 >>> ((16 : Int32).toUInt32 &&& Int32.toUInt32 31)).toInt32
set_option maxRecDepth 100000 in
theorem bc_pc : ∀ x, x < 256 → bc5 (bc4 (bc3 (bc2 (bc1 (nI x))))) &&& (63 : Int32) = nI (pc x) := by decide +kernel
theorem bc_ok {S : Ss} {x : Nat} {M : Mm} {K : Int32 → Mm → Prop} (hx : x < 256) (h : K (nI (pc x)) M) : f_J6_bitCount_0f7a4 S (nI x) M K := by
  unfold f_J6_bitCount_0f7a4
  intro v1 h1 v2 h2 v3 h3 v4 h4 v5 h5
  have e : v5 &&& (63 : Int32) = nI (pc x) := by
    rw [h5, h4, h3, h2, h1]
    exact bc_pc x hx
  rw [e]; exact h
/-- the sets from b on of number nu -/
def lst (sz nu b : Nat) : List Nat := (List.range' b (2 ^ sz - b)).filter (fun x => pc x == nu)
def rst (sz : Nat) : Nat → Nat → List Nat
  | 0, _ => []
  | r + 1, nu => lst sz nu 0 ++ rst sz r (nu + 1)
/-- all sets in their order -/
def ord (sz : Nat) : List Nat := rst sz (sz + 1) 0
theorem lst_end {sz nu : Nat} : lst sz nu (2 ^ sz) = [] := by simp [lst]
theorem lst_cons {sz nu b : Nat} (h : b < 2 ^ sz) : lst sz nu b = if pc b = nu then b :: lst sz nu (b + 1) else lst sz nu (b + 1) := by
  unfold lst
  rw [show 2 ^ sz - b = (2 ^ sz - (b + 1)) + 1 by omega, List.range'_succ, List.filter_cons]
  simp
/-- the set that the model takes next -/
def nxs (sz x : Nat) : Int32 := match lst sz (pc x) (x + 1) with
  | y :: _ => nI y
  | [] => if pc x = sz then -1 else nI (2 ^ (pc x + 1) - 1)
def chn (sz : Nat) : List Nat → Bool
  | [] => true
  | [x] => decide (nxs sz x = -1) && decide (x < 2 ^ sz)
  | x :: y :: r => decide (nxs sz x = nI y) && decide (x < 2 ^ sz) && chn sz (y :: r)
set_option maxRecDepth 1000000 in
theorem ord_chn : ∀ sz, sz < 9 → chn sz (ord sz) = true ∧ (ord sz).head? = some 0 := by decide +kernel
theorem pc_le (x : Nat) : pc x ≤ 8 := by
  unfold pc
  repeat' split
  all_goals omega
theorem sh_sz {sz : Nat} (h : sz ≤ 8) : (1 : Int32) <<< (nI sz &&& 31) = nI (2 ^ sz) := by
  have : ∀ s, s ≤ 8 → (1 : Int32) <<< (nI s &&& 31) = nI (2 ^ s) := by decide
  exact this sz h
def lk (K : Int32 → Mm → Prop) (EK : Mm → Prop) (M : Mm) : List Nat → Prop
  | y :: _ => K (nI y) M
  | [] => EK M
theorem nextL {S : Ss} {sz nu : Nat} {M : Mm} {EK : Mm → Prop} {K : Int32 → Mm → Prop} (hsz : sz ≤ 8) (hnu : nu ≤ 8) :
    ∀ (r b : Nat), b + r = 2 ^ sz → lk K EK M (lst sz nu b) → f_X11_nextSet_L9 S (nI sz) (nI nu) EK K (r + 1) (nI b) M
  | 0, b, hb, h => by
    have h8 : 2 ^ sz ≤ 2 ^ 8 := Nat.pow_le_pow_right (by omega) hsz
    unfold f_X11_nextSet_L9 f_X11_nextSet_B9
    have e : b = 2 ^ sz := by omega
    subst e
    rw [lst_end] at h
    rw [sh_sz hsz]
    exact ⟨fun _ => h, fun z => absurd (nI_le (Nat.le_refl _) (by omega)) z⟩
  | r + 1, b, hb, h => by
    have h8 : 2 ^ sz ≤ 2 ^ 8 := Nat.pow_le_pow_right (by omega) hsz
    have hp := pc_le b
    unfold f_X11_nextSet_L9 f_X11_nextSet_B9
    rw [sh_sz hsz]
    refine ⟨fun z => absurd z (nI_ge (by omega) (by omega)), fun _ => bc_ok (by omega) ?_⟩
    rw [lst_cons (by omega)] at h
    rw [nI_eq (by omega) (by omega)]
    refine ⟨fun e => ?_, fun e => ?_⟩
    · rw [if_pos e] at h; exact h
    · rw [if_neg e] at h
      simp only [forall_eq, nI_1]
      exact nextL hsz hnu r (b + 1) (by omega) h
theorem next_ok {S : Ss} {sz x : Nat} {M : Mm} {K : Int32 → Mm → Prop} (hsz : sz ≤ 8) (hx : x < 2 ^ sz) (h : K (nxs sz x) M) : f_X11_nextSet S (nI x) (nI sz) M K := by
  have h8 : 2 ^ sz ≤ 2 ^ 8 := Nat.pow_le_pow_right (by omega) hsz
  have hp := pc_le x
  unfold f_X11_nextSet
  refine bc_ok (by omega) ?_
  simp only [forall_eq, nI_1]
  refine ⟨2 ^ sz - (x + 1) + 1, nextL hsz hp _ _ (by omega) ?_⟩
  unfold nxs at h
  unfold lk
  split
  · rename_i y r e
    rw [e] at h; exact h
  · rename_i e
    rw [e] at h
    rw [nI_eq (by omega) (by omega)]
    refine ⟨fun z => ?_, fun z => ?_⟩
    · simp only [z, if_true] at h; exact h
    · simp only [z, if_false] at h
      have e2 : ((1 : Int32) <<< (nI (pc x + 1) &&& 31)) - (1 : Int32) = nI (2 ^ (pc x + 1) - 1) := by
        have : ∀ s, s ≤ 9 → ((1 : Int32) <<< (nI s &&& 31)) - (1 : Int32) = nI (2 ^ s - 1) := by decide
        exact this _ (by omega)
      rw [e2]; exact h
/-- what comes of trying sets: too many, none left, or the first that keeps must whole -/
def oc (tm bk : Nat → Bool) : List Nat → Int32 × Option Nat
  | [] => (-2, none)
  | x :: r => if tm x = true then (-3, none) else if bk x = false then (nI (pc x), some x) else oc tm bk r
theorem one_ok {x : Int64} {M : Mm} {K : Mm → Prop} (hF : FX M) (hK : ∀ M', Fr dTd eTd M M' → M'.1 116 1 = 1 → M'.2.1 117 0 = x → K M') : f_X7_tellOne S0 116 x M K := by
  unfold f_X7_tellOne f_X7_tellNext
  simp only [forall_eq]
  have e0 : (stI M 116 1 0).1 116 1 = 0 := rI_eq
  have hin : vp_in (0 : Int32) 20 := by unfold vp_in; decide
  rw [e0]
  refine ⟨fun z => absurd z (by decide), fun _ => ?_⟩
  simp only [rIr, fx_116_0 hF, ex_some, s0_117, ex_sh, hin, true_and]
  have e1 : (stJ (stI M 116 1 0) 117 (0 : Int32).toNatClampNeg x).1 116 1 = 0 := e0
  rw [e1]
  refine hK _ (Fr_I rfl (Fr_J rfl (Fr_I rfl (Fr_refl _ _ _)))) rI_eq ?_
  show (stJ (stI M 116 1 0) 117 0 x).2.1 117 0 = x
  rw [stJ_get]
set_option maxRecDepth 100000 in
theorem and_full : ∀ sz, sz ≤ 8 → ∀ b, b < 2 ^ sz → nI b &&& (nI (2 ^ sz - 1) ^^^ (-1 : Int32)) = 0 := by decide +kernel
/-- the class tries sets: what it needs of each try -/
def TRY (wh n : Int32) (sz : Nat) (tm bk : Nat → Bool) (I : Mm → Prop) : Prop := ∀ (x : Nat) (M : Mm) (Q : Mm → Prop), x < 2 ^ sz → I M → (∀ m, FX m → (∀ KK : Int32 → Mm → Prop, (tm x = true → ∀ M', I M' → KK 0 M') → (tm x = false → ∀ M', I M' → (0 ≤ M'.1 10 14 ↔ bk x = true) → KK 1 M') → f_X9_explore S0 10 113 n 4000 0 0 m KK) → Q m) → f_X10_useSet S0 0 wh (nI x) M Q
def HKf (I : Mm → Prop) (sz : Nat) (oc0 : Int32 × Option Nat) (K : Int32 → Mm → Prop) : Prop := (∀ M', I M' → oc0.2 = none → K oc0.1 M') ∧ ∀ x M1 M', oc0.2 = some x → x < 2 ^ sz → I M1 → Fr dTd eTd M1 M' → M'.1 116 1 = 1 → M'.2.1 117 0 = lN x → K oc0.1 M'
theorem few38 {wh n : Int32} {sz nu : Nat} {tm bk : Nat → Bool} {I : Mm → Prop} {oc0 : Int32 × Option Nat} {R : List Nat} {EK : Mm → Prop} {K : Int32 → Mm → Prop} (hsz : sz ≤ 8) (hnu : nu ≤ 8) (hwh : ¬ wh = 2) (hIF : ∀ M, I M → FX M) (hT : TRY wh n sz tm bk I) (hE : ∀ M', I M' → oc tm bk R = oc0 → EK M') (hK : HKf I sz oc0 K) :
    ∀ (r b : Nat) (M : Mm), b + r = 2 ^ sz → I M → oc tm bk (lst sz nu b ++ R) = oc0 → f_X10_fewest_L38 S0 0 wh n (nI sz) (nI (2 ^ sz)) (nI (2 ^ sz - 1)) (nI nu) EK K (r + 1) (nI b) M
  | 0, b, M, hb, hI, ho => by
    have h8 : 2 ^ sz ≤ 2 ^ 8 := Nat.pow_le_pow_right (by omega) hsz
    unfold f_X10_fewest_L38 f_X10_fewest_B38
    have e : b = 2 ^ sz := by omega
    subst e
    rw [lst_end, List.nil_append] at ho
    exact ⟨fun _ => hE M hI ho, fun z => absurd (nI_le (Nat.le_refl _) (by omega)) z⟩
  | r + 1, b, M, hb, hI, ho => by
    have h8 : 2 ^ sz ≤ 2 ^ 8 := Nat.pow_le_pow_right (by omega) hsz
    have hp := pc_le b
    unfold f_X10_fewest_L38 f_X10_fewest_B38
    refine ⟨fun z => absurd z (nI_ge (by omega) (by omega)), fun _ => bc_ok (by omega) ?_⟩
    rw [lst_cons (by omega)] at ho
    rw [nI_eq (by omega) (by omega), and_full sz hsz b (by omega)]
    simp only [nI_1]
    refine ⟨fun e => ⟨fun _ => ?_, fun z => absurd trivial z⟩, fun e => ?_⟩
    · rw [if_pos e, List.cons_append] at ho
      unfold oc at ho
      refine hT b M _ (by omega) hI (fun m hFm hX => ⟨fun z => absurd z hwh, fun _ => ?_⟩)
      simp only [fx_0_1 hFm, fx_0_3 hFm, ex_some, s0_10, s0_113, true_and]
      refine hX _ (fun ht M' hI' => ?_) (fun ht M' hI' hbk => ?_)
      · unfold f_X10_fewest_J125
        refine ⟨fun _ => ?_, fun z => absurd rfl z⟩
        rw [if_pos ht] at ho
        have := hK.1 M' hI' (by rw [← ho])
        rw [← ho] at this
        exact this
      · unfold f_X10_fewest_J125
        have hF' := hIF M' hI'
        refine ⟨fun z => absurd z (by decide), fun _ => ?_⟩
        simp only [fx_0_1 hF', fx_0_6 hF', ex_some, s0_10, s0_116, true_and, forall_eq, nI_1]
        rw [if_neg (by rw [ht]; decide)] at ho
        refine ⟨fun z => ?_, fun z => ?_⟩
        · have hb1 := hbk.mp z
          rw [if_neg (by rw [hb1]; decide)] at ho
          exact few38 hsz hnu hwh hIF hT hE hK r (b + 1) M' (by omega) hI' ho
        · have hb0 : bk b = false := by
            rcases hq : bk b with _ | _
            · rfl
            · exact absurd (hbk.mpr hq) z
          rw [if_pos hb0] at ho
          refine one_ok hF' (fun M2 f2 g1 g2 => ?_)
          have := hK.2 b M' M2 (by rw [← ho]) (by omega) hI' f2 g1 (by rw [g2, nI_l (by omega)])
          rw [← ho] at this
          rw [← e]
          exact this
    · rw [if_neg e] at ho
      simp only [forall_eq]
      exact few38 hsz hnu hwh hIF hT hE hK r (b + 1) M (by omega) hI ho
theorem few29 {wh n : Int32} {sz : Nat} {tm bk : Nat → Bool} {I : Mm → Prop} {oc0 : Int32 × Option Nat} {EK : Mm → Prop} {K : Int32 → Mm → Prop} (hsz : sz ≤ 8) (hwh : ¬ wh = 2) (hIF : ∀ M, I M → FX M) (hT : TRY wh n sz tm bk I) (hE : ∀ M', I M' → oc0 = (-2, none) → EK M') (hK : HKf I sz oc0 K) :
    ∀ (r nu : Nat) (M : Mm), nu + r = sz + 1 → I M → oc tm bk (rst sz r nu) = oc0 → f_X10_fewest_L29 S0 0 wh n (nI sz) (nI (2 ^ sz)) (nI (2 ^ sz - 1)) EK K (r + 1) (nI nu) M
  | 0, nu, M, hn, hI, ho => by
    unfold f_X10_fewest_L29 f_X10_fewest_B29
    have e : nu = sz + 1 := by omega
    subst e
    exact ⟨fun _ => hE M hI ho.symm, fun z => absurd (nI_lt (by omega) (by omega)) z⟩
  | r + 1, nu, M, hn, hI, ho => by
    unfold f_X10_fewest_L29 f_X10_fewest_B29
    refine ⟨fun z => absurd z (nI_nlt (by omega) (by omega)), fun _ => ⟨2 ^ sz + 1, ?_⟩⟩
    refine few38 (R := rst sz r (nu + 1)) hsz (by omega) hwh hIF hT (fun M' hI' ho' => ?_) hK (2 ^ sz) 0 M (by omega) hI ho
    simp only [forall_eq, nI_1]
    exact few29 hsz hwh hIF hT hE hK r (nu + 1) M' (by omega) hI' ho'
theorem fewest_ok {wh n : Int32} {sz : Nat} {tm bk : Nat → Bool} {I : Mm → Prop} {M : Mm} {K : Int32 → Mm → Prop} (hsz : sz ≤ 8) (hwh : ¬ wh = 2) (hIF : ∀ M, I M → FX M) (hI : I M) (hT : TRY wh n sz tm bk I) (hK : HKf I sz (oc tm bk (ord sz)) K) : f_X10_fewest S0 0 wh n (nI sz) M K := by
  unfold f_X10_fewest
  have h8 : 2 ^ sz ≤ 2 ^ 8 := Nat.pow_le_pow_right (by omega) hsz
  have hp : 0 < 2 ^ sz := Nat.two_pow_pos sz
  simp only [forall_eq]
  rw [sh_sz hsz]
  refine ⟨fun z => absurd z hwh, fun _ => ?_⟩
  have e : nI (2 ^ sz) - 1 = nI (2 ^ sz - 1) := by
    have := nI_pred (2 ^ sz - 1)
    rw [show 2 ^ sz - 1 + 1 = 2 ^ sz by omega] at this
    exact this
  rw [e]
  refine ⟨sz + 1 + 1, few29 hsz hwh hIF hT (fun M' hI' ho => ?_) hK (sz + 1) 0 M (by omega) hI rfl⟩
  have := hK.1 M' hI' (by rw [ho])
  rw [ho] at this
  exact this
