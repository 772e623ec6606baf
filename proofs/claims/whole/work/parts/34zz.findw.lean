/-! find, add once more: what becomes of the ways -/
theorem add_okW {L : List En} {A B mo c d fs fm dp : Nat} {sp : Nat → Nat} {st : Int32} {M : Mm} {K : Int32 → Mm → Prop} (hF : FX M) (hw : wyR M) (hmo : M.1 10 11 = nI mo) (hmo2 : mo ≤ 4000) (hA : A < 2 ^ 64) (hB : B < 2 ^ 40) (e0 : M.2.1 104 0 = lN A) (e1 : M.2.1 104 1 = lN B) (hst : st = frm L.length (A, B, fs, fm, dp)) (hW : WK M L) (H : HTp 8192 0 L.length (hL L) sp) (hsp : ∀ s, s < L.length → M.1 108 s = nI (sp s) ∧ M.1 109 (sp s) = nI (s + 1)) (hz : ∀ k, k < 8192 → (∀ s, s < L.length → sp s ≠ k) → M.1 109 k = 0) (hd : d < 8192) (ec : c = (hC A B + d) % 8192) (hfree : ∀ s, s < L.length → sp s ≠ c) (hocc : ∀ j, j < d → ∃ s', s' < L.length ∧ sp s' = (hC A B + j) % 8192)
    (hK1 : L.length < mo → ∀ M', Fr dF eF M M' → WK M' (L ++ [(A, B, fs, fm, dp)]) → (∀ X, M.2.2 10 8 = some X → (∀ b, b = 111 ∨ b = 112 → ∀ j, ¬ (b = X ∧ j = L.length) → M'.2.1 b j = M.2.1 b j) ∧ M'.2.1 X L.length = 0) → K (nI L.length) M') (hK2 : mo ≤ L.length → K (-1) M) : f_X9_add S0 10 (nI c) st M K := by
  obtain ⟨w1, w2, w3, -⟩ := hW
  have hc : c < 8192 := by rw [ec]; exact Nat.mod_lt _ (by omega)
  unfold f_X9_add
  rw [w1, hmo]
  refine ⟨fun z => ?_, fun z => hK2 (by rw [nI_ltI (by omega) (by omega)] at z; omega)⟩
  have z : L.length < mo := (nI_ltI (by omega) (by omega)).mp z
  have hin : vp_in (nI L.length) 4000 := vp_in_nI (by omega) (by omega)
  have hcl : (nI L.length).toNatClampNeg = L.length := nI_clamp (by omega)
  have hin2 : vp_in (nI c) 8192 := vp_in_nI hc (by omega)
  have hcl2 : (nI c).toNatClampNeg = c := nI_clamp (by omega)
  simp only [rIr, rJr, fx_10_1 hF, fx_10_2 hF, fx_10_3 hF, fx_10_4 hF, fx_10_5 hF, fx_10_6 hF, ex_some, s0_104, s0_105, s0_106, s0_107, s0_108, s0_109, ex_sh, hin, hcl, hin2, hcl2, true_and, forall_eq]
  have g1 : ∀ X : Mm, X.1 = M.1 → X.1 10 10 = nI L.length := fun X e => by rw [e]; exact w1
  have go : ∀ wy, wy = 111 ∨ wy = 112 → M.2.2 10 8 = some wy → K (nI L.length) (stI (stI (stJ (stI (stI (stJ (stJ M 105 L.length (lN A)) 106 L.length (lN B)) 107 L.length st) 108 L.length (nI c)) wy L.length 0) 10 10 (nI (L.length + 1))) 109 c (nI (L.length + 1))) := by
    intro wy hwy hwx
    refine hK1 z _ ?_ ?_ ?_
    · refine Fr_I rfl (Fr_I rfl (Fr_J ?_ (Fr_I rfl (Fr_I rfl (Fr_J rfl (Fr_J rfl (Fr_refl _ _ _)))))))
      rcases hwy with rfl | rfl <;> rfl
    · have hlen : (L ++ [(A, B, fs, fm, dp)]).length = L.length + 1 := by simp
      have J : ∀ b j, b = 105 ∨ b = 106 → (stI (stI (stJ (stI (stI (stJ (stJ M 105 L.length (lN A)) 106 L.length (lN B)) 107 L.length st) 108 L.length (nI c)) wy L.length 0) 10 10 (nI (L.length + 1))) 109 c (nI (L.length + 1))).2.1 b j = (stJ (stJ M 105 L.length (lN A)) 106 L.length (lN B)).2.1 b j := by
        intro b j hb
        show (stJ (stI (stI (stJ (stJ M 105 L.length (lN A)) 106 L.length (lN B)) 107 L.length st) 108 L.length (nI c)) wy L.length 0).2.1 b j = _
        rw [rJ, if_neg (by omega)]
        rfl
      refine ⟨?_, by rw [hlen]; omega, fun s hs => ?_, fun s => if s = L.length then c else sp s, ?_, fun s hs => ?_, fun k hk hk2 => ?_⟩
      · rw [hlen, rI_ne (by omega), rI_eq]
      · rw [hlen] at hs
        rw [J 105 s (by omega), J 106 s (by omega), rJ, rJ, rJ, rJ]
        by_cases es : s = L.length
        · subst es
          rw [gt_eq, if_neg (by omega), if_pos ⟨rfl, rfl⟩, if_pos ⟨rfl, rfl⟩]
          refine ⟨rfl, rfl, hA, hB, ?_⟩
          rw [rI_ne (by omega), rI_ne (by omega)]
          show (stI (stI (stJ (stJ M 105 L.length (lN A)) 106 L.length (lN B)) 107 L.length st) 108 L.length (nI c)).1 107 L.length = _
          rw [rI_ne (by omega), rI_eq]; exact hst
        · rw [gt_lt (by omega), if_neg (by omega), if_neg (by omega), if_neg (by omega), if_neg (by omega)]
          obtain ⟨y1, y2, y3, y4, y5⟩ := w3 s (by omega)
          refine ⟨y1, y2, y3, y4, ?_⟩
          rw [rI_ne (by omega), rI_ne (by omega)]
          show (stI (stI (stJ (stJ M 105 L.length (lN A)) 106 L.length (lN B)) 107 L.length st) 108 L.length (nI c)).1 107 s = _
          rw [rI_ne (by omega), rI_ne (by omega)]
          exact y5
      · rw [hlen]
        refine ht_add H (by omega) hc hd ec (fun s _ b => hfree s b) (fun j hj => ?_) (fun s hs => ?_) ?_
        · obtain ⟨s', x1, x2⟩ := hocc j hj
          exact ⟨s', by omega, x1, x2⟩
        · unfold hL; rw [gt_lt hs]
        · unfold hL; rw [gt_eq]
      · rw [hlen] at hs
        show _ = nI (if s = L.length then c else sp s) ∧ _
        by_cases es : s = L.length
        · rw [if_pos es]
          subst es
          refine ⟨?_, ?_⟩
          · rw [rI_ne (by omega), rI_ne (by omega)]
            show (stI _ 108 L.length (nI c)).1 108 L.length = _
            rw [rI_eq]
          · show (stI _ 109 c (nI (L.length + 1))).1 109 (if L.length = L.length then c else sp L.length) = _
            rw [if_pos rfl, rI_eq]
        · rw [if_neg es]
          obtain ⟨y1, y2⟩ := hsp s (by omega)
          refine ⟨?_, ?_⟩
          · rw [rI_ne (by omega), rI_ne (by omega)]
            show (stI (stI (stJ (stJ M 105 L.length (lN A)) 106 L.length (lN B)) 107 L.length st) 108 L.length (nI c)).1 108 s = _
            rw [rI_ne (by omega), rI_ne (by omega)]; exact y1
          · show (stI _ 109 c (nI (L.length + 1))).1 109 (if s = L.length then c else sp s) = _
            have := hfree s (by omega)
            rw [if_neg es, rI_ne (by omega), rI_ne (by omega)]
            show (stI (stI (stJ (stJ M 105 L.length (lN A)) 106 L.length (lN B)) 107 L.length st) 108 L.length (nI c)).1 109 (sp s) = _
            rw [rI_ne (by omega), rI_ne (by omega)]; exact y2
      · have a1 : k ≠ c := by
          have := hk2 L.length (by rw [hlen]; omega)
          have : (if L.length = L.length then c else sp L.length) ≠ k := this
          rw [if_pos rfl] at this
          omega
        rw [rI_ne (by omega), rI_ne (by omega)]
        show (stI (stI (stJ (stJ M 105 L.length (lN A)) 106 L.length (lN B)) 107 L.length st) 108 L.length (nI c)).1 109 k = _
        rw [rI_ne (by omega), rI_ne (by omega)]
        refine hz k hk (fun s hs => ?_)
        have := hk2 s (by rw [hlen]; omega)
        have : (if s = L.length then c else sp s) ≠ k := this
        rw [if_neg (by omega)] at this
        exact this
    · intro X hX
      rw [hwx] at hX
      simp only [Option.some.injEq] at hX
      subst hX
      refine ⟨fun b hb j hj => ?_, ?_⟩
      · show (stJ (stI (stI (stJ (stJ M 105 L.length (lN A)) 106 L.length (lN B)) 107 L.length st) 108 L.length (nI c)) wy L.length 0).2.1 b j = _
        rw [rJ, if_neg hj]
        show (stJ (stJ M 105 L.length (lN A)) 106 L.length (lN B)).2.1 b j = _
        rw [rJ, if_neg (by omega), rJ, if_neg (by omega)]
      · show (stJ (stI (stI (stJ (stJ M 105 L.length (lN A)) 106 L.length (lN B)) 107 L.length st) 108 L.length (nI c)) wy L.length 0).2.1 wy L.length = _
        rw [stJ_get]
  have r0 : ∀ {X : Mm}, X.1 = M.1 → X.1 10 10 = nI L.length := fun {X} e => by rw [e]; exact w1
  rw [e0]
  have t1 : (stJ M 105 L.length (lN A)).1 10 10 = nI L.length := w1
  have t2 : (stJ M 105 L.length (lN A)).2.1 104 1 = lN B := by rw [rJ, if_neg (by omega)]; exact e1
  have t3 : ∀ x, (stJ (stJ M 105 L.length (lN A)) 106 L.length x).1 10 10 = nI L.length := fun x => w1
  have t4 : ∀ x, (stI (stJ (stJ M 105 L.length (lN A)) 106 L.length x) 107 L.length st).1 10 10 = nI L.length := fun x => by rw [rI_ne (by omega)]; exact w1
  have t5 : ∀ x, (stI (stI (stJ (stJ M 105 L.length (lN A)) 106 L.length x) 107 L.length st) 108 L.length (nI c)).1 10 10 = nI L.length := fun x => by rw [rI_ne (by omega), rI_ne (by omega)]; exact w1
  have t6 : ∀ x wy, (stJ (stI (stI (stJ (stJ M 105 L.length (lN A)) 106 L.length x) 107 L.length st) 108 L.length (nI c)) wy L.length 0).1 10 10 = nI L.length := fun x wy => t5 x
  simp only [t1, t2, t3, t4, t5, t6, hcl, hin, true_and, nI_1, rI_eq]
  have t7 : ∀ Y : Mm, (stI (stI Y 10 10 (nI (L.length + 1))) 109 c (nI (L.length + 1))).1 10 10 - 1 = nI L.length := fun Y => by rw [rI_ne (by omega), rI_eq, m1c]
  rcases hw with hw | hw
  · simp only [hw, ex_some, s0_111, ex_sh, hin, true_and, t7]
    exact go 111 (Or.inl rfl) hw
  · simp only [hw, ex_some, s0_112, ex_sh, hin, true_and, t7]
    exact go 112 (Or.inr rfl) hw
theorem find_LW {L : List En} {A B mo lo fs fm dp : Nat} {sp : Nat → Nat} {st : Int32} {M : Mm} {EK : Mm → Prop} {K : Int32 → Mm → Prop} (hF : FX M) (hw : wyR M) (hmo : M.1 10 11 = nI mo) (hmo2 : mo ≤ 4000) (hA : A < 2 ^ 64) (hB : B < 2 ^ 40) (e0 : M.2.1 104 0 = lN A) (e1 : M.2.1 104 1 = lN B) (hlo : lo ≤ L.length) (hst : st = frm L.length (A, B, fs, fm, dp)) (hW : WK M L) (H : HTp 8192 0 L.length (hL L) sp) (hsp : ∀ s, s < L.length → M.1 108 s = nI (sp s) ∧ M.1 109 (sp s) = nI (s + 1)) (hz : ∀ k, k < 8192 → (∀ s, s < L.length → sp s ≠ k) → M.1 109 k = 0)
    (hK0 : ∀ s, lo ≤ s → s < L.length → isE L A B s → K (nI s) M) (hK1 : (∀ s, lo ≤ s → s < L.length → ¬ isE L A B s) → L.length < mo → ∀ M', Fr dF eF M M' → WK M' (L ++ [(A, B, fs, fm, dp)]) → (∀ X, M.2.2 10 8 = some X → (∀ b, b = 111 ∨ b = 112 → ∀ j, ¬ (b = X ∧ j = L.length) → M'.2.1 b j = M.2.1 b j) ∧ M'.2.1 X L.length = 0) → K (nI L.length) M') (hK2 : (∀ s, lo ≤ s → s < L.length → ¬ isE L A B s) → mo ≤ L.length → K (-1) M) :
    ∀ (n i : Nat), i + n = 8192 → (∀ j, j < i → ∃ s, s < L.length ∧ sp s = (hC A B + j) % 8192 ∧ ¬ (lo ≤ s ∧ isE L A B s)) → f_X9_find_L43 S0 10 (nI lo) st EK K (n + 1) (nI ((hC A B + i) % 8192)) (nI i) M
  | 0, i, hi, hb => by
    exfalso
    have hle := hW.2.1
    obtain ⟨i', h1, h2⟩ := ht_free (by omega) H (by omega) (hC A B)
    obtain ⟨s, h3, h4, h5⟩ := hb i' (by omega)
    exact h2 s (by omega) h3 h4
  | n + 1, i, hi, hb => by
    have hle := hW.2.1
    have hc : (hC A B + i) % 8192 < 8192 := Nat.mod_lt _ (by omega)
    generalize hcd : (hC A B + i) % 8192 = c at hc
    have hin : vp_in (nI c) 8192 := vp_in_nI hc (by omega)
    have hcl : (nI c).toNatClampNeg = c := nI_clamp (by omega)
    have nx : nI (c + 1) &&& (8191 : Int32) = nI ((hC A B + (i + 1)) % 8192) := by
      rw [a8191 (by omega), ← hcd]
      congr 1; omega
    unfold f_X9_find_L43 f_X9_find_B43
    refine ⟨fun z => absurd z (show ¬ nI 8192 ≤ nI i from nI_ge (by omega) (by decide)), fun _ => ?_⟩
    simp only [fx_10_6 hF, ex_some, shp_ne (show (109 : Nat) ≠ 100000 by decide), s0_109, ex_sh, hin, hcl, true_and, forall_eq]
    by_cases hfree : ∀ s, s < L.length → sp s ≠ c
    · have hv := hz c hc hfree
      rw [hv]
      refine ⟨fun z => absurd z (by decide), fun _ => ?_⟩
      have none : ∀ s, lo ≤ s → s < L.length → ¬ isE L A B s := by
        have := ht_none (mt := fun s => lo ≤ s ∧ isE L A B s) H (i := i) (q := hC A B) (by omega) (fun s _ b w => by unfold hL; rw [w.2.1, w.2.2]) (fun j hj s _ b e w => ?_) (fun s _ b => by rw [hcd]; exact hfree s b)
        · exact fun s a b w => this s (by omega) b ⟨a, w⟩
        · obtain ⟨s', y1, y2, y3⟩ := hb j hj
          have : s = s' := H.2.1 s s' (by omega) b (by omega) y1 (by rw [e, y2])
          subst this
          exact y3 w
      refine add_okW hF hw hmo hmo2 hA hB e0 e1 hst hW H hsp hz (d := i) (by omega) hcd.symm hfree (fun j hj => ?_) (hK1 none) (hK2 none)
      obtain ⟨s', y1, y2, y3⟩ := hb j hj
      exact ⟨s', y1, y2⟩
    · have : ∃ s, s < L.length ∧ sp s = c := by
        apply Classical.byContradiction
        intro w
        exact hfree (fun s hs e => w ⟨s, hs, e⟩)
      obtain ⟨s, hs, es⟩ := this
      have hv := (hsp s hs).2
      rw [es] at hv
      rw [hv, m1c]
      have hins : vp_in (nI s) 4000 := vp_in_nI (by omega) (by omega)
      have hcls : (nI s).toNatClampNeg = s := nI_clamp (by omega)
      obtain ⟨y1, y2, y3, y4, y5⟩ := hW.2.2.1 s hs
      refine ⟨fun _ => ?_, fun z => absurd (show nI 0 ≤ nI s from nI_le (by omega) (by omega)) z⟩
      simp only [fx_10_1 hF, fx_10_2 hF, fx_10_3 hF, ex_some, s0_104, s0_105, s0_106, ex_sh, hins, hcls, true_and, y1, y2, e0, e1]
      rw [lN_eq64 y3 hA, lN_eq64 (by omega) (by omega), nI_ltI (by omega) (by omega)]
      unfold f_X9_find_J120
      simp only [forall_eq, nI_1, nx]
      have go : ¬ (lo ≤ s ∧ isE L A B s) → f_X9_find_L43 S0 10 (nI lo) st EK K (n + 1) (nI ((hC A B + (i + 1)) % 8192)) (nI (i + 1)) M := by
        intro hne
        refine find_LW hF hw hmo hmo2 hA hB e0 e1 hlo hst hW H hsp hz hK0 hK1 hK2 n (i + 1) (by omega) (fun j hj => ?_)
        by_cases ej : j = i
        · rw [ej]; exact ⟨s, hs, by rw [es, hcd], hne⟩
        · exact hb j (by omega)
      exact ⟨fun w => go (fun q => by omega), fun w => ⟨fun w1 => ⟨fun w2 => hK0 s (by omega) hs ⟨w1, w2⟩, fun w2 => go (fun q => w2 q.2.2)⟩, fun w1 => go (fun q => w1 q.2.1)⟩⟩
theorem find_okW {L : List En} {A B mo lo fs fm dp : Nat} {st : Int32} {M : Mm} {K : Int32 → Mm → Prop} (hF : FX M) (hw : wyR M) (hmo : M.1 10 11 = nI mo) (hmo2 : mo ≤ 4000) (hA : A < 2 ^ 64) (hB : B < 2 ^ 40) (e0 : M.2.1 104 0 = lN A) (e1 : M.2.1 104 1 = lN B) (hlo : lo ≤ L.length) (hst : st = frm L.length (A, B, fs, fm, dp)) (hW : WK M L)
    (hK0 : ∀ s, lo ≤ s → s < L.length → isE L A B s → K (nI s) M) (hK1 : (∀ s, lo ≤ s → s < L.length → ¬ isE L A B s) → L.length < mo → ∀ M', Fr dF eF M M' → WK M' (L ++ [(A, B, fs, fm, dp)]) → (∀ X, M.2.2 10 8 = some X → (∀ b, b = 111 ∨ b = 112 → ∀ j, ¬ (b = X ∧ j = L.length) → M'.2.1 b j = M.2.1 b j) ∧ M'.2.1 X L.length = 0) → K (nI L.length) M') (hK2 : (∀ s, lo ≤ s → s < L.length → ¬ isE L A B s) → mo ≤ L.length → K (-1) M) : f_X9_find S0 10 (nI lo) st M K := by
  unfold f_X9_find
  refine ⟨104, fx_10_1 hF, s0_104, 104, fx_10_1 hF, s0_104, fun v5 h5 v6 h6 => ?_⟩
  have h1 := hC_eq A B
  have hv : v6 = nI (hC A B) := by
    rw [← h1.2, h6, h5, e0, e1]
    unfold hCx
    rfl
  obtain ⟨sp, H, hsp, hz⟩ := hW.2.2.2
  obtain ⟨n, hn⟩ : ∃ n : Nat, n = 8192 := ⟨_, rfl⟩
  refine ⟨n + 1, ?_⟩
  have := find_LW (EK := fun m27 => K (-1 : Int32) m27) (K := K) hF hw hmo hmo2 hA hB e0 e1 hlo hst hW H hsp hz hK0 hK1 hK2 n 0 (by omega) (fun j hj => by omega)
  have h2 : (hC A B + 0) % 8192 = hC A B := by rw [Nat.add_zero]; exact Nat.mod_eq_of_lt h1.1
  rw [h2, ← hv, show nI 0 = (0 : Int32) from rfl] at this
  exact this
