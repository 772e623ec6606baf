/-! a line read: the model -/
def dLm (r : Nat) : Nat → Nat → Bool := fun b j => (b == 142 && (j == 5 || j == 7 || j == 13)) || ((b == 145 || b == 146 || b == 148) && j == r) || (b == 147 && (64 * r ≤ j && j < 64 * r + 64 : Bool))
theorem dMx_lm {r : Nat} {M M' : Mm} (h : Fr (dMx r) eN M M') : Fr (dLm r) eN M M' :=
  Fr_mono (fun b j hd => by unfold dLm at hd; unfold dMx; simp only [Bool.or_eq_false_iff, Bool.and_eq_false_iff, beq_eq_false_iff_ne, decide_eq_false_iff_not] at *; omega) (fun b hd => hd) h
theorem fLm_I {r b j : Nat} {M M' : Mm} {v : Int32} (hb : (b = 142 ∧ (j = 5 ∨ j = 13)) ∨ ((b = 145 ∨ b = 146 ∨ b = 148) ∧ j = r)) (f : Fr (dLm r) eN M M') : Fr (dLm r) eN M (stI M' b j v) := Fr_I (by
  unfold dLm
  simp only [Bool.or_eq_true, Bool.and_eq_true, beq_iff_eq, decide_eq_true_eq]
  omega) f
theorem inL_eq : ∀ x, x < 256 → inI (nI x).toInt64 97 104 = if 97 ≤ x ∧ x ≤ 104 then 1 else 0 := by decide +kernel
theorem inP_eq : ∀ x, x < 256 → inI (nI x).toInt64 48 51 = if 48 ≤ x ∧ x ≤ 51 then 1 else 0 := by decide +kernel
theorem s97 : ∀ x, x < 256 → 97 ≤ x → nI x - (97 : Int32) = nI (x - 97) := by decide +kernel
theorem s48 : ∀ x, x < 256 → 48 ≤ x → nI x - (48 : Int32) = nI (x - 48) := by decide +kernel
/-- the model within a line: at p, its head as said, e marked -/
def LMx (c : Nat → Nat) (len r : Nat) (M : Mm) (p : Nat) : Prop := BMr c len false r M ∧ MSx r M p 0 []
theorem LM_st {c : Nat → Nat} {len r p a : Nat} {v : Int32} {M : Mm} (ha : a = 145 ∨ a = 146) (h : LMx c len r M p) : LMx c len r (stI M a r v) p := by
  obtain ⟨⟨b1, b2, b3, b4, b5, b6, b7⟩, c1, c2, c3, c4⟩ := h
  exact ⟨⟨fx_I b1, by rw [rI_ne (by omega)]; exact b2, b3, fun j hj => by rw [rI_ne (by omega)]; exact b4 j hj, by rw [rI_ne (by omega)]; exact b5, by rw [rI_ne (by omega)]; exact b6, b7⟩, by rw [rI_ne (by omega)]; exact c1, by rw [rI_ne (by omega)]; exact c2, by rw [rI_ne (by omega)]; exact c3, fun j hj => absurd hj (by simp)⟩
theorem LM_fr {c : Nat → Nat} {len r p q : Nat} {M M' : Mm} (f : Fr (dMx r) eN M M') (h : LMx c len r M p) (h' : MSx r M' q 0 []) : LMx c len r M' q := ⟨BMr_fr f h.1, h'⟩
theorem LM_pos {c : Nat → Nat} {len r p q : Nat} {M : Mm} (h : LMx c len r M p) : LMx c len r (stI M 142 5 (nI q)) q := ⟨BMr_fr (fMx_pos (Fr_refl _ _ _)) h.1, MS_pos h.2⟩
theorem lineM_ok {c : Nat → Nat} {len r p N q kd nu : Nat} {b : Bool} {e : List Nat} {M : Mm} {K : Int32 → Mm → Prop} (hL : LX c len N p b q kd nu e) (hr : r < 90) (hF : FX M) (h6 : M.1 142 6 = nI len) (hlen : len ≤ 60) (htx : ∀ j, j < len → M.1 144 j = nI (c j) ∧ c j < 256) (h8 : M.1 142 8 = 0) (h5 : M.1 142 5 = nI p) (h7 : M.1 142 7 = nI 0) (hp : p ≤ len)
    (hbad : b = false → ∀ M', Fr (dLm r) eN M M' → M'.1 142 5 = nI q → K 0 M') (hok : b = true → ∀ M', Fr (dLm r) eN M M' → M'.1 142 5 = nI q → M'.1 142 7 = nI 0 → M'.1 145 r = nI (kmk kd) → M'.1 146 r = nI nu → RwM M' r e → K 1 M') : f_X11_line S0 142 (nI r) M K := by
  have hin : vp_in (nI r) 90 := vp_in_nI hr (by omega)
  have hcl : (nI r).toNatClampNeg = r := nI_clamp (by omega)
  unfold f_X11_line
  intro m1 em1
  subst em1
  have e13 : (stI M 142 13 (nI r)).1 142 13 = nI r := rI_eq
  have e13' : ∀ v, (stI (stI M 142 13 (nI r)) 148 r v).1 142 13 = nI r := fun v => by rw [rI_ne (by omega)]; exact e13
  simp only [rIr, fx_142_12 hF, fx_142_10 hF, ex_some, s0_148, s0_146, ex_sh, e13, e13', hin, hcl, true_and, forall_eq]
  have f1 : Fr (dLm r) eN M (stI (stI (stI M 142 13 (nI r)) 148 r 0) 146 r 0) := fLm_I (by omega) (fLm_I (by omega) (fLm_I (by omega) (Fr_refl _ _ _)))
  have o1 : ∀ a j, ¬ (a = 142 ∧ j = 13) → ¬ (a = 148 ∧ j = r) → ¬ (a = 146 ∧ j = r) → (stI (stI (stI M 142 13 (nI r)) 148 r 0) 146 r 0).1 a j = M.1 a j := fun a j x1 x2 x3 => by rw [rI_ne (by omega), rI_ne (by omega), rI_ne (by omega)]
  have i13 : (stI (stI (stI M 142 13 (nI r)) 148 r 0) 146 r 0).1 142 13 = nI r := by rw [rI_ne (by omega)]; exact e13' 0
  have i148 : (stI (stI (stI M 142 13 (nI r)) 148 r 0) 146 r 0).1 148 r = nI 0 := by rw [rI_ne (by omega), rI_eq]; rfl
  have i146 : (stI (stI (stI M 142 13 (nI r)) 148 r 0) 146 r 0).1 146 r = nI 0 := rI_eq
  generalize stI (stI (stI M 142 13 (nI r)) 148 r 0) 146 r 0 = M1 at *
  have hF1 := FX_fr f1 hF
  have L1 : LMx c len r M1 p := ⟨⟨hF1, by rw [o1 142 6 (by omega) (by omega) (by omega)]; exact h6, hlen, fun j hj => by rw [o1 144 j (by omega) (by omega) (by omega)]; exact htx j hj, by rw [o1 142 8 (by omega) (by omega) (by omega)]; exact h8, i13, hr⟩, by rw [o1 142 5 (by omega) (by omega) (by omega)]; exact h5, by rw [o1 142 7 (by omega) (by omega) (by omega)]; exact h7, i148, fun j hj => absurd hj (by simp)⟩
  rw [L1.2.1, L1.1.2.1, nI_ltI (by omega) (by omega)]
  -- what comes behind a head
  have kexp : ∀ p' M2 (K' : Int32 → Mm → Prop), (∀ m, K 0 m → K' 0 m) → (∀ m, K 1 m → K' 1 m) → RX c len false N 0 p' 0 [] b q e → p' ≤ len → Fr (dLm r) eN M M2 → LMx c len r M2 p' → M2.1 145 r = nI (kmk kd) → M2.1 146 r = nI nu → f_X11_some_top S0 142 M2 K' := by
    intro p' M2 K' k0 k1 hR g1 f2 L2 x1 x2
    refine some_ok hR L2.1 L2.2 (by simp) g1 (fun hb M3 f3 c3 => k0 _ (hbad hb M3 (Fr_tr f2 (dMx_lm f3)) c3)) (fun hb M3 f3 c3 => k1 _ ?_)
    refine hok hb M3 (Fr_tr f2 (dMx_lm f3)) c3.1 c3.2.1 ?_ ?_ ?_
    · rw [f3.1 145 r (by unfold dMx; simp)]; exact x1
    · rw [f3.1 146 r (by unfold dMx; simp)]; exact x2
    · have := c3.2.2; rw [List.nil_append] at this; exact this
  refine ⟨fun hpl => ?_, fun hpl => ?_⟩
  · have hcp := (htx p hpl).2
    have eg : gcx c len p = c p := by unfold gcx; rw [if_pos hpl]
    have hinp : vp_in (nI p) 100 := vp_in_nI (by omega) (by omega)
    have hclp : (nI p).toNatClampNeg = p := nI_clamp (by omega)
    have g1 := (L1.1.2.2.2.1 p hpl).1
    simp only [fx_142_3 hF, fx_142_9 hF, fx_142_3 hF1, fx_142_9 hF1, ex_some, shp_ne (show (144 : Nat) ≠ 100000 by decide), s0_144, s0_145, ex_sh, hinp, hclp, true_and, forall_eq, g1, i13, hin, hcl]
    have f2 : Fr (dLm r) eN M (stI M1 145 r (nI (c p))) := fLm_I (by omega) f1
    have L2 := LM_st (a := 145) (v := nI (c p)) (Or.inl rfl) L1
    have i145 : (stI M1 145 r (nI (c p))).1 145 r = nI (c p) := rI_eq
    have i146' : (stI M1 145 r (nI (c p))).1 146 r = nI 0 := by rw [rI_ne (by omega)]; exact i146
    have i13' : (stI M1 145 r (nI (c p))).1 142 13 = nI r := L2.1.2.2.2.2.2.1
    generalize stI M1 145 r (nI (c p)) = M2 at *
    have hF2 := L2.1.1
    refine in_gen ?_
    rw [inL_eq _ hcp]
    have e63 : (nI (c p) = (63 : Int32)) ↔ gcx c len p = 63 := by rw [eg, show (63 : Int32) = nI 63 from rfl]; exact nI_eq (by omega) (by omega)
    have e120 : (nI (c p) = (120 : Int32)) ↔ gcx c len p = 120 := by rw [eg, show (120 : Int32) = nI 120 from rfl]; exact nI_eq (by omega) (by omega)
    have e109 : (nI (c p) = (109 : Int32)) ↔ gcx c len p = 109 := by rw [eg, show (109 : Int32) = nI 109 from rfl]; exact nI_eq (by omega) (by omega)
    have e106 : (nI (c p) = (106 : Int32)) ↔ gcx c len p = 106 := by rw [eg, show (106 : Int32) = nI 106 from rfl]; exact nI_eq (by omega) (by omega)
    have e115 : (nI (c p) = (115 : Int32)) ↔ gcx c len p = 115 := by rw [eg, show (115 : Int32) = nI 115 from rfl]; exact nI_eq (by omega) (by omega)
    have f3 : Fr (dLm r) eN M (stI M2 142 5 (nI (p + 1))) := fLm_I (by omega) f2
    have L3 := LM_pos (q := p + 1) L2
    have j145 : (stI M2 142 5 (nI (p + 1))).1 145 r = nI (c p) := by rw [rI_ne (by omega)]; exact i145
    have j146 : (stI M2 142 5 (nI (p + 1))).1 146 r = nI 0 := by rw [rI_ne (by omega)]; exact i146'
    have comm5 : M2.1 142 5 + (1 : Int32) = nI (p + 1) := by rw [L2.2.1, nI_1]
    have mm : ∀ (m : Mm), (((1 : Int32) = 0 → K 0 m) ∧ (¬ (1 : Int32) = 0 → K 1 m)) ↔ K 1 m := fun m => ⟨fun h => h.2 (by decide), fun h => ⟨fun z => absurd z (by decide), fun _ => h⟩⟩
    have k13 : ∀ a v, (a = 145 ∨ a = 146) → (stI M2 a r v).1 142 13 = nI r := fun a v ha => by rw [rI_ne (by omega)]; exact i13'
    -- numbered heads
    have j300 : ∀ p' M4, p' ≤ len → Fr (dLm r) eN M M4 → LMx c len r M4 p' → M4.1 145 r = nI (c p) → (gcx c len p = 115 → K 1 M4) → (gcx c len p ≠ 115 → gcx c len p' ≠ 58 → ∀ M5, Fr (dLm r) eN M M5 → M5.1 142 5 = nI p' → K 0 M5) → (gcx c len p ≠ 115 → gcx c len p' = 58 → RX c len false N 0 (p' + 1) 0 [] b q e ∧ c p = kmk kd ∧ M4.1 146 r = nI nu) → f_X11_line_J300 S0 142 (nI (c p)) M4 K := by
      intro p' M4 g4 f4 L4 x1 k115 kno kyes
      unfold f_X11_line_J300
      rw [e115]
      refine ⟨k115, fun n115 => ?_⟩
      refine comes_x (x := 58) L4.1 L4.2 g4 (by omega) (fun g58 M5 f5 c5 => ⟨fun z => absurd z (by decide), fun _ => ?_⟩) (fun n58 M5 f5 c5 => ⟨fun _ => kno n115 n58 M5 (Fr_tr f4 (dMx_lm f5)) c5.1, fun z => absurd rfl z⟩)
      obtain ⟨hR, y1, y2⟩ := kyes n115 g58
      have hpl' : p' < len := gcx_lt (c := c) (by omega)
      exact kexp (p' + 1) M5 _ (fun m h => ⟨fun _ => h, fun z => absurd rfl z⟩) (fun m h => ⟨fun z => absurd z (by decide), fun _ => h⟩) hR (by omega) (Fr_tr f4 (dMx_lm f5)) (LM_fr f5 L4 c5) (by rw [f5.1 145 r (by unfold dMx; simp), ← y1]; exact x1) (by rw [f5.1 146 r (by unfold dMx; simp)]; exact y2)
    have j187 : (gcx c len p = 109 ∨ gcx c len p = 106 ∨ gcx c len p = 115) → f_X11_line_J187 S0 142 (nI (c p)) M2 K := by
      intro hg
      unfold f_X11_line_J187
      rw [comm5]
      intro m21 em21
      subst em21
      have hF3 := L3.1.1
      have l13 : (stI M2 142 5 (nI (p + 1))).1 142 13 = nI r := L3.1.2.2.2.2.2.1
      generalize stI M2 142 5 (nI (p + 1)) = M3 at *
      rw [e109, L3.2.1, L3.1.2.1, nI_leI (by omega) (by omega)]
      refine ⟨fun g109 => ?_, fun n109 => ?_⟩
      · unfold LX at hL
        rcases hL with ⟨a1, a2, _⟩ | ⟨a1, _⟩ | ⟨a1, _⟩ | ⟨_, hL⟩ | ⟨a1, _⟩ | ⟨a1, _⟩ | ⟨_, _, _, a1, _⟩
        · omega
        · omega
        · omega
        · refine ⟨fun hge => ?_, fun hlt => ?_⟩
          · have eg1 : gcx c len (p + 1) = 256 := by unfold gcx; rw [if_neg (by omega)]
            rcases hL with ⟨_, hb, hq⟩ | ⟨x1, x2, _⟩
            · exact hbad hb M3 f3 (by rw [hq]; exact L3.2.1)
            · omega
          · have hpl1 : p + 1 < len := by omega
            have eg1 : gcx c len (p + 1) = c (p + 1) := by unfold gcx; rw [if_pos hpl1]
            have hinq : vp_in (nI (p + 1)) 100 := vp_in_nI (by omega) (by omega)
            have hclq : (nI (p + 1)).toNatClampNeg = p + 1 := nI_clamp (by omega)
            obtain ⟨g2, g2'⟩ := L3.1.2.2.2.1 (p + 1) hpl1
            simp only [fx_142_3 hF3, fx_142_10 hF3, ex_some, shp_ne (show (144 : Nat) ≠ 100000 by decide), s0_144, ex_sh, hinq, hclq, true_and, g2]
            refine in_gen ?_
            rw [inP_eq _ g2']
            by_cases hr4 : 48 ≤ c (p + 1) ∧ c (p + 1) ≤ 51
            · rw [if_pos hr4]
              refine ⟨fun z => absurd z (by decide), fun _ => ?_⟩
              simp only [fx_142_3 hF3, fx_142_10 hF3, ex_some, shp_ne (show (144 : Nat) ≠ 100000 by decide), s0_144, s0_146, ex_sh, L3.2.1, hinq, hclq, l13, hin, hcl, true_and, g2, forall_eq, s48 _ g2' hr4.1]
              have L4 := LM_st (a := 146) (v := nI (c (p + 1) - 48)) (Or.inr rfl) L3
              have e5 : (stI M3 146 r (nI (c (p + 1) - 48))).1 142 5 + (1 : Int32) = nI (p + 2) := by rw [L4.2.1, nI_1]
              rw [e5]
              refine j300 (p + 2) _ (by omega) (fLm_I (by omega) (fLm_I (by omega) f3)) (LM_pos L4) (by rw [rI_ne (by omega), rI_ne (by omega)]; exact j145) (fun z => by omega) (fun _ n58 M5 f5 c5 => ?_) (fun _ g58 => ?_)
              · rcases hL with ⟨nx, _⟩ | ⟨_, _, ⟨_, hb, hq⟩ | ⟨g58, _⟩⟩
                · exact absurd ⟨by omega, by omega⟩ nx
                · exact hbad hb M5 f5 (by rw [hq]; exact c5)
                · exact absurd g58 n58
              · rcases hL with ⟨nx, _⟩ | ⟨_, _, ⟨n58, _⟩ | ⟨_, hR, ek, en⟩⟩
                · exact absurd ⟨by omega, by omega⟩ nx
                · exact absurd g58 n58
                · exact ⟨hR, by rw [ek, ← eg, g109]; rfl, by rw [rI_ne (by omega), rI_eq, en, eg1]⟩
            · rw [if_neg hr4]
              refine ⟨fun _ => ?_, fun z => absurd rfl z⟩
              rcases hL with ⟨_, hb, hq⟩ | ⟨x1, x2, _⟩
              · exact hbad hb M3 f3 (by rw [hq]; exact L3.2.1)
              · exact absurd ⟨by omega, by omega⟩ hr4
        · omega
        · omega
        · exact absurd g109 a1
      · simp only [fx_142_10 hF3, ex_some]
        refine digits_ok (kk := 2) (by omega) L3.1 L3.2 (by omega) (fun hd M4 f4 c4 => ?_) (fun hd => ?_)
        · have nb := nmv2_bd hd
          have L4 := LM_fr f4 L3 c4
          have l13' : M4.1 142 13 = nI r := L4.1.2.2.2.2.2.1
          have hF4 := L4.1.1
          simp only [s0_146, ex_sh, l13, hin, hcl, true_and, forall_eq, fx_142_10 (fx_I hF4), rIr, fx_142_10 hF4, ex_some, shp_ne (show (146 : Nat) ≠ 100000 by decide)]
          have l13s : (stI M4 146 r (nI (nmv c len 2 (p + 1) 0).1)).1 142 13 = nI r := by rw [rI_ne (by omega)]; exact l13'
          have e146 : (stI M4 146 r (nI (nmv c len 2 (p + 1) 0).1)).1 146 r = nI (nmv c len 2 (p + 1) 0).1 := rI_eq
          simp only [l13s, hin, hcl, true_and, e146]
          refine ⟨fun _ => ?_, fun z => absurd (le0 (by omega)) z⟩
          have fr4 : Fr (dLm r) eN M (stI M4 146 r (nI (nmv c len 2 (p + 1) 0).1)) := fLm_I (by omega) (Fr_tr f3 (dMx_lm f4))
          have L5 := LM_st (a := 146) (v := nI (nmv c len 2 (p + 1) 0).1) (Or.inr rfl) L4
          have x145 : (stI M4 146 r (nI (nmv c len 2 (p + 1) 0).1)).1 145 r = nI (c p) := by rw [rI_ne (by omega), f4.1 145 r (by unfold dMx; simp)]; exact j145
          unfold LX at hL
          rcases hL with ⟨a1, a2, _⟩ | ⟨a1, _⟩ | ⟨a1, _⟩ | ⟨a1, _⟩ | ⟨g106, hL⟩ | ⟨g115, hL⟩ | ⟨_, _, _, _, a1, a2, _⟩
          · omega
          · omega
          · omega
          · omega
          · refine j300 _ _ nb.2.1 fr4 L5 x145 (fun z => by omega) (fun _ n58 M5 f5 c5 => ?_) (fun _ g58 => ?_)
            · rcases hL with ⟨hd', _⟩ | ⟨_, ⟨_, hb, hq⟩ | ⟨g58, _⟩⟩
              · rw [hd] at hd'; exact absurd hd' (by decide)
              · exact hbad hb M5 f5 (by rw [hq]; exact c5)
              · exact absurd g58 n58
            · rcases hL with ⟨hd', _⟩ | ⟨_, ⟨n58, _⟩ | ⟨_, hR, ek, en⟩⟩
              · rw [hd] at hd'; exact absurd hd' (by decide)
              · exact absurd g58 n58
              · exact ⟨hR, by rw [ek, ← eg, g106]; rfl, by rw [e146, en]⟩
          · refine j300 _ _ nb.2.1 fr4 L5 x145 (fun _ => ?_) (fun z => absurd g115 z) (fun z => absurd g115 z)
            rcases hL with ⟨hd', _⟩ | ⟨_, hb, hq, he, ek, en⟩
            · rw [hd] at hd'; exact absurd hd' (by decide)
            · exact hok hb _ fr4 (by rw [hq]; exact L5.2.1) L5.2.2.1 (by rw [x145, ek, ← eg, g115]; rfl) (by rw [e146, en]) (by rw [he]; exact L5.2.2.2)
          · omega
        · have l13' : M3.1 142 13 = nI r := l13
          simp only [s0_146, ex_sh, l13, hin, hcl, true_and, forall_eq, fx_142_10 (fx_I hF3), rIr, fx_142_10 hF3, ex_some, shp_ne (show (146 : Nat) ≠ 100000 by decide)]
          have l13s : (stI M3 146 r (-1)).1 142 13 = nI r := by rw [rI_ne (by omega)]; exact l13'
          have e146 : (stI M3 146 r (-1)).1 146 r = -1 := rI_eq
          simp only [l13s, hin, hcl, true_and, e146]
          refine ⟨fun z => absurd z (by decide), fun _ => ?_⟩
          have hb : b = false ∧ q = p + 1 := by
            unfold LX at hL
            rcases hL with ⟨a1, a2, _⟩ | ⟨a1, _⟩ | ⟨a1, _⟩ | ⟨a1, _⟩ | ⟨_, hL⟩ | ⟨_, hL⟩ | ⟨_, _, _, _, a1, a2, _⟩
            · omega
            · omega
            · omega
            · omega
            · rcases hL with ⟨_, hb, hq⟩ | ⟨hd', _⟩
              · exact ⟨hb, hq⟩
              · rw [hd] at hd'; exact absurd hd' (by decide)
            · rcases hL with ⟨_, hb, hq⟩ | ⟨hd', _⟩
              · exact ⟨hb, hq⟩
              · rw [hd] at hd'; exact absurd hd' (by decide)
            · omega
          exact hbad hb.1 _ (fLm_I (by omega) f3) (by rw [rI_ne (by omega), hb.2]; exact L3.2.1)
    by_cases hrl : 97 ≤ c p ∧ c p ≤ 104
    · rw [if_pos hrl]
      refine ⟨fun z => absurd z (by decide), fun _ => ?_⟩
      simp only [rIr, fx_142_10 hF2, fx_142_9 hF2, ex_some, s0_146, s0_145, ex_sh, i13', hin, hcl, true_and, forall_eq, s97 _ hcp hrl.1, k13 146 _ (Or.inr rfl)]
      have L4 := LM_st (a := 145) (v := 61) (Or.inl rfl) (LM_st (a := 146) (v := nI (c p - 97)) (Or.inr rfl) L2)
      have e5 : (stI (stI M2 146 r (nI (c p - 97))) 145 r 61).1 142 5 + (1 : Int32) = nI (p + 1) := by rw [L4.2.1, nI_1]
      rw [e5]
      have f4 : Fr (dLm r) eN M (stI (stI (stI M2 146 r (nI (c p - 97))) 145 r 61) 142 5 (nI (p + 1))) := fLm_I (by omega) (fLm_I (by omega) (fLm_I (by omega) f2))
      have L5 := LM_pos (q := p + 1) L4
      unfold LX at hL
      rcases hL with ⟨_, _, hL⟩ | ⟨a1, _⟩ | ⟨a1, _⟩ | ⟨a1, _⟩ | ⟨a1, _⟩ | ⟨a1, _⟩ | ⟨a1, _⟩
      · refine comes_x (x := 61) L5.1 L5.2 (by omega) (by omega) (fun g61 M5 f5 c5 => ⟨fun z => absurd z (by decide), fun _ => ?_⟩) (fun n61 M5 f5 c5 => ⟨fun _ => ?_, fun z => absurd rfl z⟩)
        · rcases hL with ⟨n61, _⟩ | ⟨_, hR, ek, en⟩
          · exact absurd g61 n61
          · have hpl1 : p + 1 < len := gcx_lt (c := c) (by omega)
            refine kexp (p + 2) M5 _ (fun m h => ⟨fun _ => h, fun z => absurd rfl z⟩) (fun m h => ⟨fun z => absurd z (by decide), fun _ => h⟩) hR (by omega) (Fr_tr f4 (dMx_lm f5)) (LM_fr f5 L5 c5) ?_ ?_
            · rw [f5.1 145 r (by unfold dMx; simp), rI_ne (by omega), rI_eq, ek]; rfl
            · rw [f5.1 146 r (by unfold dMx; simp), rI_ne (by omega), rI_ne (by omega), rI_eq, en, eg]
        · rcases hL with ⟨_, hb, hq⟩ | ⟨g61, _⟩
          · exact hbad hb M5 (Fr_tr f4 (dMx_lm f5)) (by rw [hq]; exact c5.1)
          · exact absurd g61 n61
      · omega
      · omega
      · omega
      · omega
      · omega
      · exact absurd ⟨by omega, by omega⟩ a1
    · rw [if_neg hrl]
      refine ⟨fun _ => ?_, fun z => absurd rfl z⟩
      rw [e63, e120, e109, e106, e115, comm5]
      refine ⟨fun g => ?_, fun n63 => ⟨fun g => ?_, fun n120 => ⟨fun g => j187 (Or.inl g), fun n109 => ⟨fun g => j187 (Or.inr (Or.inl g)), fun n106 => ⟨fun g => j187 (Or.inr (Or.inr g)), fun n115 => ?_⟩⟩⟩⟩⟩
      · unfold LX at hL
        rcases hL with ⟨a1, a2, _⟩ | ⟨_, hR, ek, en⟩ | ⟨a1, _⟩ | ⟨a1, _⟩ | ⟨a1, _⟩ | ⟨a1, _⟩ | ⟨_, a1, _⟩
        · omega
        · exact kexp (p + 1) _ _ (fun m h => ⟨Or.inl rfl, h⟩) (fun m h => ⟨Or.inr rfl, h⟩) hR (by omega) f3 L3 (by rw [j145, ek, ← eg, g]; rfl) (by rw [j146, en])
        · omega
        · omega
        · omega
        · omega
        · exact absurd g a1
      · unfold LX at hL
        rcases hL with ⟨a1, a2, _⟩ | ⟨a1, _⟩ | ⟨_, hb, hq, he, ek, en⟩ | ⟨a1, _⟩ | ⟨a1, _⟩ | ⟨a1, _⟩ | ⟨_, _, a1, _⟩
        · omega
        · omega
        · exact hok hb _ f3 (by rw [hq]; exact L3.2.1) L3.2.2.1 (by rw [j145, ek, ← eg, g]; rfl) (by rw [j146, en]) (by rw [he]; exact L3.2.2.2)
        · omega
        · omega
        · omega
        · exact absurd g a1
      · have hb : b = false ∧ q = p := by
          unfold LX at hL
          rcases hL with ⟨a1, a2, _⟩ | ⟨a1, _⟩ | ⟨a1, _⟩ | ⟨a1, _⟩ | ⟨a1, _⟩ | ⟨a1, _⟩ | ⟨_, _, _, _, _, _, hb, hq⟩
          · exact absurd ⟨by omega, by omega⟩ hrl
          · exact absurd a1 n63
          · exact absurd a1 n120
          · exact absurd a1 n109
          · exact absurd a1 n106
          · exact absurd a1 n115
          · exact ⟨hb, hq⟩
        exact hbad hb.1 M2 f2 (by rw [hb.2]; exact L2.2.1)
  · -- nothing there
    have eg : gcx c len p = 256 := by unfold gcx; rw [if_neg hpl]
    have hb : b = false ∧ q = p := by
      unfold LX at hL
      rcases hL with ⟨a1, a2, _⟩ | ⟨a1, _⟩ | ⟨a1, _⟩ | ⟨a1, _⟩ | ⟨a1, _⟩ | ⟨a1, _⟩ | ⟨_, _, _, _, _, _, hb, hq⟩
      · omega
      · omega
      · omega
      · omega
      · omega
      · omega
      · exact ⟨hb, hq⟩
    exact hbad hb.1 M1 f1 (by rw [hb.2]; exact L1.2.1)
