/-- the class reads a line -/
theorem lineC_ok {c : Nat → Nat} {len P i p N q kd nu : Nat} {b : Bool} {out e : List Nat} {M : Mm} {K : Int32 → Mm → Prop} (hL : LX c len N p b q kd nu e) (hB : BRx c len P M) (hi : i < 16) (h : LSx P i M p out) (hl : out.length ≤ p) (hp : p ≤ len) (hbad : ∀ M', Fr (dLn P i) eN M M' → M'.1 1 3 = nI q → (b = true → cmpx (gcx c len q) = true) → K 0 M') (hok : b = true → ∀ M', Fr (dLn P i) eN M M' → LSx P i M' q (out ++ e) → HDx P i M' kd nu out.length → K 1 M') : f_X6_readLine S0 1 M K := by
  have hP := hB.2.2.1
  have hP4 := pr_le P hP
  have hn3 := pr_n3 P hP
  have h60 := hB.2.2.2.2.1
  have shP := (pr_sh P hP).1
  unfold f_X6_readLine
  refine look_ok hB h.1 hp ?_
  have e115 : (lkx c len p = (115 : Int32)) ↔ gcx c len p = 115 := lkx_eq (x := 115) hB (by omega)
  have e120 : (lkx c len p = (120 : Int32)) ↔ gcx c len p = 120 := lkx_eq (x := 120) hB (by omega)
  have e63 : (lkx c len p = 63) ↔ gcx c len p = 63 := lkx_eq (x := 63) hB (by omega)
  have e106 : (lkx c len p = 106) ↔ gcx c len p = 106 := lkx_eq (x := 106) hB (by omega)
  have e109 : (lkx c len p = 109) ↔ gcx c len p = 109 := lkx_eq (x := 109) hB (by omega)
  rw [e115, e120]
  generalize hKH : (fun (r4 : Int32) (m3 : Mm) => ((r4 = 0 → K (0 : Int32) m3) ∧ (¬ r4 = 0 → ((gcx c len p = 115 → K (1 : Int32) m3) ∧ (¬ gcx c len p = 115 → ((gcx c len p = 120 → K (1 : Int32) m3) ∧ (¬ gcx c len p = 120 → f_X6_readExpression S0 1 (0 : Int32) m3 (fun r9 m8 => ((r9 = 0 → K (0 : Int32) m8) ∧ (¬ r9 = 0 → K (1 : Int32) m8)))))))))) = KH
  have kbad : b = false → ∀ M', Fr (dLn P i) eN M M' → M'.1 1 3 = nI q → KH 0 M' := fun hb M' f' p' => by
    rw [← hKH]
    exact ⟨fun _ => hbad M' f' p' (fun z => by rw [hb] at z; exact absurd z (by decide)), fun z => absurd rfl z⟩
  have kdone : b = true → e = [] → (gcx c len p = 115 ∨ gcx c len p = 120) → ∀ M', Fr (dLn P i) eN M M' → LSx P i M' q out → HDx P i M' kd nu out.length → KH 1 M' := fun hb he hg M' f' c' d' => by
    have fin := hok hb M' f' (by rw [he, List.append_nil]; exact c') d'
    rw [← hKH]
    exact ⟨fun z => absurd z (by decide), fun _ => ⟨fun _ => fin, fun n1 => ⟨fun _ => fin, fun n2 => (hg.elim n1 n2).elim⟩⟩⟩
  have kexp : ∀ p', RX c len false N 0 p' 0 [] b q e → gcx c len p ≠ 115 → gcx c len p ≠ 120 → p ≤ p' → p' ≤ len → ∀ M', Fr (dLn P i) eN M M' → LSx P i M' p' out → HDx P i M' kd nu out.length → KH 1 M' := fun p' hR n1 n2 g1 g2 M' f' c' d' => by
    rw [← hKH]
    refine ⟨fun z => absurd z (by decide), fun _ => ⟨fun z => absurd z n1, fun _ => ⟨fun z => absurd z n2, fun _ => ?_⟩⟩⟩
    refine expr_ok (ak := false) hR (BRx_ln f' hB) c'.1 c'.2.2.1 c'.2.2.2 (by omega) g2 (fun M2 f2 p2 hq => ⟨fun _ => hbad M2 (Fr_tr f' (dEx_ln f2)) p2 hq, fun z => absurd rfl z⟩) (fun hb M2 f2 p2 p7 p5 => ⟨fun z => absurd z (by decide), fun _ => ?_⟩)
    refine hok hb M2 (Fr_tr f' (dEx_ln f2)) ⟨p2, ?_, p7, p5⟩ ⟨?_, ?_, ?_⟩
    · rw [f2.1 P 6 (dEx_f (by omega) (by omega) (by omega) (by omega))]; exact c'.2.1
    · rw [f2.1 (P + 2) i (dEx_f (by have : ∀ P ∈ PR, P + 2 ≠ 3 := by decide
                                    exact this P hP) (by omega) (by omega) (by omega))]; exact d'.1
    · rw [f2.1 (P + 3) i (dEx_f (by have : ∀ P ∈ PR, P + 3 ≠ 3 := by decide
                                    exact this P hP) (by omega) (by omega) (by omega))]; exact d'.2.1
    · rw [f2.1 (P + 4) i (dEx_f (by have : ∀ P ∈ PR, P + 4 ≠ 3 := by decide
                                    exact this P hP) (by omega) (by omega) (by omega))]; exact d'.2.2
  unfold f_X6_readHead
  simp only [forall_eq]
  rw [h.1, nI_1]
  have f1 : Fr (dLn P i) eN M (stI M 1 3 (nI (p + 1))) := fLn_I (by omega) (Fr_refl _ _ _)
  have B1 := BRx_ln f1 hB
  have c1 := LS_pos (q := p + 1) hP h
  have e6 : (stI M 1 3 (nI (p + 1))).2.2 1 6 = some P := hB.2.1
  have back : (nI (p + 1)) - (1 : Int32) = nI p := nI_pred p
  have n13 : (stI M 1 3 (nI (p + 1))).1 1 3 = nI (p + 1) := rI_eq
  generalize hM1 : stI M 1 3 (nI (p + 1)) = M1 at *
  have j41 : ¬ (97 ≤ gcx c len p ∧ gcx c len p ≤ 104) → f_X6_readHead_J41 S0 1 (lkx c len p) M1 KH := by
    intro nl
    unfold f_X6_readHead_J41
    rw [e63, e106, e109, e115, e120]
    refine ⟨fun g => ?_, fun n63 => ⟨fun g => ?_, fun n106 => ⟨fun g => ?_, fun n109 => ⟨fun g => ?_, fun n115 => ⟨fun g => ?_, fun n120 => ?_⟩⟩⟩⟩⟩
    · have hpl : p < len := gcx_lt (c := c) (by omega)
      simp only [e6, ex_some, shP, true_and]
      refine beg_ok (kd := 1) (nu := 0) B1 hi c1 (fun M2 f2 c2 d2 => ?_)
      unfold LX at hL
      rcases hL with ⟨a1, a2, _⟩ | ⟨_, hR, ek, en⟩ | ⟨a1, _⟩ | ⟨a1, _⟩ | ⟨a1, _⟩ | ⟨a1, _⟩ | ⟨_, a1, _⟩
      · omega
      · exact kexp (p + 1) hR (by omega) (by omega) (by omega) (by omega) M2 (Fr_tr f1 f2) c2 (by rw [ek, en]; exact d2)
      · omega
      · omega
      · omega
      · omega
      · exact absurd g a1
    · have hpl : p < len := gcx_lt (c := c) (by omega)
      unfold LX at hL
      rcases hL with ⟨a1, a2, _⟩ | ⟨a1, _⟩ | ⟨a1, _⟩ | ⟨a1, _⟩ | ⟨_, hL⟩ | ⟨a1, _⟩ | ⟨_, _, _, _, a1, _⟩
      · omega
      · omega
      · omega
      · omega
      · refine numb_ok (kd := 3) B1 hi c1 (by omega) (fun hd M2 f2 c2 d2 => ⟨fun z => absurd z (by decide), fun _ => ?_⟩) (fun hd => ⟨fun _ => ?_, fun z => absurd rfl z⟩)
        · have nb := nmv2_bd hd
          rcases hL with ⟨hd', _⟩ | ⟨_, hL⟩
          · rw [hd] at hd'; exact absurd hd' (by decide)
          · refine passes_ok (x := 58) (BRx_ln f2 B1) c2 nb.2.1 (by omega) (fun g58 M3 em3 f3 c3 => ⟨fun z => absurd z (by decide), fun _ => ?_⟩) (fun n58 => ⟨fun _ => ?_, fun z => absurd rfl z⟩)
            · rcases hL with ⟨n58, _⟩ | ⟨_, hR, ek, en⟩
              · exact absurd g58 n58
              · have hpl2 : (nmv c len 2 (p + 1) 0).2 < len := gcx_lt (c := c) (by omega)
                refine kexp _ hR (by omega) (by omega) (by omega) (by omega) M3 (Fr_tr f1 (Fr_tr f2 f3)) c3 ?_
                rw [em3, ek, en]
                exact ⟨by rw [rI_ne (by omega)]; exact d2.1, by rw [rI_ne (by omega)]; exact d2.2.1, by rw [rI_ne (by omega)]; exact d2.2.2⟩
            · rcases hL with ⟨_, hb, hq⟩ | ⟨g58, _⟩
              · exact kbad hb M2 (Fr_tr f1 f2) (by rw [hq]; exact c2.1)
              · exact absurd g58 n58
        · rcases hL with ⟨_, hb, hq⟩ | ⟨hd', _⟩
          · exact kbad hb M1 f1 (by rw [hq]; exact c1.1)
          · rw [hd] at hd'; exact absurd hd' (by decide)
      · omega
      · exact absurd g a1
    · have hpl : p < len := gcx_lt (c := c) (by omega)
      unfold LX at hL
      rcases hL with ⟨a1, a2, _⟩ | ⟨a1, _⟩ | ⟨a1, _⟩ | ⟨_, hL⟩ | ⟨a1, _⟩ | ⟨a1, _⟩ | ⟨_, _, _, a1, _⟩
      · omega
      · omega
      · omega
      · refine part_ok B1 hi c1 (by omega) (fun x1 x2 M2 f2 c2 d2 => ⟨fun z => absurd z (by decide), fun _ => ?_⟩) (fun nx => ⟨fun _ => ?_, fun z => absurd rfl z⟩)
        · have hpl1 : p + 1 < len := gcx_lt (c := c) (by omega)
          rcases hL with ⟨nx, _⟩ | ⟨_, _, hL⟩
          · exact absurd ⟨x1, x2⟩ nx
          · refine passes_ok (x := 58) (BRx_ln f2 B1) c2 (by omega) (by omega) (fun g58 M3 em3 f3 c3 => ⟨fun z => absurd z (by decide), fun _ => ?_⟩) (fun n58 => ⟨fun _ => ?_, fun z => absurd rfl z⟩)
            · rcases hL with ⟨n58, _⟩ | ⟨_, hR, ek, en⟩
              · exact absurd g58 n58
              · have hpl2 : p + 1 + 1 < len := gcx_lt (c := c) (by omega)
                refine kexp (p + 3) hR (by omega) (by omega) (by omega) (by omega) M3 (Fr_tr f1 (Fr_tr f2 f3)) c3 ?_
                rw [em3, ek, en]
                exact ⟨by rw [rI_ne (by omega)]; exact d2.1, by rw [rI_ne (by omega)]; exact d2.2.1, by rw [rI_ne (by omega)]; exact d2.2.2⟩
            · rcases hL with ⟨_, hb, hq⟩ | ⟨g58, _⟩
              · exact kbad hb M2 (Fr_tr f1 f2) (by rw [hq]; exact c2.1)
              · exact absurd g58 n58
        · rcases hL with ⟨_, hb, hq⟩ | ⟨x1, x2, _⟩
          · exact kbad hb M1 f1 (by rw [hq]; exact c1.1)
          · exact absurd ⟨x1, x2⟩ nx
      · omega
      · omega
      · exact absurd g a1
    · have hpl : p < len := gcx_lt (c := c) (by omega)
      unfold LX at hL
      rcases hL with ⟨a1, a2, _⟩ | ⟨a1, _⟩ | ⟨a1, _⟩ | ⟨a1, _⟩ | ⟨a1, _⟩ | ⟨_, hL⟩ | ⟨_, _, _, _, _, a1, _⟩
      · omega
      · omega
      · omega
      · omega
      · omega
      · refine numb_ok (kd := 4) B1 hi c1 (by omega) (fun hd M2 f2 c2 d2 => ⟨Or.inr rfl, ?_⟩) (fun hd => ⟨Or.inl rfl, ?_⟩)
        · rcases hL with ⟨hd', _⟩ | ⟨_, hb, hq, he, ek, en⟩
          · rw [hd] at hd'; exact absurd hd' (by decide)
          · exact kdone hb he (Or.inl g) M2 (Fr_tr f1 f2) (by rw [hq]; exact c2) (by rw [ek, en]; exact d2)
        · rcases hL with ⟨_, hb, hq⟩ | ⟨hd', _⟩
          · exact kbad hb M1 f1 (by rw [hq]; exact c1.1)
          · rw [hd] at hd'; exact absurd hd' (by decide)
      · exact absurd g a1
    · have hpl : p < len := gcx_lt (c := c) (by omega)
      simp only [e6, ex_some, shP, true_and]
      refine beg_ok (kd := 5) (nu := 0) B1 hi c1 (fun M2 f2 c2 d2 => ?_)
      unfold LX at hL
      rcases hL with ⟨a1, a2, _⟩ | ⟨a1, _⟩ | ⟨_, hb, hq, he, ek, en⟩ | ⟨a1, _⟩ | ⟨a1, _⟩ | ⟨a1, _⟩ | ⟨_, _, a1, _⟩
      · omega
      · omega
      · exact kdone hb he (Or.inr g) M2 (Fr_tr f1 f2) (by rw [hq]; exact c2) (by rw [ek, en]; exact d2)
      · omega
      · omega
      · omega
      · exact absurd g a1
    · simp only [forall_eq]
      rw [n13, back]
      have hb : b = false ∧ q = p := by
        unfold LX at hL
        rcases hL with ⟨a1, a2, _⟩ | ⟨a1, _⟩ | ⟨a1, _⟩ | ⟨a1, _⟩ | ⟨a1, _⟩ | ⟨a1, _⟩ | ⟨_, _, _, _, _, _, hb, hq⟩
        · exact absurd ⟨a1, a2⟩ nl
        · exact absurd a1 n63
        · exact absurd a1 n120
        · exact absurd a1 n109
        · exact absurd a1 n106
        · exact absurd a1 n115
        · exact ⟨hb, hq⟩
      exact kbad hb.1 _ (fLn_I (by omega) f1) (by rw [hb.2]; exact rI_eq)
  by_cases hr : 97 ≤ gcx c len p ∧ gcx c len p ≤ 104
  · obtain ⟨l1, l2, l3⟩ := lk_rng2 hr.1 hr.2
    refine ⟨fun z => absurd z l1, fun _ => ⟨fun z => absurd z l2, fun _ => ?_⟩⟩
    have hpl : p < len := gcx_lt (c := c) (by omega)
    simp only [e6, ex_some, shP, true_and, l3]
    refine beg_ok (kd := 0) B1 hi c1 (fun M2 f2 c2 d2 => ?_)
    unfold LX at hL
    rcases hL with ⟨_, _, hL⟩ | ⟨a1, _⟩ | ⟨a1, _⟩ | ⟨a1, _⟩ | ⟨a1, _⟩ | ⟨a1, _⟩ | ⟨a1, _⟩
    · refine passes_ok (x := 61) (BRx_ln f2 B1) c2 (by omega) (by omega) (fun g61 M3 em3 f3 c3 => ⟨Or.inr rfl, ?_⟩) (fun n61 => ⟨Or.inl rfl, ?_⟩)
      · rcases hL with ⟨n61, _⟩ | ⟨_, hR, ek, en⟩
        · exact absurd g61 n61
        · have hpl1 : p + 1 < len := gcx_lt (c := c) (by omega)
          refine kexp (p + 2) hR (by omega) (by omega) (by omega) (by omega) M3 (Fr_tr f1 (Fr_tr f2 f3)) c3 ?_
          rw [em3, ek, en]
          exact ⟨by rw [rI_ne (by omega)]; exact d2.1, by rw [rI_ne (by omega)]; exact d2.2.1, by rw [rI_ne (by omega)]; exact d2.2.2⟩
      · rcases hL with ⟨_, hb, hq⟩ | ⟨g61, _⟩
        · exact kbad hb M2 (Fr_tr f1 f2) (by rw [hq]; exact c2.1)
        · exact absurd g61 n61
    · omega
    · omega
    · omega
    · omega
    · omega
    · exact absurd hr a1
  · exact ⟨fun _ => j41 hr, fun h1 => ⟨fun _ => j41 hr, fun h2 => absurd (lk_rng hB h1 h2) hr⟩⟩
