/-! reading an expression: the model follows RX -/
def BADm (rw_ : Nat) (K : Int32 → Mm → Prop) (q : Nat) (M : Mm) : Prop := ∀ M', Fr (dMx rw_) eN M M' → M'.1 142 5 = nI q → K 0 M'
def OKm (rw_ : Nat) (K : Int32 → Mm → Prop) (q d : Nat) (e : List Nat) (M : Mm) : Prop := ∀ M', Fr (dMx rw_) eN M M' → MSx rw_ M' q d e → K 1 M'
theorem BADm_fr {rw_ q : Nat} {K : Int32 → Mm → Prop} {M M' : Mm} (f : Fr (dMx rw_) eN M M') (h : BADm rw_ K q M) : BADm rw_ K q M' := fun M2 f2 => h M2 (Fr_tr f f2)
theorem OKm_fr {rw_ q d : Nat} {e : List Nat} {K : Int32 → Mm → Prop} {M M' : Mm} (f : Fr (dMx rw_) eN M M') (h : OKm rw_ K q d e M) : OKm rw_ K q d e M' := fun M2 f2 => h M2 (Fr_tr f f2)
theorem md_RX {c : Nat → Nat} {len rw_ : Nat} {ak : Bool} : ∀ (n k p d : Nat) (a : List Nat) (b : Bool) (q : Nat) (e : List Nat), RX c len ak n k p d a b q e →
    (k < 6 → ∀ (N : Nat) (pre : List Nat) (M : Mm) (K : Int32 → Mm → Prop), (len - p) + (6 - k) + 6 * (6 - d) ≤ N → BMr c len ak rw_ M → MSx rw_ M p d pre → pre.length ≤ p → p ≤ len → d ≤ 5 → (b = false → BADm rw_ K q M) → (b = true → OKm rw_ K q d (pre ++ e) M) → g_P S0 N k 142 M K) ∧
    (∀ w, LPx w → k = w + 10 → ∀ (N fu : Nat) (pre : List Nat) (M : Mm) (EK K : Int32 → Mm → Prop), (len - p) + (5 - w) + 6 * (6 - d) ≤ N → BMr c len ak rw_ M → MSx rw_ M p d (pre ++ a) → (pre ++ a).length ≤ p → p ≤ len → d ≤ 5 → len - p + 2 ≤ fu → (b = false → BADm rw_ EK q M) → (b = true → OKm rw_ EK q d (pre ++ e) M) → LWx w N EK K fu 1 M)
  | 0, _, _, _, _, _, _, _, h => h.elim
  | n + 1, k, p, d, a, b, q, e, h => by
    have ih := md_RX (c := c) (len := len) (rw_ := rw_) (ak := ak) n
    unfold RX at h
    rcases h with ⟨lp, ha, h⟩ | ⟨w, lp, hk, h⟩ | ⟨hk, ha, h⟩ | ⟨hk, ha, h⟩ | ⟨hk, ha, h⟩
    · have k3 : k ≤ 3 := by rcases lp with rfl | rfl | rfl <;> omega
      refine ⟨fun _ N pre M K hN hB hM hl hp hd hbad hok => ?_, fun w _ hw => absurd hw (by omega)⟩
      obtain ⟨N', rfl⟩ : ∃ N', N = N' + 1 := ⟨N - 1, by omega⟩
      refine LW_in lp ?_
      rcases h with ⟨hb, e0, h⟩ | ⟨q1, e1, h1, h2⟩
      · exact (ih _ _ _ _ _ _ _ h).1 (by omega) N' pre M _ (by omega) hB hM hl hp hd (fun _ M1 f1 c1 => ⟨0 + 1, LW_0 ⟨Or.inl rfl, hbad hb M1 f1 c1⟩⟩) (fun z => absurd z (by decide))
      · have bd := (RX_bd _ _ _ _ _ _ _ _ h1).1 (by omega) rfl
        refine (ih _ _ _ _ _ _ _ h1).1 (by omega) N' pre M _ (by omega) hB hM hl hp hd (fun z => absurd z (by decide)) (fun _ M1 f1 c1 => ⟨len - q1 + 2, ?_⟩)
        exact (ih _ _ _ _ _ _ _ h2).2 k lp rfl N' _ pre M1 _ K (by omega) (BMr_fr f1 hB) c1 (by simp; omega) bd.2.1 hd (Nat.le_refl _) (fun hb M2 f2 c2 => ⟨Or.inl rfl, hbad hb M2 (Fr_tr f1 f2) c2⟩) (fun hb M2 f2 c2 => ⟨Or.inr rfl, hok hb M2 (Fr_tr f1 f2) c2⟩)
    · have w3 : w ≤ 3 := by rcases lp with rfl | rfl | rfl <;> omega
      refine ⟨fun z => absurd z (by omega), fun w' _ hw' N fu pre M EK K hN hB hM hl hp hd hfu hbad hok => ?_⟩
      have ew : w' = w := by omega
      subst ew
      obtain ⟨fu', rfl⟩ : ∃ fu', fu = fu' + 1 := ⟨fu - 1, by omega⟩
      refine LW_1 lp hB hM hp (fun ho M1 f1 c1 => ?_) (fun ho M1 f1 c1 => ?_)
      · rcases h with ⟨hop, hb, hq, he⟩ | ⟨hop, h⟩
        · subst hq; subst he
          exact hok hb M1 f1 c1
        · rw [ho] at hop; exact absurd hop (by decide)
      · rcases h with ⟨hop, hb, hq, he⟩ | ⟨hop, h⟩
        · rw [ho] at hop; exact absurd hop (by decide)
        · have hpl := op_lt lp hop
          have h60 := hB.2.2.1
          obtain ⟨fu2, rfl⟩ : ∃ fu2, fu' = fu2 + 1 := ⟨fu' - 1, by omega⟩
          rcases h with ⟨hb, e0, h⟩ | ⟨q1, e2, h1, h2⟩
          · exact (ih _ _ _ _ _ _ _ h).1 (by omega) N (pre ++ a) M1 _ (by omega) (BMr_fr f1 hB) c1 (by omega) (by omega) hd (fun _ M2 f2 c2 => ⟨fun _ => LW_0 (hbad hb M2 (Fr_tr f1 f2) c2), fun z => absurd rfl z⟩) (fun z => absurd z (by decide))
          · have bd := (RX_bd _ _ _ _ _ _ _ _ h1).1 (by omega) rfl
            refine (ih _ _ _ _ _ _ _ h1).1 (by omega) N (pre ++ a) M1 _ (by omega) (BMr_fr f1 hB) c1 (by omega) (by omega) hd (fun z => absurd z (by decide)) (fun _ M2 f2 c2 => ⟨fun z => absurd z (by decide), fun _ => ?_⟩)
            have f12 := Fr_tr f1 f2
            have hle : ((pre ++ a) ++ e2).length ≤ q1 := by simp at hl ⊢; omega
            refine marks_ok (BMr_fr f12 hB) c2 (by omega) rfl (fun M3 f3 c3 => ?_)
            have f13 := Fr_tr f12 f3
            refine (ih _ _ _ _ _ _ _ h2).2 w' lp rfl N _ pre M3 EK K (by omega) (BMr_fr f13 hB) ?_ ?_ bd.2.1 hd (by omega) (fun hb => BADm_fr f13 (hbad hb)) (fun hb => OKm_fr f13 (hok hb))
            · have := c3
              simpa [List.append_assoc] using this
            · simp at hl ⊢; omega
    · subst hk
      refine ⟨fun _ N pre M K hN hB hM hl hp hd hbad hok => ?_, fun w _ hw => absurd hw (by omega)⟩
      obtain ⟨N', rfl⟩ : ∃ N', N = N' + 1 := ⟨N - 1, by omega⟩
      refine gP2 ?_
      unfold f_X11_compared
      rcases h with ⟨hb, e0, h⟩ | ⟨q1, e1, h1, h⟩
      · exact (ih _ _ _ _ _ _ _ h).1 (by omega) N' pre M _ (by omega) hB hM hl hp hd (fun _ M1 f1 c1 => ⟨fun _ => ⟨Or.inl rfl, hbad hb M1 f1 c1⟩, fun z => absurd rfl z⟩) (fun z => absurd z (by decide))
      · have bd := (RX_bd _ _ _ _ _ _ _ _ h1).1 (by omega) rfl
        refine (ih _ _ _ _ _ _ _ h1).1 (by omega) N' pre M _ (by omega) hB hM hl hp hd (fun z => absurd z (by decide)) (fun _ M1 f1 c1 => ⟨fun z => absurd z (by decide), fun _ => ?_⟩)
        have hB1 := BMr_fr f1 hB
        have j36 : cmpx (gcx c len q1) = true → f_X11_compared_J36 S0 (fun a M K => g_P S0 N' 0 a M K) (fun a M K => g_P S0 N' 1 a M K) (fun a M K => g_P S0 N' 2 a M K) (fun a M K => g_P S0 N' 3 a M K) (fun a M K => g_P S0 N' 4 a M K) (fun a M K => g_P S0 N' 5 a M K) 142 M1 K := by
          intro hc
          obtain ⟨b1, b2, b3, b4, b5, b6, b7⟩ := hB1
          have hpl := cmp_lt hc
          have eg : gcx c len q1 = c q1 := by unfold gcx; rw [if_pos hpl]
          have hin : vp_in (nI q1) 100 := vp_in_nI (by omega) (by omega)
          have hcl : (nI q1).toNatClampNeg = q1 := nI_clamp (by omega)
          obtain ⟨g1, g2⟩ := b4 q1 hpl
          have ej : jt (gcx c len q1) ≠ 0 := by have := (jt_cmp hc).1; omega
          have ec : (2000 : Int32) + nI (c q1) = nI (cmk (jt (gcx c len q1))) := by rw [cmk_jt ej, ← eg, ← nI_add]; rfl
          unfold f_X11_compared_J36
          simp only [fx_142_3 b1, ex_some, shp_ne (show (144 : Nat) ≠ 100000 by decide), s0_144, ex_sh, c1.1, hin, hcl, true_and, forall_eq, g1, nI_1, ec]
          have f2 : Fr (dMx rw_) eN M (stI M1 142 5 (nI (q1 + 1))) := fMx_pos f1
          have hB2 := BMr_fr f2 hB
          have c2 := MS_pos (q := q1 + 1) c1
          have hle : (pre ++ e1).length ≤ q1 := by simp; omega
          rcases h with ⟨hop, _⟩ | ⟨hop, h⟩
          · rw [hc] at hop; exact absurd hop (by decide)
          · rcases h with ⟨hb, e0, h⟩ | ⟨e2, hb, h2, he⟩
            · exact (ih _ _ _ _ _ _ _ h).1 (by omega) N' (pre ++ e1) _ _ (by omega) hB2 c2 (by omega) (by omega) hd (fun _ M3 f3 c3 => ⟨fun _ => ⟨Or.inl rfl, hbad hb M3 (Fr_tr f2 f3) c3⟩, fun z => absurd rfl z⟩) (fun z => absurd z (by decide))
            · have bd2 := (RX_bd _ _ _ _ _ _ _ _ h2).1 (by omega) rfl
              refine (ih _ _ _ _ _ _ _ h2).1 (by omega) N' (pre ++ e1) _ _ (by omega) hB2 c2 (by omega) (by omega) hd (fun z => absurd z (by decide)) (fun _ M3 f3 c3 => ⟨fun z => absurd z (by decide), fun _ => ?_⟩)
              have f23 := Fr_tr f2 f3
              refine marks_ok (BMr_fr f23 hB) c3 (by simp at hle ⊢; omega) rfl (fun M4 f4 c4 => ⟨Or.inr rfl, hok hb M4 (Fr_tr f23 f4) ?_⟩)
              rw [he]
              simpa [List.append_assoc] using c4
        have no : cmpx (gcx c len q1) = false → K 1 M1 := by
          intro hc
          rcases h with ⟨hop, hb, hq, he⟩ | ⟨hop, h⟩
          · subst hq; subst he
            exact hok hb M1 f1 c1
          · rw [hc] at hop; exact absurd hop (by decide)
        refine isAt_ok (x := 60) hB1 c1.1 bd.2.1 (by omega) (fun eg => ⟨fun z => absurd z (by decide), fun _ => j36 (by rw [eg]; rfl)⟩) (fun n1 => ⟨fun _ => ?_, fun z => absurd rfl z⟩)
        refine isAt_ok (x := 62) hB1 c1.1 bd.2.1 (by omega) (fun eg => ⟨fun z => absurd z (by decide), fun _ => j36 (by rw [eg]; rfl)⟩) (fun n2 => ⟨fun _ => ?_, fun z => absurd rfl z⟩)
        refine isAt_ok (x := 61) hB1 c1.1 bd.2.1 (by omega) (fun eg => ⟨fun z => absurd z (by decide), fun _ => j36 (by rw [eg]; rfl)⟩) (fun n3 => ⟨fun _ => ⟨Or.inr rfl, no (by simp [cmpx, n1, n2, n3])⟩, fun z => absurd rfl z⟩)
    · subst hk
      refine ⟨fun _ N pre M K hN hB hM hl hp hd hbad hok => ?_, fun w _ hw => absurd hw (by omega)⟩
      obtain ⟨N', rfl⟩ : ∃ N', N = N' + 1 := ⟨N - 1, by omega⟩
      refine gP4 ?_
      unfold f_X11_ahead
      have j25 : ∀ x1 : Int32, unx (gcx c len p) ≠ 0 → ((x1 = 0 ∧ unx (gcx c len p) = 1038) ∨ (¬ x1 = 0 ∧ unx (gcx c len p) = 1037)) → f_X11_ahead_J25 S0 (fun a M K => g_P S0 N' 0 a M K) (fun a M K => g_P S0 N' 1 a M K) (fun a M K => g_P S0 N' 2 a M K) (fun a M K => g_P S0 N' 3 a M K) (fun a M K => g_P S0 N' 4 a M K) (fun a M K => g_P S0 N' 5 a M K) 142 x1 M K := by
        intro x1 hu hx
        have hpl := un_lt hu
        have h60 := hB.2.2.1
        unfold f_X11_ahead_J25
        simp only [forall_eq]
        rw [hM.1, nI_1]
        have f2 : Fr (dMx rw_) eN M (stI M 142 5 (nI (p + 1))) := fMx_pos (Fr_refl _ _ _)
        have hB2 := BMr_fr f2 hB
        have c2 := MS_pos (q := p + 1) hM
        rcases h with ⟨_, h⟩ | ⟨hop, h⟩
        · rcases h with ⟨hb, e0, h⟩ | ⟨e1, hb, h1, he⟩
          · exact (ih _ _ _ _ _ _ _ h).1 (by omega) N' pre _ _ (by omega) hB2 c2 (by omega) (by omega) hd (fun _ M3 f3 c3 => ⟨fun _ => ⟨Or.inl rfl, hbad hb M3 (Fr_tr f2 f3) c3⟩, fun z => absurd rfl z⟩) (fun z => absurd z (by decide))
          · have bd := (RX_bd _ _ _ _ _ _ _ _ h1).1 (by omega) rfl
            refine (ih _ _ _ _ _ _ _ h1).1 (by omega) N' pre _ _ (by omega) hB2 c2 (by omega) (by omega) hd (fun z => absurd z (by decide)) (fun _ M3 f3 c3 => ⟨fun z => absurd z (by decide), fun _ => ?_⟩)
            have f23 := Fr_tr f2 f3
            have fin : ∀ v : Int32, v = nI (cmk (unx (gcx c len p))) → f_X11_marks S0 142 v M3 (fun m9 => ((1 : Int32) = 0 ∨ (1 : Int32) = 1) ∧ K 1 m9) := by
              intro v hv
              refine marks_ok (BMr_fr f23 hB) c3 (by simp; omega) hv (fun M4 f4 c4 => ⟨Or.inr rfl, hok hb M4 (Fr_tr f23 f4) ?_⟩)
              rw [he]
              simpa [List.append_assoc] using c4
            unfold f_X11_ahead_J59
            rcases hx with ⟨hx, hux⟩ | ⟨hx, hux⟩
            · exact ⟨fun _ => ⟨s0_142, fin _ (by rw [hux]; rfl)⟩, fun z => absurd hx z⟩
            · exact ⟨fun z => absurd z hx, fun _ => ⟨s0_142, fin _ (by rw [hux]; rfl)⟩⟩
        · exact absurd hop hu
      refine isAt_ok (x := 33) hB hM.1 hp (by omega) (fun eg => ⟨fun z => absurd z (by decide), fun _ => j25 1 (by rw [eg]; decide) (Or.inr ⟨by decide, by rw [eg]; rfl⟩)⟩) (fun n1 => ⟨fun _ => ?_, fun z => absurd rfl z⟩)
      refine isAt_ok (x := 45) hB hM.1 hp (by omega) (fun eg => ⟨fun z => absurd z (by decide), fun _ => j25 0 (by rw [eg]; decide) (Or.inl ⟨rfl, by rw [eg]; rfl⟩)⟩) (fun n2 => ⟨fun _ => ?_, fun z => absurd rfl z⟩)
      rcases h with ⟨hu, h⟩ | ⟨hu, h⟩
      · exact absurd (by unfold unx; rw [if_neg n1, if_neg n2]) hu
      · exact (ih _ _ _ _ _ _ _ h).1 (by omega) N' pre M _ (by omega) hB hM hl hp hd (fun hb M1 f1 c1 => ⟨Or.inl rfl, hbad hb M1 f1 c1⟩) (fun hb M1 f1 c1 => ⟨Or.inr rfl, hok hb M1 f1 c1⟩)
    · subst hk
      refine ⟨fun _ N pre M K hN hB hM hl hp hd hbad hok => ?_, fun w _ hw => absurd hw (by omega)⟩
      obtain ⟨N', rfl⟩ : ∃ N', N = N' + 1 := ⟨N - 1, by omega⟩
      refine gP5 ?_
      unfold f_X11_thing
      have h60 := hB.2.2.1
      refine digits_ok (kk := 3) (by omega) hB hM hp (fun hd3 M1 f1 c1 => ⟨fun z => ?_, fun _ => ?_⟩) (fun nd => ⟨fun _ => ?_, fun z => absurd (by decide) z⟩)
      · have := nmv_v (c := c) (len := len) 3 p 0
        exact absurd z (nI_pos (by omega))
      · have hd' : 48 ≤ gcx c len p ∧ gcx c len p ≤ 57 := by simpa [dgx] using hd3
        have hv := nmv_v (c := c) (len := len) 3 p 0
        rcases h with ⟨hg, hb, hq, he⟩ | ⟨hg, hb, hq, he⟩ | ⟨n1, n2, n3, hb, hq⟩ | ⟨hg, h5, hb, hq⟩ | ⟨hg, h5, h⟩
        · have hpl : p < len := gcx_lt (c := c) (by omega)
          subst hq; subst he
          exact marks_ok (BMr_fr f1 hB) c1 (by omega) (by unfold cmk; rw [if_pos (by omega)]) (fun M2 f2 c2 => hok hb M2 (Fr_tr f1 f2) c2)
        · have := (th_c hg).2.2.2.1; rw [hd3] at this; exact absurd this (by decide)
        · rw [hd3] at n1; exact absurd n1 (by decide)
        · omega
        · omega
      · refine letter_ok hB hM.1 hp ?_
        by_cases ht : thx ak (gcx c len p) = 0
        · rw [if_pos ht]
          refine ⟨fun _ => ?_, fun z => absurd (by decide) z⟩
          refine isAt_ok (x := 40) hB hM.1 hp (by omega) (fun eg => ⟨fun z => absurd z (by decide), fun _ => ?_⟩) (fun ng => ⟨fun _ => ?_, fun z => absurd rfl z⟩)
          · have hpl : p < len := gcx_lt (c := c) (by omega)
            rw [hM.2.1]
            rcases h with ⟨hg, hb, hq, he⟩ | ⟨hg, hb, hq, he⟩ | ⟨n1, n2, n3, hb, hq⟩ | ⟨hg, h5, hb, hq⟩ | ⟨hg, h5, h⟩
            · rw [nd] at hg; exact absurd hg (by decide)
            · exact absurd ht hg
            · exact absurd eg n3
            · subst hq
              exact ⟨fun _ => hbad hb M (Fr_refl _ _ _) hM.1, fun z => absurd (by rw [h5]; rfl) z⟩
            · refine ⟨fun z => absurd ((nI_eq (by omega) (by omega)).mp (show nI d = nI 5 from z)) h5, fun _ => ?_⟩
              simp only [forall_eq]
              have e7 : (stI M 142 5 (M.1 142 5 + (1 : Int32))).1 142 7 = nI d := by rw [rI_ne (by omega)]; exact hM.2.1
              rw [e7, hM.1, nI_1, nI_1]
              have f2 : Fr (dMx rw_) eN M (stI (stI M 142 5 (nI (p + 1))) 142 7 (nI (d + 1))) := fMx_dep (fMx_pos (Fr_refl _ _ _))
              have hB2 := BMr_fr f2 hB
              have c2 : MSx rw_ (stI (stI M 142 5 (nI (p + 1))) 142 7 (nI (d + 1))) (p + 1) (d + 1) pre := MS_dep (MS_pos hM)
              rcases h with ⟨hb, e0, h⟩ | ⟨q1, e1, h1, h⟩
              · exact (ih _ _ _ _ _ _ _ h).1 (by omega) N' pre _ _ (by omega) hB2 c2 (by omega) (by omega) (by omega) (fun _ M3 f3 c3 => ⟨fun _ => hbad hb M3 (Fr_tr f2 f3) c3, fun z => absurd rfl z⟩) (fun z => absurd z (by decide))
              · have bd := (RX_bd _ _ _ _ _ _ _ _ h1).1 (by omega) rfl
                refine (ih _ _ _ _ _ _ _ h1).1 (by omega) N' pre _ _ (by omega) hB2 c2 (by omega) (by omega) (by omega) (fun z => absurd z (by decide)) (fun _ M3 f3 c3 => ⟨fun z => absurd z (by decide), fun _ => ?_⟩)
                have f23 := Fr_tr f2 f3
                refine comes_x (x := 41) (BMr_fr f23 hB) c3 bd.2.1 (by omega) (fun eg2 M4 f4 c4 => ⟨fun z => absurd z (by decide), fun _ => ?_⟩) (fun ng2 M4 f4 c4 => ⟨fun _ => ?_, fun z => absurd rfl z⟩)
                · rcases h with ⟨h41, hb, hq, he⟩ | ⟨h41, hb, hq⟩
                  · skip
                    rw [c4.2.1, nI_pred]
                    subst hq; subst he
                    exact hok hb _ (fMx_dep (Fr_tr f23 f4)) (MS_dep c4)
                  · exact absurd eg2 h41
                · rcases h with ⟨h41, hb, hq, he⟩ | ⟨h41, hb, hq⟩
                  · exact absurd h41 ng2
                  · subst hq
                    exact hbad hb M4 (Fr_tr f23 f4) c4.1
          · rcases h with ⟨hg, hb, hq, he⟩ | ⟨hg, hb, hq, he⟩ | ⟨n1, n2, n3, hb, hq⟩ | ⟨hg, h5, hb, hq⟩ | ⟨hg, h5, h⟩
            · rw [nd] at hg; exact absurd hg (by decide)
            · exact absurd ht hg
            · subst hq
              exact hbad hb M (Fr_refl _ _ _) hM.1
            · exact absurd hg ng
            · exact absurd hg ng
        · rw [if_neg ht]
          have hc := th_c ht
          have hpl := th_lt ht
          refine ⟨fun z => absurd z (nI_pos (by omega)), fun _ => ?_⟩
          refine letter_ok hB hM.1 hp ?_
          rw [if_neg ht]
          refine marks_ok (x := thx ak (gcx c len p)) hB hM (by omega) (by unfold cmk; rw [if_pos hc.2.1]) (fun M1 f1 c1 => ?_)
          simp only [forall_eq]
          rw [c1.1, nI_1]
          rcases h with ⟨hg, hb, hq, he⟩ | ⟨hg, hb, hq, he⟩ | ⟨n1, n2, n3, hb, hq⟩ | ⟨hg, h5, hb, hq⟩ | ⟨hg, h5, h⟩
          · rw [nd] at hg; exact absurd hg (by decide)
          · subst hq; subst he
            exact hok hb _ (fMx_pos f1) (MS_pos c1)
          · exact absurd n2 ht
          · exact absurd hg hc.2.2.2.2.1
          · exact absurd hg hc.2.2.2.2.1
/-- the model reads an expression -/
theorem some_ok {c : Nat → Nat} {len rw_ p n q : Nat} {ak b : Bool} {e pre : List Nat} {M : Mm} {K : Int32 → Mm → Prop} (hR : RX c len ak n 0 p 0 [] b q e) (hB : BMr c len ak rw_ M) (hM : MSx rw_ M p 0 pre) (hl : pre.length ≤ p) (hp : p ≤ len) (hbad : b = false → BADm rw_ K q M) (hok : b = true → OKm rw_ K q 0 (pre ++ e) M) : f_X11_some_top S0 142 M K := by
  unfold f_X11_some_top
  have h60 := hB.2.2.1
  exact (md_RX n 0 p 0 [] b q e hR).1 (by omega) 190 pre M K (by omega) hB hM hl hp (by omega) hbad hok
