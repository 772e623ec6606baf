/-! reading an expression: the class's loop -/
theorem re_close {c : Nat → Nat} {len P p d x4 : Nat} {ak : Bool} {st ops out : List Nat} {M : Mm} {EK : Int32 → Int32 → Mm → Prop} {K : Int32 → Mm → Prop} (hB : BRx c len P M) (h : CSx P M p ((st ++ [1039]) ++ ops.reverse) out) (hp : p ≤ len) (hx4 : x4 ≤ p) (h41 : gcx c len p = 41) (hd : d ≤ 5) (ho : ∀ x ∈ ops, x < 1100 ∧ 1 ≤ rkx x) (hl : out.length + ops.length + st.length < 60) (HE : ∀ M', Fr (dEx P) eN M M' → CSx P M' (p + 1) st (out ++ ops) → REx ak EK K d 0 (x4 + 1) M') : REx ak EK K (d + 1) 0 x4 M := by
  have h60 := hB.2.2.2.2.1
  have hP := pr_le P hB.2.2.1
  have hn := pr_n3 P hB.2.2.1
  unfold REx
  rw [show 62 - x4 = (62 - (x4 + 1)) + 1 by omega]
  unfold f_X6_readExpression_L12 f_X6_readExpression_B12
  refine ⟨fun z => absurd (show nI 60 < nI x4 from z) (nI_nlt (by omega) (by omega)), fun _ => ⟨fun _ => ?_, fun z => absurd rfl z⟩⟩
  refine look_ok hB h.1 hp ?_
  rw [show (41 : Int32) = nI 41 from rfl, lkx_eq hB (by omega)]
  refine ⟨fun _ => ⟨fun y => absurd (show nI (d + 1) ≤ nI 0 from y) (nI_ge (by omega) (by omega)), fun _ => ?_⟩, fun z => absurd h41 z⟩
  simp only [forall_eq]
  rw [h.1, nI_1, pk_m1]
  have f1 : Fr (dEx P) eN M (stI M 1 3 (nI (p + 1))) := fEx_pos (Fr_refl _ _ _)
  have h1 := CS_pos (q := p + 1) hB.2.2.1 h
  refine release_ok (r := 1) (st := st ++ [1039]) (by omega) (by omega) (Top_1 (by omega) (by decide)) (BRx_fr f1 hB) h1 ho (by simp; omega) (fun M2 f2 h2 => ?_)
  have e5 : M2.1 1 5 = nI (st.length + 1) := by rw [h2.2.1]; simp
  rw [e5, nI_pred, nI_1]
  have f3 : Fr (dEx P) eN M (stI M2 1 5 (nI st.length)) := Fr_I (by unfold dEx; simp) (Fr_tr f1 f2)
  refine HE _ f3 ⟨by rw [rI_ne (by omega)]; exact h2.1, rI_eq, fun j hj => ?_, by rw [rI_ne (by omega)]; exact h2.2.2.2.1, fun j hj => by rw [rI_ne (by omega)]; exact h2.2.2.2.2 j hj⟩
  rw [rI_ne (by omega), h2.2.2.1 j (by simp; omega), gd_lt hj]
/-- at an operand's place -/
theorem re_one {c : Nat → Nat} {len P p d x4 : Nat} {ak : Bool} {st out : List Nat} {M : Mm} {EK : Int32 → Int32 → Mm → Prop} {K : Int32 → Mm → Prop} (hB : BRx c len P M) (h : CSx P M p st out) (hp : p ≤ len) (hx4 : x4 ≤ p) (hd : d ≤ 5) (hl : out.length + st.length ≤ p)
    (hun : unx (gcx c len p) ≠ 0 → ∀ M', Fr (dEx P) eN M M' → CSx P M' (p + 1) (st ++ [unx (gcx c len p)]) out → REx ak EK K d 1 (x4 + 1) M') (hop : gcx c len p = 40 → d ≠ 5 → ∀ M', Fr (dEx P) eN M M' → CSx P M' (p + 1) (st ++ [1039]) out → REx ak EK K (d + 1) 1 (x4 + 1) M') (hdeep : gcx c len p = 40 → d = 5 → K 0 M)
    (h1 : dgx (gcx c len p) = true → ∀ M', Fr (dEx P) eN M M' → CSx P M' (nmv c len 3 p 0).2 st (out ++ [(nmv c len 3 p 0).1]) → REx ak EK K d 0 (x4 + 1) M') (h2 : thx ak (gcx c len p) ≠ 0 → ∀ M', Fr (dEx P) eN M M' → CSx P M' (p + 1) st (out ++ [thx ak (gcx c len p)]) → REx ak EK K d 0 (x4 + 1) M') (h0 : unx (gcx c len p) = 0 → gcx c len p ≠ 40 → dgx (gcx c len p) = false → thx ak (gcx c len p) = 0 → K 0 M) : REx ak EK K d 1 x4 M := by
  have h60 := hB.2.2.2.2.1
  unfold REx at *
  rw [show 62 - x4 = (62 - (x4 + 1)) + 1 by omega]
  unfold f_X6_readExpression_L12 f_X6_readExpression_B12
  refine ⟨fun z => absurd (show nI 60 < nI x4 from z) (nI_nlt (by omega) (by omega)), fun _ => ⟨fun z => absurd z (by decide), fun _ => ?_⟩⟩
  refine look_ok hB h.1 hp ?_
  have hst : st.length < 60 ∨ p = len := by
    by_cases e : p = len
    · exact Or.inr e
    · exact Or.inl (by omega)
  have e40 : (lkx c len p = (40 : Int32)) ↔ gcx c len p = 40 := lkx_eq (x := 40) hB (by omega)
  rw [e40]
  have j39 : (gcx c len p = 40 → d ≠ 5) → f_X6_readExpression_J39 S0 1 (akI ak) (nI d) (nI 1) (nI x4) M (fun x2 x3 x4_1 M => f_X6_readExpression_L12 S0 1 (akI ak) EK K (62 - (x4 + 1)) x2 x3 x4_1 M) K := by
    intro h5
    unfold f_X6_readExpression_J39
    refine look_ok hB h.1 hp ?_
    rw [e40]
    refine ⟨fun z => ?_, fun z => ?_⟩
    · unfold f_X6_readExpression_J54
      simp only [forall_eq, nI_1]
      refine ahead_ok hB h hst hp (fun hu => absurd (un_c hu).2 (by omega)) (fun _ M1 f1 c1 => ⟨fun q => absurd q (by decide), fun _ => hop z (h5 z) M1 f1 c1⟩) (fun _ q => absurd z q)
    · unfold f_X6_readExpression_J54
      simp only [forall_eq, nI_1]
      rw [show nI d + (0 : Int32) = nI d from Int32.add_zero _]
      refine ahead_ok hB h hst hp (fun hu M1 f1 c1 => ⟨fun q => absurd q (by decide), fun _ => hun hu M1 f1 c1⟩) (fun q => absurd q z) (fun hu _ => ⟨fun _ => ?_, fun q => absurd rfl q⟩)
      exact thing_ok hB h (by omega) hp (fun hg M1 f1 c1 => ⟨fun q => absurd q (by decide), fun _ => h1 hg M1 f1 c1⟩) (fun ht M1 f1 c1 => ⟨fun q => absurd q (by decide), fun _ => h2 ht M1 f1 c1⟩) (fun hg ht => ⟨fun _ => h0 hu z hg ht, fun q => absurd rfl q⟩)
  refine ⟨fun z => ⟨fun y => hdeep z ((nI_eq (by omega) (by omega)).mp (show nI d = nI 5 from y)), fun y => j39 (fun _ q => y (by rw [q]; rfl))⟩, fun z => j39 (fun q => absurd q z)⟩
/-- what comes behind is no sign that binds as kk's -/
def nxc (c : Nat → Nat) (len kk q : Nat) (ops : List Nat) : Prop := (kk ≤ 3 → gcx c len q ≠ 43 ∧ gcx c len q ≠ 45) ∧ (kk ≤ 2 → cmpx (gcx c len q) = true → ∃ o1 j o2, ops = o1 ++ j :: o2 ∧ j < 1100 ∧ rkx j = 3 ∧ ∀ x ∈ o1, x < 1100 ∧ 4 ≤ rkx x) ∧ (kk ≤ 1 → gcx c len q ≠ 38) ∧ (kk ≤ 0 → gcx c len q ≠ 124)
theorem nxc_app {c : Nat → Nat} {len kk q : Nat} {ops o : List Nat} (h : nxc c len kk q ops) : nxc c len kk q (ops ++ o) := by
  refine ⟨h.1, fun a b => ?_, h.2.2⟩
  obtain ⟨o1, j, o2, e, r⟩ := h.2.1 a b
  exact ⟨o1, j, o2 ++ o, by rw [e]; simp, r⟩
def OKx (c : Nat → Nat) (len P : Nat) (ak : Bool) (EK : Int32 → Int32 → Mm → Prop) (K : Int32 → Mm → Prop) (kk d q : Nat) (e st out : List Nat) (M : Mm) : Prop := ∀ (M' : Mm) (ops e1 : List Nat) (x4 : Nat), Fr (dEx P) eN M M' → e = e1 ++ ops → (∀ x ∈ ops, x < 1100 ∧ kk + 1 ≤ rkx x) → nxc c len kk q ops → CSx P M' q (st ++ ops.reverse) (out ++ e1) → x4 ≤ q → REx ak EK K d 0 x4 M'
def BADx (P : Nat) (K : Int32 → Mm → Prop) (q : Nat) (M : Mm) : Prop := ∀ M', Fr (dEx P) eN M M' → M'.1 1 3 = nI q → K 0 M'
def EKb (c : Nat → Nat) (len P : Nat) (EK : Int32 → Int32 → Mm → Prop) (K : Int32 → Mm → Prop) : Prop := ∀ (dd p : Nat) (M : Mm) (st ops out : List Nat), 1 ≤ dd → dd ≤ 5 → BRx c len P M → CSx P M p (st ++ ops.reverse) out → (∀ x ∈ ops, x < 1100 ∧ 1 ≤ rkx x) → Topx st 1 → out.length + ops.length + st.length ≤ 60 → BADx P K p M → EK (nI dd) 0 M
theorem OK_fr {c : Nat → Nat} {len P : Nat} {ak : Bool} {EK : Int32 → Int32 → Mm → Prop} {K : Int32 → Mm → Prop} {kk d q : Nat} {e st out : List Nat} {M M' : Mm} (f : Fr (dEx P) eN M M') (h : OKx c len P ak EK K kk d q e st out M) : OKx c len P ak EK K kk d q e st out M' := fun M2 ops e1 x4 f2 => h M2 ops e1 x4 (Fr_tr f f2)
theorem BAD_fr {P q : Nat} {K : Int32 → Mm → Prop} {M M' : Mm} (f : Fr (dEx P) eN M M') (h : BADx P K q M) : BADx P K q M' := fun M2 f2 => h M2 (Fr_tr f f2)
theorem cl_RX {c : Nat → Nat} {len P : Nat} {ak : Bool} {EK : Int32 → Int32 → Mm → Prop} {K : Int32 → Mm → Prop} (hE : EKb c len P EK K) : ∀ (n k p d : Nat) (a : List Nat) (b : Bool) (q : Nat) (e : List Nat), RX c len ak n k p d a b q e →
    (k < 10 → ∀ (st out : List Nat) (x4 : Nat) (M : Mm), BRx c len P M → CSx P M p st out → out.length + st.length ≤ p → p ≤ len → x4 ≤ p → d ≤ 5 → (k ≤ 3 → Topx st (k + 1)) → (k = 5 → unx (gcx c len p) = 0) → (b = false → BADx P K q M) → (b = true → OKx c len P ak EK K k d q e st out M) → REx ak EK K d 1 x4 M) ∧
    (∀ w, LPx w → k = w + 10 → ∀ (st out ops e1 : List Nat) (x4 : Nat) (M : Mm), a = e1 ++ ops → BRx c len P M → CSx P M p (st ++ ops.reverse) (out ++ e1) → out.length + a.length + st.length ≤ p → p ≤ len → x4 ≤ p → d ≤ 5 → Topx st (w + 1) → (∀ x ∈ ops, x < 1100 ∧ w + 1 ≤ rkx x) → nxc c len (w + 1) p ops → (b = false → BADx P K q M) → (b = true → OKx c len P ak EK K w d q e st out M) → REx ak EK K d 0 x4 M)
  | 0, _, _, _, _, _, _, _, h => h.elim
  | n + 1, k, p, d, a, b, q, e, h => by
    have ih := cl_RX (c := c) (len := len) (P := P) (ak := ak) hE n
    unfold RX at h
    rcases h with ⟨lp, ha, h⟩ | ⟨w, lp, hk, h⟩ | ⟨hk, ha, h⟩ | ⟨hk, ha, h⟩ | ⟨hk, ha, h⟩
    · -- a row of signs
      have k3 : k ≤ 3 := by rcases lp with rfl | rfl | rfl <;> omega
      refine ⟨fun _ st out x4 M hB hC hl hp hx hd ht h5u hbad hok => ?_, fun w _ hw => absurd hw (by omega)⟩
      rcases h with ⟨hb, e0, h⟩ | ⟨q1, e1, h1, h2⟩
      · exact (ih _ _ _ _ _ _ _ h).1 (by omega) st out x4 M hB hC hl hp hx hd (fun _ => Top_mono (by omega) (ht (by omega))) (fun z => absurd z (by omega)) (fun _ => hbad hb) (fun z => absurd z (by decide))
      · have bd := (RX_bd _ _ _ _ _ _ _ _ h1).1 (by omega) rfl
        refine (ih _ _ _ _ _ _ _ h1).1 (by omega) st out x4 M hB hC hl hp hx hd (fun _ => Top_mono (by omega) (ht (by omega))) (fun z => absurd z (by omega)) (fun z => absurd z (by decide)) (fun _ M1 ops e1' x4' f1 ee ho hn c1 hx' => ?_)
        have hle : e1.length = e1'.length + ops.length := by rw [ee]; simp
        exact (ih _ _ _ _ _ _ _ h2).2 k lp rfl st out ops e1' x4' M1 ee (BRx_fr f1 hB) c1 (by omega) bd.2.1 hx' hd (ht (by omega)) (fun x hx => ⟨(ho x hx).1, by have := (ho x hx).2; omega⟩) hn (fun hb => BAD_fr f1 (hbad hb)) (fun hb => OK_fr f1 (hok hb))
    · -- goes on
      have w3 : w ≤ 3 := by rcases lp with rfl | rfl | rfl <;> omega
      refine ⟨fun z => absurd z (by omega), fun w' _ hw' st out ops e1 x4 M ea hB hC hl hp hx hd ht ho hn hbad hok => ?_⟩
      have ew : w' = w := by omega
      subst ew
      have hle : a.length = e1.length + ops.length := by rw [ea]; simp
      rcases h with ⟨hop, hb, hq, he⟩ | ⟨hop, h⟩
      · subst hq; subst he
        refine hok hb M ops e1 x4 (Fr_refl _ _ _) ea ho ⟨fun z => ?_, fun z => hn.2.1 ?_, fun z => ?_, fun z => ?_⟩ hC hx
        · rcases lp with rfl | rfl | rfl
          · exact hn.1 (by omega)
          · exact hn.1 (by omega)
          · have := hop; simp [opw] at this; exact this
        · rcases lp with rfl | rfl | rfl <;> omega
        · rcases lp with rfl | rfl | rfl
          · exact hn.2.2.1 (by omega)
          · have := hop; simp [opw] at this; exact this
          · omega
        · rcases lp with rfl | rfl | rfl
          · have := hop; simp [opw] at this; exact this
          · omega
          · omega
      · have hpl := op_lt lp hop
        have h60 := hB.2.2.2.2.1
        obtain ⟨hj1, hj2⟩ := jt_op lp hop
        have hjl : jt (gcx c len p) < 1100 := by omega
        have w2 : w' ≠ 2 := by rcases lp with rfl | rfl | rfl <;> omega
        have step : ∀ (Q : Mm → Prop), True → (∀ M', Fr (dEx P) eN M M' → CSx P M' (p + 1) (st ++ [jt (gcx c len p)]) (out ++ a) → REx ak EK K d 1 (x4 + 1) M') → REx ak EK K d 0 x4 M := by
          intro _ _ hQ
          refine re_joint hB hC hp hx (by omega) ?_
          refine hj_ok hjl (by omega) (by omega) (by rw [hj2]; exact ht) hB hC (fun x hx => by rw [hj2]; exact ho x hx) (by simp; omega) (fun M1 f1 c1 => ⟨fun z => absurd z (by decide), fun _ => ?_⟩)
          rw [List.append_assoc, ← ea] at c1
          exact hQ M1 f1 c1
        have lo : (out ++ a).length + (st ++ [jt (gcx c len p)]).length ≤ p + 1 := by simp; omega
        have tt : w' + 1 ≤ 3 → Topx (st ++ [jt (gcx c len p)]) (w' + 1 + 1) := fun _ => Top_1 hjl (by omega)
        rcases h with ⟨hb, e0, h⟩ | ⟨q1, e2, h1, h2⟩
        · refine step (fun _ => True) trivial (fun M1 f1 c1 => ?_)
          exact (ih _ _ _ _ _ _ _ h).1 (by omega) _ _ (x4 + 1) M1 (BRx_fr f1 hB) c1 lo (by omega) (by omega) hd tt (fun z => absurd z (by omega)) (fun _ => BAD_fr f1 (hbad hb)) (fun z => absurd z (by decide))
        · have bd := (RX_bd _ _ _ _ _ _ _ _ h1).1 (by omega) rfl
          refine step (fun _ => True) trivial (fun M1 f1 c1 => ?_)
          refine (ih _ _ _ _ _ _ _ h1).1 (by omega) _ _ (x4 + 1) M1 (BRx_fr f1 hB) c1 lo (by omega) (by omega) hd tt (fun z => absurd z (by omega)) (fun z => absurd z (by decide)) (fun _ M2 ops2 e3 x4' f2 ee ho2 hn2 c2 hx' => ?_)
          have f12 := Fr_tr f1 f2
          have hle2 : e2.length = e3.length + ops2.length := by rw [ee]; simp
          refine (ih _ _ _ _ _ _ _ h2).2 w' lp rfl st out (ops2 ++ [jt (gcx c len p)]) (a ++ e3) x4' M2 (by rw [ee]; simp) (BRx_fr f12 hB) ?_ ?_ bd.2.1 hx' hd ht (fun x hx => ?_) (nxc_app hn2) (fun hb => BAD_fr f12 (hbad hb)) (fun hb => OK_fr f12 (hok hb))
          · have := c2
            rw [List.append_assoc] at this
            simpa [List.append_assoc] using this
          · simp only [List.length_append, List.length_cons, List.length_nil]; omega
          · rw [List.mem_append, List.mem_singleton] at hx
            rcases hx with hx | hx
            · exact ⟨(ho2 x hx).1, by have := (ho2 x hx).2; omega⟩
            · rw [hx]; exact ⟨hjl, by omega⟩
    · -- compared
      subst hk
      refine ⟨fun _ st out x4 M hB hC hl hp hx hd ht h5u hbad hok => ?_, fun w _ hw => absurd hw (by omega)⟩
      have ht3 := ht (by omega)
      rcases h with ⟨hb, e0, h⟩ | ⟨q1, e1, h1, h⟩
      · exact (ih _ _ _ _ _ _ _ h).1 (by omega) st out x4 M hB hC hl hp hx hd (fun _ => Top_mono (by omega) ht3) (fun z => absurd z (by omega)) (fun _ => hbad hb) (fun z => absurd z (by decide))
      · have bd := (RX_bd _ _ _ _ _ _ _ _ h1).1 (by omega) rfl
        refine (ih _ _ _ _ _ _ _ h1).1 (by omega) st out x4 M hB hC hl hp hx hd (fun _ => Top_mono (by omega) ht3) (fun z => absurd z (by omega)) (fun z => absurd z (by decide)) (fun _ M1 ops e1' x4' f1 ee ho hn c1 hx' => ?_)
        have hle : e1.length = e1'.length + ops.length := by rw [ee]; simp
        rcases h with ⟨hop, hb, hq, he⟩ | ⟨hop, h⟩
        · subst hq; subst he
          refine hok hb M1 ops e1' x4' f1 ee (fun x hx => ⟨(ho x hx).1, by have := (ho x hx).2; omega⟩) ⟨fun _ => hn.1 (by omega), fun _ z => by rw [hop] at z; exact absurd z (by decide), fun z => absurd z (by omega), fun z => absurd z (by omega)⟩ c1 hx'
        · have hpl := cmp_lt hop
          have h60 := hB.2.2.2.2.1
          obtain ⟨hj1, hj2⟩ := jt_cmp hop
          have hjl : jt (gcx c len q1) < 1100 := by omega
          have hB1 := BRx_fr f1 hB
          have step : (∀ M', Fr (dEx P) eN M1 M' → CSx P M' (q1 + 1) (st ++ [jt (gcx c len q1)]) (out ++ e1) → REx ak EK K d 1 (x4' + 1) M') → REx ak EK K d 0 x4' M1 := by
            intro hQ
            refine re_joint hB1 c1 bd.2.1 hx' (by omega) ?_
            refine hj3_ok hjl hj2 ht3 hB1 c1 (fun x hx => ho x hx) (by simp; omega) (fun M2 f2 c2 => ⟨fun z => absurd z (by decide), fun _ => ?_⟩)
            rw [List.append_assoc, ← ee] at c2
            exact hQ M2 f2 c2
          have lo : (out ++ e1).length + (st ++ [jt (gcx c len q1)]).length ≤ q1 + 1 := by simp; omega
          rcases h with ⟨hb, e0, h⟩ | ⟨e2, hb, h2, he⟩
          · refine step (fun M2 f2 c2 => ?_)
            exact (ih _ _ _ _ _ _ _ h).1 (by omega) _ _ (x4' + 1) M2 (BRx_fr f2 hB1) c2 lo (by omega) (by omega) hd (fun _ => Top_1 hjl (by omega)) (fun z => absurd z (by omega)) (fun _ => BAD_fr (Fr_tr f1 f2) (hbad hb)) (fun z => absurd z (by decide))
          · refine step (fun M2 f2 c2 => ?_)
            refine (ih _ _ _ _ _ _ _ h2).1 (by omega) _ _ (x4' + 1) M2 (BRx_fr f2 hB1) c2 lo (by omega) (by omega) hd (fun _ => Top_1 hjl (by omega)) (fun z => absurd z (by omega)) (fun z => absurd z (by decide)) (fun _ M3 ops2 e3 x5 f3 ee2 ho2 hn2 c3 hx5 => ?_)
            refine hok hb M3 (ops2 ++ [jt (gcx c len q1)]) (e1 ++ e3) x5 (Fr_tr f1 (Fr_tr f2 f3)) (by rw [he, ee2]; simp) (fun x hx => ?_) ⟨fun _ => hn2.1 (by omega), fun _ _ => ⟨ops2, _, [], rfl, hjl, hj2, fun x hx => ho2 x hx⟩, fun z => absurd z (by omega), fun z => absurd z (by omega)⟩ ?_ hx5
            · rw [List.mem_append, List.mem_singleton] at hx
              rcases hx with hx | hx
              · exact ⟨(ho2 x hx).1, by have := (ho2 x hx).2; omega⟩
              · rw [hx]; exact ⟨hjl, by omega⟩
            · have := c3
              rw [List.append_assoc] at this
              simpa [List.append_assoc] using this
    · -- ahead
      subst hk
      refine ⟨fun _ st out x4 M hB hC hl hp hx hd ht h5u hbad hok => ?_, fun w _ hw => absurd hw (by omega)⟩
      rcases h with ⟨hu, h⟩ | ⟨hu, h⟩
      · have hpl := un_lt hu
        obtain ⟨u1, u2⟩ := un_c hu
        have hul : unx (gcx c len p) < 1100 := by omega
        have hur : rkx (unx (gcx c len p)) = 5 := by rcases u1 with z | z <;> rw [z] <;> rfl
        have nth : thx ak (gcx c len p) = 0 := by
          apply Classical.byContradiction
          intro z
          exact hu (th_c z).2.2.2.2.2
        have ndg : dgx (gcx c len p) = false := by rcases u2 with z | z <;> rw [z] <;> rfl
        have lo : out.length + (st ++ [unx (gcx c len p)]).length ≤ p + 1 := by simp; omega
        refine re_one hB hC hp hx hd hl (fun _ M1 f1 c1 => ?_) (fun z => by omega) (fun z => by omega) (fun z => by rw [ndg] at z; exact absurd z (by decide)) (fun z => absurd nth z) (fun z => absurd z hu)
        rcases h with ⟨hb, e0, h⟩ | ⟨e1, hb, h1, he⟩
        · exact (ih _ _ _ _ _ _ _ h).1 (by omega) _ _ (x4 + 1) M1 (BRx_fr f1 hB) c1 lo (by omega) (by omega) hd (fun z => absurd z (by omega)) (fun z => absurd z (by omega)) (fun _ => BAD_fr f1 (hbad hb)) (fun z => absurd z (by decide))
        · refine (ih _ _ _ _ _ _ _ h1).1 (by omega) _ _ (x4 + 1) M1 (BRx_fr f1 hB) c1 lo (by omega) (by omega) hd (fun z => absurd z (by omega)) (fun z => absurd z (by omega)) (fun z => absurd z (by decide)) (fun _ M3 ops2 e3 x5 f3 ee2 ho2 hn2 c3 hx5 => ?_)
          refine hok hb M3 (ops2 ++ [unx (gcx c len p)]) e3 x5 (Fr_tr f1 f3) (by rw [he, ee2]; simp) (fun x hx => ?_) ⟨fun z => absurd z (by omega), fun z => absurd z (by omega), fun z => absurd z (by omega), fun z => absurd z (by omega)⟩ ?_ hx5
          · rw [List.mem_append, List.mem_singleton] at hx
            rcases hx with hx | hx
            · exact ho2 x hx
            · rw [hx]; exact ⟨hul, by omega⟩
          · have := c3
            rw [List.append_assoc] at this
            simpa [List.append_assoc] using this
      · refine (ih _ _ _ _ _ _ _ h).1 (by omega) st out x4 M hB hC hl hp hx hd (fun z => absurd z (by omega)) (fun _ => hu) hbad (fun hb M3 ops2 e3 x5 f3 ee2 ho2 hn2 c3 hx5 => ?_)
        exact hok hb M3 ops2 e3 x5 f3 ee2 (fun x hx => ⟨(ho2 x hx).1, by have := (ho2 x hx).2; omega⟩) ⟨fun z => absurd z (by omega), fun z => absurd z (by omega), fun z => absurd z (by omega), fun z => absurd z (by omega)⟩ c3 hx5
    · -- a thing
      subst hk
      refine ⟨fun _ st out x4 M hB hC hl hp hx hd ht h5u hbad hok => ?_, fun w _ hw => absurd hw (by omega)⟩
      have h60 := hB.2.2.2.2.1
      have fin : ∀ M1 q' v x5, b = true → q = q' → e = [v] → Fr (dEx P) eN M M1 → CSx P M1 q' st (out ++ [v]) → x5 ≤ q' → REx ak EK K d 0 x5 M1 := by
        intro M1 q' v x5 hb hq he f1 c1 hx5
        subst hq
        refine hok hb M1 [] [v] x5 f1 (by rw [he]; rfl) (fun x hx => absurd hx (by simp)) ⟨fun z => absurd z (by omega), fun z => absurd z (by omega), fun z => absurd z (by omega), fun z => absurd z (by omega)⟩ (by simpa using c1) hx5
      have hnun := h5u rfl
      rcases h with ⟨hg, hb, hq, he⟩ | ⟨hg, hb, hq, he⟩ | ⟨n1, n2, n3, hb, hq⟩ | ⟨hg, h5, hb, hq⟩ | ⟨hg, h5, h⟩
      · have hg' : 48 ≤ gcx c len p ∧ gcx c len p ≤ 57 := by simpa [dgx] using hg
        have nun : unx (gcx c len p) = 0 := by unfold unx; rw [if_neg (by omega), if_neg (by omega)]
        have nth : thx ak (gcx c len p) = 0 := by
          apply Classical.byContradiction
          intro z
          have := (th_c z).2.2.2.1
          rw [hg] at this; exact absurd this (by decide)
        have bd := nmv_bd1 hg
        exact re_one hB hC hp hx hd hl (fun z => absurd nun z) (fun z => by omega) (fun z => by omega) (fun _ M1 f1 c1 => fin M1 _ _ _ hb hq he f1 c1 (by omega)) (fun z => absurd nth z) (fun _ _ z => by rw [hg] at z; exact absurd z (by decide))
      · have hc := th_c hg
        exact re_one hB hC hp hx hd hl (fun z => absurd hc.2.2.2.2.2 z) (fun z => absurd z hc.2.2.2.2.1) (fun z => absurd z hc.2.2.2.2.1) (fun z => by rw [hc.2.2.2.1] at z; exact absurd z (by decide)) (fun _ M1 f1 c1 => fin M1 _ _ _ hb hq he f1 c1 (by omega)) (fun _ _ _ z => absurd z hg)
      · subst hq
        exact re_one hB hC hp hx hd hl (fun z => absurd (h5u rfl) z) (fun z => absurd z n3) (fun z => absurd z n3) (fun z => by rw [n1] at z; exact absurd z (by decide)) (fun z => absurd n2 z) (fun _ _ _ _ => hbad hb M (Fr_refl _ _ _) hC.1)
      · subst hq
        exact re_one hB hC hp hx hd hl (fun z => absurd (un_c z).2 (by omega)) (fun _ z => absurd h5 z) (fun _ _ => hbad hb M (Fr_refl _ _ _) hC.1) (fun z => by rw [hg] at z; exact absurd z (by decide)) (fun z => absurd hg (th_c z).2.2.2.2.1) (fun _ z => absurd hg z)
      · have hpl : p < len := gcx_lt (c := c) (by omega)
        have lo : out.length + (st ++ [1039]).length ≤ p + 1 := by simp; omega
        refine re_one hB hC hp hx hd hl (fun z => absurd (un_c z).2 (by omega)) (fun _ _ M1 f1 c1 => ?_) (fun _ z => absurd z h5) (fun z => by rw [hg] at z; exact absurd z (by decide)) (fun z => absurd hg (th_c z).2.2.2.2.1) (fun _ z => absurd hg z)
        have hB1 := BRx_fr f1 hB
        rcases h with ⟨hb, e0, h⟩ | ⟨q1, e1, h1, h⟩
        · exact (ih _ _ _ _ _ _ _ h).1 (by omega) _ _ (x4 + 1) M1 hB1 c1 lo (by omega) (by omega) (by omega) (fun _ => Top_1 (by omega) (by decide)) (fun z => absurd z (by omega)) (fun _ => BAD_fr f1 (hbad hb)) (fun z => absurd z (by decide))
        · have bd := (RX_bd _ _ _ _ _ _ _ _ h1).1 (by omega) rfl
          refine (ih _ _ _ _ _ _ _ h1).1 (by omega) _ _ (x4 + 1) M1 hB1 c1 lo (by omega) (by omega) (by omega) (fun _ => Top_1 (by omega) (by decide)) (fun z => absurd z (by omega)) (fun z => absurd z (by decide)) (fun _ M2 ops e2 x5 f2 ee ho hn c2 hx5 => ?_)
          have hle : e1.length = e2.length + ops.length := by rw [ee]; simp
          have hB2 := BRx_fr f2 hB1
          rcases h with ⟨h41, hb, hq, he⟩ | ⟨h41, hb, hq⟩
          · have hql : q1 < len := gcx_lt (c := c) (by omega)
            refine re_close hB2 c2 bd.2.1 hx5 h41 hd (fun x hx => ⟨(ho x hx).1, (ho x hx).2⟩) (by simp; omega) (fun M3 f3 c3 => ?_)
            refine hok hb M3 [] e1 (x5 + 1) (Fr_tr f1 (Fr_tr f2 f3)) (by rw [he]; simp) (fun x hx => absurd hx (by simp)) ⟨fun z => absurd z (by omega), fun z => absurd z (by omega), fun z => absurd z (by omega), fun z => absurd z (by omega)⟩ ?_ (by omega)
            rw [hq]
            rw [List.append_assoc, ← ee] at c3
            simpa using c3
          · subst hq
            by_cases hj : jt (gcx c len q) = 0
            · refine re_end hB2 c2 bd.2.1 hx5 hj (fun z => absurd z h41) ?_
              exact hE (d + 1) q M2 (st ++ [1039]) ops (out ++ e2) (by omega) (by omega) hB2 c2 (fun x hx => ho x hx) (Top_1 (by omega) (by decide)) (by simp; omega) (BAD_fr (Fr_tr f1 f2) (hbad hb))
            · have hcm : cmpx (gcx c len q) = true := by
                have n1 := hn.1 (by omega)
                have n2 := hn.2.2.1 (by omega)
                have n3 := hn.2.2.2 (by omega)
                have : gcx c len q = 60 ∨ gcx c len q = 61 ∨ gcx c len q = 62 := by
                  unfold jt at hj
                  rw [if_neg n2, if_neg n1.1, if_neg n1.2] at hj
                  by_cases y1 : gcx c len q = 60
                  · exact Or.inl y1
                  · by_cases y2 : gcx c len q = 61
                    · exact Or.inr (Or.inl y2)
                    · by_cases y3 : gcx c len q = 62
                      · exact Or.inr (Or.inr y3)
                      · rw [if_neg y1, if_neg y2, if_neg y3, if_neg n3] at hj; exact absurd rfl hj
                simp only [cmpx, decide_eq_true_eq]; exact this
              obtain ⟨o1, j, o2, eo, hj1, hj2, hj3⟩ := hn.2.1 (by omega) hcm
              have hql := cmp_lt hcm
              obtain ⟨hk1, hk2⟩ := jt_cmp hcm
              refine re_joint hB2 c2 bd.2.1 hx5 hj ?_
              have c2' : CSx P M2 q ((st ++ [1039] ++ o2.reverse ++ [j]) ++ o1.reverse) (out ++ e2) := by
                rw [eo] at c2
                simpa [List.append_assoc] using c2
              have hlo : ops.length = o1.length + o2.length + 1 := by rw [eo]; simp; omega
              refine hj3_bad (by omega) hk2 hj1 hj2 hB2 c2' hj3 (by simp; omega) (fun M3 f3 c3 => ⟨fun _ => ?_, fun z => absurd rfl z⟩)
              exact hbad hb M3 (Fr_tr f1 (Fr_tr f2 f3)) c3
/-- the class reads an expression -/
theorem expr_ok {c : Nat → Nat} {len P p n q : Nat} {ak b : Bool} {out e : List Nat} {M : Mm} {K : Int32 → Mm → Prop} (hR : RX c len ak n 0 p 0 [] b q e) (hB : BRx c len P M) (hp3 : M.1 1 3 = nI p) (h7 : M.1 P 7 = nI out.length) (hout : ∀ j, j < out.length → M.1 (P + 5) j = nI (out.getD j 0)) (hl : out.length ≤ p) (hp : p ≤ len)
    (hbad : ∀ M', Fr (dEx P) eN M M' → M'.1 1 3 = nI q → (b = true → cmpx (gcx c len q) = true) → K 0 M') (hok : b = true → ∀ M', Fr (dEx P) eN M M' → M'.1 1 3 = nI q → M'.1 P 7 = nI (out ++ e).length → (∀ j, j < (out ++ e).length → M'.1 (P + 5) j = nI ((out ++ e).getD j 0)) → K 1 M') : f_X6_readExpression S0 1 (akI ak) M K := by
  have hP := pr_le P hB.2.2.1
  have hn := pr_n3 P hB.2.2.1
  have h60 := hB.2.2.2.2.1
  unfold f_X6_readExpression
  simp only [forall_eq]
  have f0 : Fr (dEx P) eN M (stI M 1 5 0) := Fr_I (by unfold dEx; simp) (Fr_refl _ _ _)
  have c0 : CSx P (stI M 1 5 0) p [] out := ⟨by rw [rI_ne (by omega)]; exact hp3, rI_eq, fun j hj => absurd hj (by simp), by rw [rI_ne (by omega)]; exact h7, fun j hj => by rw [rI_ne (by omega)]; exact hout j hj⟩
  have bd := RX_bd _ _ _ _ _ _ _ _ hR
  refine ⟨62, ?_⟩
  generalize hEK : (fun (v38 v39 : Int32) (m40 : Mm) => f_X6_release S0 1 (1 : Int32) m40 (fun m41 => ((v38 = 0 → ((v39 = 0 → K (1 : Int32) m41) ∧ (¬ v39 = 0 → K (0 : Int32) m41))) ∧ (¬ v38 = 0 → K (0 : Int32) m41)))) = EK
  have hE : EKb c len P EK K := by
    intro dd p' M' st ops out' h1 h2 hB' hC' ho ht hl' hbd
    rw [← hEK]
    refine release_ok (r := 1) (by omega) (by omega) ht hB' hC' ho hl' (fun M1 f1 c1 => ⟨fun z => absurd ((nI_eq (by omega) (by omega)).mp (show nI dd = nI 0 from z)) (by omega), fun _ => hbd M1 f1 c1.1⟩)
  have main := (cl_RX hE n 0 p 0 [] b q e hR).1 (by omega) [] out 0 (stI M 1 5 0) (BRx_fr f0 hB) c0 (by simp; exact hl) hp (by omega) (by omega) (fun _ => Or.inl rfl) (fun z => absurd z (by omega)) (fun hb M1 f1 c1 => hbad M1 (Fr_tr f0 f1) c1 (fun z => by rw [hb] at z; exact absurd z (by decide))) (fun hb M1 ops e1 x4 f1 ee ho hnx c1 hx4 => ?_)
  · exact main
  · have bdt := bd.1 (by omega) hb
    have f01 := Fr_tr f0 f1
    have hB1 := BRx_fr f01 hB
    have hle : e.length = e1.length + ops.length := by rw [ee]; simp
    by_cases hj : jt (gcx c len q) = 0
    · refine re_end hB1 c1 bdt.2.1 hx4 hj (fun _ => rfl) ?_
      rw [← hEK]
      refine release_ok (r := 1) (st := []) (ops := ops) (by omega) (by omega) (Or.inl rfl) hB1 c1 (fun x hx => ho x hx) (by simp; omega) (fun M2 f2 c2 => ⟨fun _ => ⟨fun _ => ?_, fun z => absurd rfl z⟩, fun z => absurd rfl z⟩)
      rw [List.append_assoc, ← ee] at c2
      exact hok hb M2 (Fr_tr f01 f2) c2.1 c2.2.2.2.1 c2.2.2.2.2
    · have n1 := hnx.1 (by omega)
      have n2 := hnx.2.2.1 (by omega)
      have n3 := hnx.2.2.2 (by omega)
      have hcm : cmpx (gcx c len q) = true := by
        have : gcx c len q = 60 ∨ gcx c len q = 61 ∨ gcx c len q = 62 := by
          unfold jt at hj
          rw [if_neg n2, if_neg n1.1, if_neg n1.2] at hj
          by_cases y1 : gcx c len q = 60
          · exact Or.inl y1
          · by_cases y2 : gcx c len q = 61
            · exact Or.inr (Or.inl y2)
            · by_cases y3 : gcx c len q = 62
              · exact Or.inr (Or.inr y3)
              · rw [if_neg y1, if_neg y2, if_neg y3, if_neg n3] at hj; exact absurd rfl hj
        simp only [cmpx, decide_eq_true_eq]; exact this
      obtain ⟨o1, j, o2, eo, hj1, hj2, hj3⟩ := hnx.2.1 (by omega) hcm
      have hql := cmp_lt hcm
      obtain ⟨hk1, hk2⟩ := jt_cmp hcm
      refine re_joint hB1 c1 bdt.2.1 hx4 hj ?_
      have c2' : CSx P M1 q ((o2.reverse ++ [j]) ++ o1.reverse) (out ++ e1) := by
        rw [eo] at c1
        simpa [List.append_assoc] using c1
      have hlo : ops.length = o1.length + o2.length + 1 := by rw [eo]; simp; omega
      refine hj3_bad (by omega) hk2 hj1 hj2 hB1 c2' hj3 (by simp; omega) (fun M3 f3 c3 => ⟨fun _ => hbad M3 (Fr_tr f01 f3) c3 (fun _ => hcm), fun z => absurd rfl z⟩)
