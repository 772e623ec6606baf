/-! expressions: what class and model make of a code -/
def ev1 (c : Nat) (x : Int32) : Int32 := if c = 1038 then -x else if x = 0 then 1 else 0
def ev2 (c : Nat) (x y : Int32) : Int32 := if c = 1030 then (if x = 0 ∧ y = 0 then 0 else 1) else if c = 1031 then (if x = 0 ∨ y = 0 then 0 else 1) else if c = 1032 then (if x < y then 1 else 0) else if c = 1033 then (if y < x then 1 else 0) else if c = 1034 then (if x = y then 1 else 0) else if c = 1035 then x + y else x - y
theorem cTwo_cases {c : Nat} (h : cTwo c = true) : c = 1030 ∨ c = 1031 ∨ c = 1032 ∨ c = 1033 ∨ c = 1034 ∨ c = 1035 ∨ c = 1036 := by
  simp only [cTwo, Bool.and_eq_true, decide_eq_true_eq] at h
  omega
theorem or0 (x y : Int32) : (x ||| y = 0) ↔ (x = 0 ∧ y = 0) := by
  constructor
  · intro h
    have h2 : x.toBitVec ||| y.toBitVec = 0#32 := by rw [← Int32.toBitVec_or, h]; rfl
    have := BitVec.or_eq_zero_iff.mp h2
    exact ⟨Int32.toBitVec_inj.mp this.1, Int32.toBitVec_inj.mp this.2⟩
  · rintro ⟨rfl, rfl⟩; rfl
theorem jn_ok {S : Ss} {c : Nat} {x y : Int32} {M : Mm} {K : Int32 → Mm → Prop} (hc : cTwo c = true) (h : K (ev2 c x y) M) : f_X3_joined S (nI c) x y M K := by
  rcases cTwo_cases hc with rfl | rfl | rfl | rfl | rfl | rfl | rfl
  all_goals (simp only [ev2] at h; unfold f_X3_joined)
  all_goals simp [nI] at h ⊢
  all_goals first | exact h | skip
  all_goals (split at h <;> simp_all [← Int32.not_lt, or0])
  rename_i q
  intro a b
  exact (q.elim a b).elim

theorem tr_ok {S : Ss} {x : Int32} {M : Mm} {K : Int32 → Mm → Prop} (h : K (if x = 0 then 0 else 1) M) : f_X11_truth S x M K := by
  unfold f_X11_truth
  split at h <;> simp_all
theorem ac_ok {S : Ss} {c : Nat} {x y : Int32} {M : Mm} {K : Int32 → Mm → Prop} (hc : cTwo c = true) (h : K (ev2 c x y) M) : f_X11_acted S (nI (cmk c) - 2000) x y M K := by
  rcases cTwo_cases hc with rfl | rfl | rfl | rfl | rfl | rfl | rfl
  all_goals (simp only [ev2] at h; unfold f_X11_acted f_X11_acted_J123 f_X11_acted_J122 f_X11_acted_J78 f_X11_acted_J106 f_X11_acted_J92 f_X11_acted_J140 f_X11_acted_J135 f_X11_acted_J123 f_X11_acted_J140 f_X11_truth)
  all_goals simp [nI, cmk] at h ⊢
  all_goals first | exact h | skip
  all_goals (split at h <;> simp_all [← Int32.not_lt])
  rename_i q
  intro a b
  exact (q.elim a b).elim
abbrev F4 : Type := Int32 × Int32 × Int32 × Int32
/-- what a thing is worth in the state (A, B) with the latest step's F -/
def thg (A B : Nat) (F : F4) (c : Nat) : Int32 := if c < 1000 then nI c else if c < 1010 then nI (qS A (c - 1000)) else if c < 1020 then (if qT B (c - 1010) = 0 then nI (qA B (c - 1010)) else 4) else if c = 1020 then F.1 else if c = 1021 then F.2.1 else if c = 1022 then F.2.2.1 else F.2.2.2
/-- the class's moment at q is (A, B, F) -/
def MO (M : Mm) (q A B : Nat) (F : F4) : Prop := A < 2 ^ 64 ∧ B < 2 ^ 40 ∧ M.2.1 q 0 = lN A ∧ M.2.1 q 1 = lN B ∧ M.1 q 2 = F.1 ∧ M.1 q 3 = F.2.1 ∧ M.1 q 4 = F.2.2.1 ∧ M.1 q 5 = F.2.2.2
/-- the model's state is (A, B, F) -/
def MF (M : Mm) (F : F4) : Prop := M.1 142 28 = F.1 ∧ M.1 142 29 = F.2.1 ∧ M.1 142 30 = F.2.2.1 ∧ M.1 142 31 = F.2.2.2
theorem rdS {A : Nat} (k : Nat) (hA : A < 2 ^ 64) (hk : k < 8) : ((lN A).toUInt64 >>> ((nI k * (8 : Int32)).toInt64.toUInt64 &&& Int64.toUInt64 63)).toInt64.toInt32 &&& (255 : Int32) = nI (qS A k) := by
  rw [show (8 : Int32) = nI 8 from rfl, pk_mul, show (255 : Int32) = nI (2 ^ 8 - 1) from rfl, bt_rd (k * 8) 8 hA (by omega) (by omega)]
  unfold qS fld
  rw [Nat.mul_comm]
theorem rd6 {B : Nat} (k w : Nat) (hB : B < 2 ^ 64) (hk : k < 4) (hw : w ≤ 31) : ((lN B).toUInt64 >>> ((nI k * (6 : Int32)).toInt64.toUInt64 &&& Int64.toUInt64 63)).toInt64.toInt32 &&& nI (2 ^ w - 1) = nI (fld B (6 * k) w) := by
  rw [show (6 : Int32) = nI 6 from rfl, pk_mul, bt_rd (k * 6) w hB (by omega) hw]
  unfold fld
  rw [Nat.mul_comm]
theorem rdT {B : Nat} (k : Nat) (hB : B < 2 ^ 64) (hk : k < 4) : ((lN B).toUInt64 >>> (((nI k * (6 : Int32)) + (2 : Int32)).toInt64.toUInt64 &&& Int64.toUInt64 63)).toInt64.toInt32 &&& (15 : Int32) = nI (qT B k) := by
  rw [show (6 : Int32) = nI 6 from rfl, pk_mul, show (2 : Int32) = nI 2 from rfl, nI_add, show (15 : Int32) = nI (2 ^ 4 - 1) from rfl, bt_rd (k * 6 + 2) 4 hB (by omega) (by omega)]
  unfold qT fld
  rw [Nat.mul_comm]
theorem rdL {B : Nat} (k : Nat) (hB : B < 2 ^ 64) (hk : k < 4) : ((lN B).toUInt64 >>> (((24 : Int32) + (nI k * (4 : Int32))).toInt64.toUInt64 &&& Int64.toUInt64 63)).toInt64.toInt32 &&& (15 : Int32) = nI (qL B k) := by
  rw [show (4 : Int32) = nI 4 from rfl, pk_mul, show (24 : Int32) = nI 24 from rfl, nI_add, show (15 : Int32) = nI (2 ^ 4 - 1) from rfl, bt_rd (24 + k * 4) 4 hB (by omega) (by omega)]
  unfold qL fld
  rw [Nat.mul_comm]
theorem fld6 (B k : Nat) : fld B (6 * k) 6 = qA B k + 4 * qT B k := by
  unfold qA qT fld
  rw [Nat.pow_add, ← Nat.div_div_eq_div_mul]
  omega
theorem place_ok {B : Nat} {k : Nat} (hB : B < 2 ^ 64) (hk : k < 4) {M : Mm} {K : Int32 → Mm → Prop} (h : K (if qT B k = 0 then nI (qA B k) else 4) M) :
    ∀ v : Int32, v = (((lN B).toUInt64 >>> ((nI k * (6 : Int32)).toInt64.toUInt64 &&& Int64.toUInt64 63)).toInt64.toInt32 &&& (63 : Int32)) → (((4 : Int32) ≤ v → K 4 M) ∧ (¬ (4 : Int32) ≤ v → K v M)) := by
  intro v hv
  rw [show (63 : Int32) = nI (2 ^ 6 - 1) from rfl, rd6 k 6 hB hk (by omega), fld6] at hv
  have h1 := qA_lt B k
  have h2 := qT_lt B k
  subst hv
  rw [show (4 : Int32) = nI 4 from rfl, nI_leI (by omega) (by omega)]
  by_cases hz : qT B k = 0
  · rw [if_pos hz] at h
    refine ⟨fun z => by omega, fun _ => ?_⟩
    rw [show qA B k + 4 * qT B k = qA B k by omega]; exact h
  · rw [if_neg hz] at h
    exact ⟨fun _ => h, fun z => by omega⟩
theorem thC_ok {S : Ss} {c q : Nat} {M : Mm} {K : Int32 → Mm → Prop} {A B : Nat} {F : F4} (hc : cThing c = true) (h0 : 1000 ≤ c) (hm : MO M q A B F) (h : K (thg A B F c) M) : f_X3_thing S (nI c) q M K := by
  obtain ⟨hA, hB, e0, e1, e2, e3, e4, e5⟩ := hm
  simp only [cThing, Bool.or_eq_true, Bool.and_eq_true, decide_eq_true_eq] at hc
  unfold f_X3_thing
  have lit : ∀ n : Nat, n < 2 ^ 31 → (nI n ≤ nI c ↔ n ≤ c) := fun n hn => nI_leI hn (by omega)
  have leq : ∀ n : Nat, n < 2 ^ 31 → (nI c = nI n ↔ c = n) := fun n hn => nI_eq (by omega) hn
  rw [show (1010 : Int32) = nI 1010 from rfl, show (1020 : Int32) = nI 1020 from rfl, show (1021 : Int32) = nI 1021 from rfl, show (1022 : Int32) = nI 1022 from rfl, show (1000 : Int32) = nI 1000 from rfl, lit _ (by omega), lit _ (by omega), leq _ (by omega), leq _ (by omega), leq _ (by omega), e0, e1, e2, e3, e4, e5, pk_sub h0]
  unfold thg at h
  refine ⟨fun h1 => ⟨fun h2 => ⟨fun h3 => ?_, fun h3 => ⟨fun h4 => ?_, fun h4 => ⟨fun h5 => ?_, fun h5 => ?_⟩⟩⟩, fun h2 => ?_⟩, fun h1 => ?_⟩
  · rw [if_neg (by omega), if_neg (by omega), if_neg (by omega), if_pos h3] at h; exact h
  · rw [if_neg (by omega), if_neg (by omega), if_neg (by omega), if_neg h3, if_pos h4] at h; exact h
  · rw [if_neg (by omega), if_neg (by omega), if_neg (by omega), if_neg h3, if_neg h4, if_pos h5] at h; exact h
  · rw [if_neg (by omega), if_neg (by omega), if_neg (by omega), if_neg h3, if_neg h4, if_neg h5] at h; exact h
  · rw [if_neg (by omega), if_neg (by omega), if_pos (by omega)] at h
    rw [pk_sub h1]
    exact place_ok (by omega) (by omega) h
  · rw [if_neg (by omega), if_pos (by omega)] at h
    rw [rdS _ hA (by omega)]
    exact h
theorem thM_ok {c : Nat} {M : Mm} {K : Int32 → Mm → Prop} {A B : Nat} {F : F4} (hF : FX M) (hc : cThing c = true) (hs : MS M A B) (hf : MF M F) (h : K (thg A B F c) M) : f_X11_valueOf S0 142 (nI c) M K := by
  obtain ⟨s1, s2⟩ := hs
  obtain ⟨e2, e3, e4, e5⟩ := hf
  simp only [cThing, Bool.or_eq_true, Bool.and_eq_true, decide_eq_true_eq] at hc
  unfold f_X11_valueOf
  have lit : ∀ n : Nat, n < 2 ^ 31 → (nI n ≤ nI c ↔ n ≤ c) := fun n hn => nI_leI hn (by omega)
  have leq : ∀ n : Nat, n < 2 ^ 31 → (nI c = nI n ↔ c = n) := fun n hn => nI_eq (by omega) hn
  simp only [fx_142_24 hF, fx_142_23 hF, fx_142_22 hF, ex_some, shp_ne (show (155 : Nat) ≠ 100000 by decide), shp_ne (show (154 : Nat) ≠ 100000 by decide), shp_ne (show (153 : Nat) ≠ 100000 by decide), s0_155, s0_154, s0_153, ex_sh]
  rw [show (1010 : Int32) = nI 1010 from rfl, show (1020 : Int32) = nI 1020 from rfl, show (1021 : Int32) = nI 1021 from rfl, show (1022 : Int32) = nI 1022 from rfl, show (1000 : Int32) = nI 1000 from rfl, lit _ (by omega), lit _ (by omega), lit _ (by omega), leq _ (by omega), leq _ (by omega), leq _ (by omega), e2, e3, e4, e5]
  unfold thg at h
  refine ⟨fun h0 => ⟨fun h1 => ⟨fun h2 => ⟨fun h3 => ?_, fun h3 => ⟨fun h4 => ?_, fun h4 => ⟨fun h5 => ?_, fun h5 => ?_⟩⟩⟩, fun h2 => ?_⟩, fun h1 => ?_⟩, fun h0 => ?_⟩
  · rw [if_neg (by omega), if_neg (by omega), if_neg (by omega), if_pos h3] at h; exact h
  · rw [if_neg (by omega), if_neg (by omega), if_neg (by omega), if_neg h3, if_pos h4] at h; exact h
  · rw [if_neg (by omega), if_neg (by omega), if_neg (by omega), if_neg h3, if_neg h4, if_pos h5] at h; exact h
  · rw [if_neg (by omega), if_neg (by omega), if_neg (by omega), if_neg h3, if_neg h4, if_neg h5] at h; exact h
  · rw [if_neg (by omega), if_neg (by omega), if_pos (by omega)] at h
    rw [pk_sub h1, nI_clamp (by omega)]
    have hk : c - 1010 < 4 := by omega
    have h2 := qT_lt B (c - 1010)
    refine ⟨vp_in_nI hk (by omega), ?_⟩
    rw [(s2 _ hk).1, (s2 _ hk).2.1, show (0 : Int32) = nI 0 from rfl, nI_leI (by omega) (by omega)]
    refine ⟨fun z => ⟨vp_in_nI hk (by omega), ?_⟩, fun z => ?_⟩
    · rw [if_pos (by omega)] at h; exact h
    · rw [if_neg (by omega)] at h; exact h
  · rw [if_neg (by omega), if_pos (by omega)] at h
    rw [pk_sub h0, nI_clamp (by omega)]
    have hk : c - 1000 < 8 := by omega
    refine ⟨vp_in_nI hk (by omega), ?_⟩
    rw [s1 _ hk]
    exact h
  · rw [if_pos (by omega)] at h
    exact h
def SK (g : Nat → Int32) : List Int32 → Prop
  | [] => True
  | x :: st => g st.length = x ∧ SK g st
theorem SK_upd {g g' : Nat → Int32} {h : Nat} (hg : ∀ j, j < h → g' j = g j) : ∀ {st : List Int32}, st.length ≤ h → SK g st → SK g' st
  | [], _, _ => trivial
  | x :: st, hl, hs => ⟨(hg _ (by simp at hl; omega)).trans hs.1, SK_upd hg (by simp at hl; omega) hs.2⟩
def ev (th : Nat → Int32) : List Nat → List Int32 → List Int32
  | [], st => st
  | c :: r, st => if cThing c then ev th r (th c :: st) else if cOne c then (match st with | x :: s => ev th r (ev1 c x :: s) | [] => []) else (match st with | y :: x :: s => ev th r (ev2 c x y :: s) | _ => [])
/-- what an expression is worth -/
def evv (th : Nat → Int32) (e : List Nat) : Int32 := (ev th e []).headD 0
theorem ev_len (th : Nat → Int32) {h : Nat} : ∀ (r : List Nat) (st : List Int32), hgt r st.length = some h → (ev th r st).length = h
  | [], st, e => by simp only [hgt, Option.some.injEq] at e; exact e
  | c :: r, st, e => by
    unfold hgt at e
    unfold ev
    split at e
    · rename_i hc
      rw [if_pos hc]
      exact ev_len th r _ e
    · rename_i hc
      rw [if_neg hc]
      split at e
      · rename_i h1
        rw [if_pos h1]
        match st with
        | [] => simp at e
        | x :: s =>
          rw [if_pos (by simp)] at e
          exact ev_len th r (ev1 c x :: s) (by simpa using e)
      · rename_i h1
        rw [if_neg h1]
        split at e
        · match st with
          | [] => simp at e
          | [x] => simp at e
          | y :: x :: s =>
            rw [if_pos (by simp)] at e
            exact ev_len th r (ev2 c x y :: s) (by simpa using e)
        · exact absurd e (by simp)
theorem evv_sk {g : Nat → Int32} {th : Nat → Int32} {e : List Nat} (h : hgt e 0 = some 1) (hs : SK g (ev th e [])) : g 0 = evv th e := by
  have hl := ev_len th e [] h
  unfold evv
  match hv : ev th e [], hl with
  | [x], _ =>
    rw [hv] at hs
    exact hs.1
/-- memories that differ at one row of ints alone -/
def E1 (a : Nat) (M M' : Mm) : Prop := (∀ b, b ≠ a → M'.1 b = M.1 b) ∧ M'.2 = M.2
theorem E1_refl (a : Nat) (M : Mm) : E1 a M M := ⟨fun _ _ => rfl, rfl⟩
theorem E1_st {a k : Nat} {v : Int32} {M M' : Mm} (h : E1 a M M') : E1 a M (stI M' a k v) := ⟨fun b hb => (stI_row hb).trans (h.1 b hb), h.2⟩
theorem E1_tr {a : Nat} {M M' M'' : Mm} (h : E1 a M M') (h' : E1 a M' M'') : E1 a M M'' := ⟨fun b hb => (h'.1 b hb).trans (h.1 b hb), h'.2.trans h.2⟩
set_option maxRecDepth 100000 in
theorem pr_fins : ∀ p ∈ PR, ∀ k, k < 5 → (p, k, p + k + 1) ∈ fins := by decide +kernel
theorem pr_ref {M : Mm} (hF : FX M) {p : Nat} (hp : p ∈ PR) {k : Nat} (hk : k < 5) : M.2.2 p k = some (p + k + 1) := hF _ (pr_fins p hp k hk)
set_option maxRecDepth 100000 in
theorem pr_sh : ∀ p ∈ PR, S0[p]? = some (4, 0) ∧ S0[p + 1]? = some (51, 60) ∧ S0[p + 2]? = some (50, 16) ∧ S0[p + 3]? = some (50, 16) ∧ S0[p + 4]? = some (50, 17) ∧ S0[p + 5]? = some (50, 60) := by decide +kernel
theorem pr_le : ∀ p ∈ PR, 4 ≤ p ∧ p ≤ 98 := by decide
theorem pr_n19 : ∀ p ∈ PR, ∀ k, k < 6 → p + k ≠ 19 := by decide
theorem hgt_cons {c : Nat} {r : List Nat} {h : Nat} {k : Nat} (e : hgt (c :: r) h = some k) : (cThing c = true ∧ hgt r (h + 1) = some k) ∨ (cThing c = false ∧ cOne c = true ∧ 1 ≤ h ∧ hgt r h = some k) ∨ (cThing c = false ∧ cOne c = false ∧ cTwo c = true ∧ 2 ≤ h ∧ hgt r (h - 1) = some k) := by
  unfold hgt at e
  by_cases h1 : cThing c = true
  · rw [if_pos h1] at e; exact Or.inl ⟨h1, e⟩
  · rw [if_neg h1] at e
    have h1 : cThing c = false := by simpa using h1
    by_cases h2 : cOne c = true
    · rw [if_pos h2] at e
      split at e
      · rename_i h3; exact Or.inr (Or.inl ⟨h1, h2, h3, e⟩)
      · exact absurd e (by simp)
    · rw [if_neg h2] at e
      have h2 : cOne c = false := by simpa using h2
      split at e
      · rename_i h3
        split at e
        · rename_i h4; exact Or.inr (Or.inr ⟨h1, h2, h3, h4, e⟩)
        · exact absurd e (by simp)
      · exact absurd e (by simp)
theorem a63 {n : Nat} (h : n < 64) : nI n &&& (63 : Int32) = nI n := by
  rw [pk_andN (by omega) (m := (63 : Int32)) 6 rfl]
  congr 1; omega
theorem m1c (n : Nat) : nI (n + 1) - (1 : Int32) = nI n := nI_pred n
theorem SK_push {M : Mm} {a : Nat} {v : Int32} {st : List Int32} (hs : SK (M.1 a) st) : SK ((stI M a st.length v).1 a) (v :: st) :=
  ⟨by show (stI M a st.length v).1 a st.length = v; rw [rI]; simp, SK_upd (fun j hj => by show (stI M a st.length v).1 a j = M.1 a j; rw [rI, if_neg (by omega)]) (Nat.le_refl _) hs⟩
theorem SK_len {M : Mm} {a n : Nat} {v : Int32} {st : List Int32} (hn : st.length = n) (hs : SK (M.1 a) st) : SK ((stI M a n v).1 a) (v :: st) := by subst hn; exact SK_push hs
theorem val_L {p q A B en hx : Nat} {F : F4} {M0 : Mm} {EK : Int32 → Mm → Prop} {K : Int32 → Mm → Prop} (hp : p ∈ PR) (hF : FX M0) (hq : q ≠ 19) (hm : MO M0 q A B F) (hen : en ≤ 60) :
    ∀ (r : List Nat) (st : List Int32) (i : Nat) (M : Mm), hgt r st.length = some hx → st.length + r.length ≤ 63 → SK (M.1 19) st → E1 19 M0 M → (∀ j, j < r.length → M0.1 (p + 5) (i + j) = nI (r.getD j 0)) → i + r.length = en → (∀ M' : Mm, E1 19 M0 M' → SK (M'.1 19) (ev (thg A B F) r st) → EK (nI hx) M') → f_X3_value_L35 S0 11 p q (nI en) EK K (r.length + 1) (nI st.length) (nI i) M
  | [], st, i, M, hh, hl, hs, hE, hc, hi, hK => by
    unfold f_X3_value_L35 f_X3_value_B35
    simp only [hgt, Option.some.injEq] at hh
    simp only [List.length_nil, Nat.add_zero] at hi
    subst hi
    rw [hh]
    exact ⟨fun _ => hK M hE hs, fun z => absurd (nI_le (Nat.le_refl _) (by omega)) z⟩
  | c :: r, st, i, M, hh, hl, hs, hE, hc, hi, hK => by
    have hF' : FX M := by intro x hx; rw [hE.2]; exact hF x hx
    have hm' : MO M q A B F := by
      unfold MO at *
      rw [hE.1 q hq, hE.2]; exact hm
    have hc0 : M.1 (p + 5) i = nI c := by
      rw [hE.1 _ (pr_n19 p hp 5 (by omega))]
      have := hc 0 (by simp)
      simpa using this
    have hl2 : r.length + 1 = (c :: r).length := by simp
    simp only [List.length_cons] at hl hi
    have ple := pr_le p hp
    unfold f_X3_value_L35 f_X3_value_B35
    have hcr : ∀ j, j < r.length → M0.1 (p + 5) ((i + 1) + j) = nI (r.getD j 0) := by
      intro j hj
      have := hc (j + 1) (by simp; omega)
      rw [show i + 1 + j = i + (j + 1) by omega, this]
      simp
    refine ⟨fun z => absurd z (nI_ge (by omega) (by omega)), fun _ => ?_⟩
    have e5 : S0[p + 4 + 1]? = some (50, 60) := (pr_sh p hp).2.2.2.2.2
    have hin : vp_in (nI i) 60 := vp_in_nI (by omega) (by omega)
    have hcl : (nI i).toNatClampNeg = i := nI_clamp (by omega)
    simp only [pr_ref hF' hp (show 4 < 5 by omega), fx_11_7 hF', ex_some, shp_ne (show p + 4 + 1 ≠ 100000 by omega), e5, shp_ne (show (19 : Nat) ≠ 100000 by decide), s0_19, ex_sh, hin, true_and, hcl, hc0, forall_eq, nI_1]
    rcases hgt_cons hh with ⟨t1, t2⟩ | ⟨t1, t2, t3, t4⟩ | ⟨t1, t2, t3, t4, t5⟩
    · have hcl2 : c < 1030 := by
        simp only [cThing, Bool.or_eq_true, Bool.and_eq_true, decide_eq_true_eq] at t1; omega
      have a1 : nI st.length &&& (63 : Int32) = nI st.length := a63 (by omega)
      have a2 : vp_in (nI st.length) 64 := vp_in_nI (by omega) (by omega)
      have a3 : (nI st.length).toNatClampNeg = st.length := nI_clamp (by omega)
      simp only [a1, a2, a3, true_and]
      refine ⟨fun z => absurd z (show ¬ nI 1030 ≤ nI c from nI_ge hcl2 (by decide)), fun _ => ?_⟩
      have go : f_X3_value_L35 S0 11 p q (nI en) EK K (r.length + 1) (nI (st.length + 1)) (nI (i + 1)) (stI M 19 st.length (thg A B F c)) := by
        have := val_L (K := K) hp hF hq hm hen r (thg A B F c :: st) (i + 1) (stI M 19 st.length (thg A B F c)) (by simpa using t2) (by simp; omega) (SK_push hs) (E1_st hE) hcr (by omega) (fun M' h1 h2 => hK M' h1 (by unfold ev; rw [if_pos t1]; exact h2))
        simpa using this
      refine ⟨fun z => ?_, fun z => ?_⟩
      · have z : 1000 ≤ c := (nI_leI (by omega) (by omega)).mp z
        exact thC_ok t1 z hm' go
      · have z : c < 1000 := by
          rcases Nat.lt_or_ge c 1000 with y | y
          · exact y
          · exact absurd (nI_le y (by omega)) z
        have : thg A B F c = nI c := by unfold thg; rw [if_pos z]
        rw [this] at go
        exact go
    · match st, t3, hs, hl, hK, t4 with
      | x :: s, _, hs, hl, hK, t4 =>
        have hcl2 : c = 1037 ∨ c = 1038 := by
          simp only [cOne, Bool.or_eq_true, decide_eq_true_eq] at t2; omega
        simp only [List.length_cons] at hl t4 ⊢
        have a1 : nI s.length &&& (63 : Int32) = nI s.length := a63 (by omega)
        have a2 : vp_in (nI s.length) 64 := vp_in_nI (by omega) (by omega)
        have a3 : (nI s.length).toNatClampNeg = s.length := nI_clamp (by omega)
        have hx' : M.1 19 s.length = x := hs.1
        simp only [m1c, a1, a2, a3, true_and, hx']
        have go : f_X3_value_L35 S0 11 p q (nI en) EK K (r.length + 1) (nI (s.length + 1)) (nI (i + 1)) (stI M 19 s.length (ev1 c x)) := by
          have := val_L (K := K) hp hF hq hm hen r (ev1 c x :: s) (i + 1) (stI M 19 s.length (ev1 c x)) (by simpa using t4) (by simp; omega) (SK_push hs.2) (E1_st hE) hcr (by omega) (fun M' h1 h2 => hK M' h1 (by unfold ev; rw [if_neg (by simp [t1]), if_pos t2]; exact h2))
          simpa using this
        have lc : (1030 : Int32) ≤ nI c := by rcases hcl2 with rfl | rfl <;> decide
        have lc2 : ¬ nI c < (1037 : Int32) := by rcases hcl2 with rfl | rfl <;> decide
        refine ⟨fun _ => ⟨fun z => absurd z lc2, fun _ => ⟨fun z => ?_, fun z => ⟨fun y => ?_, fun y => ?_⟩⟩⟩, fun z => absurd lc z⟩
        · have : ev1 c x = -x := by
            have : c = 1038 := (nI_eq (by omega) (by omega)).mp (show nI c = nI 1038 from z)
            unfold ev1; rw [if_pos this]
          rw [this] at go; exact go
        · have : ev1 c x = 1 := by
            have : ¬ c = 1038 := fun w => z (by rw [w]; rfl)
            unfold ev1; rw [if_neg this, if_pos y]
          rw [this] at go; exact go
        · have : ev1 c x = 0 := by
            have : ¬ c = 1038 := fun w => z (by rw [w]; rfl)
            unfold ev1; rw [if_neg this, if_neg y]
          rw [this] at go; exact go
    · match st, t4, hs, hl, hK, t5 with
      | y :: x :: s, _, hs, hl, hK, t5 =>
        have hcl2 := cTwo_cases t3
        simp only [List.length_cons] at hl t5 ⊢
        have a1 : nI s.length &&& (63 : Int32) = nI s.length := a63 (by omega)
        have a2 : vp_in (nI s.length) 64 := vp_in_nI (by omega) (by omega)
        have a3 : (nI s.length).toNatClampNeg = s.length := nI_clamp (by omega)
        have b1 : nI (s.length + 1) &&& (63 : Int32) = nI (s.length + 1) := a63 (by omega)
        have b2 : vp_in (nI (s.length + 1)) 64 := vp_in_nI (by omega) (by omega)
        have b3 : (nI (s.length + 1)).toNatClampNeg = s.length + 1 := nI_clamp (by omega)
        have hx' : M.1 19 s.length = x := hs.2.1
        have hy : M.1 19 (s.length + 1) = y := hs.1
        simp only [pk_m1, m1c, a1, a2, a3, b1, b2, b3, true_and, hx', hy]
        have go : f_X3_value_L35 S0 11 p q (nI en) EK K (r.length + 1) (nI (s.length + 1)) (nI (i + 1)) (stI M 19 s.length (ev2 c x y)) := by
          have := val_L (K := K) hp hF hq hm hen r (ev2 c x y :: s) (i + 1) (stI M 19 s.length (ev2 c x y)) (by simpa using t5) (by simp; omega) (SK_push hs.2.2) (E1_st hE) hcr (by omega) (fun M' h1 h2 => hK M' h1 (by unfold ev; rw [if_neg (by simp [t1]), if_neg (by simp [t2])]; exact h2))
          simpa using this
        have lc : (1030 : Int32) ≤ nI c := by rcases hcl2 with rfl | rfl | rfl | rfl | rfl | rfl | rfl <;> decide
        have lc2 : nI c < (1037 : Int32) := by rcases hcl2 with rfl | rfl | rfl | rfl | rfl | rfl | rfl <;> decide
        exact ⟨fun _ => ⟨fun _ => jn_ok t3 go, fun z => absurd lc2 z⟩, fun z => absurd lc z⟩

/-- line i of the program at p has the code e -/
def PE (M : Mm) (p i : Nat) (e : List Nat) : Prop := i < 16 ∧ nI i < M.1 p 6 ∧ ∃ s : Nat, s + e.length ≤ 60 ∧ M.1 (p + 4) i = nI s ∧ M.1 (p + 4) (i + 1) = nI (s + e.length) ∧ ∀ j, j < e.length → M.1 (p + 5) (s + j) = nI (e.getD j 0)
theorem value_ok {p q i A B : Nat} {F : F4} {M : Mm} {e : List Nat} {K : Int32 → Mm → Prop} (hp : p ∈ PR) (hF : FX M) (hq : q ≠ 19) (hm : MO M q A B F) (hP : PE M p i e) (he : WFx e ∨ e = []) (hK : ∀ M', E1 19 M M' → K (evv (thg A B F) e) M') : f_X3_value S0 11 p (nI i) q M K := by
  obtain ⟨hi, hl, s, hs, e1, e2, hc⟩ := hP
  have ple := pr_le p hp
  have e4 : S0[p + 3 + 1]? = some (50, 17) := (pr_sh p hp).2.2.2.2.1
  unfold f_X3_value
  refine ⟨fun z => absurd z (nI_pos (by omega)), fun _ => ⟨fun _ => ?_, fun z => absurd hl z⟩⟩
  have hin : vp_in (nI i) 17 := vp_in_nI (by omega) (by omega)
  have hin1 : vp_in (nI (i + 1)) 17 := vp_in_nI (by omega) (by omega)
  have hcl : (nI i).toNatClampNeg = i := nI_clamp (by omega)
  have hcl1 : (nI (i + 1)).toNatClampNeg = i + 1 := nI_clamp (by omega)
  simp only [pr_ref hF hp (show 3 < 5 by omega), ex_some, shp_ne (show p + 3 + 1 ≠ 100000 by omega), e4, ex_sh, nI_1, hin, hin1, hcl, hcl1, true_and, forall_eq]
  rw [show p + 3 + 1 = p + 4 from rfl, e1, e2]
  have hin0 : vp_in (0 : Int32) 64 := by unfold vp_in; decide
  refine ⟨e.length + 1, ?_⟩
  rcases he with he | he
  · refine val_L (hx := 1) hp hF hq hm hs e [] s M he.1 (by have := he.2; simp; omega) trivial (E1_refl _ _) hc rfl (fun M' h1 h2 => ⟨fun _ => ?_, fun z => absurd rfl z⟩)
    have hF' : FX M' := by intro x hx; rw [h1.2]; exact hF x hx
    simp only [fx_11_7 hF', ex_some, shp_ne (show (19 : Nat) ≠ 100000 by decide), s0_19, ex_sh, hin0, true_and]
    have := evv_sk he.1 h2
    rw [show (0 : Int32).toNatClampNeg = 0 from rfl, this]
    exact hK M' h1
  · subst he
    refine val_L (hx := 0) hp hF hq hm hs [] [] s M rfl (by simp) trivial (E1_refl _ _) hc rfl (fun M' h1 h2 => ⟨fun z => absurd z (by decide), fun _ => hK M' h1⟩)
theorem FX_ag {M M' : Mm} (h : M'.2.2 = M.2.2) (hF : FX M) : FX M' := by intro x hx; rw [h]; exact hF x hx
theorem MS_ag {M M' : Mm} {A B : Nat} (e1 : M'.1 153 = M.1 153) (e2 : M'.1 154 = M.1 154) (e3 : M'.1 155 = M.1 155) (e4 : M'.1 156 = M.1 156) (h : MS M A B) : MS M' A B := by
  unfold MS at *; rw [e1, e2, e3, e4]; exact h
theorem wrk_L {rw_ n A B hx : Nat} {F : F4} {M0 : Mm} {EK : Mm → Prop} {K : Int32 → Mm → Prop} (hr : rw_ < 90) (hF : FX M0) (hs0 : MS M0 A B) (hf0 : MF M0 F) (hn : n ≤ 60) (hn0 : M0.1 148 rw_ = nI n) :
    ∀ (r : List Nat) (st : List Int32) (i : Nat) (M : Mm), hgt r st.length = some hx → st.length + r.length ≤ 63 → SK (M.1 149) st → E1 149 M0 M → (∀ j, j < r.length → M0.1 147 (64 * rw_ + (i + j)) = nI (cmk (r.getD j 0))) → i + r.length = n → (∀ M' : Mm, E1 149 M0 M' → SK (M'.1 149) (ev (thg A B F) r st) → EK M') → f_X11_worked_L4 S0 142 (nI rw_) EK K (r.length + 1) (nI st.length) (nI i) M
  | [], st, i, M, hh, hl, hs, hE, hc, hi, hK => by
    unfold f_X11_worked_L4 f_X11_worked_B4
    have hF' : FX M := FX_ag (by rw [hE.2]) hF
    have hin : vp_in (nI rw_) 90 := vp_in_nI (by omega) (by omega)
    have hcl : (nI rw_).toNatClampNeg = rw_ := nI_clamp (by omega)
    simp only [List.length_nil, Nat.add_zero] at hi
    subst hi
    simp only [fx_142_12 hF', ex_some, shp_ne (show (148 : Nat) ≠ 100000 by decide), s0_148, ex_sh, hin, hcl, true_and]
    rw [hE.1 148 (by decide), hn0]
    exact ⟨fun _ => hK M hE hs, fun z => absurd (nI_le (Nat.le_refl _) (by omega)) z⟩
  | c :: r, st, i, M, hh, hl, hs, hE, hc, hi, hK => by
    have hF' : FX M := FX_ag (by rw [hE.2]) hF
    have hs' : MS M A B := MS_ag (hE.1 _ (by decide)) (hE.1 _ (by decide)) (hE.1 _ (by decide)) (hE.1 _ (by decide)) hs0
    have hf' : MF M F := by unfold MF at *; rw [hE.1 142 (by decide)]; exact hf0
    have hc0 : M.1 147 (64 * rw_ + i) = nI (cmk c) := by
      rw [hE.1 _ (by decide)]
      have := hc 0 (by simp)
      simpa using this
    simp only [List.length_cons] at hl hi
    unfold f_X11_worked_L4 f_X11_worked_B4
    have hcr : ∀ j, j < r.length → M0.1 147 (64 * rw_ + ((i + 1) + j)) = nI (cmk (r.getD j 0)) := by
      intro j hj
      have := hc (j + 1) (by simp; omega)
      rw [show i + 1 + j = i + (j + 1) by omega, this]
      simp
    have hin : vp_in (nI rw_) 90 := vp_in_nI (by omega) (by omega)
    have hcl : (nI rw_).toNatClampNeg = rw_ := nI_clamp (by omega)
    have hix : (64 : Int32) * nI rw_ + nI i = nI (64 * rw_ + i) := by
      rw [show (64 : Int32) = nI 64 from rfl, pk_mul, nI_add]
    have hin2 : vp_in (nI (64 * rw_ + i)) 5760 := vp_in_nI (by omega) (by omega)
    have hcl2 : (nI (64 * rw_ + i)).toNatClampNeg = 64 * rw_ + i := nI_clamp (by omega)
    simp only [fx_142_11 hF', fx_142_12 hF', fx_142_14 hF', ex_some, shp_ne (show (147 : Nat) ≠ 100000 by decide), shp_ne (show (148 : Nat) ≠ 100000 by decide), shp_ne (show (149 : Nat) ≠ 100000 by decide), s0_147, s0_148, s0_149, ex_sh, hin, hcl, hix, hin2, hcl2, true_and, forall_eq, hc0, nI_1]
    rw [hE.1 148 (by decide), hn0]
    refine ⟨fun z => absurd z (nI_ge (by omega) (by omega)), fun _ => ?_⟩
    rcases hgt_cons hh with ⟨t1, t2⟩ | ⟨t1, t2, t3, t4⟩ | ⟨t1, t2, t3, t4, t5⟩
    · have hcl2 : c < 1030 := by
        simp only [cThing, Bool.or_eq_true, Bool.and_eq_true, decide_eq_true_eq] at t1; omega
      have ecm : cmk c = c := by unfold cmk; rw [if_pos hcl2]
      have a2 : vp_in (nI st.length) 64 := vp_in_nI (by omega) (by omega)
      have a3 : (nI st.length).toNatClampNeg = st.length := nI_clamp (by omega)
      rw [ecm]
      refine ⟨fun z => absurd z (show ¬ nI 2000 ≤ nI c from nI_ge (by omega) (by decide)), fun _ => ?_⟩
      simp only [a2, a3, true_and]
      refine thM_ok hF' t1 hs' hf' ?_
      have := wrk_L (K := K) hr hF hs0 hf0 hn hn0 r (thg A B F c :: st) (i + 1) (stI M 149 st.length (thg A B F c)) (by simpa using t2) (by simp; omega) (SK_push hs) (E1_st hE) hcr (by omega) (fun M' h1 h2 => hK M' h1 (by unfold ev; rw [if_pos t1]; exact h2))
      simpa using this
    · match st, t3, hs, hl, hK, t4 with
      | x :: s, _, hs, hl, hK, t4 =>
        have hcl2 : c = 1037 ∨ c = 1038 := by
          simp only [cOne, Bool.or_eq_true, decide_eq_true_eq] at t2; omega
        simp only [List.length_cons] at hl t4 ⊢
        have a2 : vp_in (nI s.length) 64 := vp_in_nI (by omega) (by omega)
        have a3 : (nI s.length).toNatClampNeg = s.length := nI_clamp (by omega)
        have hx : M.1 149 s.length = x := hs.1
        unfold f_X11_worked_J84
        simp only [m1c, a2, a3, true_and, hx, forall_eq, nI_1, s0_149, ex_sh]
        have go : f_X11_worked_L4 S0 142 (nI rw_) EK K (r.length + 1) (nI (s.length + 1)) (nI (i + 1)) (stI M 149 s.length (ev1 c x)) := by
          have := wrk_L (K := K) hr hF hs0 hf0 hn hn0 r (ev1 c x :: s) (i + 1) (stI M 149 s.length (ev1 c x)) (by simpa using t4) (by simp; omega) (SK_push hs.2) (E1_st hE) hcr (by omega) (fun M' h1 h2 => hK M' h1 (by unfold ev; rw [if_neg (by simp [t1]), if_pos t2]; exact h2))
          simpa using this
        rcases hcl2 with rfl | rfl
        · refine ⟨fun _ => ⟨fun _ => ⟨fun y => tr_ok ?_, fun y => tr_ok ?_⟩, fun z => absurd rfl z⟩, fun z => absurd (show nI 2000 ≤ nI 2033 by decide) z⟩
          · have : ev1 1037 x = 1 := by unfold ev1; rw [if_neg (by decide), if_pos y]
            rw [this] at go
            rw [if_neg (by decide)]; exact go
          · have : ev1 1037 x = 0 := by unfold ev1; rw [if_neg (by decide), if_neg y]
            rw [this] at go
            rw [if_pos rfl]; exact go
        · refine ⟨fun _ => ⟨fun z => absurd z (by decide), fun _ => ⟨fun _ => ?_, fun z => absurd rfl z⟩⟩, fun z => absurd (show nI 2000 ≤ nI 2126 by decide) z⟩
          exact go
    · match st, t4, hs, hl, hK, t5 with
      | y :: x :: s, _, hs, hl, hK, t5 =>
        have hcl2 := cTwo_cases t3
        simp only [List.length_cons] at hl t5 ⊢
        have a2 : vp_in (nI s.length) 64 := vp_in_nI (by omega) (by omega)
        have a3 : (nI s.length).toNatClampNeg = s.length := nI_clamp (by omega)
        have b2 : vp_in (nI (s.length + 1)) 64 := vp_in_nI (by omega) (by omega)
        have b3 : (nI (s.length + 1)).toNatClampNeg = s.length + 1 := nI_clamp (by omega)
        have hx : M.1 149 s.length = x := hs.2.1
        have hy : M.1 149 (s.length + 1) = y := hs.1
        simp only [pk_m1, m1c, a2, a3, b2, b3, true_and, hx, hy]
        have go : f_X11_worked_L4 S0 142 (nI rw_) EK K (r.length + 1) (nI (s.length + 1)) (nI (i + 1)) (stI M 149 s.length (ev2 c x y)) := by
          have := wrk_L (K := K) hr hF hs0 hf0 hn hn0 r (ev2 c x y :: s) (i + 1) (stI M 149 s.length (ev2 c x y)) (by simpa using t5) (by simp; omega) (SK_push hs.2.2) (E1_st hE) hcr (by omega) (fun M' h1 h2 => hK M' h1 (by unfold ev; rw [if_neg (by simp [t1]), if_neg (by simp [t2])]; exact h2))
          simpa using this
        have lc : (2000 : Int32) ≤ nI (cmk c) := by rcases hcl2 with rfl | rfl | rfl | rfl | rfl | rfl | rfl <;> decide
        have lc2 : ¬ nI (cmk c) = (2033 : Int32) := by rcases hcl2 with rfl | rfl | rfl | rfl | rfl | rfl | rfl <;> decide
        have lc3 : ¬ nI (cmk c) = (2126 : Int32) := by rcases hcl2 with rfl | rfl | rfl | rfl | rfl | rfl | rfl <;> decide
        exact ⟨fun _ => ⟨fun z => absurd z lc2, fun _ => ⟨fun z => absurd z lc3, fun _ => ac_ok t3 go⟩⟩, fun z => absurd lc z⟩
theorem worked_ok {r A B : Nat} {F : F4} {M : Mm} {e : List Nat} {K : Int32 → Mm → Prop} (hr : r < 90) (hF : FX M) (hs : MS M A B) (hf : MF M F) (hR : RwM M r e) (he : WFx e) (hK : ∀ M', E1 149 M M' → K (evv (thg A B F) e) M') : f_X11_worked S0 142 (nI r) M K := by
  unfold f_X11_worked
  refine ⟨e.length + 1, wrk_L (hx := 1) hr hF hs hf he.2 hR.1 e [] 0 M he.1 (by have := he.2; simp; omega) trivial (E1_refl _ _) (fun j hj => by rw [Nat.zero_add]; exact hR.2 j hj) (by omega) (fun M' h1 h2 => ?_)⟩
  have hF' : FX M' := FX_ag (by rw [h1.2]) hF
  have hin0 : vp_in (0 : Int32) 64 := by unfold vp_in; decide
  simp only [fx_142_14 hF', ex_some, shp_ne (show (149 : Nat) ≠ 100000 by decide), s0_149, ex_sh, hin0, true_and]
  rw [show (0 : Int32).toNatClampNeg = 0 from rfl, evv_sk he.1 h2]
  exact hK M' h1
