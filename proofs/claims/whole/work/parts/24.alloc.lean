/-! MAKING CELLS -/
def zr (M : Mm) (n : Nat) : Mm := (fun b j => if b = n then 0 else M.1 b j, fun b j => if b = n then 0 else M.2.1 b j, fun b j => if b = n then none else M.2.2 b j)
/-- no reference points beyond what is made -/
def CL (S : Ss) (M : Mm) : Prop := ∀ a k b, M.2.2 a k = some b → b < S.length
def ext (g : Gg) (n q : Nat) : Gg := (g.1, g.2.1, g.2.2.1, fun k => if k = n then q else g.2.2.2 k)
def EX (g g1 : Gg) (S : Ss) : Prop := g1.1 = g.1 ∧ g1.2.1 = g.2.1 ∧ g1.2.2.1 = g.2.2.1 ∧ ad g1 100000 = ad g 100000 ∧ ∀ k, k < S.length → ad g1 k = ad g k
def PX (S S' : Ss) : Prop := ∃ X, S' = S ++ X
theorem PX.rf {S : Ss} : PX S S := ⟨[], (List.append_nil S).symm⟩
theorem PX.tr {S S1 S2 : Ss} (h : PX S S1) (h2 : PX S1 S2) : PX S S2 := by
  obtain ⟨X, rfl⟩ := h
  obtain ⟨Y, rfl⟩ := h2
  exact ⟨X ++ Y, List.append_assoc S X Y⟩
theorem PX.le {S S1 : Ss} (h : PX S S1) : S.length ≤ S1.length := by
  obtain ⟨X, rfl⟩ := h
  rw [List.length_append]; omega
theorem PX.at {S S1 : Ss} (h : PX S S1) {a : Nat} {sh : Nat × Nat} (ha : S[a]? = some sh) : S1[a]? = some sh := by
  obtain ⟨X, rfl⟩ := h
  rw [List.getElem?_append_left (List.getElem?_eq_some_iff.mp ha).1, ha]
theorem EX.rf {g : Gg} {S : Ss} : EX g g S := ⟨rfl, rfl, rfl, rfl, fun _ _ => rfl⟩
theorem EX.tr {g g1 g2 : Gg} {S S1 : Ss} (h : EX g g1 S) (hp : PX S S1) (h2 : EX g1 g2 S1) : EX g g2 S := by
  obtain ⟨a1, a2, a3, a4, a5⟩ := h
  obtain ⟨b1, b2, b3, b4, b5⟩ := h2
  exact ⟨b1.trans a1, b2.trans a2, b3.trans a3, b4.trans a4, fun k hk => (b5 k (Nat.lt_of_lt_of_le hk hp.le)).trans (a5 k hk)⟩
theorem EX.ad {g g1 : Gg} {S : Ss} (h : EX g g1 S) {a : Nat} {sh : Nat × Nat} (ha : S[a]? = some sh) : ad g1 a = ad g a := h.2.2.2.2 a (List.getElem?_eq_some_iff.mp ha).1
theorem EX.gA {g g1 : Gg} {S : Ss} (h : EX g g1 S) : gA g1 = gA g := by funext q; show (g1.1 ≤ q) = (g.1 ≤ q); rw [h.1]
def dv (t : Nat) : Value := if t = 1 then .long 0 else if t = 2 then .null else .int 0
theorem fval_zr (g : Gg) (M : Mm) (n t k : Nat) : fval g (zr M n) n t k = dv t := by
  unfold fval dv zr
  by_cases h1 : t = 1
  · simp [h1]
  · by_cases h2 : t = 2
    · simp [h2, rfv, va_rf]
    · simp [h1, h2]
theorem ext_ex {g : Gg} {S : Ss} {q : Nat} (hn : S.length < 100000) : EX g (ext g S.length q) S := by
  refine ⟨rfl, rfl, rfl, ?_, fun k hk => ?_⟩
  · simp [ad, ext]; omega
  · simp [ad, ext]; omega
theorem cel_ext {g : Gg} {S : Ss} {M : Mm} {q k : Nat} (hcl : CL S M) (hk : k < S.length) (sh : Nat × Nat) : cel (ext g S.length q) (zr M S.length) k sh = cel g M k sh := by
  have hne : ¬ k = S.length := by omega
  have hr : ∀ j, ((zr M S.length).2.2 k j).map (ad (ext g S.length q)) = (M.2.2 k j).map (ad g) := by
    intro j
    have h0 : (zr M S.length).2.2 k j = M.2.2 k j := by simp [zr, hne]
    rw [h0]
    cases hb : M.2.2 k j with
    | none => rfl
    | some b =>
      have := hcl k j b hb
      simp [ad, ext]; omega
  have h1 : (zr M S.length).1 k = M.1 k := by funext j; simp [zr, hne]
  have h2 : (zr M S.length).2.1 k = M.2.1 k := by funext j; simp [zr, hne]
  have hf : ∀ t j, fval (ext g S.length q) (zr M S.length) k t j = fval g M k t j := by
    intro t j
    unfold fval rfv
    rw [h1, h2, hr j]
  have ha : ∀ t, arc (ext g S.length q) (zr M S.length) k t = arc g M k t := by
    intro t
    unfold arc
    rw [h1, h2, show (fun j => ((zr M S.length).2.2 k j).map (ad (ext g S.length q))) = fun j => (M.2.2 k j).map (ad g) from funext hr]
  unfold cel
  simp only [hf, ha]
  rfl
theorem wld_push {g : Gg} {S : Ss} {M : Mm} {q : Nat} (hcl : CL S M) (sh : Nat × Nat) : wld (ext g S.length q) (S ++ [sh]) (zr M S.length) = wld g S M ++ [(q, cel (ext g S.length q) (zr M S.length) S.length sh)] := by
  unfold wld
  rw [List.length_append, List.length_singleton, List.range_succ, List.map_append]
  congr 1
  · apply List.map_congr_left
    intro k hk
    have hk := List.mem_range.mp hk
    have hg : (S ++ [sh]).getD k (0, 0) = S.getD k (0, 0) := by
      rw [List.getD_eq_getElem?_getD, List.getD_eq_getElem?_getD, List.getElem?_append_left hk]
    rw [hg, cel_ext hcl hk]
    congr 1
    simp [ad, ext]; omega
  · have hg : (S ++ [sh]).getD S.length (0, 0) = sh := by
      rw [List.getD_eq_getElem?_getD, List.getElem?_append_right (Nat.le_refl _), Nat.sub_self]; rfl
    simp only [List.map_cons, List.map_nil, hg]
    congr 2
    simp [ad, ext]
section HWN
variable {p : Program} {l : Launch} {e : Env} {R : Room} {s : State} {m : MethodId} {args : Array Value} {below : List Frame} {meth : Method} {c : Code} {H : Heap} {locs : List Loc} {cells slots : Nat} {Q : State → Prop}
variable {cc : ByteArray} {pc nL : Nat} {ls : Array Slot} {rest : List Value} {ret : Option FieldType} {own : String} {g : Gg} {S : Ss} {M : Mm}

theorem EN.ex {g1 : Gg} (E : EN p s m args meth c cc nL ret own g) (h : EX g g1 S) : EN p s m args meth c cc nL ret own g1 := by
  obtain ⟨e1, e2, e3, e4, e5⟩ := h
  obtain ⟨h1, h2, h3, h4, h5, h6, h7, h8, h9⟩ := E
  refine ⟨h1, h2, h3, h4, h5, h6, ?_, h8, ?_⟩
  · unfold tyg; rw [e2, e3]; exact h7
  · unfold ZE gA; rw [e1, e4]; exact h9
theorem rp_push {sh : Nat × Nat} {q : Nat} {H1 : Heap} {x : va_E} (hR : RP g S M H) (hS : va_S (gA g) s.heap H locs) (hw : ad g 100000 < s.heap.size) (hcl : CL S M) (hln : S.length < 100000) (hx : x = cel (ext g S.length q) (zr M S.length) S.length sh) (hP : va_P g.2.1 vwCl (wld g S M ++ [(q, x)]) H1) (hD : va_D (gA g) (wld g S M ++ [(q, x)])) (hS1 : va_S (gA g) s.heap H1 locs) : RP (ext g S.length q) (S ++ [sh]) (zr M S.length) H1 := by
  subst hx
  have hlen : (wld g S M).length = S.length := by unfold wld; rw [List.length_map, List.length_range]
  have hq : (wld g S M ++ [(q, cel (ext g S.length q) (zr M S.length) S.length sh)])[S.length]? = some (q, cel (ext g S.length q) (zr M S.length) S.length sh) := by
    rw [List.getElem?_append_right (by omega), hlen, Nat.sub_self]; rfl
  have hold : ∀ i, i < S.length → ∃ y, (wld g S M ++ [(q, cel (ext g S.length q) (zr M S.length) S.length sh)])[i]? = some (ad g i, y) := by
    intro i hi
    refine ⟨cel g M i S[i], ?_⟩
    rw [List.getElem?_append_left (by omega)]
    exact wld_get (List.getElem?_eq_getElem hi)
  have had : ∀ i, i < S.length → ad (ext g S.length q) i = ad g i := fun i hi => by simp [ad, ext]; omega
  have hadn : ad (ext g S.length q) S.length = q := by simp [ad, ext]
  have hadw : ad (ext g S.length q) 100000 = ad g 100000 := by simp [ad, ext]; omega
  refine ⟨by rw [wld_push hcl]; exact hP, ⟨fun i j hi hj hij => ?_, fun i hi => ?_, ?_⟩, ?_⟩
  · rw [List.length_append, List.length_singleton] at hi hj
    rcases Nat.lt_or_ge i S.length with hi' | hi' <;> rcases Nat.lt_or_ge j S.length with hj' | hj'
    · rw [had i hi', had j hj'] at hij
      exact hR.2.1.1 i j hi' hj' hij
    · have hj2 : j = S.length := by omega
      subst hj2
      obtain ⟨y, hy⟩ := hold i hi'
      rw [had i hi', hadn] at hij
      exact hD.1 i S.length _ _ hy hq hij
    · have hi2 : i = S.length := by omega
      subst hi2
      obtain ⟨y, hy⟩ := hold j hj'
      rw [had j hj', hadn] at hij
      exact hD.1 S.length j _ _ hq hy hij
    · omega
  · rw [List.length_append, List.length_singleton] at hi
    rcases Nat.lt_or_ge i S.length with hi' | hi'
    · rw [had i hi']; exact hR.2.1.2.1 i hi'
    · have hi2 : i = S.length := by omega
      subst hi2
      rw [hadn]
      exact hD.2 S.length _ hq
  · rw [hadw]; exact hR.2.1.2.2
  · intro j
    rw [show (zr M S.length).1 100000 = M.1 100000 from by funext j; simp [zr]; omega]
    exact hR.2.2 j
theorem hw_new (E : EN p s m args meth c cc nL ret own g) (hR : RP g S M H) (hS : va_S (gA g) s.heap H locs) (hw : ad g 100000 < s.heap.size) (hbs : g.1 ≤ s.heap.size) (hcl : CL S M) (hln : S.length < 100000) {ci index : Nat} {C : String} {T : u_T} {N : Nat} (hc : CI ci C T N) (hdf : ∀ k, k < N → defaultValue (fty ci k) = dv (fk (fty ci k))) (hlk : Cond.classLink own index C ∈ lwg ∧ Cond.instantiable C N ∈ lwg ∧ Cond.initialized C ∈ lwg) (hcells : cells + 1 ≤ R.cells) (hslots : slots + N ≤ R.slots) (hd : decode cc pc = .ok (.new index, 3))
    (kk : ∀ (g1 : Gg) (S1 : Ss) (M1 : Mm) (H1 : Heap), EX g g1 S → S1 = S ++ [(ci, 0)] → M1 = zr M S.length → RP g1 S1 M1 H1 → va_S (gA g1) s.heap H1 locs → W p l e R s m args below meth c H1 locs (cells + 1) (slots + N) Q (F0 m (pc + 3) ls (.ref (ad g1 S.length) :: rest))) : W p l e R s m args below meth c H locs cells slots Q (F0 m pc ls rest) := by
  have hts := E.2.2.2.2.2.1
  refine va_new (ci := ci) (fs := (List.range N).map (fun k => dv (fk (fty ci k)))) E.1 E.2.1 hts hc.2.2.1 (fty ci) hc.2.2.2.1 E.2.2.2.2.1 (hts _ hlk.1) (hts _ hlk.2.1) (hts _ hlk.2.2) E.2.2.2.2.2.2.1 hR.1 (wld_D hR.2.1) hS (fun q h => Nat.le_trans hbs h) hc.1 (fun j hj => ?_) hcells hslots hd (fun q H1 hP1 hD1 hS1 => ?_)
  · rw [hdf j hj]
    unfold vp_V
    rw [List.getD_eq_getElem?_getD, List.getElem?_map, List.getElem?_range hj]
    rfl
  · have hx : (Sum.inr (ci, (List.range N).map (fun k => dv (fk (fty ci k)))) : va_E) = cel (ext g S.length q) (zr M S.length) S.length (ci, 0) := by
      rw [cel_obj hc.2.2.2.2.2, hc.2.1]
      simp only [fval_zr]
    have h1 := kk (ext g S.length q) _ _ H1 (ext_ex hln) rfl rfl (rp_push hR hS hw hcl hln hx hP1 hD1 hS1) hS1
    rw [show ad (ext g S.length q) S.length = q by simp [ad, ext]] at h1
    exact h1
theorem hw_newa50 (E : EN p s m args meth c cc nL ret own g) (hR : RP g S M H) (hS : va_S (gA g) s.heap H locs) (hw : ad g 100000 < s.heap.size) (hbs : g.1 ≤ s.heap.size) (hcl : CL S M) (hln : S.length < 100000) {n : Int32} (N : Nat) (hn : ¬ n < 0) (hN : n.toNatClampNeg = N) (hbig : N ≤ 1000000) (hlk : Cond.arrayClass .int ∈ lwg) (hcells : cells + 1 ≤ R.cells) (hslots : slots + N ≤ R.slots) (hd : decode cc pc = .ok (.newarray .int, 2))
    (kk : ∀ (g1 : Gg) (S1 : Ss) (M1 : Mm) (H1 : Heap), EX g g1 S → S1 = S ++ [(50, N)] → M1 = zr M S.length → RP g1 S1 M1 H1 → va_S (gA g1) s.heap H1 locs → W p l e R s m args below meth c H1 locs (cells + 1) (slots + N) Q (F0 m (pc + 2) ls (.ref (ad g1 S.length) :: rest))) : W p l e R s m args below meth c H locs cells slots Q (F0 m pc ls (.int n :: rest)) := by
  have hts := E.2.2.2.2.2.1
  refine va_newa (atype := .int) (ty := .int) (a0 := (N, .inl (fun _ => 0))) E.1 E.2.1 (hts _ hlk) rfl E.2.2.2.2.2.2.1 hR.1 (wld_D hR.2.1) hS (fun q h => Nat.le_trans hbs h) (fun cA => rfl) hn hN (by show N * _ ≤ _; first | (have : componentBytes .int ≤ 8 := by decide) ; (calc N * componentBytes .int ≤ 1000000 * 8 := Nat.mul_le_mul hbig this
      _ ≤ 536870912 := by decide)) hcells hslots hd (fun q cA H1 hK1 hP1 hD1 hS1 => ?_)
  have hcA : cA = g.2.2.1 50 := by
    have h1 := (hK1.2 6 (cA, .int) rfl).2
    have h2 := (E.2.2.2.2.2.2.1.2 0 (g.2.2.1 50, .int) rfl).2
    exact Option.some.inj (h1.symm.trans h2)
  subst hcA
  have hx : (Sum.inl (g.2.2.1 50, N, .inl (fun _ => 0)) : va_E) = cel (ext g S.length q) (zr M S.length) S.length (50, N) := by
    rw [cel_arr (by decide)]
    simp [arc, zr, ext]
  have h1 := kk (ext g S.length q) _ _ H1 (ext_ex hln) rfl rfl (rp_push hR hS hw hcl hln hx hP1 hD1 hS1) hS1
  rw [show ad (ext g S.length q) S.length = q by simp [ad, ext]] at h1
  exact h1
theorem hw_newa51 (E : EN p s m args meth c cc nL ret own g) (hR : RP g S M H) (hS : va_S (gA g) s.heap H locs) (hw : ad g 100000 < s.heap.size) (hbs : g.1 ≤ s.heap.size) (hcl : CL S M) (hln : S.length < 100000) {n : Int32} (N : Nat) (hn : ¬ n < 0) (hN : n.toNatClampNeg = N) (hbig : N ≤ 1000000) (hlk : Cond.arrayClass .char ∈ lwg) (hcells : cells + 1 ≤ R.cells) (hslots : slots + N ≤ R.slots) (hd : decode cc pc = .ok (.newarray .char, 2))
    (kk : ∀ (g1 : Gg) (S1 : Ss) (M1 : Mm) (H1 : Heap), EX g g1 S → S1 = S ++ [(51, N)] → M1 = zr M S.length → RP g1 S1 M1 H1 → va_S (gA g1) s.heap H1 locs → W p l e R s m args below meth c H1 locs (cells + 1) (slots + N) Q (F0 m (pc + 2) ls (.ref (ad g1 S.length) :: rest))) : W p l e R s m args below meth c H locs cells slots Q (F0 m pc ls (.int n :: rest)) := by
  have hts := E.2.2.2.2.2.1
  refine va_newa (atype := .char) (ty := .char) (a0 := (N, .inl (fun _ => 0))) E.1 E.2.1 (hts _ hlk) rfl E.2.2.2.2.2.2.1 hR.1 (wld_D hR.2.1) hS (fun q h => Nat.le_trans hbs h) (fun cA => rfl) hn hN (by show N * _ ≤ _; first | (have : componentBytes .char ≤ 8 := by decide) ; (calc N * componentBytes .char ≤ 1000000 * 8 := Nat.mul_le_mul hbig this
      _ ≤ 536870912 := by decide)) hcells hslots hd (fun q cA H1 hK1 hP1 hD1 hS1 => ?_)
  have hcA : cA = g.2.2.1 51 := by
    have h1 := (hK1.2 6 (cA, .char) rfl).2
    have h2 := (E.2.2.2.2.2.2.1.2 1 (g.2.2.1 51, .char) rfl).2
    exact Option.some.inj (h1.symm.trans h2)
  subst hcA
  have hx : (Sum.inl (g.2.2.1 51, N, .inl (fun _ => 0)) : va_E) = cel (ext g S.length q) (zr M S.length) S.length (51, N) := by
    rw [cel_arr (by decide)]
    simp [arc, zr, ext]
  have h1 := kk (ext g S.length q) _ _ H1 (ext_ex hln) rfl rfl (rp_push hR hS hw hcl hln hx hP1 hD1 hS1) hS1
  rw [show ad (ext g S.length q) S.length = q by simp [ad, ext]] at h1
  exact h1
theorem hw_newa52 (E : EN p s m args meth c cc nL ret own g) (hR : RP g S M H) (hS : va_S (gA g) s.heap H locs) (hw : ad g 100000 < s.heap.size) (hbs : g.1 ≤ s.heap.size) (hcl : CL S M) (hln : S.length < 100000) {n : Int32} (N : Nat) (hn : ¬ n < 0) (hN : n.toNatClampNeg = N) (hbig : N ≤ 1000000) (hlk : Cond.arrayClass .boolean ∈ lwg) (hcells : cells + 1 ≤ R.cells) (hslots : slots + N ≤ R.slots) (hd : decode cc pc = .ok (.newarray .boolean, 2))
    (kk : ∀ (g1 : Gg) (S1 : Ss) (M1 : Mm) (H1 : Heap), EX g g1 S → S1 = S ++ [(52, N)] → M1 = zr M S.length → RP g1 S1 M1 H1 → va_S (gA g1) s.heap H1 locs → W p l e R s m args below meth c H1 locs (cells + 1) (slots + N) Q (F0 m (pc + 2) ls (.ref (ad g1 S.length) :: rest))) : W p l e R s m args below meth c H locs cells slots Q (F0 m pc ls (.int n :: rest)) := by
  have hts := E.2.2.2.2.2.1
  refine va_newa (atype := .boolean) (ty := .boolean) (a0 := (N, .inl (fun _ => 0))) E.1 E.2.1 (hts _ hlk) rfl E.2.2.2.2.2.2.1 hR.1 (wld_D hR.2.1) hS (fun q h => Nat.le_trans hbs h) (fun cA => rfl) hn hN (by show N * _ ≤ _; first | (have : componentBytes .boolean ≤ 8 := by decide) ; (calc N * componentBytes .boolean ≤ 1000000 * 8 := Nat.mul_le_mul hbig this
      _ ≤ 536870912 := by decide)) hcells hslots hd (fun q cA H1 hK1 hP1 hD1 hS1 => ?_)
  have hcA : cA = g.2.2.1 52 := by
    have h1 := (hK1.2 6 (cA, .boolean) rfl).2
    have h2 := (E.2.2.2.2.2.2.1.2 2 (g.2.2.1 52, .boolean) rfl).2
    exact Option.some.inj (h1.symm.trans h2)
  subst hcA
  have hx : (Sum.inl (g.2.2.1 52, N, .inl (fun _ => 0)) : va_E) = cel (ext g S.length q) (zr M S.length) S.length (52, N) := by
    rw [cel_arr (by decide)]
    simp [arc, zr, ext]
  have h1 := kk (ext g S.length q) _ _ H1 (ext_ex hln) rfl rfl (rp_push hR hS hw hcl hln hx hP1 hD1 hS1) hS1
  rw [show ad (ext g S.length q) S.length = q by simp [ad, ext]] at h1
  exact h1
theorem hw_newa53 (E : EN p s m args meth c cc nL ret own g) (hR : RP g S M H) (hS : va_S (gA g) s.heap H locs) (hw : ad g 100000 < s.heap.size) (hbs : g.1 ≤ s.heap.size) (hcl : CL S M) (hln : S.length < 100000) {n : Int32} (N : Nat) (hn : ¬ n < 0) (hN : n.toNatClampNeg = N) (hbig : N ≤ 1000000) (hlk : Cond.arrayClass .long ∈ lwg) (hcells : cells + 1 ≤ R.cells) (hslots : slots + N ≤ R.slots) (hd : decode cc pc = .ok (.newarray .long, 2))
    (kk : ∀ (g1 : Gg) (S1 : Ss) (M1 : Mm) (H1 : Heap), EX g g1 S → S1 = S ++ [(53, N)] → M1 = zr M S.length → RP g1 S1 M1 H1 → va_S (gA g1) s.heap H1 locs → W p l e R s m args below meth c H1 locs (cells + 1) (slots + N) Q (F0 m (pc + 2) ls (.ref (ad g1 S.length) :: rest))) : W p l e R s m args below meth c H locs cells slots Q (F0 m pc ls (.int n :: rest)) := by
  have hts := E.2.2.2.2.2.1
  refine va_newa (atype := .long) (ty := .long) (a0 := (N, .inr (.inl (fun _ => 0)))) E.1 E.2.1 (hts _ hlk) rfl E.2.2.2.2.2.2.1 hR.1 (wld_D hR.2.1) hS (fun q h => Nat.le_trans hbs h) (fun cA => rfl) hn hN (by show N * _ ≤ _; first | (have : componentBytes .long ≤ 8 := by decide) ; (calc N * componentBytes .long ≤ 1000000 * 8 := Nat.mul_le_mul hbig this
      _ ≤ 536870912 := by decide)) hcells hslots hd (fun q cA H1 hK1 hP1 hD1 hS1 => ?_)
  have hcA : cA = g.2.2.1 53 := by
    have h1 := (hK1.2 6 (cA, .long) rfl).2
    have h2 := (E.2.2.2.2.2.2.1.2 3 (g.2.2.1 53, .long) rfl).2
    exact Option.some.inj (h1.symm.trans h2)
  subst hcA
  have hx : (Sum.inl (g.2.2.1 53, N, .inr (.inl (fun _ => 0))) : va_E) = cel (ext g S.length q) (zr M S.length) S.length (53, N) := by
    rw [cel_arr (by decide)]
    simp [arc, zr, ext]
  have h1 := kk (ext g S.length q) _ _ H1 (ext_ex hln) rfl rfl (rp_push hR hS hw hcl hln hx hP1 hD1 hS1) hS1
  rw [show ad (ext g S.length q) S.length = q by simp [ad, ext]] at h1
  exact h1
theorem hw_newa54 (E : EN p s m args meth c cc nL ret own g) (hR : RP g S M H) (hS : va_S (gA g) s.heap H locs) (hw : ad g 100000 < s.heap.size) (hbs : g.1 ≤ s.heap.size) (hcl : CL S M) (hln : S.length < 100000) {n : Int32} (N : Nat) {index : Nat} (hn : ¬ n < 0) (hN : n.toNatClampNeg = N) (hbig : N ≤ 1000000) (hlk : Cond.classLink own index RX2 ∈ lwg) (hao : va_AO RX2 s) (hcells : cells + 1 ≤ R.cells) (hslots : slots + N ≤ R.slots) (hd : decode cc pc = .ok (.anewarray index, 3))
    (kk : ∀ (g1 : Gg) (S1 : Ss) (M1 : Mm) (H1 : Heap), EX g g1 S → S1 = S ++ [(54, N)] → M1 = zr M S.length → RP g1 S1 M1 H1 → va_S (gA g1) s.heap H1 locs → W p l e R s m args below meth c H1 locs (cells + 1) (slots + N) Q (F0 m (pc + 3) ls (.ref (ad g1 S.length) :: rest))) : W p l e R s m args below meth c H locs cells slots Q (F0 m pc ls (.int n :: rest)) := by
  have hts := E.2.2.2.2.2.1
  refine va_newq E.1 E.2.1 E.2.2.2.2.1 (hts _ hlk) hao E.2.2.2.2.2.2.1 hR.1 (wld_D hR.2.1) hS (fun q h => Nat.le_trans hbs h) hn hN (by omega) hcells hslots hd (fun q cA H1 hK1 hP1 hD1 hS1 => ?_)
  have hcA : cA = g.2.2.1 54 := by
    obtain ⟨kA, comp, -, -, -, h1⟩ := (hK1.2 6 (cA, .object RX2) rfl).2
    obtain ⟨kA2, comp2, -, -, -, h2⟩ := (E.2.2.2.2.2.2.1.2 4 (g.2.2.1 54, .object RX2) rfl).2
    exact Option.some.inj (h1.symm.trans h2)
  subst hcA
  have hx : (Sum.inl (g.2.2.1 54, N, .inr (.inr (.inr (.inr (fun _ => none))))) : va_E) = cel (ext g S.length q) (zr M S.length) S.length (54, N) := by
    rw [cel_arr (by decide)]
    simp [arc, zr, ext]
  have h1 := kk (ext g S.length q) _ _ H1 (ext_ex hln) rfl rfl (rp_push hR hS hw hcl hln hx hP1 hD1 hS1) hS1
  rw [show ad (ext g S.length q) S.length = q by simp [ad, ext]] at h1
  exact h1
theorem hw_newa55 (E : EN p s m args meth c cc nL ret own g) (hR : RP g S M H) (hS : va_S (gA g) s.heap H locs) (hw : ad g 100000 < s.heap.size) (hbs : g.1 ≤ s.heap.size) (hcl : CL S M) (hln : S.length < 100000) {n : Int32} (N : Nat) {index : Nat} (hn : ¬ n < 0) (hN : n.toNatClampNeg = N) (hbig : N ≤ 1000000) (hlk : Cond.classLink own index RX5 ∈ lwg) (hao : va_AO RX5 s) (hcells : cells + 1 ≤ R.cells) (hslots : slots + N ≤ R.slots) (hd : decode cc pc = .ok (.anewarray index, 3))
    (kk : ∀ (g1 : Gg) (S1 : Ss) (M1 : Mm) (H1 : Heap), EX g g1 S → S1 = S ++ [(55, N)] → M1 = zr M S.length → RP g1 S1 M1 H1 → va_S (gA g1) s.heap H1 locs → W p l e R s m args below meth c H1 locs (cells + 1) (slots + N) Q (F0 m (pc + 3) ls (.ref (ad g1 S.length) :: rest))) : W p l e R s m args below meth c H locs cells slots Q (F0 m pc ls (.int n :: rest)) := by
  have hts := E.2.2.2.2.2.1
  refine va_newq E.1 E.2.1 E.2.2.2.2.1 (hts _ hlk) hao E.2.2.2.2.2.2.1 hR.1 (wld_D hR.2.1) hS (fun q h => Nat.le_trans hbs h) hn hN (by omega) hcells hslots hd (fun q cA H1 hK1 hP1 hD1 hS1 => ?_)
  have hcA : cA = g.2.2.1 55 := by
    obtain ⟨kA, comp, -, -, -, h1⟩ := (hK1.2 6 (cA, .object RX5) rfl).2
    obtain ⟨kA2, comp2, -, -, -, h2⟩ := (E.2.2.2.2.2.2.1.2 5 (g.2.2.1 55, .object RX5) rfl).2
    exact Option.some.inj (h1.symm.trans h2)
  subst hcA
  have hx : (Sum.inl (g.2.2.1 55, N, .inr (.inr (.inr (.inr (fun _ => none))))) : va_E) = cel (ext g S.length q) (zr M S.length) S.length (55, N) := by
    rw [cel_arr (by decide)]
    simp [arc, zr, ext]
  have h1 := kk (ext g S.length q) _ _ H1 (ext_ex hln) rfl rfl (rp_push hR hS hw hcl hln hx hP1 hD1 hS1) hS1
  rw [show ad (ext g S.length q) S.length = q by simp [ad, ext]] at h1
  exact h1
end HWN
