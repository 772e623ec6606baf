section HWR
variable {p : Program} {l : Launch} {e : Env} {R : Room} {s : State} {m : MethodId} {args : Array Value} {below : List Frame} {meth : Method} {c : Code} {H : Heap} {locs : List Loc} {cells slots : Nat} {Q : State → Prop}
variable {cc : ByteArray} {pc nL : Nat} {ls : Array Slot} {rest : List Value} {ret : Option FieldType} {own : String} {g : Gg} {S : Ss} {M : Mm}
theorem obj_place {ci n a k : Nat} {C : String} {T : u_T} {N : Nat} (hc : CI ci C T N) (ha : S[a]? = some (ci, n)) (hk : k < N) : ∃ fs : List Value, (wld g S M)[a]? = some (ad g a, .inr (ci, fs)) ∧ fs = (List.range (nfd ci)).map (fun k => fval g M a (fk (fty ci k)) k) ∧ fs[k]? = some (fval g M a (fk (fty ci k)) k) ∧ k < fs.length := by
  obtain ⟨h1, h2, h3, h4, h5, h6⟩ := hc
  refine ⟨_, (wld_get ha).trans (by rw [cel_obj h6]), rfl, ?_, ?_⟩
  · rw [List.getElem?_map, List.getElem?_range (by omega), Option.map_some]
  · rw [List.length_map, List.length_range]; omega
/-- getfield -/
theorem hw_get (E : EN p s m args meth c cc nL ret own g) (hR : RP g S M H) {ci n a index : Nat} {C : String} {T : u_T} {N : Nat} (hc : CI ci C T N) (ha : S[a]? = some (ci, n)) (k : Nat) (hk : k < N) (hlink : Cond.fieldLink own index (T k).1 (T k).2.1 (T k).2.2.1 ∈ lwg) (hd : decode cc pc = .ok (.getfield index, 3))
    (kk : W p l e R s m args below meth c H locs cells slots Q (F0 m (pc + 3) ls (fval g M a (fk (fty ci k)) k :: rest))) : W p l e R s m args below meth c H locs cells slots Q (F0 m pc ls (.ref (ad g a) :: rest)) := by
  obtain ⟨fs, h1, h2, h3, h4⟩ := obj_place (g := g) (M := M) hc ha hk
  exact va_get E.1 E.2.1 E.2.2.2.2.2.1 hc.2.2.1 E.2.2.2.2.1 E.2.2.2.2.2.2.1 hR.1 a h1 hc.1 k hk (E.2.2.2.2.2.1 _ hlink) (fun _ h => h) h3 hd kk
theorem rp_new {M' : Mm} {H1 : Heap} {locs1 : List Loc} (hR : RP g S M H) (_ : va_S (gA g) s.heap H locs) (hP : va_P g.2.1 vwCl (wld g S M') H1) (_ : va_S (gA g) s.heap H1 locs1) (hst : M'.1 100000 = M.1 100000) (_ : ad g 100000 < s.heap.size) : RP g S M' H1 :=
  ⟨hP, hR.2.1, fun j => by rw [hst]; exact hR.2.2 j⟩
theorem ds_ne (h : DS g S) {a : Nat} {sh : Nat × Nat} (ha : S[a]? = some sh) : a ≠ 100000 := by
  intro hh
  have hl : a < S.length := (List.getElem?_eq_some_iff.mp ha).1
  have h1 := h.2.1 a hl
  have h2 := h.2.2
  rw [hh] at h1
  omega
theorem hw_putA (E : EN p s m args meth c cc nL ret own g) (hR : RP g S M H) (hS : va_S (gA g) s.heap H locs) (hw : ad g 100000 < s.heap.size) {ci n a index : Nat} {C : String} {T : u_T} {N : Nat} (hc : CI ci C T N) (ha : S[a]? = some (ci, n)) (k : Nat) (hk : k < N) (hlink : Cond.fieldLink own index (T k).1 (T k).2.1 (T k).2.2.1 ∈ lwg) (hfin : (T k).2.2.2 = false) {v : Value} (hn : narrow (fty ci k) v = v) (hfit : fits (fty ci k) v = true) {M' : Mm} (hM1 : ∀ b, b ≠ a → M'.1 b = M.1 b) (hM2 : ∀ b, b ≠ a → M'.2.1 b = M.2.1 b) (hM3 : ∀ b, b ≠ a → M'.2.2 b = M.2.2 b) (hv : fval g M' a (fk (fty ci k)) k = v) (ho : ∀ j, j ≠ k → fval g M' a (fk (fty ci j)) j = fval g M a (fk (fty ci j)) j) (hd : decode cc pc = .ok (.putfield index, 3))
    (kk : ∀ (H1 : Heap) (locs1 : List Loc), RP g S M' H1 → va_S (gA g) s.heap H1 locs1 → W p l e R s m args below meth c H1 locs1 cells slots Q (F0 m (pc + 3) ls rest)) : W p l e R s m args below meth c H locs cells slots Q (F0 m pc ls (v :: .ref (ad g a) :: rest)) := by
  obtain ⟨fs, h1, h2, h3, h4⟩ := obj_place (g := g) (M := M) hc ha hk
  have hset : (wld g S M).set a (ad g a, .inr (ci, fs.set k v)) = wld g S M' := by
    refine wld_set ha ?_ (fun b hb sh' => cel_congr (hM1 b hb) (hM2 b hb) (hM3 b hb) sh')
    rw [cel_obj hc.2.2.2.2.2, h2, fe_set _ k _ (fun k => fval g M' a (fk (fty ci k)) k) v hv ho]
  refine va_put E.1 E.2.1 E.2.2.2.2.2.1 hc.2.2.1 (fty ci) hc.2.2.2.1 hc.2.2.2.2.1 E.2.2.2.2.1 E.2.2.2.2.2.2.1 hR.1 (wld_D hR.2.1) hS a h1 hc.1 k hk (E.2.2.2.2.2.1 _ hlink) (fun _ h => h) hfin (hc.2.2.2.1 k hk) hn hfit h4 hd (fun H1 locs1 hP1 hD1 hS1 => ?_)
  rw [hset] at hP1
  exact kk H1 locs1 (rp_new hR hS hP1 hS1 (hM1 _ (Ne.symm (ds_ne hR.2.1 ha))) hw) hS1
theorem nar_int {ty : FieldType} {v : Int32} (h : ty = .int ∨ (ty = .boolean ∧ (v = 0 ∨ v = 1))) : narrow ty (.int v) = .int v ∧ fits ty (.int v) = true ∧ fk ty = 0 := by
  rcases h with rfl | ⟨rfl, rfl | rfl⟩
  · exact ⟨rfl, rfl, rfl⟩
  · exact ⟨by decide, by decide, rfl⟩
  · exact ⟨by decide, by decide, rfl⟩
/-- putfield of an int (or a boolean that is 0 or 1) -/
theorem hw_putI (E : EN p s m args meth c cc nL ret own g) (hR : RP g S M H) (hS : va_S (gA g) s.heap H locs) (hw : ad g 100000 < s.heap.size) {ci n a index : Nat} {C : String} {T : u_T} {N : Nat} (hc : CI ci C T N) (ha : S[a]? = some (ci, n)) (k : Nat) (hk : k < N) (hlink : Cond.fieldLink own index (T k).1 (T k).2.1 (T k).2.2.1 ∈ lwg) (hfin : (T k).2.2.2 = false) {v : Int32} (hty : fty ci k = .int ∨ (fty ci k = .boolean ∧ (v = 0 ∨ v = 1))) (hd : decode cc pc = .ok (.putfield index, 3))
    (kk : ∀ (M1 : Mm) (H1 : Heap) (locs1 : List Loc), M1 = stI M a k v → RP g S M1 H1 → va_S (gA g) s.heap H1 locs1 → W p l e R s m args below meth c H1 locs1 cells slots Q (F0 m (pc + 3) ls rest)) : W p l e R s m args below meth c H locs cells slots Q (F0 m pc ls (.int v :: .ref (ad g a) :: rest)) := by
  obtain ⟨n1, n2, n3⟩ := nar_int hty
  refine hw_putA E hR hS hw hc ha k hk hlink hfin n1 n2 (M' := stI M a k v) ?_ ?_ ?_ ?_ ?_ hd (fun H1 locs1 h1 h2 => kk _ H1 locs1 rfl h1 h2)
  · intro b hb; funext j; simp [stI, hb]
  · intro b hb; rfl
  · intro b hb; rfl
  · rw [n3]; simp [fval, stI]
  · intro j hj; simp [fval, stI, hj]
theorem hw_putJ (E : EN p s m args meth c cc nL ret own g) (hR : RP g S M H) (hS : va_S (gA g) s.heap H locs) (hw : ad g 100000 < s.heap.size) {ci n a index : Nat} {C : String} {T : u_T} {N : Nat} (hc : CI ci C T N) (ha : S[a]? = some (ci, n)) (k : Nat) (hk : k < N) (hlink : Cond.fieldLink own index (T k).1 (T k).2.1 (T k).2.2.1 ∈ lwg) (hfin : (T k).2.2.2 = false) {v : Int64} (hty : fty ci k = .long) (hd : decode cc pc = .ok (.putfield index, 3))
    (kk : ∀ (M1 : Mm) (H1 : Heap) (locs1 : List Loc), M1 = stJ M a k v → RP g S M1 H1 → va_S (gA g) s.heap H1 locs1 → W p l e R s m args below meth c H1 locs1 cells slots Q (F0 m (pc + 3) ls rest)) : W p l e R s m args below meth c H locs cells slots Q (F0 m pc ls (.long v :: .ref (ad g a) :: rest)) := by
  refine hw_putA E hR hS hw hc ha k hk hlink hfin (by rw [hty]; rfl) (by rw [hty]; rfl) (M' := stJ M a k v) ?_ ?_ ?_ ?_ ?_ hd (fun H1 locs1 h1 h2 => kk _ H1 locs1 rfl h1 h2)
  · intro b hb; rfl
  · intro b hb; funext j; simp [stJ, hb]
  · intro b hb; rfl
  · rw [hty]; simp [fval, stJ, fk]
  · intro j hj; simp [fval, stJ, hj]
theorem nar_ref {ty : FieldType} (h : fk ty = 2) (g : Gg) (o : Option Nat) : narrow ty (rfv g o) = rfv g o ∧ fits ty (rfv g o) = true := by
  cases ty <;> first | (exfalso; revert h; decide) | (cases o <;> exact ⟨rfl, rfl⟩)
theorem hw_putR (E : EN p s m args meth c cc nL ret own g) (hR : RP g S M H) (hS : va_S (gA g) s.heap H locs) (hw : ad g 100000 < s.heap.size) {ci n a index : Nat} {C : String} {T : u_T} {N : Nat} (hc : CI ci C T N) (ha : S[a]? = some (ci, n)) (k : Nat) (hk : k < N) (hlink : Cond.fieldLink own index (T k).1 (T k).2.1 (T k).2.2.1 ∈ lwg) (hfin : (T k).2.2.2 = false) {o : Option Nat} (hty : fk (fty ci k) = 2) (hd : decode cc pc = .ok (.putfield index, 3))
    (kk : ∀ (M1 : Mm) (H1 : Heap) (locs1 : List Loc), M1 = stR M a k o → RP g S M1 H1 → va_S (gA g) s.heap H1 locs1 → W p l e R s m args below meth c H1 locs1 cells slots Q (F0 m (pc + 3) ls rest)) : W p l e R s m args below meth c H locs cells slots Q (F0 m pc ls (rfv g o :: .ref (ad g a) :: rest)) := by
  obtain ⟨n1, n2⟩ := nar_ref hty g o
  refine hw_putA E hR hS hw hc ha k hk hlink hfin n1 n2 (M' := stR M a k o) ?_ ?_ ?_ ?_ ?_ hd (fun H1 locs1 h1 h2 => kk _ H1 locs1 rfl h1 h2)
  · intro b hb; rfl
  · intro b hb; rfl
  · intro b hb; funext j; simp [stR, hb]
  · rw [hty]; simp [fval, stR]
  · intro j hj; simp [fval, stR, hj]
end HWR
