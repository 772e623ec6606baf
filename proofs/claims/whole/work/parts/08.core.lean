/-! THE WORLD AS ONE MEMORY: abstract addresses 0, 1, 2 .. (the place in which a cell was made) and three functions of address and place. -/
abbrev Mm : Type := (Nat → Nat → Int32) × (Nat → Nat → Int64) × (Nat → Nat → Option Nat)
/-- where the world begins, the classes' numbers, the array classes, where each cell lies (100000: the static array) -/
abbrev Gg : Type := Nat × va_G × (Nat → ClassId) × (Nat → Nat)
/-- the shapes: kind and length, a cell each -/
abbrev Ss : Type := List (Nat × Nat)
def ad (g : Gg) (k : Nat) : Nat := g.2.2.2 k
def rfv (g : Gg) (o : Option Nat) : Value := va_rf (o.map (ad g))
theorem rfv_some (g : Gg) (a : Nat) : rfv g (some a) = .ref (ad g a) := rfl
theorem rfv_none (g : Gg) : rfv g none = .null := rfl
def fty (c : Nat) : Nat → FieldType := match c with
  | 0 => tyX1 | 1 => tyX2 | 2 => tyX3 | 3 => tyX4 | 4 => tyX5 | 5 => tyX6 | 6 => tyX7 | 7 => tyX8 | 8 => tyX9 | 9 => tyX10 | _ => tyX11
def nfd (c : Nat) : Nat := match c with
  | 0 => 10 | 1 => 5 | 2 => 15 | 3 => 7 | 4 => 8 | 5 => 7 | 6 => 2 | 7 => 3 | 8 => 19 | 9 => 13 | _ => 86
/-- which of the three a type is kept in -/
def fk (ty : FieldType) : Nat := match ty with
  | .long => 1 | .object _ => 2 | .array _ => 2 | _ => 0
def fval (g : Gg) (M : Mm) (a : Nat) (t k : Nat) : Value := if t = 1 then .long (M.2.1 a k) else if t = 2 then rfv g (M.2.2 a k) else .int (M.1 a k)
def arc (g : Gg) (M : Mm) (a t : Nat) : (Nat → Int32) ⊕ (Nat → Int64) ⊕ (Nat → UInt32) ⊕ (Nat → UInt64) ⊕ (Nat → Option Nat) :=
  if t = 53 then .inr (.inl (M.2.1 a)) else if 54 ≤ t then .inr (.inr (.inr (.inr (fun j => (M.2.2 a j).map (ad g))))) else .inl (M.1 a)
def cel (g : Gg) (M : Mm) (a : Nat) (sh : Nat × Nat) : va_E :=
  if sh.1 < 50 then .inr (sh.1, (List.range (nfd sh.1)).map (fun k => fval g M a (fk (fty sh.1 k)) k)) else .inl (g.2.2.1 sh.1, sh.2, arc g M a sh.1)
def wld (g : Gg) (S : Ss) (M : Mm) : va_W := (List.range S.length).map (fun k => (ad g k, cel g M k (S.getD k (0, 0))))
abbrev tyg (g : Gg) : List (ClassId × FieldType) := [(g.2.2.1 50, .int), (g.2.2.1 51, .char), (g.2.2.1 52, .boolean), (g.2.2.1 53, .long), (g.2.2.1 54, .object RX2), (g.2.2.1 55, .object RX5)]
def gA (g : Gg) : Nat → Prop := fun q => g.1 ≤ q
/-- the cells lie apart, in the world's part -/
def DS (g : Gg) (S : Ss) : Prop := (∀ i j, i < S.length → j < S.length → ad g i = ad g j → i = j) ∧ (∀ i, i < S.length → g.1 ≤ ad g i) ∧ ad g 100000 < g.1
def RP (g : Gg) (S : Ss) (M : Mm) (H : Heap) : Prop := va_P g.2.1 vwCl (wld g S M) H ∧ DS g S ∧ ∀ j, M.1 100000 j = 1
def ZE (g : Gg) (U : State) (H : Heap) : Prop := va_Z "TwoKeys" "EVEN_WEIGHTS" "[I" (.ref (ad g 100000)) (gA g) U H ∧ va_T .int (ad g 100000) 5 (fun _ => .int 1) (gA g) U H
theorem ZE.moved {g : Gg} {u U : State} {H : Heap} (hvm : u.vm.Alike U.vm) (h : ZE g u H) : ZE g U H := ⟨va_Z.moved hvm h.1, va_T.moved hvm h.2⟩
theorem ZE.kept {g : Gg} {U : State} {H H1 : Heap} (h : ZE g U H) (hq : ∀ a : Nat, a < H.size → ¬ gA g a → H1[a]? = H[a]?) : ZE g U H1 := ⟨va_Z.kept h.1 hq, va_T.kept h.2 hq⟩
theorem ze_w {g : Gg} {U : State} {H : Heap} (h : ZE g U H) : ad g 100000 < H.size := by
  obtain ⟨-, cell, h1, -⟩ := h
  exact (Array.getElem?_eq_some_iff.mp h1).1
def RU (g : Gg) (S : Ss) (M : Mm) (U : State) : Prop := RP g S M U.heap ∧ va_K g.2.1 vwCl (tyg g) U ∧ ZE g U U.heap
/-- the shape at an address that is read: the static array too -/
def shp (S : Ss) (a : Nat) : Option (Nat × Nat) := if a = 100000 then some (50, 5) else S[a]?
def stI (M : Mm) (a k : Nat) (v : Int32) : Mm := (fun b j => if b = a ∧ j = k then v else M.1 b j, M.2.1, M.2.2)
def stJ (M : Mm) (a k : Nat) (v : Int64) : Mm := (M.1, fun b j => if b = a ∧ j = k then v else M.2.1 b j, M.2.2)
def stR (M : Mm) (a k : Nat) (v : Option Nat) : Mm := (M.1, M.2.1, fun b j => if b = a ∧ j = k then v else M.2.2 b j)
theorem wld_get {g : Gg} {S : Ss} {M : Mm} {a : Nat} {sh : Nat × Nat} (h : S[a]? = some sh) : (wld g S M)[a]? = some (ad g a, cel g M a sh) := by
  have hl : a < S.length := (List.getElem?_eq_some_iff.mp h).1
  unfold wld
  rw [List.getElem?_map, List.getElem?_range hl, Option.map_some, List.getD_eq_getElem?_getD, h, Option.getD_some]
theorem wld_at {g : Gg} {S : Ss} {M : Mm} {k : Nat} {q : Nat × va_E} (h : (wld g S M)[k]? = some q) : k < S.length ∧ q.1 = ad g k := by
  unfold wld at h
  rw [List.getElem?_map] at h
  cases hr : (List.range S.length)[k]? with
  | none => rw [hr] at h; cases h
  | some i =>
    have hl : k < S.length := by
      have := (List.getElem?_eq_some_iff.mp hr).1
      rwa [List.length_range] at this
    rw [List.getElem?_range hl] at hr
    cases hr
    rw [List.getElem?_range hl] at h
    cases h
    exact ⟨hl, rfl⟩
theorem wld_D {g : Gg} {S : Ss} {M : Mm} (h : DS g S) : va_D (gA g) (wld g S M) := by
  refine ⟨fun i j x y hi hj hxy => ?_, fun k q hk => ?_⟩
  · obtain ⟨h1, h2⟩ := wld_at hi
    obtain ⟨h3, h4⟩ := wld_at hj
    rw [h2, h4] at hxy
    exact h.1 i j h1 h3 hxy
  · obtain ⟨h1, h2⟩ := wld_at hk
    rw [h2]
    exact h.2.1 k h1
theorem wld_set {g : Gg} {S : Ss} {M M' : Mm} {a : Nat} {sh : Nat × Nat} {e : va_E} (h : S[a]? = some sh) (he : e = cel g M' a sh) (ho : ∀ b : Nat, b ≠ a → ∀ sh', cel g M' b sh' = cel g M b sh') : (wld g S M).set a (ad g a, e) = wld g S M' := by
  have hl : a < S.length := (List.getElem?_eq_some_iff.mp h).1
  subst he
  apply List.ext_getElem?
  intro k
  by_cases hk : k = a
  · subst hk
    rw [List.getElem?_set_self (by unfold wld; rw [List.length_map, List.length_range]; exact hl), wld_get h]
  · rw [List.getElem?_set_ne (Ne.symm hk)]
    by_cases hkl : k < S.length
    · have hs : S[k]? = some S[k] := List.getElem?_eq_getElem hkl
      rw [wld_get hs, wld_get hs, ho k hk]
    · have h1 : (wld g S M)[k]? = none := by rw [List.getElem?_eq_none_iff]; unfold wld; rw [List.length_map, List.length_range]; omega
      have h2 : (wld g S M')[k]? = none := by rw [List.getElem?_eq_none_iff]; unfold wld; rw [List.length_map, List.length_range]; omega
      rw [h1, h2]
theorem cel_congr {g : Gg} {M M' : Mm} {b : Nat} (h1 : M'.1 b = M.1 b) (h2 : M'.2.1 b = M.2.1 b) (h3 : M'.2.2 b = M.2.2 b) (sh : Nat × Nat) : cel g M' b sh = cel g M b sh := by
  unfold cel arc fval
  rw [h1, h2, h3]
theorem cel_obj {g : Gg} {M : Mm} {a ci n : Nat} (h : ci < 50) : cel g M a (ci, n) = .inr (ci, (List.range (nfd ci)).map (fun k => fval g M a (fk (fty ci k)) k)) := by
  unfold cel; rw [if_pos h]
theorem cel_arr {g : Gg} {M : Mm} {a t n : Nat} (h : 50 ≤ t) : cel g M a (t, n) = .inl (g.2.2.1 t, n, arc g M a t) := by
  unfold cel; rw [if_neg (by omega)]
/-- what the printed rows say of a class -/
def CI (ci : Nat) (C : String) (T : u_T) (N : Nat) : Prop := vwCl[ci]? = some (C, T, N) ∧ nfd ci = N ∧ (∀ w ∈ u_ws C T N, w ∈ lwg) ∧ (∀ k, k < N → parseFieldDescriptor (T k).2.2.1 = some (fty ci k)) ∧ (∀ a, a < N → ∀ b, b < N → a ≠ b → (T a).2.1 ≠ (T b).2.1) ∧ ci < 50
theorem cI0 : CI 0 RX1 TX1 10 := ⟨rfl, rfl, inX1, tyX1_ok, nmX1, by decide⟩
theorem cI1 : CI 1 RX2 TX2 5 := ⟨rfl, rfl, inX2, tyX2_ok, nmX2, by decide⟩
theorem cI2 : CI 2 RX3 TX3 15 := ⟨rfl, rfl, inX3, tyX3_ok, nmX3, by decide⟩
theorem cI3 : CI 3 RX4 TX4 7 := ⟨rfl, rfl, inX4, tyX4_ok, nmX4, by decide⟩
theorem cI4 : CI 4 RX5 TX5 8 := ⟨rfl, rfl, inX5, tyX5_ok, nmX5, by decide⟩
theorem cI5 : CI 5 RX6 TX6 7 := ⟨rfl, rfl, inX6, tyX6_ok, nmX6, by decide⟩
theorem cI6 : CI 6 RX7 TX7 2 := ⟨rfl, rfl, inX7, tyX7_ok, nmX7, by decide⟩
theorem cI7 : CI 7 RX8 TX8 3 := ⟨rfl, rfl, inX8, tyX8_ok, nmX8, by decide⟩
theorem cI8 : CI 8 RX9 TX9 19 := ⟨rfl, rfl, inX9, tyX9_ok, nmX9, by decide⟩
theorem cI9 : CI 9 RX10 TX10 13 := ⟨rfl, rfl, inX10, tyX10_ok, nmX10, by decide⟩
theorem cI10 : CI 10 RX11 TX11 86 := ⟨rfl, rfl, inX11, tyX11_ok, nmX11, by decide⟩
/-- what holds of a method's frame, from its entry to its end -/
def EN (p : Program) (s : State) (m : MethodId) (args : Array Value) (meth : Method) (c : Code) (cc : ByteArray) (nL : Nat) (ret : Option FieldType) (own : String) (g : Gg) : Prop :=
  p.tables.exec = Jvm.exec ∧ c.code = cc ∧ meth.sig.returnType = ret ∧ c.maxLocals = nL ∧ s.vm.findClass own = some m.cls ∧ (∀ w ∈ lwg, w.before args s = true) ∧ va_K g.2.1 vwCl (tyg g) s ∧ meth.locks = false ∧ ZE g s s.heap
/-- how a method of ours ends -/
def QA (g : Gg) (S : Ss) (Po : Option Value → Mm → Prop) : Array Value → State → Outcome → State → Prop := fun _ st oc t => (∃ (r : Option Value) (M : Mm), oc = .returned r ∧ Po r M ∧ RU g S M t) ∧ va_F (gA g) st t
abbrev rmD (d : Nat) : Room := { frames := d, cells := 0, slots := 0, locals := 64 * d }
/-- a method that makes nothing, from a memory, with a call depth -/
def MT (l : Launch) (g : Gg) (S : Ss) (y : MethodName) (cc : ByteArray) (nL : Nat) (ret : Option FieldType) (d : Nat) (av : List Value) (M : Mm) (Po : Option Value → Mm → Prop) : Prop :=
  Met l y (Cond.code y cc nL ret :: lwg) (rmD d) (va_Pc av (RU g S M)) (QA g S Po) 0 0 (gA g)
theorem fe_set {α : Type} (n k : Nat) (f f' : Nat → α) (v : α) (hv : f' k = v) (ho : ∀ j, j ≠ k → f' j = f j) : ((List.range n).map f).set k v = (List.range n).map f' := by
  apply List.ext_getElem?
  intro j
  by_cases hj : j = k
  · subst hj
    by_cases hl : j < n
    · rw [List.getElem?_set_self (by rw [List.length_map, List.length_range]; exact hl), List.getElem?_map, List.getElem?_range hl, Option.map_some, hv]
    · rw [List.getElem?_eq_none_iff.mpr (by rw [List.length_set, List.length_map, List.length_range]; omega), List.getElem?_eq_none_iff.mpr (by rw [List.length_map, List.length_range]; omega)]
  · rw [List.getElem?_set_ne (Ne.symm hj), List.getElem?_map, List.getElem?_map]
    by_cases hl : j < n
    · rw [List.getElem?_range hl, Option.map_some, Option.map_some, ho j hj]
    · rw [List.getElem?_eq_none_iff.mpr (by rw [List.length_range]; omega)]; rfl
