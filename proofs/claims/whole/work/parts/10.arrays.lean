section HWA
variable {p : Program} {l : Launch} {e : Env} {R : Room} {s : State} {m : MethodId} {args : Array Value} {below : List Frame} {meth : Method} {c : Code} {H : Heap} {locs : List Loc} {cells slots : Nat} {Q : State → Prop}
variable {cc : ByteArray} {pc nL : Nat} {ls : Array Slot} {rest : List Value} {ret : Option FieldType} {own : String} {g : Gg} {S : Ss} {M : Mm}
theorem arr_place {t n a : Nat} (ht : 50 ≤ t) (ha : S[a]? = some (t, n)) : (wld g S M)[a]? = some (ad g a, .inl (g.2.2.1 t, n, arc g M a t)) := (wld_get ha).trans (by rw [cel_arr ht])
theorem p_one {D : va_G} {cl : List vw_C} {q : Nat × va_E} (h : va_at D cl q H) : va_P D cl [q] H := by
  intro k x hx
  cases k with
  | zero => cases hx; exact h
  | succ k => cases hx
theorem upd_stI (M : Mm) (a k : Nat) (v : Int32) : upd (M.1 a) k v = (stI M a k v).1 a := by
  funext j; simp [upd, stI]
theorem upd_stJ (M : Mm) (a k : Nat) (v : Int64) : vp_updL (M.2.1 a) k v = (stJ M a k v).2.1 a := by
  funext j; simp [vp_updL, stJ]
theorem upd_stR (M : Mm) (g : Gg) (a k : Nat) (v : Option Nat) : va_up (fun j => (M.2.2 a j).map (ad g)) k (v.map (ad g)) = fun j => ((stR M a k v).2.2 a j).map (ad g) := by
  funext j
  by_cases h : j = k <;> simp [va_up, stR, h]
theorem o_stI {M : Mm} {a k : Nat} {v : Int32} (b : Nat) (hb : b ≠ a) (sh : Nat × Nat) : cel g (stI M a k v) b sh = cel g M b sh := cel_congr (M := M) (M' := stI M a k v) (by funext j; simp [stI, hb]) rfl rfl sh
theorem o_stJ {M : Mm} {a k : Nat} {v : Int64} (b : Nat) (hb : b ≠ a) (sh : Nat × Nat) : cel g (stJ M a k v) b sh = cel g M b sh := cel_congr (M := M) (M' := stJ M a k v) rfl (by funext j; simp [stJ, hb]) rfl sh
theorem o_stR {M : Mm} {a k : Nat} {v : Option Nat} (b : Nat) (hb : b ≠ a) (sh : Nat × Nat) : cel g (stR M a k v) b sh = cel g M b sh := cel_congr (M := M) (M' := stR M a k v) rfl rfl (by funext j; simp [stR, hb]) sh
theorem hw_iald (E : EN p s m args meth c cc nL ret own g) (hR : RP g S M H) (hS : va_S (gA g) s.heap H locs) {a n : Nat} (ha : shp S a = some (50, n)) {i : Int32} (hin : vp_in i n) (hd : decode cc pc = .ok (.iaload, 1))
    (kk : W p l e R s m args below meth c H locs cells slots Q (F0 m (pc + 1) ls (.int (M.1 a i.toNatClampNeg) :: rest))) : W p l e R s m args below meth c H locs cells slots Q (F0 m pc ls (.int i :: .ref (ad g a) :: rest)) := by
  by_cases h : a = 100000
  · subst h
    have hn : n = 5 := by
      have h1 : (50, 5) = (50, n) := by simpa [shp] using ha
      exact (Prod.mk.inj h1).2.symm
    subst hn
    exact va_ti E.1 E.2.1 E.2.2.2.2.2.2.2.2.2 hS hin (by rw [hR.2.2]) hd kk
  · have ha' : S[a]? = some (50, n) := by rw [← ha]; unfold shp; rw [if_neg h]
    exact va_iald E.1 E.2.1 E.2.2.2.2.2.2.1 hR.1 a 0 (arr_place (by decide) ha') rfl hin hd kk
theorem hw_cald (E : EN p s m args meth c cc nL ret own g) (hR : RP g S M H) {a n : Nat} (ha : S[a]? = some (51, n)) {i : Int32} (hin : vp_in i n) (hd : decode cc pc = .ok (.caload, 1))
    (kk : W p l e R s m args below meth c H locs cells slots Q (F0 m (pc + 1) ls (.int (M.1 a i.toNatClampNeg) :: rest))) : W p l e R s m args below meth c H locs cells slots Q (F0 m pc ls (.int i :: .ref (ad g a) :: rest)) :=
  va_cald E.1 E.2.1 E.2.2.2.2.2.2.1 hR.1 a 1 (arr_place (by decide) ha) rfl hin hd kk
theorem hw_zald (E : EN p s m args meth c cc nL ret own g) (hR : RP g S M H) {a n : Nat} (ha : S[a]? = some (52, n)) {i : Int32} (hin : vp_in i n) (hd : decode cc pc = .ok (.baload, 1))
    (kk : W p l e R s m args below meth c H locs cells slots Q (F0 m (pc + 1) ls (.int (M.1 a i.toNatClampNeg) :: rest))) : W p l e R s m args below meth c H locs cells slots Q (F0 m pc ls (.int i :: .ref (ad g a) :: rest)) :=
  va_zald E.1 E.2.1 E.2.2.2.2.2.2.1 hR.1 a 2 (arr_place (by decide) ha) rfl hin hd kk
theorem hw_lald (E : EN p s m args meth c cc nL ret own g) (hR : RP g S M H) {a n : Nat} (ha : S[a]? = some (53, n)) {i : Int32} (hin : vp_in i n) (hd : decode cc pc = .ok (.laload, 1))
    (kk : W p l e R s m args below meth c H locs cells slots Q (F0 m (pc + 1) ls (.long (M.2.1 a i.toNatClampNeg) :: rest))) : W p l e R s m args below meth c H locs cells slots Q (F0 m pc ls (.int i :: .ref (ad g a) :: rest)) :=
  va_lald E.1 E.2.1 E.2.2.2.2.2.2.1 hR.1 a 3 (arr_place (by decide) ha) rfl hin hd kk
theorem hw_aald (E : EN p s m args meth c cc nL ret own g) (hR : RP g S M H) {a n t : Nat} (ht : t = 54 ∨ t = 55) (ha : S[a]? = some (t, n)) {i : Int32} (hin : vp_in i n) (hd : decode cc pc = .ok (.aaload, 1))
    (kk : W p l e R s m args below meth c H locs cells slots Q (F0 m (pc + 1) ls (rfv g (M.2.2 a i.toNatClampNeg) :: rest))) : W p l e R s m args below meth c H locs cells slots Q (F0 m pc ls (.int i :: .ref (ad g a) :: rest)) := by
  rcases ht with rfl | rfl
  · exact va_aldq E.1 E.2.1 E.2.2.2.2.2.2.1 hR.1 a 4 (arr_place (by decide) ha) rfl hin hd kk
  · exact va_aldq E.1 E.2.1 E.2.2.2.2.2.2.1 hR.1 a 5 (arr_place (by decide) ha) rfl hin hd kk
theorem hw_iast (E : EN p s m args meth c cc nL ret own g) (hR : RP g S M H) (hS : va_S (gA g) s.heap H locs) (hw : ad g 100000 < s.heap.size) {a n : Nat} (ha : S[a]? = some (50, n)) {i x : Int32} (hin : vp_in i n) (hd : decode cc pc = .ok (.iastore, 1))
    (kk : ∀ (M1 : Mm) (H1 : Heap) (locs1 : List Loc), M1 = stI M a i.toNatClampNeg x → RP g S M1 H1 → va_S (gA g) s.heap H1 locs1 → W p l e R s m args below meth c H1 locs1 cells slots Q (F0 m (pc + 1) ls rest)) : W p l e R s m args below meth c H locs cells slots Q (F0 m pc ls (.int x :: .int i :: .ref (ad g a) :: rest)) := by
  refine va_iast E.1 E.2.1 E.2.2.2.2.2.2.1 hR.1 (wld_D hR.2.1) hS a 0 (arr_place (by decide) ha) rfl hin hd (fun H1 locs1 hP1 hD1 hS1 => ?_)
  rw [wld_set ha (M' := stI M a i.toNatClampNeg x) (by rw [upd_stI, cel_arr (by decide)]; rfl) o_stI] at hP1
  exact kk _ H1 locs1 rfl (rp_new hR hS hP1 hS1 (by funext j; simp [stI, Ne.symm (ds_ne hR.2.1 ha)]) hw) hS1
theorem hw_cast (E : EN p s m args meth c cc nL ret own g) (hR : RP g S M H) (hS : va_S (gA g) s.heap H locs) (hw : ad g 100000 < s.heap.size) {a n : Nat} (ha : S[a]? = some (51, n)) {i x : Int32} (hin : vp_in i n) (hd : decode cc pc = .ok (.castore, 1))
    (kk : ∀ (M1 : Mm) (H1 : Heap) (locs1 : List Loc), M1 = stI M a i.toNatClampNeg (vp_nar .char x) → RP g S M1 H1 → va_S (gA g) s.heap H1 locs1 → W p l e R s m args below meth c H1 locs1 cells slots Q (F0 m (pc + 1) ls rest)) : W p l e R s m args below meth c H locs cells slots Q (F0 m pc ls (.int x :: .int i :: .ref (ad g a) :: rest)) := by
  refine va_cast E.1 E.2.1 E.2.2.2.2.2.2.1 hR.1 (wld_D hR.2.1) hS a 1 (arr_place (by decide) ha) rfl hin hd (fun H1 locs1 hP1 hD1 hS1 => ?_)
  rw [wld_set ha (M' := stI M a i.toNatClampNeg (vp_nar .char x)) (by rw [upd_stI, cel_arr (by decide)]; rfl) o_stI] at hP1
  exact kk _ H1 locs1 rfl (rp_new hR hS hP1 hS1 (by funext j; simp [stI, Ne.symm (ds_ne hR.2.1 ha)]) hw) hS1
theorem hw_zast (E : EN p s m args meth c cc nL ret own g) (hR : RP g S M H) (hS : va_S (gA g) s.heap H locs) (hw : ad g 100000 < s.heap.size) {a n : Nat} (ha : S[a]? = some (52, n)) {i x : Int32} (hin : vp_in i n) (hd : decode cc pc = .ok (.bastore, 1))
    (kk : ∀ (M1 : Mm) (H1 : Heap) (locs1 : List Loc), M1 = stI M a i.toNatClampNeg (vp_nar .boolean x) → RP g S M1 H1 → va_S (gA g) s.heap H1 locs1 → W p l e R s m args below meth c H1 locs1 cells slots Q (F0 m (pc + 1) ls rest)) : W p l e R s m args below meth c H locs cells slots Q (F0 m pc ls (.int x :: .int i :: .ref (ad g a) :: rest)) := by
  refine va_zast E.1 E.2.1 E.2.2.2.2.2.2.1 hR.1 (wld_D hR.2.1) hS a 2 (arr_place (by decide) ha) rfl hin hd (fun H1 locs1 hP1 hD1 hS1 => ?_)
  rw [wld_set ha (M' := stI M a i.toNatClampNeg (vp_nar .boolean x)) (by rw [upd_stI, cel_arr (by decide)]; rfl) o_stI] at hP1
  exact kk _ H1 locs1 rfl (rp_new hR hS hP1 hS1 (by funext j; simp [stI, Ne.symm (ds_ne hR.2.1 ha)]) hw) hS1
theorem hw_last (E : EN p s m args meth c cc nL ret own g) (hR : RP g S M H) (hS : va_S (gA g) s.heap H locs) (hw : ad g 100000 < s.heap.size) {a n : Nat} (ha : S[a]? = some (53, n)) {i : Int32} {x : Int64} (hin : vp_in i n) (hd : decode cc pc = .ok (.lastore, 1))
    (kk : ∀ (M1 : Mm) (H1 : Heap) (locs1 : List Loc), M1 = stJ M a i.toNatClampNeg x → RP g S M1 H1 → va_S (gA g) s.heap H1 locs1 → W p l e R s m args below meth c H1 locs1 cells slots Q (F0 m (pc + 1) ls rest)) : W p l e R s m args below meth c H locs cells slots Q (F0 m pc ls (.long x :: .int i :: .ref (ad g a) :: rest)) := by
  refine va_last E.1 E.2.1 E.2.2.2.2.2.2.1 hR.1 (wld_D hR.2.1) hS a 3 (arr_place (by decide) ha) rfl hin hd (fun H1 locs1 hP1 hD1 hS1 => ?_)
  rw [wld_set ha (M' := stJ M a i.toNatClampNeg x) (by rw [upd_stJ, cel_arr (by decide)]; rfl) o_stJ] at hP1
  exact kk _ H1 locs1 rfl (rp_new hR hS hP1 hS1 rfl hw) hS1
theorem hw_aast54 (E : EN p s m args meth c cc nL ret own g) (hR : RP g S M H) (hS : va_S (gA g) s.heap H locs) (hw : ad g 100000 < s.heap.size) {a n b n' : Nat} (ha : S[a]? = some (54, n)) (hb : S[b]? = some (1, n')) {i : Int32} (hin : vp_in i n) (hd : decode cc pc = .ok (.aastore, 1))
    (kk : ∀ (M1 : Mm) (H1 : Heap) (locs1 : List Loc), M1 = stR M a i.toNatClampNeg (some b) → RP g S M1 H1 → va_S (gA g) s.heap H1 locs1 → W p l e R s m args below meth c H1 locs1 cells slots Q (F0 m (pc + 1) ls rest)) : W p l e R s m args below meth c H locs cells slots Q (F0 m pc ls (.ref (ad g b) :: .int i :: .ref (ad g a) :: rest)) := by
  have hbp : (wld g S M)[b]? = some (ad g b, .inr (1, (List.range (nfd 1)).map (fun k => fval g M b (fk (fty 1 k)) k))) := (wld_get hb).trans (by rw [cel_obj (by decide)])
  refine va_astq E.1 E.2.1 E.2.2.2.2.2.2.1 hR.1 (wld_D hR.2.1) hS a 4 b 1 (arr_place (by decide) ha) rfl hbp cI1.1 hin hd (fun H1 locs1 hP1 hD1 hS1 => ?_)
  rw [wld_set ha (M' := stR M a i.toNatClampNeg (some b)) (by rw [show (some (ad g b)) = (some b).map (ad g) from rfl, upd_stR, cel_arr (by decide)]; rfl) o_stR] at hP1
  exact kk _ H1 locs1 rfl (rp_new hR hS hP1 hS1 rfl hw) hS1
theorem hw_aastN54 (E : EN p s m args meth c cc nL ret own g) (hR : RP g S M H) (hS : va_S (gA g) s.heap H locs) (hw : ad g 100000 < s.heap.size) {a n : Nat} (ha : S[a]? = some (54, n)) {i : Int32} (hin : vp_in i n) (hd : decode cc pc = .ok (.aastore, 1))
    (kk : ∀ (M1 : Mm) (H1 : Heap) (locs1 : List Loc), M1 = stR M a i.toNatClampNeg none → RP g S M1 H1 → va_S (gA g) s.heap H1 locs1 → W p l e R s m args below meth c H1 locs1 cells slots Q (F0 m (pc + 1) ls rest)) : W p l e R s m args below meth c H locs cells slots Q (F0 m pc ls (.null :: .int i :: .ref (ad g a) :: rest)) := by
  refine va_astqN E.1 E.2.1 E.2.2.2.2.2.2.1 hR.1 (wld_D hR.2.1) hS a 4 (arr_place (by decide) ha) rfl hin hd (fun H1 locs1 hP1 hD1 hS1 => ?_)
  rw [wld_set ha (M' := stR M a i.toNatClampNeg none) (by rw [show (none : Option Nat) = (none : Option Nat).map (ad g) from rfl, upd_stR, cel_arr (by decide)]; rfl) o_stR] at hP1
  exact kk _ H1 locs1 rfl (rp_new hR hS hP1 hS1 rfl hw) hS1
theorem hw_aast55 (E : EN p s m args meth c cc nL ret own g) (hR : RP g S M H) (hS : va_S (gA g) s.heap H locs) (hw : ad g 100000 < s.heap.size) {a n b n' : Nat} (ha : S[a]? = some (55, n)) (hb : S[b]? = some (4, n')) {i : Int32} (hin : vp_in i n) (hd : decode cc pc = .ok (.aastore, 1))
    (kk : ∀ (M1 : Mm) (H1 : Heap) (locs1 : List Loc), M1 = stR M a i.toNatClampNeg (some b) → RP g S M1 H1 → va_S (gA g) s.heap H1 locs1 → W p l e R s m args below meth c H1 locs1 cells slots Q (F0 m (pc + 1) ls rest)) : W p l e R s m args below meth c H locs cells slots Q (F0 m pc ls (.ref (ad g b) :: .int i :: .ref (ad g a) :: rest)) := by
  have hbp : (wld g S M)[b]? = some (ad g b, .inr (4, (List.range (nfd 4)).map (fun k => fval g M b (fk (fty 4 k)) k))) := (wld_get hb).trans (by rw [cel_obj (by decide)])
  refine va_astq E.1 E.2.1 E.2.2.2.2.2.2.1 hR.1 (wld_D hR.2.1) hS a 5 b 4 (arr_place (by decide) ha) rfl hbp cI4.1 hin hd (fun H1 locs1 hP1 hD1 hS1 => ?_)
  rw [wld_set ha (M' := stR M a i.toNatClampNeg (some b)) (by rw [show (some (ad g b)) = (some b).map (ad g) from rfl, upd_stR, cel_arr (by decide)]; rfl) o_stR] at hP1
  exact kk _ H1 locs1 rfl (rp_new hR hS hP1 hS1 rfl hw) hS1
theorem hw_aastN55 (E : EN p s m args meth c cc nL ret own g) (hR : RP g S M H) (hS : va_S (gA g) s.heap H locs) (hw : ad g 100000 < s.heap.size) {a n : Nat} (ha : S[a]? = some (55, n)) {i : Int32} (hin : vp_in i n) (hd : decode cc pc = .ok (.aastore, 1))
    (kk : ∀ (M1 : Mm) (H1 : Heap) (locs1 : List Loc), M1 = stR M a i.toNatClampNeg none → RP g S M1 H1 → va_S (gA g) s.heap H1 locs1 → W p l e R s m args below meth c H1 locs1 cells slots Q (F0 m (pc + 1) ls rest)) : W p l e R s m args below meth c H locs cells slots Q (F0 m pc ls (.null :: .int i :: .ref (ad g a) :: rest)) := by
  refine va_astqN E.1 E.2.1 E.2.2.2.2.2.2.1 hR.1 (wld_D hR.2.1) hS a 5 (arr_place (by decide) ha) rfl hin hd (fun H1 locs1 hP1 hD1 hS1 => ?_)
  rw [wld_set ha (M' := stR M a i.toNatClampNeg none) (by rw [show (none : Option Nat) = (none : Option Nat).map (ad g) from rfl, upd_stR, cel_arr (by decide)]; rfl) o_stR] at hP1
  exact kk _ H1 locs1 rfl (rp_new hR hS hP1 hS1 rfl hw) hS1
end HWA
