section HWX
variable {p : Program} {l : Launch} {e : Env} {R : Room} {s : State} {m : MethodId} {args : Array Value} {below : List Frame} {meth : Method} {c : Code} {H : Heap} {locs : List Loc} {cells slots : Nat} {Q : State → Prop}
variable {cc : ByteArray} {pc nL : Nat} {ls : Array Slot} {rest : List Value} {ret : Option FieldType} {own : String} {g : Gg} {S : Ss} {M : Mm}
theorem hw_getI (E : EN p s m args meth c cc nL ret own g) (hR : RP g S M H) {ci n a index : Nat} {C : String} {T : u_T} {N : Nat} (hc : CI ci C T N) (ha : S[a]? = some (ci, n)) (k : Nat) (hk : k < N) (hlink : Cond.fieldLink own index (T k).1 (T k).2.1 (T k).2.2.1 ∈ lwg) (hty : fk (fty ci k) = 0) (hd : decode cc pc = .ok (.getfield index, 3))
    (kk : W p l e R s m args below meth c H locs cells slots Q (F0 m (pc + 3) ls (.int (M.1 a k) :: rest))) : W p l e R s m args below meth c H locs cells slots Q (F0 m pc ls (.ref (ad g a) :: rest)) :=
  hw_get E hR hc ha k hk hlink hd (by rw [hty]; exact kk)
theorem hw_getJ (E : EN p s m args meth c cc nL ret own g) (hR : RP g S M H) {ci n a index : Nat} {C : String} {T : u_T} {N : Nat} (hc : CI ci C T N) (ha : S[a]? = some (ci, n)) (k : Nat) (hk : k < N) (hlink : Cond.fieldLink own index (T k).1 (T k).2.1 (T k).2.2.1 ∈ lwg) (hty : fk (fty ci k) = 1) (hd : decode cc pc = .ok (.getfield index, 3))
    (kk : W p l e R s m args below meth c H locs cells slots Q (F0 m (pc + 3) ls (.long (M.2.1 a k) :: rest))) : W p l e R s m args below meth c H locs cells slots Q (F0 m pc ls (.ref (ad g a) :: rest)) :=
  hw_get E hR hc ha k hk hlink hd (by rw [hty]; exact kk)
theorem hw_getR (E : EN p s m args meth c cc nL ret own g) (hR : RP g S M H) {ci n a index b : Nat} {C : String} {T : u_T} {N : Nat} (hc : CI ci C T N) (ha : S[a]? = some (ci, n)) (k : Nat) (hk : k < N) (hlink : Cond.fieldLink own index (T k).1 (T k).2.1 (T k).2.2.1 ∈ lwg) (hty : fk (fty ci k) = 2) (hb : M.2.2 a k = some b) (hd : decode cc pc = .ok (.getfield index, 3))
    (kk : W p l e R s m args below meth c H locs cells slots Q (F0 m (pc + 3) ls (.ref (ad g b) :: rest))) : W p l e R s m args below meth c H locs cells slots Q (F0 m pc ls (.ref (ad g a) :: rest)) :=
  hw_get E hR hc ha k hk hlink hd (by rw [hty, show fval g M a 2 k = rfv g (M.2.2 a k) from rfl, hb]; exact kk)
theorem hw_aaldS (E : EN p s m args meth c cc nL ret own g) (hR : RP g S M H) {a n t b : Nat} (ht : t = 54 ∨ t = 55) (ha : S[a]? = some (t, n)) {i : Int32} (hin : vp_in i n) (hb : M.2.2 a i.toNatClampNeg = some b) (hd : decode cc pc = .ok (.aaload, 1))
    (kk : W p l e R s m args below meth c H locs cells slots Q (F0 m (pc + 1) ls (.ref (ad g b) :: rest))) : W p l e R s m args below meth c H locs cells slots Q (F0 m pc ls (.int i :: .ref (ad g a) :: rest)) :=
  hw_aald E hR ht ha hin hd (by rw [hb]; exact kk)
theorem hw_aaldN (E : EN p s m args meth c cc nL ret own g) (hR : RP g S M H) {a n t : Nat} (ht : t = 54 ∨ t = 55) (ha : S[a]? = some (t, n)) {i : Int32} (hin : vp_in i n) (hb : M.2.2 a i.toNatClampNeg = none) (hd : decode cc pc = .ok (.aaload, 1))
    (kk : W p l e R s m args below meth c H locs cells slots Q (F0 m (pc + 1) ls (.null :: rest))) : W p l e R s m args below meth c H locs cells slots Q (F0 m pc ls (.int i :: .ref (ad g a) :: rest)) :=
  hw_aald E hR ht ha hin hd (by rw [hb]; exact kk)
theorem hw_lif_eq (hexec : p.tables.exec = Jvm.exec) (hb : c.code = cc) {x y : Int64} {off : Int} {tgt : Nat} (hd : decode cc pc = .ok (.lcmp, 1)) (hd2 : decode cc (pc + 1) = .ok (.ifCond .eq off, 3)) (ht : ((pc + 1 : Nat) : Int) + off = (tgt : Int))
    (kt : x = y → W p l e R s m args below meth c H locs cells slots Q (F0 m tgt ls rest)) (kf : ¬ x = y → W p l e R s m args below meth c H locs cells slots Q (F0 m (pc + 1 + 3) ls rest)) : W p l e R s m args below meth c H locs cells slots Q (F0 m pc ls (.long y :: .long x :: rest)) :=
  W.lcmp hexec hb hd (lv_if_eq hexec hb hd2 ht (fun h => kt ((lg_cmp_eq x y).mp h)) (fun h => kf (fun z => h ((lg_cmp_eq x y).mpr z))))
theorem hw_lif_ne (hexec : p.tables.exec = Jvm.exec) (hb : c.code = cc) {x y : Int64} {off : Int} {tgt : Nat} (hd : decode cc pc = .ok (.lcmp, 1)) (hd2 : decode cc (pc + 1) = .ok (.ifCond .ne off, 3)) (ht : ((pc + 1 : Nat) : Int) + off = (tgt : Int))
    (kt : ¬ x = y → W p l e R s m args below meth c H locs cells slots Q (F0 m tgt ls rest)) (kf : x = y → W p l e R s m args below meth c H locs cells slots Q (F0 m (pc + 1 + 3) ls rest)) : W p l e R s m args below meth c H locs cells slots Q (F0 m pc ls (.long y :: .long x :: rest)) :=
  W.lcmp hexec hb hd (lv_if_ne hexec hb hd2 ht (fun h => kt (fun z => h ((lg_cmp_eq x y).mpr z))) (fun h => kf ((lg_cmp_eq x y).mp h)))
theorem hw_lif_lt (hexec : p.tables.exec = Jvm.exec) (hb : c.code = cc) {x y : Int64} {off : Int} {tgt : Nat} (hd : decode cc pc = .ok (.lcmp, 1)) (hd2 : decode cc (pc + 1) = .ok (.ifCond .lt off, 3)) (ht : ((pc + 1 : Nat) : Int) + off = (tgt : Int))
    (kt : x < y → W p l e R s m args below meth c H locs cells slots Q (F0 m tgt ls rest)) (kf : ¬ x < y → W p l e R s m args below meth c H locs cells slots Q (F0 m (pc + 1 + 3) ls rest)) : W p l e R s m args below meth c H locs cells slots Q (F0 m pc ls (.long y :: .long x :: rest)) :=
  W.lcmp hexec hb hd (lv_if_lt hexec hb hd2 ht (fun h => kt ((lg_cmp_lt x y).mp h)) (fun h => kf (fun z => h ((lg_cmp_lt x y).mpr z))))
theorem hw_lif_ge (hexec : p.tables.exec = Jvm.exec) (hb : c.code = cc) {x y : Int64} {off : Int} {tgt : Nat} (hd : decode cc pc = .ok (.lcmp, 1)) (hd2 : decode cc (pc + 1) = .ok (.ifCond .ge off, 3)) (ht : ((pc + 1 : Nat) : Int) + off = (tgt : Int))
    (kt : y ≤ x → W p l e R s m args below meth c H locs cells slots Q (F0 m tgt ls rest)) (kf : ¬ y ≤ x → W p l e R s m args below meth c H locs cells slots Q (F0 m (pc + 1 + 3) ls rest)) : W p l e R s m args below meth c H locs cells slots Q (F0 m pc ls (.long y :: .long x :: rest)) :=
  W.lcmp hexec hb hd (lv_if_ge hexec hb hd2 ht (fun h => kt ((lg_cmp_ge x y).mp h)) (fun h => kf (fun z => h ((lg_cmp_ge x y).mpr z))))
theorem hw_lif_gt (hexec : p.tables.exec = Jvm.exec) (hb : c.code = cc) {x y : Int64} {off : Int} {tgt : Nat} (hd : decode cc pc = .ok (.lcmp, 1)) (hd2 : decode cc (pc + 1) = .ok (.ifCond .gt off, 3)) (ht : ((pc + 1 : Nat) : Int) + off = (tgt : Int))
    (kt : y < x → W p l e R s m args below meth c H locs cells slots Q (F0 m tgt ls rest)) (kf : ¬ y < x → W p l e R s m args below meth c H locs cells slots Q (F0 m (pc + 1 + 3) ls rest)) : W p l e R s m args below meth c H locs cells slots Q (F0 m pc ls (.long y :: .long x :: rest)) :=
  W.lcmp hexec hb hd (lv_if_gt hexec hb hd2 ht (fun h => kt ((lg_cmp_gt x y).mp h)) (fun h => kf (fun z => h ((lg_cmp_gt x y).mpr z))))
theorem hw_lif_le (hexec : p.tables.exec = Jvm.exec) (hb : c.code = cc) {x y : Int64} {off : Int} {tgt : Nat} (hd : decode cc pc = .ok (.lcmp, 1)) (hd2 : decode cc (pc + 1) = .ok (.ifCond .le off, 3)) (ht : ((pc + 1 : Nat) : Int) + off = (tgt : Int))
    (kt : x ≤ y → W p l e R s m args below meth c H locs cells slots Q (F0 m tgt ls rest)) (kf : ¬ x ≤ y → W p l e R s m args below meth c H locs cells slots Q (F0 m (pc + 1 + 3) ls rest)) : W p l e R s m args below meth c H locs cells slots Q (F0 m pc ls (.long y :: .long x :: rest)) :=
  W.lcmp hexec hb hd (lv_if_le hexec hb hd2 ht (fun h => kt ((lg_cmp_le x y).mp h)) (fun h => kf (fun z => h ((lg_cmp_le x y).mpr z))))
end HWX
def cpI (M : Mm) (a b sp dp n : Nat) : Mm := (fun c j => if c = b then va_cpy (M.1 a) (M.1 b) sp dp n j else M.1 c j, M.2.1, M.2.2)
section HWCP
variable {p : Program} {l : Launch} {e : Env} {s : State} {m : MethodId} {args : Array Value} {below : List Frame} {meth : Method} {c : Code} {H : Heap} {locs : List Loc} {Q : State → Prop}
variable {cc : ByteArray} {pc nL : Nat} {ls : Array Slot} {rest : List Value} {ret : Option FieldType} {own : String} {g : Gg} {S : Ss} {M : Mm}
theorem hw_copy50 (E : EN p s m args meth c cc nL ret own g) (hR : RP g S M H) (hS : va_S (gA g) s.heap H locs) (hw : ad g 100000 < s.heap.size) {lv : List (Nat × Value)} (hl : lv_has ls nL lv) {d index a b n0 n1 : Nat} (hlink : Cond.methodLink own index arraycopyName ∈ lwg ∧ Cond.native arraycopyName ∈ lwg ∧ Cond.static arraycopyName ∈ lwg ∧ Cond.initialized "java/lang/System" ∈ lwg) (ha : S[a]? = some (50, n0)) (hb : S[b]? = some (50, n1)) {sp dp n : Int32} (z1 : ¬ sp < 0) (z2 : ¬ dp < 0) (z3 : ¬ n < 0) (z4 : sp.toNatClampNeg + n.toNatClampNeg ≤ n0) (z5 : dp.toNatClampNeg + n.toNatClampNeg ≤ n1) (hdd : 1 ≤ d) (hcat : (rest.map fun v => v.category).sum ≤ 8) (hd : decode cc pc = .ok (.invokestatic index, 3))
    (kk : ∀ (M1 : Mm) (H1 : Heap) (locs1 : List Loc), M1 = cpI M a b sp.toNatClampNeg dp.toNatClampNeg n.toNatClampNeg → RP g S M1 H1 → va_S (gA g) s.heap H1 locs1 → W p l e (rmD d) s m args below meth c H1 locs1 0 0 Q (F0 m (pc + 3) ls rest)) : W p l e (rmD d) s m args below meth c H locs 0 0 Q (F0 m pc ls (.int n :: .int dp :: .ref (ad g b) :: .int sp :: .ref (ad g a) :: rest)) := by
  have hts := E.2.2.2.2.2.1
  refine va_copyi E.1 E.2.1 (E.2.2.2.1.trans hl.1.symm) E.2.2.2.2.1 (hts _ hlink.1) (hts _ hlink.2.1) (hts _ hlink.2.2.1) (hts _ hlink.2.2.2) E.2.2.2.2.2.2.1 hR.1 (wld_D hR.2.1) hS a b 0 0 (arr_place (by decide) ha) (arr_place (by decide) hb) (ty := .int) rfl rfl rfl z1 z2 z3 z4 z5 (fun _ _ => rfl) hdd ?_ hd (fun H1 locs1 hP1 hD1 hS1 => ?_)
  · have h7 : nativeFrameWords "java/lang/System" "arraycopy" 5 = 7 := by decide +kernel
    rw [h7]
    show _ ≤ 64 * d
    omega
  · have hset : (wld g S M).set b (ad g b, .inl (g.2.2.1 50, n1, .inl (va_cpy (M.1 a) (M.1 b) sp.toNatClampNeg dp.toNatClampNeg n.toNatClampNeg))) = wld g S (cpI M a b sp.toNatClampNeg dp.toNatClampNeg n.toNatClampNeg) := by
      refine wld_set hb ?_ (fun x hx sh => cel_congr (M := M) (M' := cpI M a b sp.toNatClampNeg dp.toNatClampNeg n.toNatClampNeg) (by funext j; simp [cpI, hx]) rfl rfl sh)
      rw [cel_arr (by decide)]
      simp [arc, cpI]
    rw [hset] at hP1
    exact kk _ H1 locs1 rfl (rp_new hR hS hP1 hS1 (by funext j; simp [cpI, Ne.symm (ds_ne hR.2.1 hb)]) hw) hS1
theorem hw_copy51 (E : EN p s m args meth c cc nL ret own g) (hR : RP g S M H) (hS : va_S (gA g) s.heap H locs) (hw : ad g 100000 < s.heap.size) {lv : List (Nat × Value)} (hl : lv_has ls nL lv) {d index a b n0 n1 : Nat} (hlink : Cond.methodLink own index arraycopyName ∈ lwg ∧ Cond.native arraycopyName ∈ lwg ∧ Cond.static arraycopyName ∈ lwg ∧ Cond.initialized "java/lang/System" ∈ lwg) (ha : S[a]? = some (51, n0)) (hb : S[b]? = some (51, n1)) {sp dp n : Int32} (z1 : ¬ sp < 0) (z2 : ¬ dp < 0) (z3 : ¬ n < 0) (z4 : sp.toNatClampNeg + n.toNatClampNeg ≤ n0) (z5 : dp.toNatClampNeg + n.toNatClampNeg ≤ n1) (z6 : ∀ i, i < n.toNatClampNeg → fits .char (.int (M.1 a (sp.toNatClampNeg + i))) = true) (hdd : 1 ≤ d) (hcat : (rest.map fun v => v.category).sum ≤ 8) (hd : decode cc pc = .ok (.invokestatic index, 3))
    (kk : ∀ (M1 : Mm) (H1 : Heap) (locs1 : List Loc), M1 = cpI M a b sp.toNatClampNeg dp.toNatClampNeg n.toNatClampNeg → RP g S M1 H1 → va_S (gA g) s.heap H1 locs1 → W p l e (rmD d) s m args below meth c H1 locs1 0 0 Q (F0 m (pc + 3) ls rest)) : W p l e (rmD d) s m args below meth c H locs 0 0 Q (F0 m pc ls (.int n :: .int dp :: .ref (ad g b) :: .int sp :: .ref (ad g a) :: rest)) := by
  have hts := E.2.2.2.2.2.1
  refine va_copyi E.1 E.2.1 (E.2.2.2.1.trans hl.1.symm) E.2.2.2.2.1 (hts _ hlink.1) (hts _ hlink.2.1) (hts _ hlink.2.2.1) (hts _ hlink.2.2.2) E.2.2.2.2.2.2.1 hR.1 (wld_D hR.2.1) hS a b 1 1 (arr_place (by decide) ha) (arr_place (by decide) hb) (ty := .char) rfl rfl rfl z1 z2 z3 z4 z5 z6 hdd ?_ hd (fun H1 locs1 hP1 hD1 hS1 => ?_)
  · have h7 : nativeFrameWords "java/lang/System" "arraycopy" 5 = 7 := by decide +kernel
    rw [h7]
    show _ ≤ 64 * d
    omega
  · have hset : (wld g S M).set b (ad g b, .inl (g.2.2.1 51, n1, .inl (va_cpy (M.1 a) (M.1 b) sp.toNatClampNeg dp.toNatClampNeg n.toNatClampNeg))) = wld g S (cpI M a b sp.toNatClampNeg dp.toNatClampNeg n.toNatClampNeg) := by
      refine wld_set hb ?_ (fun x hx sh => cel_congr (M := M) (M' := cpI M a b sp.toNatClampNeg dp.toNatClampNeg n.toNatClampNeg) (by funext j; simp [cpI, hx]) rfl rfl sh)
      rw [cel_arr (by decide)]
      simp [arc, cpI]
    rw [hset] at hP1
    exact kk _ H1 locs1 rfl (rp_new hR hS hP1 hS1 (by funext j; simp [cpI, Ne.symm (ds_ne hR.2.1 hb)]) hw) hS1
theorem hw_min (E : EN p s m args meth c cc nL ret own g) {lv : List (Nat × Value)} (hl : lv_has ls nL lv) {d index : Nat} (hlink : Cond.methodLink own index Lib.Math.min.name ∈ lwg ∧ Cond.static Lib.Math.min.name ∈ lwg ∧ Cond.initialized "java/lang/Math" ∈ lwg ∧ Cond.code Lib.Math.min.name Lib.Math.min.code 2 (some .int) ∈ lwg) {x y : Int32} (hdd : 1 ≤ d) (hcat : (rest.map fun v => v.category).sum ≤ 8) (hd : decode cc pc = .ok (.invokestatic index, 3))
    (kk : W p l e (rmD d) s m args below meth c H locs 0 0 Q (F0 m (pc + 3) ls (.int (if y < x then y else x) :: rest))) : W p l e (rmD d) s m args below meth c H locs 0 0 Q (F0 m pc ls (.int y :: .int x :: rest)) := by
  have hts := E.2.2.2.2.2.1
  refine va_mmin E.1 E.2.1 (E.2.2.2.1.trans hl.1.symm) E.2.2.2.2.1 (hts _ hlink.1) (hts _ hlink.2.1) (hts _ hlink.2.2.1) (hts _ hlink.2.2.2) hdd ?_ (Nat.le_refl _) (Nat.le_refl _) hd kk
  show _ ≤ 64 * d
  omega
theorem hw_max (E : EN p s m args meth c cc nL ret own g) {lv : List (Nat × Value)} (hl : lv_has ls nL lv) {d index : Nat} (hlink : Cond.methodLink own index Lib.Math.max.name ∈ lwg ∧ Cond.static Lib.Math.max.name ∈ lwg ∧ Cond.initialized "java/lang/Math" ∈ lwg ∧ Cond.code Lib.Math.max.name Lib.Math.max.code 2 (some .int) ∈ lwg) {x y : Int32} (hdd : 1 ≤ d) (hcat : (rest.map fun v => v.category).sum ≤ 8) (hd : decode cc pc = .ok (.invokestatic index, 3))
    (kk : W p l e (rmD d) s m args below meth c H locs 0 0 Q (F0 m (pc + 3) ls (.int (if x < y then y else x) :: rest))) : W p l e (rmD d) s m args below meth c H locs 0 0 Q (F0 m pc ls (.int y :: .int x :: rest)) := by
  have hts := E.2.2.2.2.2.1
  refine va_mmax E.1 E.2.1 (E.2.2.2.1.trans hl.1.symm) E.2.2.2.2.1 (hts _ hlink.1) (hts _ hlink.2.1) (hts _ hlink.2.2.1) (hts _ hlink.2.2.2) hdd ?_ (Nat.le_refl _) (Nat.le_refl _) hd kk
  show _ ≤ 64 * d
  omega
end HWCP
