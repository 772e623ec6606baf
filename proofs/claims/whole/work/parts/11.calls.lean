theorem lw_good : ∀ w ∈ lwg, goodWord w = true := fun _ h => (List.mem_filter.mp h).2
/-- what the tables say of a method that is called -/
def MC (y : MethodName) (cc : ByteArray) (nL : Nat) (ret : Option FieldType) (n : Nat) : Prop := Cond.code y cc nL ret ∈ lwg ∧ Cond.initialized y.cls ∈ lwg ∧ (y.cls ≠ "java/lang/invoke/MethodHandle" ∧ y.cls ≠ "java/lang/invoke/VarHandle" ∧ (parseMethodDescriptor y.desc).map (fun d => d.parameters.length) = some n) ∧ nL ≤ 45
def MI (y : MethodName) : Prop := Cond.instanceMethod y ∈ lwg ∧ Cond.selects y.cls y y ∈ lwg
theorem gin_tbl {y : MethodName} {cc : ByteArray} {nL : Nat} {ret : Option FieldType} (h : Cond.code y cc nL ret ∈ lwg) : GoodIn lwg (Cond.code y cc nL ret :: lwg) := by
  intro w hw
  rcases List.mem_cons.mp hw with rfl | hw
  · exact ⟨h, good_of_word (lw_good _ h)⟩
  · exact ⟨hw, good_of_word (lw_good _ hw)⟩
theorem ru_blind (g : Gg) (S : Ss) (M : Mm) (av : List Value) : FrameBlind (va_Pc av (RU g S M)) := by
  intro a U gf mk q
  obtain ⟨q0, q1, q2, q3⟩ := q
  exact ⟨q0, q1, va_K.moved (u := U) (U := U.calling gf mk a) (Vm.Alike.refl U.vm) q2, ZE.moved (u := U) (U := U.calling gf mk a) (Vm.Alike.refl U.vm) q3⟩
/-- the world at a state whose heap has come so far -/
theorem ru_at {s U : State} {H : Heap} {locs : List Loc} {g : Gg} {S : Ss} {M : Mm} (hR : RP g S M H) (hS : va_S (gA g) s.heap H locs) (hK : va_K g.2.1 vwCl (tyg g) s) (hZ : ZE g s s.heap) (hU : U.heap = H) (hvm : s.vm.Alike U.vm) : RU g S M U := by
  refine ⟨by rw [hU]; exact hR, va_K.moved hvm hK, ZE.moved hvm ?_⟩
  rw [hU]
  exact hZ.kept hS.2.1
section HWC
variable {p : Program} {l : Launch} {e : Env} {R : Room} {s : State} {m : MethodId} {args : Array Value} {below : List Frame} {meth : Method} {c : Code} {H : Heap} {locs : List Loc} {Q : State → Prop}
variable {cc : ByteArray} {pc nL : Nat} {ls : Array Slot} {rest : List Value} {ret : Option FieldType} {own : String} {g : Gg} {S : Ss} {M : Mm} {Po : Option Value → Mm → Prop}
theorem hw_call {a : Array Value} {st0 : List Value} (hS : va_S (gA g) s.heap H locs) (hr : va_Run p l e R s m args below meth c H locs 0 0 0 0 (F0 m pc ls st0) rest (QA g S Po a) (gA g))
    (kk : ∀ (r : Option Value) (M1 : Mm) (H1 : Heap) (locs1 : List Loc), Po r M1 → RP g S M1 H1 → va_S (gA g) s.heap H1 locs1 → W p l e R s m args below meth c H1 locs1 0 0 Q (F0 m (pc + 3) ls (r.toList ++ rest))) : W p l e R s m args below meth c H locs 0 0 Q (F0 m pc ls st0) := by
  intro T hT X
  obtain ⟨v, st₀, t, T', L, h0, X', hL, e1, e2, ⟨⟨r, M1, hv, hp, hb⟩, hz, hk⟩, st⟩ := hr T hT X
  cases hv
  rw [h0] at hz hk
  obtain ⟨t2, a1, b1⟩ := kk v M1 T'.heap (locs ++ L) hp (by rw [e1]; exact hb.1)
    ⟨Nat.le_trans hS.1 (by rw [e1]; exact hz), fun q h1 h2 => by rw [e1, hk q (Nat.lt_of_lt_of_le h1 hS.1) h2]; exact hS.2.1 q h1 h2, fun q hq => by
      rcases List.mem_append.mp hq with h | h
      · exact hS.2.2 q h
      · exact hL q h⟩ T' rfl X'
  exact ⟨t2, st t2 a1, b1⟩
theorem hw_callV (E : EN p s m args meth c cc nL ret own g) (hR : RP g S M H) (hS : va_S (gA g) s.heap H locs) {y : MethodName} {cy : ByteArray} {nL' n d d' index ci n' b : Nat} {ret' : Option FieldType} {C : String} {T : u_T} {N : Nat} {st0 As : List Value} (hc : CI ci C T N) (hb : S[b]? = some (ci, n')) (hyc : y.cls = C) (mc : MC y cy nL' ret' n) (mi : MI y) (ml : Cond.methodLink own index y ∈ lwg) (hM : MT l g S y cy nL' ret' d' (.ref (ad g b) :: As) M Po) (hst : st0 = As.reverse ++ .ref (ad g b) :: rest) (hn : As.length = n) (hdd : d' + 1 ≤ d) (hsz : ls.size = nL) (hcat : (rest.map fun v => v.category).sum ≤ 8) (hd : decode cc pc = .ok (.invokevirtual index, 3))
    (kk : ∀ (r : Option Value) (M1 : Mm) (H1 : Heap) (locs1 : List Loc), Po r M1 → RP g S M1 H1 → va_S (gA g) s.heap H1 locs1 → W p l e (rmD d) s m args below meth c H1 locs1 0 0 Q (F0 m (pc + 3) ls (r.toList ++ rest))) : W p l e (rmD d) s m args below meth c H locs 0 0 Q (F0 m pc ls st0) := by
  obtain ⟨hx, hbc, hrt, hml, hown, hts, hK, hlk, hZ⟩ := E
  subst hyc
  have hbp : (wld g S M)[b]? = some (ad g b, .inr (ci, (List.range (nfd ci)).map (fun k => fval g M b (fk (fty ci k)) k))) := (wld_get hb).trans (by rw [cel_obj hc.2.2.2.2.2])
  refine hw_call hS (va_runV (As := As) (rest := rest) ⟨hx, hbc, hml, hown, hts⟩ hM ⟨callB_of n hts (gin_tbl mc.1) rfl rfl rfl (hts _ mc.2.1) (hts _ ml) mc.2.2.1 ⟨hdd, ?_⟩, hts _ mi.1, hts _ mi.2⟩ ⟨ru_blind g S M _, va_recv hK hR.1 hc.1 hbp, fun U hU hW => ⟨rfl, ru_at hR hS hK hZ hU hW.alike⟩⟩ rfl hn hsz hst (lv_room hcat) hd ⟨Nat.le_refl _, Nat.le_refl _⟩) kk
  show 8 + (nL' + 11) + 64 * d' ≤ 64 * d
  have := mc.2.2.2
  omega
theorem hw_callS (E : EN p s m args meth c cc nL ret own g) (hR : RP g S M H) (hS : va_S (gA g) s.heap H locs) {y : MethodName} {cy : ByteArray} {nL' n d d' index : Nat} {ret' : Option FieldType} {st0 As : List Value} (mc : MC y cy nL' ret' n) (ms : Cond.static y ∈ lwg) (ml : Cond.methodLink own index y ∈ lwg) (hM : MT l g S y cy nL' ret' d' As M Po) (hst : st0 = As.reverse ++ rest) (hn : As.length = n) (hdd : d' + 1 ≤ d) (hsz : ls.size = nL) (hcat : (rest.map fun v => v.category).sum ≤ 8) (hd : decode cc pc = .ok (.invokestatic index, 3))
    (kk : ∀ (r : Option Value) (M1 : Mm) (H1 : Heap) (locs1 : List Loc), Po r M1 → RP g S M1 H1 → va_S (gA g) s.heap H1 locs1 → W p l e (rmD d) s m args below meth c H1 locs1 0 0 Q (F0 m (pc + 3) ls (r.toList ++ rest))) : W p l e (rmD d) s m args below meth c H locs 0 0 Q (F0 m pc ls st0) := by
  obtain ⟨hx, hbc, hrt, hml, hown, hts, hK, hlk, hZ⟩ := E
  refine hw_call hS (va_runS (As := As) (rest := rest) ⟨hx, hbc, hml, hown, hts⟩ hM ⟨callB_of n hts (gin_tbl mc.1) rfl rfl rfl (hts _ mc.2.1) (hts _ ml) mc.2.2.1 ⟨hdd, ?_⟩, hts _ ms⟩ ⟨ru_blind g S M _, fun U hU hW => ⟨rfl, ru_at hR hS hK hZ hU hW.alike⟩⟩ rfl hn hsz hst (lv_room hcat) hd ⟨Nat.le_refl _, Nat.le_refl _⟩) kk
  show 8 + (nL' + 11) + 64 * d' ≤ 64 * d
  have := mc.2.2.2
  omega
theorem hw_iret {v : Int32} (E : EN p s m args meth c cc nL (some .int) own g) (hR : RP g S M H) (hS : va_S (gA g) s.heap H locs) (hq : Po (some (.int v)) M) (hd : decode cc pc = .ok (.ireturn, 1)) : W p l e R s m args below meth c H locs 0 0 (MQ below (QA g S Po) args s 0 0 (gA g)) (F0 m pc ls [.int v]) :=
  W.iret E.1 E.2.1 E.2.2.1 (fun t ht hW => ⟨⟨_, M, rfl, hq, ru_at hR hS E.2.2.2.2.2.2.1 E.2.2.2.2.2.2.2.2 ht hW.alike⟩, hS.F ht⟩) hS.2.2 hd E.2.2.2.2.2.2.2.1
theorem hw_zret {v : Int32} (E : EN p s m args meth c cc nL (some .boolean) own g) (hR : RP g S M H) (hS : va_S (gA g) s.heap H locs) (hv : v = 0 ∨ v = 1) (hq : Po (some (.int v)) M) (hd : decode cc pc = .ok (.ireturn, 1)) : W p l e R s m args below meth c H locs 0 0 (MQ below (QA g S Po) args s 0 0 (gA g)) (F0 m pc ls [.int v]) :=
  W.zret E.1 E.2.1 E.2.2.1 (by rcases hv with rfl | rfl <;> decide) (fun t ht hW => ⟨⟨_, M, rfl, hq, ru_at hR hS E.2.2.2.2.2.2.1 E.2.2.2.2.2.2.2.2 ht hW.alike⟩, hS.F ht⟩) hS.2.2 hd E.2.2.2.2.2.2.2.1
theorem hw_lret {v : Int64} (E : EN p s m args meth c cc nL (some .long) own g) (hR : RP g S M H) (hS : va_S (gA g) s.heap H locs) (hq : Po (some (.long v)) M) (hd : decode cc pc = .ok (.lreturn, 1)) : W p l e R s m args below meth c H locs 0 0 (MQ below (QA g S Po) args s 0 0 (gA g)) (F0 m pc ls [.long v]) :=
  W.lret E.1 E.2.1 E.2.2.1 (fun t ht hW => ⟨⟨_, M, rfl, hq, ru_at hR hS E.2.2.2.2.2.2.1 E.2.2.2.2.2.2.2.2 ht hW.alike⟩, hS.F ht⟩) hS.2.2 hd E.2.2.2.2.2.2.2.1
theorem hw_aret {o : Option Nat} {rt : FieldType} (E : EN p s m args meth c cc nL (some rt) own g) (hrt : (∃ n, rt = .object n) ∨ ∃ t, rt = .array t) (hR : RP g S M H) (hS : va_S (gA g) s.heap H locs) (hq : Po (some (rfv g o)) M) (hd : decode cc pc = .ok (.areturn, 1)) : W p l e R s m args below meth c H locs 0 0 (MQ below (QA g S Po) args s 0 0 (gA g)) (F0 m pc ls [rfv g o]) :=
  W.aret E.1 E.2.1 E.2.2.1 hrt (by cases o with | none => exact Or.inl rfl | some a => exact Or.inr ⟨_, rfl⟩) (fun t ht hW => ⟨⟨_, M, rfl, hq, ru_at hR hS E.2.2.2.2.2.2.1 E.2.2.2.2.2.2.2.2 ht hW.alike⟩, hS.F ht⟩) hS.2.2 hd E.2.2.2.2.2.2.2.1
theorem hw_vret (E : EN p s m args meth c cc nL none own g) (hR : RP g S M H) (hS : va_S (gA g) s.heap H locs) (hq : Po none M) (hd : decode cc pc = .ok (.return_, 1)) : W p l e R s m args below meth c H locs 0 0 (MQ below (QA g S Po) args s 0 0 (gA g)) (F0 m pc ls []) :=
  W.vret E.1 E.2.1 E.2.2.1 (fun t ht hW => ⟨⟨_, M, rfl, hq, ru_at hR hS E.2.2.2.2.2.2.1 E.2.2.2.2.2.2.2.2 ht hW.alike⟩, hS.F ht⟩) hS.2.2 hd E.2.2.2.2.2.2.2.1
end HWC
/-- a method's walk, from its entry -/
theorem MT.of {l : Launch} {g : Gg} {S : Ss} {y : MethodName} {cc : ByteArray} {nL : Nat} {ret : Option FieldType} {d : Nat} {av : List Value} {M : Mm} {Po : Option Value → Mm → Prop} (hy : plainName y.cls = true) (hlen : (lg_sl av).length ≤ nL)
    (body : ∀ (p : Program) (e : Env) (s : State) (m : MethodId) (below : List Frame) (meth : Method) (c : Code) (ls : Array Slot), EN p s m av.toArray meth c cc nL ret y.cls g → ad g 100000 < s.heap.size → RP g S M s.heap → va_S (gA g) s.heap s.heap [] → lv_has ls nL (lv_args 0 av) →
      W p l e (rmD d) s m av.toArray below meth c s.heap [] 0 0 (MQ below (QA g S Po) av.toArray s 0 0 (gA g)) (F0 m 0 ls [])) : MT l g S y cc nL ret d av M Po := by
  refine Met.ofW (cc := cc) (maxL := nL) (ret := ret) hy rfl ?_
  intro p e s m args below meth c s₁ B hml hv
  obtain ⟨rfl, hR, hK, hZ⟩ := hv
  have hts := atoms_spec (ws := Cond.code y cc nL ret :: lwg) B.pre
  rw [lg_entry_eq]
  exact body p e s m below meth c _ ⟨B.exec, B.bytes, B.returns, hml, findClass_of_methodNamed B.named, fun w hw => hts w (List.mem_cons_of_mem _ hw), hK, B.notSynchronized, hZ⟩ (ze_w hZ) hR va_S.rf (lv_entry av hlen)
/-- the posts by kinds -/
def pI (K : Int32 → Mm → Prop) : Option Value → Mm → Prop := fun r M => ∃ x : Int32, r = some (.int x) ∧ K x M
def pJ (K : Int64 → Mm → Prop) : Option Value → Mm → Prop := fun r M => ∃ x : Int64, r = some (.long x) ∧ K x M
def pV (K : Mm → Prop) : Option Value → Mm → Prop := fun r M => r = none ∧ K M
def pR (g : Gg) (K : Nat → Mm → Prop) : Option Value → Mm → Prop := fun r M => ∃ b : Nat, r = some (.ref (ad g b)) ∧ K b M
