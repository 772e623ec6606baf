def xE : String := "java/util/NoSuchElementException"
def xNs : List String := ["java/lang/RuntimeException", "java/lang/Exception"]
def twl : List Cond := [.castable xE xE, .declares ⟨"java/lang/RuntimeException", "<init>", "()V"⟩, .declares ⟨"java/lang/Exception", "<init>", "()V"⟩, .declares ⟨"java/lang/Throwable", "<init>", "()V"⟩]
theorem at0_g : ∀ w ∈ (vx_at0 RX10 170 xE xNs).filter goodWord, w ∈ lwg := by decide +kernel
theorem at0_ng : ∀ w ∈ (vx_at0 RX10 170 xE xNs).filter (fun w => !goodWord w), w ∈ twl := by decide +kernel
theorem at0_good : ∀ w ∈ Cond.classLink RX10 168 xE :: Cond.initialized xE :: vx_at0 RX10 170 xE xNs, vx_ot w = true := by decide +kernel
theorem at0_cl : Cond.classLink RX10 168 xE ∈ lwg ∧ Cond.initialized xE ∈ lwg := by decide +kernel
abbrev ZU (g : Gg) (U : State) (H : Heap) : Prop := vx_Zq Bundle.tN "UNASSIGNED_STACK" Bundle.steD (gA g) U H
abbrev ZN (g : Gg) (U : State) (H : Heap) : Prop := vx_Zq Bundle.tN "SUPPRESSED_SENTINEL" Bundle.listD (gA g) U H
/-- what the throwing methods need besides -/
def TW (g : Gg) (U : State) : Prop := (∀ w ∈ twl, va_Nw w U) ∧ ZU g U U.heap ∧ ZN g U U.heap
theorem twl_m : ∀ w ∈ twl, w.onTables = true ∧ ∀ s U : State, s.WarmedH U.vm → va_Nw w s → va_Nw w U := by
  intro w hw
  simp only [twl, List.mem_cons, List.not_mem_nil, or_false] at hw
  rcases hw with rfl | rfl | rfl | rfl
  · exact ⟨rfl, fun s U hW h => va_Nw.warmC hW h⟩
  · exact ⟨rfl, fun s U hW h => va_Nw.warmD hW h⟩
  · exact ⟨rfl, fun s U hW h => va_Nw.warmD hW h⟩
  · exact ⟨rfl, fun s U hW h => va_Nw.warmD hW h⟩
theorem TW.at {s U : State} {H : Heap} {locs : List Loc} {g : Gg} (h : TW g s) (hS : va_S (gA g) s.heap H locs) (hU : U.heap = H) (hW : s.WarmedH U.vm) : TW g U := by
  refine ⟨fun w hw => (twl_m w hw).2 s U hW (h.1 w hw), ?_, ?_⟩
  · rw [hU]; exact (vx_Zq.kept h.2.1 hS.2.1).moved hW.alike
  · rw [hU]; exact (vx_Zq.kept h.2.2 hS.2.1).moved hW.alike
theorem TW.same {s U : State} {g : Gg} (hv : s.vm = U.vm) (hh : s.heap = U.heap) (h : TW g s) : TW g U := by
  refine ⟨fun w hw => va_Nw.same (twl_m w hw).1 hv (h.1 w hw), ?_, ?_⟩
  · rw [← hh]; exact h.2.1.moved (by rw [hv]; exact Vm.Alike.refl _)
  · rw [← hh]; exact h.2.2.moved (by rw [hv]; exact Vm.Alike.refl _)
theorem rp_kept {g : Gg} {S : Ss} {M : Mm} {H H1 : Heap} (hR : RP g S M H) (hq : ∀ q, q < H.size → H1[q]? = H[q]?) : RP g S M H1 :=
  ⟨hR.1.kept (fun k x hx => hq x.1 (hR.1 k x hx).lt), hR.2.1, hR.2.2⟩
abbrev rmX (d : Nat) : Room := { frames := d, cells := 1, slots := 6, locals := 64 * d }
def XQ (g : Gg) (S : Ss) (KX : Mm → Prop) : String → State → State → Prop := vx_X (fun M : Mm => KX M) (fun E M t => E = xE ∧ RU g S M t) (gA g)
def XT (l : Launch) (g : Gg) (S : Ss) (y : MethodName) (cc : ByteArray) (nL : Nat) (ret : Option FieldType) (d : Nat) (av : List Value) (M : Mm) (Po : Option Value → Mm → Prop) (KX : Mm → Prop) : Prop :=
  vx_Met l y (Cond.code y cc nL ret :: lwg) (rmX d) (va_Pc av (fun U => RU g S M U ∧ TW g U)) (QA g S Po) (XQ g S KX) 1 6 (gA g)
theorem rx_blind (g : Gg) (S : Ss) (M : Mm) (av : List Value) : FrameBlind (va_Pc av (fun U => RU g S M U ∧ TW g U)) := by
  intro a U gf mk q
  obtain ⟨q0, ⟨q1, q2, q3⟩, q4⟩ := q
  exact ⟨q0, ⟨q1, va_K.moved (u := U) (U := U.calling gf mk a) (Vm.Alike.refl U.vm) q2, ZE.moved (u := U) (U := U.calling gf mk a) (Vm.Alike.refl U.vm) q3⟩, TW.same (s := U) (U := U.calling gf mk a) rfl rfl q4⟩
section HWG
variable {p : Program} {l : Launch} {e : Env} {R : Room} {s : State} {m : MethodId} {args : Array Value} {below : List Frame} {meth : Method} {c : Code} {H : Heap} {locs : List Loc} {cells slots : Nat} {Q : State → Prop}
variable {cc : ByteArray} {pc nL : Nat} {ls : Array Slot} {rest : List Value} {ret : Option FieldType} {own : String} {g : Gg} {S : Ss} {M : Mm} {Po : Option Value → Mm → Prop}

theorem hw_callG {a : Array Value} {st0 : List Value} (hS : va_S (gA g) s.heap H locs) (hr : va_Run p l e R s m args below meth c H locs cells slots 0 0 (F0 m pc ls st0) rest (QA g S Po a) (gA g))
    (kk : ∀ (r : Option Value) (M1 : Mm) (H1 : Heap) (locs1 : List Loc), Po r M1 → RP g S M1 H1 → va_S (gA g) s.heap H1 locs1 → W p l e R s m args below meth c H1 locs1 cells slots Q (F0 m (pc + 3) ls (r.toList ++ rest))) : W p l e R s m args below meth c H locs cells slots Q (F0 m pc ls st0) := by
  intro T hT X
  obtain ⟨v, st₀, t, T', L, h0, X', hL, e1, e2, ⟨⟨r, M1, hv, hp, hb⟩, hz, hk⟩, st⟩ := hr T hT X
  cases hv
  rw [h0] at hz hk
  obtain ⟨t2, a1, b1⟩ := kk v M1 T'.heap (locs ++ L) hp (by rw [e1]; exact hb.1)
    ⟨Nat.le_trans hS.1 (by rw [e1]; exact hz), fun q h1 h2 => by rw [e1, hk q (Nat.lt_of_lt_of_le h1 hS.1) h2]; exact hS.2.1 q h1 h2, fun q hq => by
      rcases List.mem_append.mp hq with h | h
      · exact hS.2.2 q h
      · exact hL q h⟩ T' rfl X'
  exact ⟨t2, st t2 a1, b1⟩
theorem hw_callVG (E : EN p s m args meth c cc nL ret own g) (hR : RP g S M H) (hS : va_S (gA g) s.heap H locs) {y : MethodName} {cy : ByteArray} {nL' n d' index ci n' b : Nat} {ret' : Option FieldType} {C : String} {T : u_T} {N : Nat} {st0 As : List Value} (hc : CI ci C T N) (hb : S[b]? = some (ci, n')) (hyc : y.cls = C) (mc : MC y cy nL' ret' n) (mi : MI y) (ml : Cond.methodLink own index y ∈ lwg) (hM : MT l g S y cy nL' ret' d' (.ref (ad g b) :: As) M Po) (hst : st0 = As.reverse ++ .ref (ad g b) :: rest) (hn : As.length = n) (hfr : d' + 1 ≤ R.frames) (hlo : 64 * (d' + 1) ≤ R.locals) (hce : cells ≤ R.cells) (hsl : slots ≤ R.slots) (hsz : ls.size = nL) (hcat : (rest.map fun v => v.category).sum ≤ 8) (hd : decode cc pc = .ok (.invokevirtual index, 3))
    (kk : ∀ (r : Option Value) (M1 : Mm) (H1 : Heap) (locs1 : List Loc), Po r M1 → RP g S M1 H1 → va_S (gA g) s.heap H1 locs1 → W p l e R s m args below meth c H1 locs1 cells slots Q (F0 m (pc + 3) ls (r.toList ++ rest))) : W p l e R s m args below meth c H locs cells slots Q (F0 m pc ls st0) := by
  obtain ⟨hx, hbc, hrt, hml, hown, hts, hK, hlk, hZ⟩ := E
  subst hyc
  have hbp : (wld g S M)[b]? = some (ad g b, .inr (ci, (List.range (nfd ci)).map (fun k => fval g M b (fk (fty ci k)) k))) := (wld_get hb).trans (by rw [cel_obj hc.2.2.2.2.2])
  refine hw_callG hS (va_runV (As := As) (rest := rest) ⟨hx, hbc, hml, hown, hts⟩ hM ⟨callB_of n hts (gin_tbl mc.1) rfl rfl rfl (hts _ mc.2.1) (hts _ ml) mc.2.2.1 ⟨hfr, ?_⟩, hts _ mi.1, hts _ mi.2⟩ ⟨ru_blind g S M _, va_recv hK hR.1 hc.1 hbp, fun U hU hW => ⟨rfl, ru_at hR hS hK hZ hU hW.alike⟩⟩ rfl hn hsz hst (lv_room hcat) hd ⟨hce, hsl⟩) kk
  show 8 + (nL' + 11) + 64 * d' ≤ R.locals
  have := mc.2.2.2
  omega
theorem hw_iretX {v : Int32} (E : EN p s m args meth c cc nL (some .int) own g) (hR : RP g S M H) (hS : va_S (gA g) s.heap H locs) (hq : Po (some (.int v)) M) (hd : decode cc pc = .ok (.ireturn, 1)) : W p l e R s m args below meth c H locs cells slots (MQ below (QA g S Po) args s cells slots (gA g)) (F0 m pc ls [.int v]) :=
  W.iret E.1 E.2.1 E.2.2.1 (fun t ht hW => ⟨⟨_, M, rfl, hq, ru_at hR hS E.2.2.2.2.2.2.1 E.2.2.2.2.2.2.2.2 ht hW.alike⟩, hS.F ht⟩) hS.2.2 hd E.2.2.2.2.2.2.2.1
theorem hw_lretX {v : Int64} (E : EN p s m args meth c cc nL (some .long) own g) (hR : RP g S M H) (hS : va_S (gA g) s.heap H locs) (hq : Po (some (.long v)) M) (hd : decode cc pc = .ok (.lreturn, 1)) : W p l e R s m args below meth c H locs cells slots (MQ below (QA g S Po) args s cells slots (gA g)) (F0 m pc ls [.long v]) :=
  W.lret E.1 E.2.1 E.2.2.1 (fun t ht hW => ⟨⟨_, M, rfl, hq, ru_at hR hS E.2.2.2.2.2.2.1 E.2.2.2.2.2.2.2.2 ht hW.alike⟩, hS.F ht⟩) hS.2.2 hd E.2.2.2.2.2.2.2.1
theorem hw_throw {KX : Mm → Prop} {Qc : Array Value → State → Outcome → State → Prop} {d : Nat} (E : EN p s m args meth c cc nL ret RX10 g) (hl : l.stackTraces = false) (hT : TW g s) (hR : RP g S M H) (hS : va_S (gA g) s.heap H locs) {lv : List (Nat × Value)} (hlv : lv_has ls nL lv) (htab : ∀ x ∈ c.exceptionTable.toList, False) (hd8 : 8 ≤ d)
    (d0 : decode cc pc = .ok (.new 168, 3)) (d3 : decode cc (pc + 3) = .ok (.dup, 1)) (d4 : decode cc (pc + 4) = .ok (.invokespecial 170, 3)) (d7 : decode cc (pc + 7) = .ok (.athrow, 1)) (hq : KX M) : W p l e (rmX d) s m args below meth c H locs 0 0 (vx_MQ below Qc (XQ g S KX) args s 1 6 (gA g)) (F0 m pc ls []) := by
  obtain ⟨hx, hbc, hrt, hml, hown, hts, hK, hlk, hZ⟩ := E
  refine vx_throw0 (cls := xE) (names := xNs) (A := gA g) hx hbc hl hown (by decide +kernel) (by decide +kernel) (hts _ at0_cl.1) (hts _ at0_cl.2) (vx_hat (fun w hw => hts w (at0_g w hw)) at0_ng (fun w hw => va_Nw.use (twl_m w hw).1 (hT.1 w hw))) at0_good hT.2.1 hT.2.2 hS (hlv.1.trans hml.symm) d0 d3 d4 d7 (fun x hx => (htab x hx).elim) ?_ ?_ (Nat.le_refl _) (Nat.le_refl _) hlk (fun t hvm hz hk => ?_) hS.2.2 (Nat.le_refl _) (Nat.le_refl _)
  · show 2 + 3 < d
    omega
  · show 0 + (13 * (2 + 1) + 42) ≤ 64 * d
    omega
  · have hF : va_F (gA g) s t := ⟨Nat.le_trans hS.1 hz, fun q h1 h2 => by rw [hk q (Nat.lt_of_lt_of_le h1 hS.1)]; exact hS.2.1 q h1 h2⟩
    exact ⟨M, hq, ⟨rfl, rp_kept hR hk, va_K.moved hvm hK, ZE.moved hvm (hZ.kept hF.2)⟩, hF⟩
end HWG
theorem XT.of {l : Launch} {g : Gg} {S : Ss} {y : MethodName} {cc : ByteArray} {nL : Nat} {ret : Option FieldType} {d : Nat} {av : List Value} {M : Mm} {Po : Option Value → Mm → Prop} {KX : Mm → Prop} (hy : plainName y.cls = true) (hlen : (lg_sl av).length ≤ nL)
    (body : ∀ (p : Program) (e : Env) (s : State) (m : MethodId) (below : List Frame) (meth : Method) (c : Code) (ls : Array Slot), EN p s m av.toArray meth c cc nL ret y.cls g → (∀ x ∈ c.exceptionTable.toList, False) → TW g s → ad g 100000 < s.heap.size → RP g S M s.heap → va_S (gA g) s.heap s.heap [] → lv_has ls nL (lv_args 0 av) →
      W p l e (rmX d) s m av.toArray below meth c s.heap [] 0 0 (vx_MQ below (QA g S Po) (XQ g S KX) av.toArray s 1 6 (gA g)) (F0 m 0 ls [])) : XT l g S y cc nL ret d av M Po KX := by
  refine vx_ofW (cc := cc) (maxL := nL) (ret := ret) hy rfl ?_
  intro p e s m args below meth c s₁ B hml htab hv
  obtain ⟨rfl, ⟨hR, hK, hZ⟩, hT⟩ := hv
  have hts := atoms_spec (ws := Cond.code y cc nL ret :: lwg) B.pre
  rw [lg_entry_eq]
  exact body p e s m below meth c _ ⟨B.exec, B.bytes, B.returns, hml, findClass_of_methodNamed B.named, fun w hw => hts w (List.mem_cons_of_mem _ hw), hK, B.notSynchronized, hZ⟩ htab hT (ze_w hZ) hR va_S.rf (lv_entry av hlen)
