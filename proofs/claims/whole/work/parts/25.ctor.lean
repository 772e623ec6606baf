def nwl : List Cond := [.methodLinkNest RX10 9 yX6_init "TwoKeys", .methodLinkNest RX6 34 yX5_init "TwoKeys", .methodLinkNest RX10 18 yX9_init "TwoKeys", .methodLinkNest RX3 39 yX5_init "TwoKeys", .methodLinkNest RX9 20 yX4_init "TwoKeys", .methodLinkNest RX10 30 yX4_init "TwoKeys", .methodLinkNest RX10 44 yX7_init "TwoKeys", .methodLinkNest RX10 51 yX8_init "TwoKeys", .methodLinkNest RX10 58 yX1_init "TwoKeys", .methodLinkNest RX10 80 yX2_init "TwoKeys", .methodLinkNest RX2 11 yX4_init "TwoKeys"]
/-- the words that only the makers need -/
def NW (U : State) : Prop := (∀ w ∈ nwl, va_Nw w U) ∧ va_AO RX2 U ∧ va_AO RX5 U
theorem nwl_m : ∀ w ∈ nwl, w.onTables = true ∧ ∀ s U : State, s.WarmedH U.vm → va_Nw w s → va_Nw w U := by
  intro w hw
  simp only [nwl, List.mem_cons, List.not_mem_nil, or_false] at hw
  rcases hw with rfl | rfl | rfl | rfl | rfl | rfl | rfl | rfl | rfl | rfl | rfl <;> exact ⟨rfl, fun s U hW h => va_Nw.warmM hW h⟩
theorem NW.warm {s U : State} (hW : s.WarmedH U.vm) (h : NW s) : NW U := ⟨fun w hw => (nwl_m w hw).2 s U hW (h.1 w hw), va_AO.moved hW.alike h.2.1, va_AO.moved hW.alike h.2.2⟩
theorem NW.same {s U : State} (hv : s.vm = U.vm) (h : NW s) : NW U := ⟨fun w hw => va_Nw.same (nwl_m w hw).1 hv (h.1 w hw), va_AO.moved (by rw [hv]; exact Vm.Alike.refl _) h.2.1, va_AO.moved (by rw [hv]; exact Vm.Alike.refl _) h.2.2⟩
abbrev rmC (d mc ms : Nat) : Room := { frames := d, cells := mc, slots := ms, locals := 64 * d }
def QC (g : Gg) (S : Ss) (Po : Ss → Mm → Prop) : Array Value → State → Outcome → State → Prop := fun _ st oc t => (∃ (g1 : Gg) (S1 : Ss) (M1 : Mm), oc = .returned none ∧ EX g g1 S ∧ PX S S1 ∧ Po S1 M1 ∧ RU g1 S1 M1 t) ∧ va_F (gA g) st t
def MTC (l : Launch) (g : Gg) (S : Ss) (y : MethodName) (cc : ByteArray) (nL : Nat) (d mc ms : Nat) (av : List Value) (M : Mm) (Po : Ss → Mm → Prop) : Prop :=
  Met l y (Cond.code y cc nL none :: lwg) (rmC d mc ms) (va_Pc av (fun U => RU g S M U ∧ NW U)) (QC g S Po) mc ms (gA g)
theorem rc_blind (g : Gg) (S : Ss) (M : Mm) (av : List Value) : FrameBlind (va_Pc av (fun U => RU g S M U ∧ NW U)) := by
  intro a U gf mk q
  obtain ⟨q0, ⟨q1, q2, q3⟩, q4⟩ := q
  exact ⟨q0, ⟨q1, va_K.moved (u := U) (U := U.calling gf mk a) (Vm.Alike.refl U.vm) q2, ZE.moved (u := U) (U := U.calling gf mk a) (Vm.Alike.refl U.vm) q3⟩, NW.same (s := U) (U := U.calling gf mk a) rfl q4⟩
section HWK
variable {p : Program} {l : Launch} {e : Env} {R : Room} {s : State} {m : MethodId} {args : Array Value} {below : List Frame} {meth : Method} {c : Code} {H : Heap} {locs : List Loc} {cells slots : Nat} {Q : State → Prop}
variable {cc : ByteArray} {pc nL : Nat} {ls : Array Slot} {rest : List Value} {ret : Option FieldType} {own : String} {g : Gg} {S : Ss} {M : Mm}
theorem rp_bs {a : Nat} {sh : Nat × Nat} (hR : RP g S M H) (ha : S[a]? = some sh) : g.1 ≤ H.size := by
  have h1 := hR.2.1.2.1 a (List.getElem?_eq_some_iff.mp ha).1
  have h2 := (hR.1 a _ (wld_get ha)).lt
  have h3 : ad g a < H.size := h2
  omega
theorem hw_putFA (E : EN p s m args meth c cc nL ret own g) (hin : meth.name = "<init>") (hR : RP g S M H) (hS : va_S (gA g) s.heap H locs) (hw : ad g 100000 < s.heap.size) {ci n a index : Nat} {T : u_T} {N : Nat} (hc : CI ci own T N) (ha : S[a]? = some (ci, n)) (k : Nat) (hk : k < N) (hlink : Cond.fieldLink own index (T k).1 (T k).2.1 (T k).2.2.1 ∈ lwg) (hfin : (T k).2.2.2 = true) (hdecl : (T k).1 = own) {v : Value} (hn : narrow (fty ci k) v = v) (hfit : fits (fty ci k) v = true) {M' : Mm} (hM1 : ∀ b, b ≠ a → M'.1 b = M.1 b) (hM2 : ∀ b, b ≠ a → M'.2.1 b = M.2.1 b) (hM3 : ∀ b, b ≠ a → M'.2.2 b = M.2.2 b) (hv : fval g M' a (fk (fty ci k)) k = v) (ho : ∀ j, j ≠ k → fval g M' a (fk (fty ci j)) j = fval g M a (fk (fty ci j)) j) (hd : decode cc pc = .ok (.putfield index, 3))
    (kk : ∀ (H1 : Heap) (locs1 : List Loc), RP g S M' H1 → va_S (gA g) s.heap H1 locs1 → W p l e R s m args below meth c H1 locs1 cells slots Q (F0 m (pc + 3) ls rest)) : W p l e R s m args below meth c H locs cells slots Q (F0 m pc ls (v :: .ref (ad g a) :: rest)) := by
  obtain ⟨fs, h1, h2, h3, h4⟩ := obj_place (g := g) (M := M) hc ha hk
  have hset : (wld g S M).set a (ad g a, .inr (ci, fs.set k v)) = wld g S M' := by
    refine wld_set ha ?_ (fun b hb sh' => cel_congr (hM1 b hb) (hM2 b hb) (hM3 b hb) sh')
    rw [cel_obj hc.2.2.2.2.2, h2, fe_set _ k _ (fun k => fval g M' a (fk (fty ci k)) k) v hv ho]
  refine va_putF E.1 E.2.1 E.2.2.2.2.2.1 hc.2.2.1 (fty ci) hc.2.2.2.1 hc.2.2.2.2.1 E.2.2.2.2.1 E.2.2.2.2.2.2.1 hR.1 (wld_D hR.2.1) hS a h1 hc.1 k hk (E.2.2.2.2.2.1 _ hlink) (fun _ h => h) hfin hin hdecl (hc.2.2.2.1 k hk) hn hfit h4 hd (fun H1 locs1 hP1 hD1 hS1 => ?_)
  rw [hset] at hP1
  exact kk H1 locs1 (rp_new hR hS hP1 hS1 (hM1 _ (Ne.symm (ds_ne hR.2.1 ha))) hw) hS1
theorem hw_putFR (E : EN p s m args meth c cc nL ret own g) (hin : meth.name = "<init>") (hR : RP g S M H) (hS : va_S (gA g) s.heap H locs) (hw : ad g 100000 < s.heap.size) {ci n a index : Nat} {T : u_T} {N : Nat} (hc : CI ci own T N) (ha : S[a]? = some (ci, n)) (k : Nat) (hk : k < N) (hlink : Cond.fieldLink own index (T k).1 (T k).2.1 (T k).2.2.1 ∈ lwg) (hfin : (T k).2.2.2 = true) (hdecl : (T k).1 = own) {o : Option Nat} (hty : fk (fty ci k) = 2) (hd : decode cc pc = .ok (.putfield index, 3))
    (kk : ∀ (M1 : Mm) (H1 : Heap) (locs1 : List Loc), M1 = stR M a k o → RP g S M1 H1 → va_S (gA g) s.heap H1 locs1 → W p l e R s m args below meth c H1 locs1 cells slots Q (F0 m (pc + 3) ls rest)) : W p l e R s m args below meth c H locs cells slots Q (F0 m pc ls (rfv g o :: .ref (ad g a) :: rest)) := by
  obtain ⟨n1, n2⟩ := nar_ref hty g o
  refine hw_putFA E hin hR hS hw hc ha k hk hlink hfin hdecl n1 n2 (M' := stR M a k o) ?_ ?_ ?_ ?_ ?_ hd (fun H1 locs1 h1 h2 => kk _ H1 locs1 rfl h1 h2)
  · intro b hb; rfl
  · intro b hb; rfl
  · intro b hb; funext j; simp [stR, hb]
  · rw [hty]; simp [fval, stR]
  · intro j hj; simp [fval, stR, hj]
theorem hw_runC {a : Array Value} {st0 : List Value} {mc ms : Nat} {Po : Ss → Mm → Prop} (hS : va_S (gA g) s.heap H locs) (hr : va_Run p l e R s m args below meth c H locs cells slots mc ms (F0 m pc ls st0) rest (QC g S Po a) (gA g))
    (kk : ∀ (g1 : Gg) (S1 : Ss) (M1 : Mm) (H1 : Heap) (locs1 : List Loc), EX g g1 S → PX S S1 → Po S1 M1 → RP g1 S1 M1 H1 → va_S (gA g1) s.heap H1 locs1 → W p l e R s m args below meth c H1 locs1 (cells + mc) (slots + ms) Q (F0 m (pc + 3) ls rest)) : W p l e R s m args below meth c H locs cells slots Q (F0 m pc ls st0) := by
  intro T hT X
  obtain ⟨v, st₀, t, T', L, h0, X', hL, e1, e2, ⟨⟨g1, S1, M1, hv, hex, hpx, hp, hb⟩, hz, hk⟩, st⟩ := hr T hT X
  cases hv
  rw [h0] at hz hk
  obtain ⟨t2, a1, b1⟩ := kk g1 S1 M1 T'.heap (locs ++ L) hex hpx hp (by rw [e1]; exact hb.1)
    (by
      rw [hex.gA]
      exact ⟨Nat.le_trans hS.1 (by rw [e1]; exact hz), fun q h1 h2 => by rw [e1, hk q (Nat.lt_of_lt_of_le h1 hS.1) h2]; exact hS.2.1 q h1 h2, fun q hq => by
        rcases List.mem_append.mp hq with h | h
        · exact hS.2.2 q h
        · exact hL q h⟩) T' rfl X'
  exact ⟨t2, st t2 a1, b1⟩
theorem hw_callC (E : EN p s m args meth c cc nL ret own g) (hR : RP g S M H) (hS : va_S (gA g) s.heap H locs) (hN : NW s) {y : MethodName} {cy : ByteArray} {nL' d' index b mc ms : Nat} {st0 : List Value} {Po : Ss → Mm → Prop} (hmc : MC y cy nL' none 0) (hyn : y.name = "<init>") (hyi : Cond.instanceMethod y ∈ lwg) (hlk : Cond.methodLinkNest own index y "TwoKeys" ∈ nwl ∨ Cond.methodLink own index y ∈ lwg) (hM : MTC l g S y cy nL' d' mc ms [.ref (ad g b)] M Po) (hst : st0 = .ref (ad g b) :: rest) (hfr : d' + 1 ≤ R.frames) (hlo : 64 * (d' + 1) ≤ R.locals) (hce : cells + mc ≤ R.cells) (hsl : slots + ms ≤ R.slots) (hsz : ls.size = nL) (hcat : (rest.map fun v => v.category).sum ≤ 8) (hd : decode cc pc = .ok (.invokespecial index, 3))
    (kk : ∀ (g1 : Gg) (S1 : Ss) (M1 : Mm) (H1 : Heap) (locs1 : List Loc), EX g g1 S → PX S S1 → Po S1 M1 → RP g1 S1 M1 H1 → va_S (gA g1) s.heap H1 locs1 → W p l e R s m args below meth c H1 locs1 (cells + mc) (slots + ms) Q (F0 m (pc + 3) ls rest)) : W p l e R s m args below meth c H locs cells slots Q (F0 m pc ls st0) := by
  obtain ⟨hx, hbc, hrt, hml, hown, hts, hK, hlk0, hZ⟩ := E
  have hroom : (rmC d' mc ms).frames + 1 ≤ R.frames ∧ 8 + (nL' + 11) + (rmC d' mc ms).locals ≤ R.locals := ⟨hfr, by show 8 + (nL' + 11) + 64 * d' ≤ R.locals; have := hmc.2.2.2; omega⟩
  have hpre : PreS s H (va_Pc [.ref (ad g b)] (fun U => RU g S M U ∧ NW U)) (.ref (ad g b) :: []) := ⟨rc_blind g S M _, fun U hU hW => ⟨rfl, ru_at hR hS hK hZ hU hW.alike, hN.warm hW⟩⟩
  rcases hlk with hlk | hlk
  · exact hw_runC hS (va_runIN (As := []) (rest := rest) ⟨hx, hbc, hml, hown, hts⟩ hM ⟨va_cnB 0 hts (gin_tbl hmc.1) rfl rfl rfl (hN.1 _ hlk) (hts _ hmc.2.1) hmc.2.2.1 hroom, hyn, hts _ hyi⟩ hpre rfl rfl hsz hst (lv_room hcat) hd ⟨hce, hsl⟩) kk
  · exact hw_runC hS (va_runI (As := []) (rest := rest) ⟨hx, hbc, hml, hown, hts⟩ hM ⟨callB_of 0 hts (gin_tbl hmc.1) rfl rfl rfl (hts _ hmc.2.1) (hts _ hlk) hmc.2.2.1 hroom, hyn, hts _ hyi⟩ hpre rfl rfl hsz hst (lv_room hcat) hd ⟨hce, hsl⟩) kk
theorem hw_vretC {g0 : Gg} {S0 : Ss} {Po : Ss → Mm → Prop} (E : EN p s m args meth c cc nL none own g) (hex : EX g0 g S0) (hpx : PX S0 S) (hR : RP g S M H) (hS : va_S (gA g) s.heap H locs) (hq : Po S M) (hd : decode cc pc = .ok (.return_, 1)) : W p l e R s m args below meth c H locs cells slots (MQ below (QC g0 S0 Po) args s cells slots (gA g0)) (F0 m pc ls []) := by
  have hS' : va_S (gA g0) s.heap H locs := by rw [← hex.gA]; exact hS
  exact W.vret E.1 E.2.1 E.2.2.1 (fun t ht hW => ⟨⟨g, S, M, rfl, hex, hpx, hq, ru_at hR hS E.2.2.2.2.2.2.1 E.2.2.2.2.2.2.2.2 ht hW.alike⟩, hS'.F ht⟩) hS'.2.2 hd E.2.2.2.2.2.2.2.1
theorem hw_obj (E : EN p s m args meth c cc nL ret own g) {lv : List (Nat × Value)} (hl : lv_has ls nL lv) {index a : Nat} (hlk : Cond.methodLink own index Lib.objectInit ∈ lwg ∧ Cond.instanceMethod Lib.objectInit ∈ lwg ∧ Cond.code Lib.objectInit ⟨#[0xb1]⟩ 1 none ∈ lwg) (hfr : 1 ≤ R.frames) (hlo : 64 ≤ R.locals) (hcat : (rest.map fun v => v.category).sum ≤ 8) (hd : decode cc pc = .ok (.invokespecial index, 3))
    (kk : W p l e R s m args below meth c H locs cells slots Q (F0 m (pc + 3) ls rest)) : W p l e R s m args below meth c H locs cells slots Q (F0 m pc ls (.ref a :: rest)) := by
  have hts := E.2.2.2.2.2.1
  have h8 := lv_room (m := m) (pc := pc) (ls := ls) (rest := .ref a :: rest) hcat
  refine W.objInit E.1 E.2.1 E.2.2.2.2.1 (hts _ hlk.1) (hts _ hlk.2.1) (hts _ hlk.2.2) rfl (hl.1.trans E.2.2.2.1.symm) rfl hd hfr (by omega) ?_
  exact kk
theorem ex_last {S1 : Ss} {sh : Nat × Nat} {b : Nat} (h : S1 = S ++ [sh]) (hb : b = S.length) : S1[b]? = some sh := by
  rw [h, hb, List.getElem?_append_right (Nat.le_refl _), Nat.sub_self]; rfl
end HWK
theorem MTC.of {l : Launch} {g : Gg} {S : Ss} {y : MethodName} {cc : ByteArray} {nL : Nat} {d mc ms : Nat} {av : List Value} {M : Mm} {Po : Ss → Mm → Prop} (hy : plainName y.cls = true) (hlen : (lg_sl av).length ≤ nL)
    (body : ∀ (p : Program) (e : Env) (s : State) (m : MethodId) (below : List Frame) (meth : Method) (c : Code) (ls : Array Slot), EN p s m av.toArray meth c cc nL none y.cls g → meth.name = y.name → NW s → ad g 100000 < s.heap.size → RP g S M s.heap → va_S (gA g) s.heap s.heap [] → lv_has ls nL (lv_args 0 av) →
      W p l e (rmC d mc ms) s m av.toArray below meth c s.heap [] 0 0 (MQ below (QC g S Po) av.toArray s mc ms (gA g)) (F0 m 0 ls [])) : MTC l g S y cc nL d mc ms av M Po := by
  refine Met.ofW (cc := cc) (maxL := nL) (ret := none) hy rfl ?_
  intro p e s m args below meth c s₁ B hml hv
  obtain ⟨rfl, ⟨hR, hK, hZ⟩, hN⟩ := hv
  have hts := atoms_spec (ws := Cond.code y cc nL none :: lwg) B.pre
  rw [lg_entry_eq]
  exact body p e s m below meth c _ ⟨B.exec, B.bytes, B.returns, hml, findClass_of_methodNamed B.named, fun w hw => hts w (List.mem_cons_of_mem _ hw), hK, B.notSynchronized, hZ⟩ (name_of_methodNamed B.named B.method).1 hN (ze_w hZ) hR va_S.rf (lv_entry av hlen)
theorem cd0 : ∀ k, k < 10 → defaultValue (fty 0 k) = dv (fk (fty 0 k)) := by decide +kernel
theorem cd1 : ∀ k, k < 5 → defaultValue (fty 1 k) = dv (fk (fty 1 k)) := by decide +kernel
theorem cd2 : ∀ k, k < 15 → defaultValue (fty 2 k) = dv (fk (fty 2 k)) := by decide +kernel
theorem cd3 : ∀ k, k < 7 → defaultValue (fty 3 k) = dv (fk (fty 3 k)) := by decide +kernel
theorem cd4 : ∀ k, k < 8 → defaultValue (fty 4 k) = dv (fk (fty 4 k)) := by decide +kernel
theorem cd5 : ∀ k, k < 7 → defaultValue (fty 5 k) = dv (fk (fty 5 k)) := by decide +kernel
theorem cd6 : ∀ k, k < 2 → defaultValue (fty 6 k) = dv (fk (fty 6 k)) := by decide +kernel
theorem cd7 : ∀ k, k < 3 → defaultValue (fty 7 k) = dv (fk (fty 7 k)) := by decide +kernel
theorem cd8 : ∀ k, k < 19 → defaultValue (fty 8 k) = dv (fk (fty 8 k)) := by decide +kernel
theorem cd9 : ∀ k, k < 13 → defaultValue (fty 9 k) = dv (fk (fty 9 k)) := by decide +kernel
theorem cd10 : ∀ k, k < 86 → defaultValue (fty 10 k) = dv (fk (fty 10 k)) := by decide +kernel
