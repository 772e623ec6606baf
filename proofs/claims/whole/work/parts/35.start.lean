theorem st_words : ∀ w ∈ nwl ++ (twl ++ [Cond.arrayOver (.object RX2), .arrayOver (.object RX5), .laysStatic "TwoKeys" "EVEN_WEIGHTS" "[I", .initialized "TwoKeys", .laysStatic Bundle.tN "UNASSIGNED_STACK" Bundle.steD, .laysStatic Bundle.tN "SUPPRESSED_SENTINEL" Bundle.listD, .initialized Bundle.tN]), w ∈ lw_tbl := by decide +kernel
theorem pure_all (xs : Nat → Int32) (L : Nat) (hL : L ≤ 2560) : f_L_law_0 xs L := pure_of ops v0 xs L hL
set_option maxHeartbeats 4000000 in
set_option maxRecDepth 100000 in
theorem whole_start {p : Program} {e : Env} {s : State} {m : MethodId} {below : List Frame} {meth : Method} {c : Code} (l : Launch) (hst : l.stackTraces = false) {b L : Nat} {xs : Nat → Int32} (hL : L ≤ 2560) (C0 : lw_At p s m meth c b L xs) : W p l e room_1 s m #[Value.ref b] below meth c s.heap [] 0 0 (lw_Z below #[Value.ref b] s) (entryFrame m ([Value.ref b] : List Value).toArray 8) := by
  obtain ⟨hx, hb, hr, hml, hown, hts, hX, hbl, hlocks, hgv⟩ := C0
  have htg : ∀ w ∈ lwg, w.before #[Value.ref b] s = true := fun w hw => hts w (List.mem_filter.mp hw).1
  have hs := flat_of_before _ hgv
  have hstw : ∀ w ∈ nwl ++ (twl ++ [Cond.arrayOver (.object RX2), .arrayOver (.object RX5), .laysStatic "TwoKeys" "EVEN_WEIGHTS" "[I", .initialized "TwoKeys", .laysStatic Bundle.tN "UNASSIGNED_STACK" Bundle.steD, .laysStatic Bundle.tN "SUPPRESSED_SENTINEL" Bundle.listD, .initialized Bundle.tN]), w.before #[Value.ref b] s = true := fun w hw => hts w (st_words w hw)
  obtain ⟨c1, i1, kn1⟩ := u_known (C := RX1) (T := TX1) (N := 10) (n := 10) htg inX1 (htg (.instantiable RX1 10) (inT2 (List.mem_of_getElem? (i := 93) (by decide +kernel)) (by decide +kernel)))
  obtain ⟨c2, i2, kn2⟩ := u_known (C := RX2) (T := TX2) (N := 5) (n := 5) htg inX2 (htg (.instantiable RX2 5) (inT2 (List.mem_of_getElem? (i := 133) (by decide +kernel)) (by decide +kernel)))
  obtain ⟨c3, i3, kn3⟩ := u_known (C := RX3) (T := TX3) (N := 15) (n := 15) htg inX3 (htg (.instantiable RX3 15) (inT1 (List.mem_of_getElem? (i := 107) (by decide +kernel)) (by decide +kernel)))
  obtain ⟨c4, i4, kn4⟩ := u_known (C := RX4) (T := TX4) (N := 7) (n := 7) htg inX4 (htg (.instantiable RX4 7) (inT1 (List.mem_of_getElem? (i := 181) (by decide +kernel)) (by decide +kernel)))
  obtain ⟨c5, i5, kn5⟩ := u_known (C := RX5) (T := TX5) (N := 8) (n := 8) htg inX5 (htg (.instantiable RX5 8) (inT1 (List.mem_of_getElem? (i := 35) (by decide +kernel)) (by decide +kernel)))
  obtain ⟨c6, i6, kn6⟩ := u_known (C := RX6) (T := TX6) (N := 7) (n := 7) htg inX6 (htg (.instantiable RX6 7) (inT1 (List.mem_of_getElem? (i := 29) (by decide +kernel)) (by decide +kernel)))
  obtain ⟨c7, i7, kn7⟩ := u_known (C := RX7) (T := TX7) (N := 2) (n := 2) htg inX7 (htg (.instantiable RX7 2) (inT2 (List.mem_of_getElem? (i := 56) (by decide +kernel)) (by decide +kernel)))
  obtain ⟨c8, i8, kn8⟩ := u_known (C := RX8) (T := TX8) (N := 3) (n := 3) htg inX8 (htg (.instantiable RX8 3) (inT2 (List.mem_of_getElem? (i := 74) (by decide +kernel)) (by decide +kernel)))
  obtain ⟨c9, i9, kn9⟩ := u_known (C := RX9) (T := TX9) (N := 19) (n := 19) htg inX9 (htg (.instantiable RX9 19) (inT1 (List.mem_of_getElem? (i := 101) (by decide +kernel)) (by decide +kernel)))
  obtain ⟨c10, i10, kn10⟩ := u_known (C := RX10) (T := TX10) (N := 13) (n := 13) htg inX10 (htg (.instantiable RX10 13) (inT1 (List.mem_of_getElem? (i := 21) (by decide +kernel)) (by decide +kernel)))
  obtain ⟨c11, i11, kn11⟩ := u_known (C := RX11) (T := TX11) (N := 86) (n := 86) htg inX11 (htg (.instantiable RX11 86) (inT5 (List.mem_of_getElem? (i := 132) (by decide +kernel)) (by decide +kernel)))
  obtain ⟨dC, dI, hKc⟩ : ∃ (dC : Nat → ClassId) (dI : Nat → Nat → Nat), ∀ (k : Nat) (q : vw_C), vwCl[k]? = some q → u_Kn s q.1 q.2.1 q.2.2 (dC k) (dI k) := by
    refine ⟨fun k => if k = 0 then c1 else if k = 1 then c2 else if k = 2 then c3 else if k = 3 then c4 else if k = 4 then c5 else if k = 5 then c6 else if k = 6 then c7 else if k = 7 then c8 else if k = 8 then c9 else if k = 9 then c10 else c11, fun k => if k = 0 then i1 else if k = 1 then i2 else if k = 2 then i3 else if k = 3 then i4 else if k = 4 then i5 else if k = 5 then i6 else if k = 6 then i7 else if k = 7 then i8 else if k = 8 then i9 else if k = 9 then i10 else i11, ?_⟩
    intro k q hq
    match k, hq with
    | 0, hq => cases hq; exact kn1
    | 1, hq => cases hq; exact kn2
    | 2, hq => cases hq; exact kn3
    | 3, hq => cases hq; exact kn4
    | 4, hq => cases hq; exact kn5
    | 5, hq => cases hq; exact kn6
    | 6, hq => cases hq; exact kn7
    | 7, hq => cases hq; exact kn8
    | 8, hq => cases hq; exact kn9
    | 9, hq => cases hq; exact kn10
    | 10, hq => cases hq; exact kn11
    | k + 11, hq => simp [vwCl] at hq
  obtain ⟨a50, k50, q50, n50, f50, d50⟩ := Cond.arrayClass_spec (htg _ lar50)
  obtain ⟨a51, k51, q51, n51, f51, d51⟩ := Cond.arrayClass_spec (htg _ lar51)
  obtain ⟨a52, k52, q52, n52, f52, d52⟩ := Cond.arrayClass_spec (htg _ lar52)
  obtain ⟨a53, k53, q53, n53, f53, d53⟩ := Cond.arrayClass_spec (htg _ lar53)
  obtain ⟨q54, a54, k54, p54, x54, f54, d54, n54⟩ := Cond.arrayOver_spec (hstw (.arrayOver (.object RX2)) (by decide +kernel))
  obtain ⟨q55, a55, k55, p55, x55, f55, d55, n55⟩ := Cond.arrayOver_spec (hstw (.arrayOver (.object RX5)) (by decide +kernel))
  have hA0 : ∀ a : Nat, a < s.heap.size → ¬ (fun q : Nat => s.heap.size ≤ q) a := fun a ha => Nat.not_le.mpr ha
  obtain ⟨t, ht, hTT⟩ := va_Tof (tm := .static "TwoKeys" "EVEN_WEIGHTS" "[I") (ty := .int) (N := 5) (f := fun _ => .int 1) (A := fun q => s.heap.size ≤ q) (by decide) (hs _ (by decide +kernel)) (va_eqt (hs (Cond.eq (.length (.static "TwoKeys" "EVEN_WEIGHTS" "[I")) (.int 5)) (by decide +kernel))) (fun j hj => by
    match j, hj with
    | 0, _ => exact va_eqt (hs (Cond.eq (.elem (.static "TwoKeys" "EVEN_WEIGHTS" "[I") (.int 0)) (.int 1)) (by decide +kernel))
    | 1, _ => exact va_eqt (hs (Cond.eq (.elem (.static "TwoKeys" "EVEN_WEIGHTS" "[I") (.int 1)) (.int 1)) (by decide +kernel))
    | 2, _ => exact va_eqt (hs (Cond.eq (.elem (.static "TwoKeys" "EVEN_WEIGHTS" "[I") (.int 2)) (.int 1)) (by decide +kernel))
    | 3, _ => exact va_eqt (hs (Cond.eq (.elem (.static "TwoKeys" "EVEN_WEIGHTS" "[I") (.int 3)) (.int 1)) (by decide +kernel))
    | 4, _ => exact va_eqt (hs (Cond.eq (.elem (.static "TwoKeys" "EVEN_WEIGHTS" "[I") (.int 4)) (.int 1)) (by decide +kernel))
    | j + 5, h => exact absurd h (by omega)) hA0
  have hZZ := va_Zref (hstw (.laysStatic "TwoKeys" "EVEN_WEIGHTS" "[I") (by decide +kernel)) (hstw (.initialized "TwoKeys") (by decide +kernel)) ht hA0
  obtain ⟨g, hg⟩ : ∃ g : Gg, g = (s.heap.size, (dC, dI), (fun k => if k = 50 then a50 else if k = 51 then a51 else if k = 52 then a52 else if k = 53 then a53 else if k = 54 then a54 else a55), fun _ => t) := ⟨_, rfl⟩
  have hg1 : g.1 = s.heap.size := by rw [hg]
  have hgA : gA g = fun q => s.heap.size ≤ q := by unfold gA; rw [hg1]
  have hadg : ad g 100000 = t := by unfold ad; rw [hg]
  have hZ : ZE g s s.heap := by unfold ZE; rw [hgA, hadg]; exact ⟨hZZ, hTT⟩
  have hw := ze_w hZ
  have hK : va_K g.2.1 vwCl (tyg g) s := by
    rw [hg]
    refine ⟨hKc, fun k q hq => ?_⟩
    match k, hq with
    | 0, hq => cases hq; exact ⟨fun n z => ⟨fun k h => (by cases h), k50, f50, q50, d50⟩, n50⟩
    | 1, hq => cases hq; exact ⟨fun n z => ⟨fun k h => (by cases h), k51, f51, q51, d51⟩, n51⟩
    | 2, hq => cases hq; exact ⟨fun n z => ⟨fun k h => (by cases h), k52, f52, q52, d52⟩, n52⟩
    | 3, hq => cases hq; exact ⟨fun n z => ⟨fun k h => (by cases h), k53, f53, q53, d53⟩, n53⟩
    | 4, hq => cases hq; exact ⟨fun n z => ⟨fun k h => (by cases h), k54, f54, q54, d54⟩, k54, q54, f54, d54, p54, n54⟩
    | 5, hq => cases hq; exact ⟨fun n z => ⟨fun k h => (by cases h), k55, f55, q55, d55⟩, k55, q55, f55, d55, p55, n55⟩
    | k + 6, hq => simp [tyg] at hq
  have E : EN p s m #[Value.ref b] meth c cL_law 8 ret RL g := ⟨hx, hb, hr, hml, hown, htg, hK, hlocks, hZ⟩
  have hR : RP g [] M00 s.heap := by
    refine ⟨fun k q h => by simp [wld] at h, ⟨fun i j hi => by simp at hi, fun i hi => by simp at hi, ?_⟩, fun j => by simp [M00]⟩
    rw [hg1]; exact hw
  have hN : NW s := ⟨fun w hw => va_Nw.of (nwl_m w hw).1 (hstw w (List.mem_append_left _ hw)), va_AO.of (hstw (.arrayOver (.object RX2)) (by decide +kernel)), va_AO.of (hstw (.arrayOver (.object RX5)) (by decide +kernel))⟩
  have hT : TW g s := by
    refine ⟨fun w hw => va_Nw.of (twl_m w hw).1 (hstw w (List.mem_append_right _ (List.mem_append_left _ hw))), ?_, ?_⟩
    · unfold ZU; rw [hgA]; exact vx_Zqof (hstw (.laysStatic Bundle.tN "UNASSIGNED_STACK" Bundle.steD) (by decide +kernel)) (hstw (.initialized Bundle.tN) (by decide +kernel)) (hs _ (by decide +kernel)) hA0
    · unfold ZN; rw [hgA]; exact vx_Zqof (hstw (.laysStatic Bundle.tN "SUPPRESSED_SENTINEL" Bundle.listD) (by decide +kernel)) (hstw (.initialized Bundle.tN) (by decide +kernel)) (hs _ (by decide +kernel)) hA0
  have hl := lv_entry ([.ref b]) (n := 8) (Nat.le_of_ble_eq_true rfl)
  rw [lg_entry_eq]
  generalize (lg_sl ([.ref b]) ++ List.replicate (8 - (lg_sl ([.ref b])).length) Slot.unset).toArray = ls at hl ⊢
  have hl : lv_has ls 8 [(0, .ref b)] := hl
  exact w_L_law_0 E hst hT hN hg1 hX hbl (by rw [hgA]; exact Nat.not_le.mpr hbl) hw (by rw [hg1]; exact Nat.le_refl _) hR va_S.rf ls hl (pure_all xs L hL)
set_option maxHeartbeats 4000000 in
theorem lw_walk (l : Launch) (hst : l.stackTraces = false) (b : Addr) (xs : List Int32) : MetFree l x (headSpec (Jvm.Cond.code x code maxLocals ret :: tables_1) room_1) (lw_P b xs) (fun _ _ _ _ _ => True) lw_Q := by
  refine MetFree.of_bodyS (code := code) (maxLocals := maxLocals) (ret := ret) (by decide) ?_ ?_
  · intro args s m h hn
    obtain ⟨meth, c, h1, h2, h3, h4, h5, h6, -, -⟩ := Cond.code_spec hn (atoms_spec (ws := Jvm.Cond.code x code maxLocals ret :: tables_1) h _ List.mem_cons_self)
    exact ⟨meth, c, h1, h2, h3, h4, h5, h6⟩
  · intro p e s m args below meth c s₁ B hml0 hP _
    obtain ⟨rfl, hx, hbd, hgv⟩ := hP
    obtain ⟨scr, harrAt, hlist, hof, hsmall⟩ := hx
    obtain ⟨hcb, hkn, -, -⟩ := State.arrayAt?_spec harrAt
    have hown : s.vm.findClass R_law = some m.cls := findClass_of_methodNamed B.named
    have hts0 : ∀ c ∈ (Jvm.Cond.code x code maxLocals ret :: tables_1), c.before #[Value.ref b] s = true := atoms_spec (ws := Jvm.Cond.code x code maxLocals ret :: tables_1) B.pre
    have hts : ∀ w ∈ lw_tbl, w.before #[Value.ref b] s = true := k2_hts_sels lw_privs (fun w hw => hts0 w (List.mem_cons_of_mem _ hw)) lw_privs_ok
    have hml : c.maxLocals = 8 := B.maxLocals_eq (hts0 _ List.mem_cons_self)
    have X₀ : Stand p l e room_1 s m #[Value.ref b] below meth c s₁ [] 0 0 := Stand.of_body B
    have hh0 : s₁.heap = s.heap := by rw [B.state]; rfl
    have hsz : scr.slots.size = xs.length := by rw [← Array.length_toList, hlist, List.length_map]
    have hval : ∀ j : Nat, j < xs.length → scr.slots[j]? = some (.int (xs.getD j 0)) := fun j hj => by
      rw [← Array.getElem?_toList, hlist]
      simp [hj]
    have hbl : b < s.heap.size := (Array.getElem?_eq_some_iff.mp hcb).1
    have hX : va_X b xs.length (fun j => xs.getD j 0) s s.heap := ⟨scr, hcb, hof, hkn, hsz, hval⟩
    have K : W p l e room_1 s m #[Value.ref b] below meth c s₁.heap [] 0 0 (lw_Z below #[Value.ref b] s) (entryFrame m ([Value.ref b] : List Value).toArray 8) := by
      rw [hh0]
      exact whole_start l hst hbd ⟨B.exec, B.bytes, B.returns, hml, hown, hts, hX, hbl, B.notSynchronized, hgv⟩
    obtain ⟨t, a1, o, b1, b2, b3⟩ := K s₁ rfl X₀
    exact ⟨t, o, a1, b1, b2, b3⟩
theorem lw_pre_spec {args : Array Value} {s : State} (h : (Jvm.Cond.and given_1 narrow_1).before args s = true) (hr : rest_1_c.before args s = true) : ∃ (b : Addr) (xs : List Int32), lw_P b xs args s := by
  have hs := flat_of_before _ h
  have hq := flat_of_before _ hr
  have hc : (Cond.count 1).before args s = true := hs _ (by decide +kernel)
  have harr : (Cond.arrayOf (.arg 0) .int).before args s = true := hs _ (by decide +kernel)
  have hle : (Cond.le (.length (.arg 0)) (.int 2560)).before args s = true := hs _ (by decide +kernel)
  have hlen : (Cond.isInt (.length (.arg 0))).before args s = true := hq _ (by decide +kernel)
  have hall : (Cond.all (.arg 0) (.isInt (.elem (.arg 0) (.index 0)))).before args s = true := hq _ (by decide +kernel)
  obtain ⟨b, xs, hb, hx⟩ := State.ints_of_pre rfl harr hlen hall
  have hsm : xs.length < 2 ^ 31 := hx.choose_spec.2.2.2
  have hev : (Term.length (.arg 0)).eval args s none [] s = some (.int xs.length.toInt32) := hx.length_eval hb
  have hv := Cond.le_ints hev (show (Term.int 2560).eval args s none [] s = some (.int 2560) from rfl)
  have hd : xs.length.toInt32 ≤ 2560 := by
    simpa [Cond.before, Cond.holds, hv] using hle
  have hN : xs.length ≤ 2560 := (Int32.ofNat_le_ofNat hsm (by decide)).mp (show Int32.ofNat xs.length ≤ Int32.ofNat 2560 from hd)
  exact ⟨b, xs, Cond.one_arg hc (show args[0]? = some (.ref b) from hb), hx, hN, h⟩
theorem lw_comes (l : Launch) (hst : l.stackTraces = false) : Comes l x (Jvm.Cond.code x code maxLocals ret :: tables_1) room_1 (fun tb e args s => Calls_1 tb e args s ∧ rest_1 tb e args s ∧ Pre_1 tb e args s)
    (fun _ _ args s o t => lw_Q args s o t) := by
  intro p e ha hc hk s m args below hf hfit hheap happ hpre
  obtain ⟨b, xs, hP⟩ := lw_pre_spec hpre.2.2 hpre.2.1
  obtain ⟨k, o, h1, h2, h3, hQ⟩ := lw_walk l hst b xs p e ha hc hk s m args below hf ((Spec.applies_iff_loose hf).mp happ).1 hP trivial
  exact ⟨k, o, h1, h2, h3, hQ⟩
theorem lw_frame {s t : State} {o : Outcome} {args : Array Value} (h : Framed s o t [] 601024 7293034) :
    Framed s o t (fieldLocs frame_1_writes args s ++ arrayLocs frame_1_arrays args s ++ staticLocs frame_1_statics s) 601024 7293034 := h
theorem lw_limb (L : Cond) (hL : ∀ (args : Array Value) (s t : State), L.after args s (.returned (some (.int 1))) t = true) :
    ArmFor flags0 classFile x code maxLocals ret World_1 tables_1 room_1 Calls_1 rest_1 Pre_1
      (fun tb e a s o t => postC L tb e a s o t ∧ Framed s o t (fieldLocs frame_1_writes a s ++ arrayLocs frame_1_arrays a s ++ staticLocs frame_1_statics s) 601024 7293034) := by
  intro l hfl _ _ p e ha hc hk s m args below hf hfit hheap happ hpre
  obtain ⟨k, o, h1, h2, h3, rfl, hF⟩ := lw_comes l (by unfold Launch.stackTraces; rw [hfl]; decide +kernel) p e ha hc hk s m args below hf hfit hheap happ hpre
  exact ⟨k, _, h1, h2, h3, hL args s _, lw_frame hF⟩
theorem i_vc : Claimed_1_1 ∧ Claimed_1_2 := ⟨lw_limb limb_1_1 (fun args s t => by simp [limb_1_1, Cond.after, Cond.holds, Cond.value]), lw_limb limb_1_2 (fun args s t => Cond.after_iff.mpr (by
  first | (rw [show limb_1_2 = Cond.eq .result (.int 1) from rfl, Cond.eq_ints (x := 1) (y := 1) rfl rfl]; simp; done) | (simp [limb_1_2, Cond.value, Term.eval]; done)))⟩
