theorem mcX10_init : MC yX10_init cX10_init 2 none 0 := ⟨(inT1 (List.mem_of_getElem? (i := 24) (by decide +kernel)) (by decide +kernel)), (inT1 (List.mem_of_getElem? (i := 1) (by decide +kernel)) (by decide +kernel)), by decide +kernel, by decide⟩
theorem miX10_init : Cond.instanceMethod yX10_init ∈ lwg := (inT1 (List.mem_of_getElem? (i := 23) (by decide +kernel)) (by decide +kernel))
theorem mcX11_init : MC yX11_init cX11_init 1 none 0 := ⟨(inT7 (List.mem_of_getElem? (i := 62) (by decide +kernel)) (by decide +kernel)), (inT1 (List.mem_of_getElem? (i := 11) (by decide +kernel)) (by decide +kernel)), by decide +kernel, by decide⟩
theorem miX11_init : Cond.instanceMethod yX11_init ∈ lwg := (inT7 (List.mem_of_getElem? (i := 61) (by decide +kernel)) (by decide +kernel))
theorem lmL_19 : Cond.methodLink RL 19 yX10_init ∈ lwg := (inT1 (List.mem_of_getElem? (i := 22) (by decide +kernel)) (by decide +kernel))
theorem lmL_22 : Cond.methodLink RL 22 yX11_init ∈ lwg := (inT7 (List.mem_of_getElem? (i := 60) (by decide +kernel)) (by decide +kernel))
theorem lnL_20 : Cond.classLink RL 20 RX11 ∈ lwg ∧ Cond.instantiable RX11 86 ∈ lwg ∧ Cond.initialized RX11 ∈ lwg := ⟨(inT7 (List.mem_of_getElem? (i := 59) (by decide +kernel)) (by decide +kernel)), (inT5 (List.mem_of_getElem? (i := 132) (by decide +kernel)) (by decide +kernel)), (inT1 (List.mem_of_getElem? (i := 11) (by decide +kernel)) (by decide +kernel))⟩
theorem lnL_8 : Cond.classLink RL 8 RX10 ∈ lwg ∧ Cond.instantiable RX10 13 ∈ lwg ∧ Cond.initialized RX10 ∈ lwg := ⟨(inT1 (List.mem_of_getElem? (i := 20) (by decide +kernel)) (by decide +kernel)), (inT1 (List.mem_of_getElem? (i := 21) (by decide +kernel)) (by decide +kernel)), (inT1 (List.mem_of_getElem? (i := 1) (by decide +kernel)) (by decide +kernel))⟩
def M00 : Mm := (fun a _ => if a = 100000 then 1 else 0, fun _ _ => 0, fun _ _ => none)
theorem TW.ex {g g1 : Gg} {S : Ss} {s : State} (h : TW g s) (hx : EX g g1 S) : TW g1 s := by
  obtain ⟨h1, h2, h3⟩ := h
  refine ⟨h1, ?_, ?_⟩
  · unfold ZU; rw [hx.gA]; exact h2
  · unfold ZN; rw [hx.gA]; exact h3
/-- THE PURE CLAIM: what the law's walk asks of the memory -/
def f_L_law_0 (xs : Nat → Int32) (L : Nat) : Prop :=
  CL ([] : Ss) M00 ∧ ([] : Ss).length < 100000 ∧
  ∀ S2 : Ss, S2 = ([] : Ss) ++ [(9, 0)] → ∀ m3 : Mm, m3 = zr M00 ([] : Ss).length → ∀ b4 : Nat, b4 = ([] : Ss).length →
  f_X10_init S2 b4 m3 (fun (S7 : Ss) (m8 : Mm) => PX S2 S7 →
  CL S7 m8 ∧ S7.length < 100000 ∧
  ∀ S11 : Ss, S11 = S7 ++ [(10, 0)] → ∀ m12 : Mm, m12 = zr m8 S7.length → ∀ b13 : Nat, b13 = S7.length →
  f_X11_init S11 b13 m12 (fun (S16 : Ss) (m17 : Mm) => PX S11 S16 →
  CL S16 m17 ∧ S16.length < 100000 ∧
  ∀ S20 : Ss, S20 = S16 ++ [(53, 1)] → ∀ m21 : Mm, m21 = zr m17 S16.length → ∀ b22 : Nat, b22 = S16.length →
  ∃ n : Nat, n ≤ 1000 ∧ f_L_law_L S20 xs L b4 b13 b22 n (0 : Int32) m21))
set_option maxHeartbeats 4000000 in
set_option maxRecDepth 100000 in
theorem w_L_law_0 {p : Program} {l : Launch} {e : Env} {s : State} {m : MethodId} {below : List Frame} {meth : Method} {c : Code} {g : Gg} {b L : Nat} {xs : Nat → Int32} (E : EN p s m #[Value.ref b] meth c cL_law 8 ret RL g) (hst : l.stackTraces = false) (hT : TW g s) (hN : NW s) (hg1 : g.1 = s.heap.size) (hX : va_X b L xs s s.heap) (hbl : b < s.heap.size) (hbA : ¬ gA g b) (hw : ad g 100000 < s.heap.size) (hbs : g.1 ≤ s.heap.size) (hR : RP g [] M00 s.heap) (hS : va_S (gA g) s.heap s.heap []) (ls : Array Slot) (hl : lv_has ls 8 [(0, .ref b)]) (hf : f_L_law_0 xs L) : W p l e room_1 s m #[Value.ref b] below meth c s.heap [] 0 0 (lw_Z below #[Value.ref b] s) (F0 m 0 ls []) := by
  have exA : EX g g ([] : Ss) := EX.rf
  have pxA : PX ([] : Ss) [] := PX.rf
  unfold f_L_law_0 at hf
  obtain ⟨hcl, hln, hf⟩ := hf
  refine hw_new E hR hS hw hbs hcl hln cI9 cd9 lnL_8 (Nat.le_of_ble_eq_true rfl) (Nat.le_of_ble_eq_true rfl) dL_law_0 (fun g1 S2 m3 H ex5 eS2 em3 hR hS => ?_)
  obtain ⟨b4, eb4⟩ : ∃ y, y = ([] : Ss).length := ⟨_, rfl⟩
  rw [← eb4]
  replace hf := hf S2 eS2 m3 em3 b4 eb4
  have hb4 := ex_last eS2 eb4
  have px : PX ([] : Ss) S2 := ⟨_, eS2⟩
  have E := E.ex ex5
  have hw : ad g1 100000 < s.heap.size := by rw [ex5.2.2.2.1]; exact hw
  have hbs : g1.1 ≤ s.heap.size := by rw [ex5.1]; exact hbs
  have exA := exA.tr pxA ex5
  have pxA := pxA.tr px
  refine lv_dup E.1 E.2.1 dL_law_3 rfl ?_
  refine hw_callC (rest := [.ref (ad g1 b4)]) E hR hS hN mcX10_init rfl miX10_init (Or.inr lmL_19) (ok_X10_init hb4 hf) rfl (Nat.le_of_ble_eq_true rfl) (Nat.le_of_ble_eq_true rfl) (Nat.le_of_ble_eq_true rfl) (Nat.le_of_ble_eq_true rfl) hl.1 (Nat.le_of_ble_eq_true rfl) dL_law_4 (fun g6 S7 m8 H locs ex9 px hf hR hS => ?_)
  replace hf := hf px
  have ea := ex9.ad hb4
  (try rw [← ea] at hl)
  (try rw [← ea])
  have hb4 := px.at hb4
  have E := E.ex ex9
  have hw : ad g6 100000 < s.heap.size := by rw [ex9.2.2.2.1]; exact hw
  have hbs : g6.1 ≤ s.heap.size := by rw [ex9.1]; exact hbs
  have exA := exA.tr pxA ex9
  have pxA := pxA.tr px
  refine lv_astore_n (lv' := [(1, .ref (ad g6 b4)), (0, .ref b)]) E.1 E.2.1 dL_law_7 rfl hl (by decide) rfl (fun ls hl => ?_)
  obtain ⟨hcl, hln, hf⟩ := hf
  refine hw_new E hR hS hw hbs hcl hln cI10 cd10 lnL_20 (Nat.le_of_ble_eq_true rfl) (Nat.le_of_ble_eq_true rfl) dL_law_8 (fun g10 S11 m12 H ex14 eS11 em12 hR hS => ?_)
  obtain ⟨b13, eb13⟩ : ∃ y, y = S7.length := ⟨_, rfl⟩
  rw [← eb13]
  replace hf := hf S11 eS11 m12 em12 b13 eb13
  have hb13 := ex_last eS11 eb13
  have px : PX S7 S11 := ⟨_, eS11⟩
  have ea := ex14.ad hb4
  (try rw [← ea] at hl)
  (try rw [← ea])
  have hb4 := px.at hb4
  have E := E.ex ex14
  have hw : ad g10 100000 < s.heap.size := by rw [ex14.2.2.2.1]; exact hw
  have hbs : g10.1 ≤ s.heap.size := by rw [ex14.1]; exact hbs
  have exA := exA.tr pxA ex14
  have pxA := pxA.tr px
  refine lv_dup E.1 E.2.1 dL_law_11 rfl ?_
  refine hw_callC (rest := [.ref (ad g10 b13)]) E hR hS hN mcX11_init rfl miX11_init (Or.inr lmL_22) (ok_X11_init hb13 hf) rfl (Nat.le_of_ble_eq_true rfl) (Nat.le_of_ble_eq_true rfl) (Nat.le_of_ble_eq_true rfl) (Nat.le_of_ble_eq_true rfl) hl.1 (Nat.le_of_ble_eq_true rfl) dL_law_12 (fun g15 S16 m17 H locs ex18 px hf hR hS => ?_)
  replace hf := hf px
  have ea := ex18.ad hb13
  (try rw [← ea] at hl)
  (try rw [← ea])
  have ea := ex18.ad hb4
  (try rw [← ea] at hl)
  (try rw [← ea])
  have hb13 := px.at hb13
  have hb4 := px.at hb4
  have E := E.ex ex18
  have hw : ad g15 100000 < s.heap.size := by rw [ex18.2.2.2.1]; exact hw
  have hbs : g15.1 ≤ s.heap.size := by rw [ex18.1]; exact hbs
  have exA := exA.tr pxA ex18
  have pxA := pxA.tr px
  refine lv_astore_n (lv' := [(2, .ref (ad g15 b13)), (1, .ref (ad g15 b4)), (0, .ref b)]) E.1 E.2.1 dL_law_15 rfl hl (by decide) rfl (fun ls hl => ?_)
  refine lv_iconst (v := 1) E.1 E.2.1 dL_law_16 (by decide) ?_
  obtain ⟨hcl, hln, hf⟩ := hf
  refine hw_newa53 E hR hS hw hbs hcl hln 1 (by decide) (by decide) (by decide) lar53 (Nat.le_of_ble_eq_true rfl) (Nat.le_of_ble_eq_true rfl) dL_law_17 (fun g19 S20 m21 H ex23 eS20 em21 hR hS => ?_)
  obtain ⟨b22, eb22⟩ : ∃ y, y = S16.length := ⟨_, rfl⟩
  rw [← eb22]
  replace hf := hf S20 eS20 m21 em21 b22 eb22
  have hb22 := ex_last eS20 eb22
  have px : PX S16 S20 := ⟨_, eS20⟩
  have ea := ex23.ad hb13
  (try rw [← ea] at hl)
  (try rw [← ea])
  have ea := ex23.ad hb4
  (try rw [← ea] at hl)
  (try rw [← ea])
  have hb13 := px.at hb13
  have hb4 := px.at hb4
  have E := E.ex ex23
  have hw : ad g19 100000 < s.heap.size := by rw [ex23.2.2.2.1]; exact hw
  have hbs : g19.1 ≤ s.heap.size := by rw [ex23.1]; exact hbs
  have exA := exA.tr pxA ex23
  have pxA := pxA.tr px
  refine lv_astore_n (lv' := [(3, .ref (ad g19 b22)), (2, .ref (ad g19 b13)), (1, .ref (ad g19 b4)), (0, .ref b)]) E.1 E.2.1 dL_law_19 rfl hl (by decide) rfl (fun ls hl => ?_)
  refine lv_iconst (v := 0) E.1 E.2.1 dL_law_20 (by decide) ?_
  refine lv_istore (lv' := [(4, .int (0 : Int32)), (3, .ref (ad g19 b22)), (2, .ref (ad g19 b13)), (1, .ref (ad g19 b4)), (0, .ref b)]) E.1 E.2.1 dL_law_21 hl (by decide) rfl (fun ls hl => ?_)
  obtain ⟨n, hn, hf⟩ := hf
  exact w_L_law_L E hst (hT.ex exA) (by rw [exA.1]; exact hg1) hX hbl (by rw [exA.gA]; exact hbA) hw hb4 hb13 n 0 _ hf _ _ (by omega) (by omega) _ _ _ hR hS (lv_sub hl [4, 3, 2, 1, 0] rfl)
