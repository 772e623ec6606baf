section HWT
variable {p : Program} {l : Launch} {e : Env} {R : Room} {s : State} {m : MethodId} {args : Array Value} {below : List Frame} {meth : Method} {c : Code} {H : Heap} {locs : List Loc} {cells slots : Nat} {Q : State → Prop}
variable {cc : ByteArray} {pc nL : Nat} {ls : Array Slot} {rest : List Value} {ret : Option FieldType} {own : String} {g : Gg} {S : Ss} {M : Mm} {Po : Option Value → Mm → Prop} {KX : Mm → Prop}
theorem hw_callX {a : Array Value} {st0 : List Value} (hS : va_S (gA g) s.heap H locs) (hr : vx_Run p l e R s m args below meth c H locs cells slots 1 6 (F0 m pc ls st0) rest (QA g S Po a) (XQ g S KX) (gA g))
    (kx : ∀ (ce : Cell) (q : Addr) (M1 : Mm) (H1 : Heap) (locs1 : List Loc), KX M1 → RP g S M1 H1 → va_S (gA g) s.heap H1 locs1 → H1[q]? = some ce → ce.vm = .none → s.vm.findClass xE = some ce.cls → vx_W p l e R s m args below meth c H1 locs1 (cells + 1) (slots + 6) Q (F0 m pc ls rest) q)
    (kk : ∀ (r : Option Value) (M1 : Mm) (H1 : Heap) (locs1 : List Loc), Po r M1 → RP g S M1 H1 → va_S (gA g) s.heap H1 locs1 → W p l e R s m args below meth c H1 locs1 (cells + 1) (slots + 6) Q (F0 m (pc + 3) ls (r.toList ++ rest))) : W p l e R s m args below meth c H locs cells slots Q (F0 m pc ls st0) := by
  intro T hT X
  have hsA : ∀ {st₀ t T' : State} {L : List Loc}, st₀.heap = H → T'.heap = t.heap → va_F (gA g) st₀ t → (∀ z ∈ L, gA g z.base) → va_S (gA g) s.heap T'.heap (locs ++ L) := by
    intro st₀ t T' L h0 e1 hF hL
    obtain ⟨hz, hk⟩ := hF
    rw [h0] at hz hk
    exact ⟨Nat.le_trans hS.1 (by rw [e1]; exact hz), fun q h1 h2 => by rw [e1, hk q (Nat.lt_of_lt_of_le h1 hS.1) h2]; exact hS.2.1 q h1 h2, fun q hq => by
      rcases List.mem_append.mp hq with h | h
      · exact hS.2.2 q h
      · exact hL q h⟩
  rcases hr T hT X with ⟨v, st₀, t, T', L, h0, X', hL, e1, e2, ⟨⟨r, M1, hv, hp, hb⟩, hF⟩, st⟩ | ⟨q, st₀, t, T', L, E, ce, h0, X', hL, e1, e2, ⟨M1, hp, ⟨hE, hb⟩, hF⟩, hce, hcv, hcl, st⟩
  · cases hv
    obtain ⟨t2, a1, b1⟩ := kk v M1 T'.heap (locs ++ L) hp (by rw [e1]; exact hb.1) (hsA h0 e1 hF hL) T' rfl X'
    exact ⟨t2, st t2 a1, b1⟩
  · subst hE
    obtain ⟨t2, a1, b1⟩ := kx ce q M1 T'.heap (locs ++ L) hp (by rw [e1]; exact hb.1) (hsA h0 e1 hF hL) (by rw [e1]; exact hce) hcv hcl T' rfl X'
    exact ⟨t2, st.trans a1, b1⟩
end HWT
def LT (l : Launch) (g : Gg) (S : Ss) (y : MethodName) (cc : ByteArray) (hh : List (Nat × Nat × Nat × Nat)) (d : Nat) (av : List Value) (M : Mm) (Po : Option Value → Mm → Prop) : Prop :=
  Met l y (Cond.codeWith y cc 4 (some .int) hh :: lwg) (rmX d) (va_Pc av (fun U => RU g S M U ∧ TW g U)) (QA g S Po) 1 6 (gA g)
theorem lmL_at : Cond.methodLink RL 7 yX10_at ∈ lwg ∧ Cond.instanceMethod yX10_at ∈ lwg ∧ Cond.selects RX10 yX10_at yX10_at ∈ lwg := by decide +kernel
theorem mcX10_at : MC yX10_at cX10_at 2 (some .int) 1 := by unfold MC; decide +kernel
def f_L_at (S : Ss) (a0 : Nat) (x1 : Int32) (a2 : Nat) (M : Mm) (K : Int32 → Mm → Prop) : Prop :=
  f_X10_at S a0 x1 M (fun (r : Int32) (m1 : Mm) => ∃ n : Nat, S[a2]? = some (53, n) ∧ vp_in (0 : Int32) n ∧ ∀ m2 : Mm, m2 = stJ m1 a2 (0 : Int32).toNatClampNeg r.toInt64 → K 0 m2) (fun m1 => K 1 m1)
set_option maxHeartbeats 4000000 in
set_option maxRecDepth 100000 in
theorem ok_L_at {l : Launch} {g : Gg} {S : Ss} {a0 : Nat} {x1 : Int32} {a2 : Nat} {M : Mm} {K : Int32 → Mm → Prop} (hst : l.stackTraces = false) (hs0 : S[a0]? = some (9, 0)) (hf : f_L_at S a0 x1 a2 M K) : LT l g S yL_at cL_at [(0, 9, 12, 13)] 9 [.ref (ad g a0), .int x1, .ref (ad g a2)] M (pI K) := by
  refine va_MetW (cc := cL_at) (maxL := 4) (ret := some .int) (hh := [(0, 9, 12, 13)]) (by decide +kernel) rfl ?_
  intro p e s m args below meth c s₁ B hml hv
  obtain ⟨rfl, ⟨hR, hK, hZ⟩, hT⟩ := hv
  have hts0 := atoms_spec (ws := Cond.codeWith yL_at cL_at 4 (some .int) [(0, 9, 12, 13)] :: lwg) B.pre
  have hts : ∀ w ∈ lwg, w.before _ s = true := fun w hw => hts0 w (List.mem_cons_of_mem _ hw)
  have htab := vx_table (x := yL_at) B (hts0 _ List.mem_cons_self)
  have E : EN p s m _ meth c cL_at 4 (some .int) RL g := ⟨B.exec, B.bytes, B.returns, hml, findClass_of_methodNamed B.named, hts, hK, B.notSynchronized, hZ⟩
  have hw := ze_w hZ
  have hS : va_S (gA g) s.heap s.heap [] := va_S.rf
  have hl := lv_entry ([.ref (ad g a0), .int x1, .ref (ad g a2)]) (n := 4) (Nat.le_of_ble_eq_true rfl)
  rw [lg_entry_eq]
  generalize (lg_sl ([.ref (ad g a0), .int x1, .ref (ad g a2)]) ++ List.replicate (4 - (lg_sl ([.ref (ad g a0), .int x1, .ref (ad g a2)])).length) Slot.unset).toArray = ls at hl ⊢
  have hl : lv_has ls 4 [(0, .ref (ad g a0)), (1, .int x1), (2, .ref (ad g a2))] := hl
  generalize ([.ref (ad g a0), .int x1, .ref (ad g a2)] : List Value).toArray = args at E hts ⊢
  have hx := E.1
  have hb := E.2.1
  unfold f_L_at at hf
  refine lv_aload_n hx hb dL_at_0 rfl (lv_at hl 2 rfl) ?_
  refine lv_iconst (v := 0) hx hb dL_at_1 (by decide) ?_
  refine lv_aload_n hx hb dL_at_2 rfl (lv_at hl 0 rfl) ?_
  refine lv_iload_n hx hb dL_at_3 rfl (lv_at hl 1 rfl) ?_
  have hbp : (wld g S M)[a0]? = some (ad g a0, .inr (9, (List.range (nfd 9)).map (fun k => fval g M a0 (fk (fty 9 k)) k))) := (wld_get hs0).trans (by rw [cel_obj (by decide)])
  refine hw_callX (rest := [.int 0, .ref (ad g a2)]) hS (vx_runV (As := [.int x1]) (rest := [.int 0, .ref (ad g a2)]) ⟨hx, hb, E.2.2.2.1, E.2.2.2.2.1, hts⟩ (ok_X10_at hst hs0 hf) ⟨callB_of 1 hts (gin_tbl mcX10_at.1) rfl rfl rfl (hts _ mcX10_at.2.1) (hts _ lmL_at.1) mcX10_at.2.2.1 ⟨Nat.le_of_ble_eq_true rfl, Nat.le_of_ble_eq_true rfl⟩, hts _ lmL_at.2.1, hts _ lmL_at.2.2⟩ ⟨rx_blind g S M _, va_recv hK hR.1 cI9.1 hbp, fun U hU hW => ⟨rfl, ru_at hR hS hK hZ hU hW.alike, hT.at hS hU hW⟩⟩ rfl rfl hl.1 rfl (lv_room (Nat.le_of_ble_eq_true rfl)) dL_at_4 ⟨Nat.le_of_ble_eq_true rfl, Nat.le_of_ble_eq_true rfl⟩) (fun ce q M1 H1 locs1 hf hR hS hce hcv hcl => ?_) (fun r M1 H1 locs1 hp hR hS => ?_)
  · refine vx_catch (name := xE) E.2.2.2.2.1 [] ⟨0, 9, 12, 13⟩ [] htab (fun z hz => absurd hz List.not_mem_nil) (by decide) (by decide) (hts _ (by decide +kernel)) (va_Nw.use (twl_m _ (by decide +kernel)).1 (hT.1 (.castable xE xE) (by decide +kernel))) hce hcv hcl ?_
    refine lv_astore_n (lv' := [(3, .ref q), (0, .ref (ad g a0)), (1, .int x1), (2, .ref (ad g a2))]) hx hb dL_at_12 rfl hl (by decide) rfl (fun ls hl => ?_)
    refine lv_iconst (v := 1) hx hb dL_at_13 (by decide) ?_
    exact hw_iretX E hR hS ⟨_, rfl, hf⟩ dL_at_14
  · obtain ⟨r, rfl, n, hn, hin, hf⟩ := hp
    refine W.eq (g2 := F0 m 7 ls [.int r, .int 0, .ref (ad g a2)]) rfl ?_
    refine lv_i2l hx hb dL_at_7 rfl ?_
    refine hw_last E hR hS hw hn hin dL_at_8 (fun m2 H locs em2 hR hS => ?_)
    refine lv_goto (tgt := 15) hx hb dL_at_9 (by decide) ?_
    refine lv_iconst (v := 0) hx hb dL_at_15 (by decide) ?_
    exact hw_iretX E hR hS ⟨_, rfl, hf m2 em2⟩ dL_at_16
theorem lmL_row : Cond.methodLink RL 15 yX10_row ∈ lwg ∧ Cond.instanceMethod yX10_row ∈ lwg ∧ Cond.selects RX10 yX10_row yX10_row ∈ lwg := by decide +kernel
theorem mcX10_row : MC yX10_row cX10_row 2 (some .long) 1 := by unfold MC; decide +kernel
def f_L_row (S : Ss) (a0 : Nat) (x1 : Int32) (a2 : Nat) (M : Mm) (K : Int32 → Mm → Prop) : Prop :=
  f_X10_row S a0 x1 M (fun (r : Int64) (m1 : Mm) => ∃ n : Nat, S[a2]? = some (53, n) ∧ vp_in (0 : Int32) n ∧ ∀ m2 : Mm, m2 = stJ m1 a2 (0 : Int32).toNatClampNeg r → K 0 m2) (fun m1 => K 1 m1)
set_option maxHeartbeats 4000000 in
set_option maxRecDepth 100000 in
theorem ok_L_row {l : Launch} {g : Gg} {S : Ss} {a0 : Nat} {x1 : Int32} {a2 : Nat} {M : Mm} {K : Int32 → Mm → Prop} (hst : l.stackTraces = false) (hs0 : S[a0]? = some (9, 0)) (hf : f_L_row S a0 x1 a2 M K) : LT l g S yL_row cL_row [(0, 8, 11, 13)] 9 [.ref (ad g a0), .int x1, .ref (ad g a2)] M (pI K) := by
  refine va_MetW (cc := cL_row) (maxL := 4) (ret := some .int) (hh := [(0, 8, 11, 13)]) (by decide +kernel) rfl ?_
  intro p e s m args below meth c s₁ B hml hv
  obtain ⟨rfl, ⟨hR, hK, hZ⟩, hT⟩ := hv
  have hts0 := atoms_spec (ws := Cond.codeWith yL_row cL_row 4 (some .int) [(0, 8, 11, 13)] :: lwg) B.pre
  have hts : ∀ w ∈ lwg, w.before _ s = true := fun w hw => hts0 w (List.mem_cons_of_mem _ hw)
  have htab := vx_table (x := yL_row) B (hts0 _ List.mem_cons_self)
  have E : EN p s m _ meth c cL_row 4 (some .int) RL g := ⟨B.exec, B.bytes, B.returns, hml, findClass_of_methodNamed B.named, hts, hK, B.notSynchronized, hZ⟩
  have hw := ze_w hZ
  have hS : va_S (gA g) s.heap s.heap [] := va_S.rf
  have hl := lv_entry ([.ref (ad g a0), .int x1, .ref (ad g a2)]) (n := 4) (Nat.le_of_ble_eq_true rfl)
  rw [lg_entry_eq]
  generalize (lg_sl ([.ref (ad g a0), .int x1, .ref (ad g a2)]) ++ List.replicate (4 - (lg_sl ([.ref (ad g a0), .int x1, .ref (ad g a2)])).length) Slot.unset).toArray = ls at hl ⊢
  have hl : lv_has ls 4 [(0, .ref (ad g a0)), (1, .int x1), (2, .ref (ad g a2))] := hl
  generalize ([.ref (ad g a0), .int x1, .ref (ad g a2)] : List Value).toArray = args at E hts ⊢
  have hx := E.1
  have hb := E.2.1
  unfold f_L_row at hf
  refine lv_aload_n hx hb dL_row_0 rfl (lv_at hl 2 rfl) ?_
  refine lv_iconst (v := 0) hx hb dL_row_1 (by decide) ?_
  refine lv_aload_n hx hb dL_row_2 rfl (lv_at hl 0 rfl) ?_
  refine lv_iload_n hx hb dL_row_3 rfl (lv_at hl 1 rfl) ?_
  have hbp : (wld g S M)[a0]? = some (ad g a0, .inr (9, (List.range (nfd 9)).map (fun k => fval g M a0 (fk (fty 9 k)) k))) := (wld_get hs0).trans (by rw [cel_obj (by decide)])
  refine hw_callX (rest := [.int 0, .ref (ad g a2)]) hS (vx_runV (As := [.int x1]) (rest := [.int 0, .ref (ad g a2)]) ⟨hx, hb, E.2.2.2.1, E.2.2.2.2.1, hts⟩ (ok_X10_row hst hs0 hf) ⟨callB_of 1 hts (gin_tbl mcX10_row.1) rfl rfl rfl (hts _ mcX10_row.2.1) (hts _ lmL_row.1) mcX10_row.2.2.1 ⟨Nat.le_of_ble_eq_true rfl, Nat.le_of_ble_eq_true rfl⟩, hts _ lmL_row.2.1, hts _ lmL_row.2.2⟩ ⟨rx_blind g S M _, va_recv hK hR.1 cI9.1 hbp, fun U hU hW => ⟨rfl, ru_at hR hS hK hZ hU hW.alike, hT.at hS hU hW⟩⟩ rfl rfl hl.1 rfl (lv_room (Nat.le_of_ble_eq_true rfl)) dL_row_4 ⟨Nat.le_of_ble_eq_true rfl, Nat.le_of_ble_eq_true rfl⟩) (fun ce q M1 H1 locs1 hf hR hS hce hcv hcl => ?_) (fun r M1 H1 locs1 hp hR hS => ?_)
  · refine vx_catch (name := xE) E.2.2.2.2.1 [] ⟨0, 8, 11, 13⟩ [] htab (fun z hz => absurd hz List.not_mem_nil) (by decide) (by decide) (hts _ (by decide +kernel)) (va_Nw.use (twl_m _ (by decide +kernel)).1 (hT.1 (.castable xE xE) (by decide +kernel))) hce hcv hcl ?_
    refine lv_astore_n (lv' := [(3, .ref q), (0, .ref (ad g a0)), (1, .int x1), (2, .ref (ad g a2))]) hx hb dL_row_11 rfl hl (by decide) rfl (fun ls hl => ?_)
    refine lv_iconst (v := 1) hx hb dL_row_12 (by decide) ?_
    exact hw_iretX E hR hS ⟨_, rfl, hf⟩ dL_row_13
  · obtain ⟨r, rfl, n, hn, hin, hf⟩ := hp
    refine W.eq (g2 := F0 m 7 ls [.long r, .int 0, .ref (ad g a2)]) rfl ?_
    refine hw_last E hR hS hw hn hin dL_row_7 (fun m2 H locs em2 hR hS => ?_)
    refine lv_goto (tgt := 14) hx hb dL_row_8 (by decide) ?_
    refine lv_iconst (v := 0) hx hb dL_row_14 (by decide) ?_
    exact hw_iretX E hR hS ⟨_, rfl, hf m2 em2⟩ dL_row_15
