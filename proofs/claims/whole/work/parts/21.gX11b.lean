def f_X11_keys (S : Ss) (a0 : Nat) (x1 : Int32) (M : Mm) (K : Int32 → Mm → Prop) : Prop :=
  ∀ m1 : Mm, m1 = stI M a0 0 (0 : Int32) →
  f_X11_in S  x1.toInt64 (0 : Int64) (4 : Int64) m1 (fun (r3 : Int32) (m2 : Mm) =>
    ((r3 = 0 →
    K (-1 : Int32) m2) ∧
   (¬ r3 = 0 →
    ∀ v5 : Int32, v5 = (m2.1 a0 27) →
    ∀ m6 : Mm, m6 = stI m2 a0 27 x1 →
    K v5 m6)))
set_option maxHeartbeats 4000000 in
set_option maxRecDepth 100000 in
theorem ok_X11_keys {l : Launch} {g : Gg} {S : Ss} {a0 : Nat} {x1 : Int32} {M : Mm} {K : Int32 → Mm → Prop} (hs0 : S[a0]? = some (10, 0)) (hf : f_X11_keys S a0 x1 M K) : MT l g S yX11_keys cX11_keys 3 (some .int) 1 [.ref (ad g a0), .int x1] M (pI K) := by
  refine MT.of (by decide +kernel) (Nat.le_of_ble_eq_true rfl) ?_
  intro p e s m below meth c ls E hw hR hS hl
  have hl : lv_has ls 3 [(0, .ref (ad g a0)), (1, .int x1)] := hl
  generalize ([.ref (ad g a0), .int x1] : List Value).toArray = args at E ⊢
  have E : EN p s m args meth c cX11_keys 3 (some .int) RX11 g := E
  have hx := E.1
  have hb := E.2.1
  unfold f_X11_keys at hf
  refine lv_aload_n hx hb dX11_keys_0 rfl (lv_at hl 0 rfl) ?_
  refine lv_iconst (v := 0) hx hb dX11_keys_1 (by decide) ?_
  refine hw_putI E hR hS hw cI10 hs0 0 (by decide) lfX11_3 rfl (Or.inl rfl) dX11_keys_2 (fun m1 H locs em1 hR hS => ?_)
  replace hf := hf m1 em1
  refine lv_iload_n hx hb dX11_keys_5 rfl (lv_at hl 1 rfl) ?_
  refine lv_i2l hx hb dX11_keys_6 rfl ?_
  refine lv_lconst (v := 0) hx hb dX11_keys_7 (by decide) ?_
  refine lv_ldc2 (v := 4) hx hb E.2.2.2.2.1 (E.2.2.2.2.2.1 _ ljX11_237) dX11_keys_8 ?_
  refine hw_callS (d := 1) E hR hS (As := [.long x1.toInt64, .long (0 : Int64), .long (4 : Int64)]) (rest := []) mcX11_in msX11_in lmX11_21 (ok_X11_in  hf) rfl rfl (by decide) hl.1 (Nat.le_of_ble_eq_true rfl) dX11_keys_11 (fun rr m2 H locs hp hR hS => ?_)
  obtain ⟨r3, rfl, hf⟩ := hp
  refine W.eq (g2 := F0 m 14 ls [.int r3]) rfl ?_
  refine lv_if_ne (tgt := 19) hx hb dX11_keys_14 (by decide) (fun c4 => ?_) (fun c4 => ?_)
  · replace hf := hf.2 c4
    refine lv_aload_n hx hb dX11_keys_19 rfl (lv_at hl 0 rfl) ?_
    refine hw_getI E hR cI10 hs0 27 (by decide) lfX11_239 rfl dX11_keys_20 ?_
    refine lv_topi (fun v5 ev5 => ?_)
    replace hf := hf v5 ev5
    refine lv_istore_n (lv' := [(2, .int v5), (0, .ref (ad g a0)), (1, .int x1)]) hx hb dX11_keys_23 rfl hl (by decide) rfl (fun ls hl => ?_)
    refine lv_aload_n hx hb dX11_keys_24 rfl (lv_at hl 1 rfl) ?_
    refine lv_iload_n hx hb dX11_keys_25 rfl (lv_at hl 2 rfl) ?_
    refine hw_putI E hR hS hw cI10 hs0 27 (by decide) lfX11_239 rfl (Or.inl rfl) dX11_keys_26 (fun m6 H locs em6 hR hS => ?_)
    replace hf := hf m6 em6
    refine lv_iload_n hx hb dX11_keys_29 rfl (lv_at hl 0 rfl) ?_
    exact hw_iret E hR hS ⟨_, rfl, hf⟩ dX11_keys_30
  · replace hf := hf.1 c4
    refine lv_iconst (v := -1) hx hb dX11_keys_17 (by decide) ?_
    exact hw_iret E hR hS ⟨_, rfl, hf⟩ dX11_keys_18
def f_X11_byHand (S : Ss) (a0 : Nat) (x1 : Int32) (x2 : Int32) (M : Mm) (K : Int32 → Mm → Prop) : Prop :=
  ∀ m1 : Mm, m1 = stI M a0 33 (0 : Int32) →
  f_X11_does S a0 x1 x2 m1 (fun (m2 : Mm) =>
    ∀ m3 : Mm, m3 = stI m2 a0 32 ((m2.1 a0 32) + (1 : Int32)) →
  (((m3.1 a0 28) = (1 : Int32) →
    K (1 : Int32) m3) ∧
   (¬ (m3.1 a0 28) = (1 : Int32) →
    (((m3.1 a0 29) = (1 : Int32) →
      K (2 : Int32) m3) ∧
     (¬ (m3.1 a0 29) = (1 : Int32) →
      (((m3.1 a0 30) ≤ 0 →
        K (0 : Int32) m3) ∧
       (¬ (m3.1 a0 30) ≤ 0 →
        K ((m3.1 a0 30) + (2 : Int32)) m3)))))))
set_option maxHeartbeats 4000000 in
set_option maxRecDepth 100000 in
theorem ok_X11_byHand {l : Launch} {g : Gg} {S : Ss} {a0 : Nat} {x1 : Int32} {x2 : Int32} {M : Mm} {K : Int32 → Mm → Prop} (hs0 : S[a0]? = some (10, 0)) (hf : f_X11_byHand S a0 x1 x2 M K) : MT l g S yX11_byHand cX11_byHand 3 (some .int) 5 [.ref (ad g a0), .int x1, .int x2] M (pI K) := by
  refine MT.of (by decide +kernel) (Nat.le_of_ble_eq_true rfl) ?_
  intro p e s m below meth c ls E hw hR hS hl
  have hl : lv_has ls 3 [(0, .ref (ad g a0)), (1, .int x1), (2, .int x2)] := hl
  generalize ([.ref (ad g a0), .int x1, .int x2] : List Value).toArray = args at E ⊢
  have E : EN p s m args meth c cX11_byHand 3 (some .int) RX11 g := E
  have hx := E.1
  have hb := E.2.1
  unfold f_X11_byHand at hf
  refine lv_aload_n hx hb dX11_byHand_0 rfl (lv_at hl 0 rfl) ?_
  refine lv_iconst (v := 0) hx hb dX11_byHand_1 (by decide) ?_
  refine hw_putI E hR hS hw cI10 hs0 33 (by decide) lfX11_201 rfl (Or.inl rfl) dX11_byHand_2 (fun m1 H locs em1 hR hS => ?_)
  replace hf := hf m1 em1
  refine lv_aload_n hx hb dX11_byHand_5 rfl (lv_at hl 0 rfl) ?_
  refine lv_iload_n hx hb dX11_byHand_6 rfl (lv_at hl 1 rfl) ?_
  refine lv_iload_n hx hb dX11_byHand_7 rfl (lv_at hl 2 rfl) ?_
  refine hw_callV (d := 5) E hR hS (As := [.int x1, .int x2]) (rest := []) cI10 hs0 rfl mcX11_does miX11_does lmX11_242 (ok_X11_does hs0 hf) rfl rfl (by decide) hl.1 (Nat.le_of_ble_eq_true rfl) dX11_byHand_8 (fun rr m2 H locs hp hR hS => ?_)
  obtain ⟨rfl, hf⟩ := hp
  refine W.eq (g2 := F0 m 11 ls []) rfl ?_
  refine lv_aload_n hx hb dX11_byHand_11 rfl (lv_at hl 0 rfl) ?_
  refine lv_dup hx hb dX11_byHand_12 rfl ?_
  refine hw_getI E hR cI10 hs0 32 (by decide) lfX11_245 rfl dX11_byHand_13 ?_
  refine lv_iconst (v := 1) hx hb dX11_byHand_16 (by decide) ?_
  refine lv_iadd hx hb dX11_byHand_17 ?_
  refine hw_putI E hR hS hw cI10 hs0 32 (by decide) lfX11_245 rfl (Or.inl rfl) dX11_byHand_18 (fun m3 H locs em3 hR hS => ?_)
  replace hf := hf m3 em3
  refine lv_aload_n hx hb dX11_byHand_21 rfl (lv_at hl 0 rfl) ?_
  refine hw_getI E hR cI10 hs0 28 (by decide) lfX11_173 rfl dX11_byHand_22 ?_
  refine lv_iconst (v := 1) hx hb dX11_byHand_25 (by decide) ?_
  refine lv_icmp_ne (tgt := 33) hx hb dX11_byHand_26 (by decide) (fun c4 => ?_) (fun c4 => ?_)
  · replace hf := hf.2 c4
    refine lv_aload_n hx hb dX11_byHand_33 rfl (lv_at hl 0 rfl) ?_
    refine hw_getI E hR cI10 hs0 29 (by decide) lfX11_176 rfl dX11_byHand_34 ?_
    refine lv_iconst (v := 1) hx hb dX11_byHand_37 (by decide) ?_
    refine lv_icmp_ne (tgt := 45) hx hb dX11_byHand_38 (by decide) (fun c5 => ?_) (fun c5 => ?_)
    · replace hf := hf.2 c5
      refine lv_aload_n hx hb dX11_byHand_45 rfl (lv_at hl 0 rfl) ?_
      refine hw_getI E hR cI10 hs0 30 (by decide) lfX11_179 rfl dX11_byHand_46 ?_
      refine lv_if_le (tgt := 61) hx hb dX11_byHand_49 (by decide) (fun c6 => ?_) (fun c6 => ?_)
      · replace hf := hf.1 c6
        refine lv_iconst (v := 0) hx hb dX11_byHand_61 (by decide) ?_
        exact hw_iret E hR hS ⟨_, rfl, hf⟩ dX11_byHand_62
      · replace hf := hf.2 c6
        refine lv_aload_n hx hb dX11_byHand_52 rfl (lv_at hl 0 rfl) ?_
        refine hw_getI E hR cI10 hs0 30 (by decide) lfX11_179 rfl dX11_byHand_53 ?_
        refine lv_iconst (v := 2) hx hb dX11_byHand_56 (by decide) ?_
        refine lv_iadd hx hb dX11_byHand_57 ?_
        refine lv_goto (tgt := 62) hx hb dX11_byHand_58 (by decide) ?_
        exact hw_iret E hR hS ⟨_, rfl, hf⟩ dX11_byHand_62
    · replace hf := hf.1 c5
      refine lv_iconst (v := 2) hx hb dX11_byHand_41 (by decide) ?_
      refine lv_goto (tgt := 62) hx hb dX11_byHand_42 (by decide) ?_
      exact hw_iret E hR hS ⟨_, rfl, hf⟩ dX11_byHand_62
  · replace hf := hf.1 c4
    refine lv_iconst (v := 1) hx hb dX11_byHand_29 (by decide) ?_
    refine lv_goto (tgt := 62) hx hb dX11_byHand_30 (by decide) ?_
    exact hw_iret E hR hS ⟨_, rfl, hf⟩ dX11_byHand_62
def f_X11_step (S : Ss) (a0 : Nat) (x1 : Int32) (x2 : Int32) (M : Mm) (K : Int32 → Mm → Prop) : Prop :=
  ∀ m1 : Mm, m1 = stI M a0 0 (0 : Int32) →
  f_X11_in S  x1.toInt64 (0 : Int64) ((m1.1 a0 15) - (1 : Int32)).toInt64 m1 (fun (r3 : Int32) (m2 : Mm) =>
    ((r3 = 0 →
    K (-1 : Int32) m2) ∧
   (¬ r3 = 0 →
    f_X11_in S  x2.toInt64 (0 : Int64) (m2.1 a0 27).toInt64 m2 (fun (r6 : Int32) (m5 : Mm) =>
      ((r6 = 0 →
      K (-1 : Int32) m5) ∧
     (¬ r6 = 0 →
      f_X11_byHand S a0 x1 x2 m5 (fun (r9 : Int32) (m8 : Mm) =>
        K r9 m8)))))))
set_option maxHeartbeats 4000000 in
set_option maxRecDepth 100000 in
theorem ok_X11_step {l : Launch} {g : Gg} {S : Ss} {a0 : Nat} {x1 : Int32} {x2 : Int32} {M : Mm} {K : Int32 → Mm → Prop} (hs0 : S[a0]? = some (10, 0)) (hf : f_X11_step S a0 x1 x2 M K) : MT l g S yX11_step cX11_step 3 (some .int) 6 [.ref (ad g a0), .int x1, .int x2] M (pI K) := by
  refine MT.of (by decide +kernel) (Nat.le_of_ble_eq_true rfl) ?_
  intro p e s m below meth c ls E hw hR hS hl
  have hl : lv_has ls 3 [(0, .ref (ad g a0)), (1, .int x1), (2, .int x2)] := hl
  generalize ([.ref (ad g a0), .int x1, .int x2] : List Value).toArray = args at E ⊢
  have E : EN p s m args meth c cX11_step 3 (some .int) RX11 g := E
  have hx := E.1
  have hb := E.2.1
  unfold f_X11_step at hf
  refine lv_aload_n hx hb dX11_step_0 rfl (lv_at hl 0 rfl) ?_
  refine lv_iconst (v := 0) hx hb dX11_step_1 (by decide) ?_
  refine hw_putI E hR hS hw cI10 hs0 0 (by decide) lfX11_3 rfl (Or.inl rfl) dX11_step_2 (fun m1 H locs em1 hR hS => ?_)
  replace hf := hf m1 em1
  refine lv_iload_n hx hb dX11_step_5 rfl (lv_at hl 1 rfl) ?_
  refine lv_i2l hx hb dX11_step_6 rfl ?_
  refine lv_lconst (v := 0) hx hb dX11_step_7 (by decide) ?_
  refine lv_aload_n hx hb dX11_step_8 rfl (lv_at hl 0 rfl) ?_
  refine hw_getI E hR cI10 hs0 15 (by decide) lfX11_121 rfl dX11_step_9 ?_
  refine lv_iconst (v := 1) hx hb dX11_step_12 (by decide) ?_
  refine lv_isub hx hb dX11_step_13 ?_
  refine lv_i2l hx hb dX11_step_14 rfl ?_
  refine hw_callS (d := 6) E hR hS (As := [.long x1.toInt64, .long (0 : Int64), .long ((m1.1 a0 15) - (1 : Int32)).toInt64]) (rest := []) mcX11_in msX11_in lmX11_21 (ok_X11_in  hf) rfl rfl (by decide) hl.1 (Nat.le_of_ble_eq_true rfl) dX11_step_15 (fun rr m2 H locs hp hR hS => ?_)
  obtain ⟨r3, rfl, hf⟩ := hp
  refine W.eq (g2 := F0 m 18 ls [.int r3]) rfl ?_
  refine lv_if_eq (tgt := 44) hx hb dX11_step_18 (by decide) (fun c4 => ?_) (fun c4 => ?_)
  · replace hf := hf.1 c4
    refine lv_iconst (v := -1) hx hb dX11_step_44 (by decide) ?_
    exact hw_iret E hR hS ⟨_, rfl, hf⟩ dX11_step_45
  · replace hf := hf.2 c4
    refine lv_iload_n hx hb dX11_step_21 rfl (lv_at hl 2 rfl) ?_
    refine lv_i2l hx hb dX11_step_22 rfl ?_
    refine lv_lconst (v := 0) hx hb dX11_step_23 (by decide) ?_
    refine lv_aload_n hx hb dX11_step_24 rfl (lv_at hl 0 rfl) ?_
    refine hw_getI E hR cI10 hs0 27 (by decide) lfX11_239 rfl dX11_step_25 ?_
    refine lv_i2l hx hb dX11_step_28 rfl ?_
    refine hw_callS (d := 6) E hR hS (As := [.long x2.toInt64, .long (0 : Int64), .long (m2.1 a0 27).toInt64]) (rest := []) mcX11_in msX11_in lmX11_21 (ok_X11_in  hf) rfl rfl (by decide) hl.1 (Nat.le_of_ble_eq_true rfl) dX11_step_29 (fun rr m5 H locs hp hR hS => ?_)
    obtain ⟨r6, rfl, hf⟩ := hp
    refine W.eq (g2 := F0 m 32 ls [.int r6]) rfl ?_
    refine lv_if_eq (tgt := 44) hx hb dX11_step_32 (by decide) (fun c7 => ?_) (fun c7 => ?_)
    · replace hf := hf.1 c7
      refine lv_iconst (v := -1) hx hb dX11_step_44 (by decide) ?_
      exact hw_iret E hR hS ⟨_, rfl, hf⟩ dX11_step_45
    · replace hf := hf.2 c7
      refine lv_aload_n hx hb dX11_step_35 rfl (lv_at hl 0 rfl) ?_
      refine lv_iload_n hx hb dX11_step_36 rfl (lv_at hl 1 rfl) ?_
      refine lv_iload_n hx hb dX11_step_37 rfl (lv_at hl 2 rfl) ?_
      refine hw_callV (d := 6) E hR hS (As := [.int x1, .int x2]) (rest := []) cI10 hs0 rfl mcX11_byHand miX11_byHand lmX11_248 (ok_X11_byHand hs0 hf) rfl rfl (by decide) hl.1 (Nat.le_of_ble_eq_true rfl) dX11_step_38 (fun rr m8 H locs hp hR hS => ?_)
      obtain ⟨r9, rfl, hf⟩ := hp
      refine W.eq (g2 := F0 m 41 ls [.int r9]) rfl ?_
      refine lv_goto (tgt := 45) hx hb dX11_step_41 (by decide) ?_
      exact hw_iret E hR hS ⟨_, rfl, hf⟩ dX11_step_45
def f_X11_width (S : Ss) (a0 : Nat) (M : Mm) (K : Int32 → Mm → Prop) : Prop :=
  K ((M.1 a0 15) * ((M.1 a0 27) + (1 : Int32))) M
set_option maxHeartbeats 4000000 in
set_option maxRecDepth 100000 in
theorem ok_X11_width {l : Launch} {g : Gg} {S : Ss} {a0 : Nat} {M : Mm} {K : Int32 → Mm → Prop} (hs0 : S[a0]? = some (10, 0)) (hf : f_X11_width S a0 M K) : MT l g S yX11_width cX11_width 1 (some .int) 0 [.ref (ad g a0)] M (pI K) := by
  refine MT.of (by decide +kernel) (Nat.le_of_ble_eq_true rfl) ?_
  intro p e s m below meth c ls E hw hR hS hl
  have hl : lv_has ls 1 [(0, .ref (ad g a0))] := hl
  generalize ([.ref (ad g a0)] : List Value).toArray = args at E ⊢
  have E : EN p s m args meth c cX11_width 1 (some .int) RX11 g := E
  have hx := E.1
  have hb := E.2.1
  unfold f_X11_width at hf
  refine lv_aload_n hx hb dX11_width_0 rfl (lv_at hl 0 rfl) ?_
  refine hw_getI E hR cI10 hs0 15 (by decide) lfX11_121 rfl dX11_width_1 ?_
  refine lv_aload_n hx hb dX11_width_4 rfl (lv_at hl 0 rfl) ?_
  refine hw_getI E hR cI10 hs0 27 (by decide) lfX11_239 rfl dX11_width_5 ?_
  refine lv_iconst (v := 1) hx hb dX11_width_8 (by decide) ?_
  refine lv_iadd hx hb dX11_width_9 ?_
  refine lv_imul hx hb dX11_width_10 ?_
  exact hw_iret E hR hS ⟨_, rfl, hf⟩ dX11_width_11
def f_X11_steps_J34 (S : Ss) (x1 : Int32) (M : Mm) (K : Int32 → Mm → Prop) : Prop :=
  ((x1 = (3 : Int32) →
    K (-3 : Int32) M) ∧
   (¬ x1 = (3 : Int32) →
    K (-2 : Int32) M))
set_option maxHeartbeats 4000000 in
set_option maxRecDepth 100000 in
theorem w_X11_steps_J34 {p : Program} {l : Launch} {e : Env} {s : State} {m : MethodId} {args : Array Value} {below : List Frame} {meth : Method} {c : Code} {g : Gg} {S : Ss} (x1 : Int32) (M : Mm) (K : Int32 → Mm → Prop) (E : EN p s m args meth c cX11_steps 8 (some .int) RX11 g) (hw : ad g 100000 < s.heap.size) (hf : f_X11_steps_J34 S x1 M K) (H : Heap) (locs : List Loc) (ls : Array Slot) (hR : RP g S M H) (hS : va_S (gA g) s.heap H locs) (hl : lv_has ls 8 [(1, .int x1)]) : W p l e (rmD 6) s m args below meth c H locs 0 0 (MQ below (QA g S (pI K)) args s 0 0 (gA g)) (F0 m 34 ls []) := by
  have hx := E.1
  have hb := E.2.1
  unfold f_X11_steps_J34 at hf
  refine lv_iload_n hx hb dX11_steps_34 rfl (lv_at hl 0 rfl) ?_
  refine lv_iconst (v := 3) hx hb dX11_steps_35 (by decide) ?_
  refine lv_icmp_ne (tgt := 44) hx hb dX11_steps_36 (by decide) (fun c7 => ?_) (fun c7 => ?_)
  · replace hf := hf.2 c7
    refine lv_bipush (v := -2) hx hb dX11_steps_44 (by decide) ?_
    exact hw_iret E hR hS ⟨_, rfl, hf⟩ dX11_steps_46
  · replace hf := hf.1 c7
    refine lv_bipush (v := -3) hx hb dX11_steps_39 (by decide) ?_
    refine lv_goto (tgt := 46) hx hb dX11_steps_41 (by decide) ?_
    exact hw_iret E hR hS ⟨_, rfl, hf⟩ dX11_steps_46
def f_X11_steps_J82 (S : Ss) (a0 : Nat) (x1 : Int32) (x2 : Int32) (x4 : Int32) (x5 : Int32) (x6 : Int32) (t0 : Int32) (M : Mm) (BK53 : Int32 → Int32 → Mm → Prop) (K : Int32 → Mm → Prop) : Prop :=
  f_X11_width S a0  M (fun (r13 : Int32) (m12 : Mm) =>
    f_X11_in S  t0.toInt64 (0 : Int64) (r13 - (1 : Int32)).toInt64 m12 (fun (r15 : Int32) (m14 : Mm) =>
    ((r15 = 0 →
    K x6 m14) ∧
   (¬ r15 = 0 →
    ¬ ((m14.1 a0 27) + (1 : Int32)) = 0 ∧
    ¬ ((m14.1 a0 27) + (1 : Int32)) = 0 ∧
    f_X11_byHand S a0 (t0 / ((m14.1 a0 27) + (1 : Int32))) (t0 - t0 / ((m14.1 a0 27) + (1 : Int32)) * ((m14.1 a0 27) + (1 : Int32))) m14 (fun (r20 : Int32) (m19 : Mm) =>
      ∀ v21 : Int32, v21 = (x5 + x4) →
    ∀ v22 : Int32, v22 = x6 + (1 : Int32) →
    BK53 v21 v22 m19)))))
set_option maxHeartbeats 4000000 in
set_option maxRecDepth 100000 in
theorem w_X11_steps_J82 {p : Program} {l : Launch} {e : Env} {s : State} {m : MethodId} {args : Array Value} {below : List Frame} {meth : Method} {c : Code} {g : Gg} {S : Ss} (a0 : Nat) (x1 : Int32) (x2 : Int32) (x4 : Int32) (x5 : Int32) (x6 : Int32) (t0 : Int32) (M : Mm) (BK53 : Int32 → Int32 → Mm → Prop) (K : Int32 → Mm → Prop) (E : EN p s m args meth c cX11_steps 8 (some .int) RX11 g) (hw : ad g 100000 < s.heap.size) (hs0 : S[a0]? = some (10, 0)) (hBK53 : ∀ (x5' : Int32) (x6' : Int32) (M' : Mm) (H : Heap) (locs : List Loc) (ls : Array Slot), BK53 x5' x6' M' → RP g S M' H → va_S (gA g) s.heap H locs → lv_has ls 8 [(0, .ref (ad g a0)), (1, .int x1), (2, .int x2), (4, .int x4), (5, .int x5'), (6, .int x6')] → W p l e (rmD 6) s m args below meth c H locs 0 0 (MQ below (QA g S (pI K)) args s 0 0 (gA g)) (F0 m 53 ls [])) (hf : f_X11_steps_J82 S a0 x1 x2 x4 x5 x6 t0 M BK53 K) (H : Heap) (locs : List Loc) (ls : Array Slot) (hR : RP g S M H) (hS : va_S (gA g) s.heap H locs) (hl : lv_has ls 8 [(0, .ref (ad g a0)), (1, .int x1), (2, .int x2), (4, .int x4), (5, .int x5), (6, .int x6)]) : W p l e (rmD 6) s m args below meth c H locs 0 0 (MQ below (QA g S (pI K)) args s 0 0 (gA g)) (F0 m 82 ls [.int t0]) := by
  have hx := E.1
  have hb := E.2.1
  unfold f_X11_steps_J82 at hf
  refine lv_istore (lv' := [(7, .int t0), (0, .ref (ad g a0)), (1, .int x1), (2, .int x2), (4, .int x4), (5, .int x5), (6, .int x6)]) hx hb dX11_steps_82 hl (by decide) rfl (fun ls hl => ?_)
  refine lv_iload hx hb dX11_steps_84 (lv_at hl 0 rfl) ?_
  refine lv_i2l hx hb dX11_steps_86 rfl ?_
  refine lv_lconst (v := 0) hx hb dX11_steps_87 (by decide) ?_
  refine lv_aload_n hx hb dX11_steps_88 rfl (lv_at hl 1 rfl) ?_
  refine hw_callV (d := 6) E hR hS (As := []) (rest := [.long (0 : Int64), .long t0.toInt64]) cI10 hs0 rfl mcX11_width miX11_width lmX11_251 (ok_X11_width hs0 hf) rfl rfl (by decide) hl.1 (Nat.le_of_ble_eq_true rfl) dX11_steps_89 (fun rr m12 H locs hp hR hS => ?_)
  obtain ⟨r13, rfl, hf⟩ := hp
  refine W.eq (g2 := F0 m 92 ls [.int r13, .long (0 : Int64), .long t0.toInt64]) rfl ?_
  refine lv_iconst (v := 1) hx hb dX11_steps_92 (by decide) ?_
  refine lv_isub hx hb dX11_steps_93 ?_
  refine lv_i2l hx hb dX11_steps_94 rfl ?_
  refine hw_callS (d := 6) E hR hS (As := [.long t0.toInt64, .long (0 : Int64), .long (r13 - (1 : Int32)).toInt64]) (rest := []) mcX11_in msX11_in lmX11_21 (ok_X11_in  hf) rfl rfl (by decide) hl.1 (Nat.le_of_ble_eq_true rfl) dX11_steps_95 (fun rr m14 H locs hp hR hS => ?_)
  obtain ⟨r15, rfl, hf⟩ := hp
  refine W.eq (g2 := F0 m 98 ls [.int r15]) rfl ?_
  refine lv_if_ne (tgt := 104) hx hb dX11_steps_98 (by decide) (fun c16 => ?_) (fun c16 => ?_)
  · replace hf := hf.2 c16
    refine lv_aload_n hx hb dX11_steps_104 rfl (lv_at hl 1 rfl) ?_
    refine lv_iload hx hb dX11_steps_105 (lv_at hl 0 rfl) ?_
    refine lv_aload_n hx hb dX11_steps_107 rfl (lv_at hl 1 rfl) ?_
    refine hw_getI E hR cI10 hs0 27 (by decide) lfX11_239 rfl dX11_steps_108 ?_
    refine lv_iconst (v := 1) hx hb dX11_steps_111 (by decide) ?_
    refine lv_iadd hx hb dX11_steps_112 ?_
    obtain ⟨h17, hf⟩ := hf
    refine lv_idiv hx hb dX11_steps_113 h17 ?_
    refine lv_iload hx hb dX11_steps_114 (lv_at hl 0 rfl) ?_
    refine lv_aload_n hx hb dX11_steps_116 rfl (lv_at hl 1 rfl) ?_
    refine hw_getI E hR cI10 hs0 27 (by decide) lfX11_239 rfl dX11_steps_117 ?_
    refine lv_iconst (v := 1) hx hb dX11_steps_120 (by decide) ?_
    refine lv_iadd hx hb dX11_steps_121 ?_
    obtain ⟨h18, hf⟩ := hf
    refine lv_irem hx hb dX11_steps_122 h18 ?_
    refine hw_callV (d := 6) E hR hS (As := [.int (t0 / ((m14.1 a0 27) + (1 : Int32))), .int (t0 - t0 / ((m14.1 a0 27) + (1 : Int32)) * ((m14.1 a0 27) + (1 : Int32)))]) (rest := []) cI10 hs0 rfl mcX11_byHand miX11_byHand lmX11_248 (ok_X11_byHand hs0 hf) rfl rfl (by decide) hl.1 (Nat.le_of_ble_eq_true rfl) dX11_steps_123 (fun rr m19 H locs hp hR hS => ?_)
    obtain ⟨r20, rfl, hf⟩ := hp
    refine W.eq (g2 := F0 m 126 ls [.int r20]) rfl ?_
    refine lv_pop hx hb dX11_steps_126 rfl ?_
    refine lv_iload hx hb dX11_steps_127 (lv_at hl 5 rfl) ?_
    refine lv_iload hx hb dX11_steps_129 (lv_at hl 4 rfl) ?_
    refine lv_iadd hx hb dX11_steps_131 ?_
    refine lv_topi (fun v21 ev21 => ?_)
    replace hf := hf v21 ev21
    refine lv_istore (lv' := [(5, .int v21), (7, .int t0), (0, .ref (ad g a0)), (1, .int x1), (2, .int x2), (4, .int x4), (6, .int x6)]) hx hb dX11_steps_132 hl (by decide) rfl (fun ls hl => ?_)
    obtain ⟨v22, ev22⟩ : ∃ y : Int32, y = x6 + (1 : Int32) := ⟨_, rfl⟩
    replace hf := hf v22 ev22
    refine lv_iinc (v := v22) (lv' := [(6, .int v22), (5, .int v21), (7, .int t0), (0, .ref (ad g a0)), (1, .int x1), (2, .int x2), (4, .int x4)]) hx hb dX11_steps_134 hl (k := 6) rfl (by rw [ev22]; rfl) (by decide) rfl (fun ls hl => ?_)
    refine lv_goto (tgt := 53) hx hb dX11_steps_137 (by decide) ?_
    exact hBK53 _ _ _ _ _ _ hf hR hS (lv_sub hl [3, 4, 5, 6, 1, 0] rfl)
  · replace hf := hf.1 c16
    refine lv_iload hx hb dX11_steps_101 (lv_at hl 6 rfl) ?_
    exact hw_iret E hR hS ⟨_, rfl, hf⟩ dX11_steps_103
def f_X11_steps_B53 (S : Ss) (a0 : Nat) (x1 : Int32) (x2 : Int32) (x4 : Int32) (x5 : Int32) (x6 : Int32) (M : Mm) (BK53 : Int32 → Int32 → Mm → Prop) (EK53 : Mm → Prop) (K : Int32 → Mm → Prop) : Prop :=
  ((x2 ≤ x6 →
    EK53 M) ∧
   (¬ x2 ≤ x6 →
    ((x1 = 0 →
      f_X11_steps_J82 S a0 x1 x2 x4 x5 x6 x5.toInt8.toInt32 M BK53 K) ∧
     (¬ x1 = 0 →
      ((x1 = (1 : Int32) →
        f_X11_steps_J82 S a0 x1 x2 x4 x5 x6 x5.toInt16.toInt32 M BK53 K) ∧
       (¬ x1 = (1 : Int32) →
        f_X11_steps_J82 S a0 x1 x2 x4 x5 x6 x5 M BK53 K))))))
set_option maxHeartbeats 4000000 in
set_option maxRecDepth 100000 in
theorem w_X11_steps_B53 {p : Program} {l : Launch} {e : Env} {s : State} {m : MethodId} {args : Array Value} {below : List Frame} {meth : Method} {c : Code} {g : Gg} {S : Ss} (a0 : Nat) (x1 : Int32) (x2 : Int32) (x4 : Int32) (x5 : Int32) (x6 : Int32) (M : Mm) (BK53 : Int32 → Int32 → Mm → Prop) (EK53 : Mm → Prop) (K : Int32 → Mm → Prop) (E : EN p s m args meth c cX11_steps 8 (some .int) RX11 g) (hw : ad g 100000 < s.heap.size) (hs0 : S[a0]? = some (10, 0)) (hBK53 : ∀ (x5' : Int32) (x6' : Int32) (M' : Mm) (H : Heap) (locs : List Loc) (ls : Array Slot), BK53 x5' x6' M' → RP g S M' H → va_S (gA g) s.heap H locs → lv_has ls 8 [(0, .ref (ad g a0)), (1, .int x1), (2, .int x2), (4, .int x4), (5, .int x5'), (6, .int x6')] → W p l e (rmD 6) s m args below meth c H locs 0 0 (MQ below (QA g S (pI K)) args s 0 0 (gA g)) (F0 m 53 ls [])) (hEK53 : ∀ (M' : Mm) (H : Heap) (locs : List Loc) (ls : Array Slot), EK53 M' → RP g S M' H → va_S (gA g) s.heap H locs → lv_has ls 8 [(2, .int x2)] → W p l e (rmD 6) s m args below meth c H locs 0 0 (MQ below (QA g S (pI K)) args s 0 0 (gA g)) (F0 m 140 ls [])) (hf : f_X11_steps_B53 S a0 x1 x2 x4 x5 x6 M BK53 EK53 K) (H : Heap) (locs : List Loc) (ls : Array Slot) (hR : RP g S M H) (hS : va_S (gA g) s.heap H locs) (hl : lv_has ls 8 [(0, .ref (ad g a0)), (1, .int x1), (2, .int x2), (4, .int x4), (5, .int x5), (6, .int x6)]) : W p l e (rmD 6) s m args below meth c H locs 0 0 (MQ below (QA g S (pI K)) args s 0 0 (gA g)) (F0 m 53 ls []) := by
  have hx := E.1
  have hb := E.2.1
  unfold f_X11_steps_B53 at hf
  refine lv_iload hx hb dX11_steps_53 (lv_at hl 5 rfl) ?_
  refine lv_iload_n hx hb dX11_steps_55 rfl (lv_at hl 2 rfl) ?_
  refine lv_icmp_ge (tgt := 140) hx hb dX11_steps_56 (by decide) (fun c9 => ?_) (fun c9 => ?_)
  · replace hf := hf.1 c9
    exact hEK53  _ _ _ _ hf hR hS (lv_sub hl [2] rfl)
  · replace hf := hf.2 c9
    refine lv_iload_n hx hb dX11_steps_59 rfl (lv_at hl 1 rfl) ?_
    refine lv_if_ne (tgt := 69) hx hb dX11_steps_60 (by decide) (fun c10 => ?_) (fun c10 => ?_)
    · replace hf := hf.2 c10
      refine lv_iload_n hx hb dX11_steps_69 rfl (lv_at hl 1 rfl) ?_
      refine lv_iconst (v := 1) hx hb dX11_steps_70 (by decide) ?_
      refine lv_icmp_ne (tgt := 80) hx hb dX11_steps_71 (by decide) (fun c11 => ?_) (fun c11 => ?_)
      · replace hf := hf.2 c11
        refine lv_iload hx hb dX11_steps_80 (lv_at hl 4 rfl) ?_
        exact w_X11_steps_J82 _ _ _ _ _ _ _ _ _ _ E hw hs0 hBK53 hf _ _ _ hR hS (lv_sub hl [0, 1, 2, 3, 4, 5] rfl)
      · replace hf := hf.1 c11
        refine lv_iload hx hb dX11_steps_74 (lv_at hl 4 rfl) ?_
        refine lv_i2s hx hb dX11_steps_76 rfl ?_
        refine lv_goto (tgt := 82) hx hb dX11_steps_77 (by decide) ?_
        exact w_X11_steps_J82 _ _ _ _ _ _ _ _ _ _ E hw hs0 hBK53 hf _ _ _ hR hS (lv_sub hl [0, 1, 2, 3, 4, 5] rfl)
    · replace hf := hf.1 c10
      refine lv_iload hx hb dX11_steps_63 (lv_at hl 4 rfl) ?_
      refine lv_i2b hx hb dX11_steps_65 rfl ?_
      refine lv_goto (tgt := 82) hx hb dX11_steps_66 (by decide) ?_
      exact w_X11_steps_J82 _ _ _ _ _ _ _ _ _ _ E hw hs0 hBK53 hf _ _ _ hR hS (lv_sub hl [0, 1, 2, 3, 4, 5] rfl)
def f_X11_steps_L53 (S : Ss) (a0 : Nat) (x1 : Int32) (x2 : Int32) (x4 : Int32) (EK53 : Mm → Prop) (K : Int32 → Mm → Prop) : Nat → Int32 → Int32 → Mm → Prop
  | 0, _, _, _ => False
  | n + 1, x5, x6, M => f_X11_steps_B53 S a0 x1 x2 x4 x5 x6 M (fun (x5 : Int32) (x6 : Int32) (M : Mm) => f_X11_steps_L53 S a0 x1 x2 x4 EK53 K n x5 x6 M) EK53 K
set_option maxHeartbeats 4000000 in
set_option maxRecDepth 100000 in
theorem w_X11_steps_L53 {p : Program} {l : Launch} {e : Env} {s : State} {m : MethodId} {args : Array Value} {below : List Frame} {meth : Method} {c : Code} {g : Gg} {S : Ss} (a0 : Nat) (x1 : Int32) (x2 : Int32) (x4 : Int32) (EK53 : Mm → Prop) (K : Int32 → Mm → Prop) (E : EN p s m args meth c cX11_steps 8 (some .int) RX11 g) (hw : ad g 100000 < s.heap.size) (hs0 : S[a0]? = some (10, 0)) (hEK53 : ∀ (M' : Mm) (H : Heap) (locs : List Loc) (ls : Array Slot), EK53 M' → RP g S M' H → va_S (gA g) s.heap H locs → lv_has ls 8 [(2, .int x2)] → W p l e (rmD 6) s m args below meth c H locs 0 0 (MQ below (QA g S (pI K)) args s 0 0 (gA g)) (F0 m 140 ls [])) : ∀ (n : Nat) (x5 : Int32) (x6 : Int32) (M : Mm), f_X11_steps_L53 S a0 x1 x2 x4 EK53 K n x5 x6 M → ∀ (H : Heap) (locs : List Loc) (ls : Array Slot), RP g S M H → va_S (gA g) s.heap H locs → lv_has ls 8 [(0, .ref (ad g a0)), (1, .int x1), (2, .int x2), (4, .int x4), (5, .int x5), (6, .int x6)] → W p l e (rmD 6) s m args below meth c H locs 0 0 (MQ below (QA g S (pI K)) args s 0 0 (gA g)) (F0 m 53 ls []) := by
  intro n
  induction n with
  | zero => intro x5 x6 M hf; exact hf.elim
  | succ n ih =>
    intro x5 x6 M hf H locs ls hR hS hl
    exact w_X11_steps_B53 _ _ _ _ _ _ _ _ _ _ E hw hs0 (fun _ _ M H locs ls h hR hS hl => ih _ _ M h H locs ls hR hS hl) hEK53 hf H locs ls hR hS hl
def f_X11_steps (S : Ss) (a0 : Nat) (x1 : Int32) (x2 : Int32) (x3 : Int32) (x4 : Int32) (M : Mm) (K : Int32 → Mm → Prop) : Prop :=
  ∀ m1 : Mm, m1 = stI M a0 0 (0 : Int32) →
  f_X11_in S  x1.toInt64 (0 : Int64) (3 : Int64) m1 (fun (r3 : Int32) (m2 : Mm) =>
    ((r3 = 0 →
    K (-1 : Int32) m2) ∧
   (¬ r3 = 0 →
    ((x2 ≤ (20 : Int32) →
      ((x1 = (3 : Int32) →
        f_X11_steps_J34 S x1 m2 K) ∧
       (¬ x1 = (3 : Int32) →
        ((0 ≤ x2 →
          ∃ n24 : Nat, f_X11_steps_L53 S a0 x1 x2 x4 (fun (m23 : Mm) =>
            K x2 m23) K n24 x3 (0 : Int32) m2) ∧
         (¬ 0 ≤ x2 →
          f_X11_steps_J34 S x1 m2 K))))) ∧
     (¬ x2 ≤ (20 : Int32) →
      K (-1 : Int32) m2)))))
set_option maxHeartbeats 4000000 in
set_option maxRecDepth 100000 in
theorem ok_X11_steps {l : Launch} {g : Gg} {S : Ss} {a0 : Nat} {x1 : Int32} {x2 : Int32} {x3 : Int32} {x4 : Int32} {M : Mm} {K : Int32 → Mm → Prop} (hs0 : S[a0]? = some (10, 0)) (hf : f_X11_steps S a0 x1 x2 x3 x4 M K) : MT l g S yX11_steps cX11_steps 8 (some .int) 6 [.ref (ad g a0), .int x1, .int x2, .int x3, .int x4] M (pI K) := by
  refine MT.of (by decide +kernel) (Nat.le_of_ble_eq_true rfl) ?_
  intro p e s m below meth c ls E hw hR hS hl
  have hl : lv_has ls 8 [(0, .ref (ad g a0)), (1, .int x1), (2, .int x2), (3, .int x3), (4, .int x4)] := hl
  generalize ([.ref (ad g a0), .int x1, .int x2, .int x3, .int x4] : List Value).toArray = args at E ⊢
  have E : EN p s m args meth c cX11_steps 8 (some .int) RX11 g := E
  have hx := E.1
  have hb := E.2.1
  unfold f_X11_steps at hf
  refine lv_aload_n hx hb dX11_steps_0 rfl (lv_at hl 0 rfl) ?_
  refine lv_iconst (v := 0) hx hb dX11_steps_1 (by decide) ?_
  refine hw_putI E hR hS hw cI10 hs0 0 (by decide) lfX11_3 rfl (Or.inl rfl) dX11_steps_2 (fun m1 H locs em1 hR hS => ?_)
  replace hf := hf m1 em1
  refine lv_iload_n hx hb dX11_steps_5 rfl (lv_at hl 1 rfl) ?_
  refine lv_i2l hx hb dX11_steps_6 rfl ?_
  refine lv_lconst (v := 0) hx hb dX11_steps_7 (by decide) ?_
  refine lv_ldc2 (v := 3) hx hb E.2.2.2.2.1 (E.2.2.2.2.2.1 _ ljX11_233) dX11_steps_8 ?_
  refine hw_callS (d := 6) E hR hS (As := [.long x1.toInt64, .long (0 : Int64), .long (3 : Int64)]) (rest := []) mcX11_in msX11_in lmX11_21 (ok_X11_in  hf) rfl rfl (by decide) hl.1 (Nat.le_of_ble_eq_true rfl) dX11_steps_11 (fun rr m2 H locs hp hR hS => ?_)
  obtain ⟨r3, rfl, hf⟩ := hp
  refine W.eq (g2 := F0 m 14 ls [.int r3]) rfl ?_
  refine lv_if_eq (tgt := 23) hx hb dX11_steps_14 (by decide) (fun c4 => ?_) (fun c4 => ?_)
  · replace hf := hf.1 c4
    refine lv_iconst (v := -1) hx hb dX11_steps_23 (by decide) ?_
    exact hw_iret E hR hS ⟨_, rfl, hf⟩ dX11_steps_24
  · replace hf := hf.2 c4
    refine lv_iload_n hx hb dX11_steps_17 rfl (lv_at hl 2 rfl) ?_
    refine lv_bipush (v := 20) hx hb dX11_steps_18 (by decide) ?_
    refine lv_icmp_le (tgt := 25) hx hb dX11_steps_20 (by decide) (fun c5 => ?_) (fun c5 => ?_)
    · replace hf := hf.1 c5
      refine lv_iload_n hx hb dX11_steps_25 rfl (lv_at hl 1 rfl) ?_
      refine lv_iconst (v := 3) hx hb dX11_steps_26 (by decide) ?_
      refine lv_icmp_eq (tgt := 34) hx hb dX11_steps_27 (by decide) (fun c6 => ?_) (fun c6 => ?_)
      · replace hf := hf.1 c6
        exact w_X11_steps_J34 _ _ _ E hw hf _ _ _ hR hS (lv_sub hl [1] rfl)
      · replace hf := hf.2 c6
        refine lv_iload_n hx hb dX11_steps_30 rfl (lv_at hl 2 rfl) ?_
        refine lv_if_ge (tgt := 47) hx hb dX11_steps_31 (by decide) (fun c8 => ?_) (fun c8 => ?_)
        · replace hf := hf.1 c8
          refine lv_iload_n hx hb dX11_steps_47 rfl (lv_at hl 3 rfl) ?_
          refine lv_istore (lv' := [(5, .int x3), (0, .ref (ad g a0)), (1, .int x1), (2, .int x2), (3, .int x3), (4, .int x4)]) hx hb dX11_steps_48 hl (by decide) rfl (fun ls hl => ?_)
          refine lv_iconst (v := 0) hx hb dX11_steps_50 (by decide) ?_
          refine lv_istore (lv' := [(6, .int (0 : Int32)), (5, .int x3), (0, .ref (ad g a0)), (1, .int x1), (2, .int x2), (3, .int x3), (4, .int x4)]) hx hb dX11_steps_51 hl (by decide) rfl (fun ls hl => ?_)
          obtain ⟨n24, hf⟩ := hf
          refine w_X11_steps_L53 _ _ _ _ _ _ E hw hs0 ?_ n24 _ _ _ hf _ _ _ hR hS (lv_sub hl [2, 3, 4, 6, 1, 0] rfl)
          intro m23 H locs ls hf hR hS hl
          refine lv_iload_n hx hb dX11_steps_140 rfl (lv_at hl 0 rfl) ?_
          exact hw_iret E hR hS ⟨_, rfl, hf⟩ dX11_steps_141
        · replace hf := hf.2 c8
          exact w_X11_steps_J34 _ _ _ E hw hf _ _ _ hR hS (lv_sub hl [1] rfl)
    · replace hf := hf.2 c5
      refine lv_iconst (v := -1) hx hb dX11_steps_23 (by decide) ?_
      exact hw_iret E hR hS ⟨_, rfl, hf⟩ dX11_steps_24
def f_X11_at (S : Ss) (a0 : Nat) (x1 : Int32) (M : Mm) (K : Int32 → Mm → Prop) : Prop :=
  ∀ m1 : Mm, m1 = stI M a0 0 (0 : Int32) →
  f_X11_in S  x1.toInt64 (0 : Int64) (23 : Int64) m1 (fun (r3 : Int32) (m2 : Mm) =>
    ((r3 = 0 →
    f_X11_refuse S a0  m2 (fun (r26 : Int32) (m25 : Mm) =>
      K r26 m25)) ∧
   (¬ r3 = 0 →
    ∀ v6 : Int32, v6 = (x1 - x1 / (4 : Int32) * (4 : Int32)) →
    (((8 : Int32) ≤ x1 →
      (((12 : Int32) ≤ x1 →
        (((16 : Int32) ≤ x1 →
          (((20 : Int32) ≤ x1 →
            (((m2.1 a0 15) ≤ v6 →
              K (-1 : Int32) m2) ∧
             (¬ (m2.1 a0 15) ≤ v6 →
              ∃ b12 : Nat, m2.2.2 a0 25 = some b12 ∧
              ∃ n13 : Nat, shp S b12 = some (50, n13) ∧ vp_in v6 n13 ∧
              K (m2.1 b12 v6.toNatClampNeg) m2))) ∧
           (¬ (20 : Int32) ≤ x1 →
            ∃ b14 : Nat, m2.2.2 a0 24 = some b14 ∧
            ∃ n15 : Nat, shp S b14 = some (50, n15) ∧ vp_in v6 n15 ∧
            K (m2.1 b14 v6.toNatClampNeg) m2))) ∧
         (¬ (16 : Int32) ≤ x1 →
          ∃ b16 : Nat, m2.2.2 a0 23 = some b16 ∧
          ∃ n17 : Nat, shp S b16 = some (50, n17) ∧ vp_in v6 n17 ∧
          K (m2.1 b16 v6.toNatClampNeg) m2))) ∧
       (¬ (12 : Int32) ≤ x1 →
        ∃ b18 : Nat, m2.2.2 a0 24 = some b18 ∧
        ∃ n19 : Nat, shp S b18 = some (50, n19) ∧ vp_in v6 n19 ∧
        (((m2.1 b18 v6.toNatClampNeg) ≤ 0 →
          ∃ b21 : Nat, m2.2.2 a0 23 = some b21 ∧
          ∃ n22 : Nat, shp S b21 = some (50, n22) ∧ vp_in v6 n22 ∧
          K (m2.1 b21 v6.toNatClampNeg) m2) ∧
         (¬ (m2.1 b18 v6.toNatClampNeg) ≤ 0 →
          K (4 : Int32) m2))))) ∧
     (¬ (8 : Int32) ≤ x1 →
      ∃ b23 : Nat, m2.2.2 a0 22 = some b23 ∧
      ∃ n24 : Nat, shp S b23 = some (50, n24) ∧ vp_in x1 n24 ∧
      K (m2.1 b23 x1.toNatClampNeg) m2)))))
set_option maxHeartbeats 4000000 in
set_option maxRecDepth 100000 in
theorem ok_X11_at {l : Launch} {g : Gg} {S : Ss} {a0 : Nat} {x1 : Int32} {M : Mm} {K : Int32 → Mm → Prop} (hs0 : S[a0]? = some (10, 0)) (hf : f_X11_at S a0 x1 M K) : MT l g S yX11_at cX11_at 3 (some .int) 1 [.ref (ad g a0), .int x1] M (pI K) := by
  refine MT.of (by decide +kernel) (Nat.le_of_ble_eq_true rfl) ?_
  intro p e s m below meth c ls E hw hR hS hl
  have hl : lv_has ls 3 [(0, .ref (ad g a0)), (1, .int x1)] := hl
  generalize ([.ref (ad g a0), .int x1] : List Value).toArray = args at E ⊢
  have E : EN p s m args meth c cX11_at 3 (some .int) RX11 g := E
  have hx := E.1
  have hb := E.2.1
  unfold f_X11_at at hf
  refine lv_aload_n hx hb dX11_at_0 rfl (lv_at hl 0 rfl) ?_
  refine lv_iconst (v := 0) hx hb dX11_at_1 (by decide) ?_
  refine hw_putI E hR hS hw cI10 hs0 0 (by decide) lfX11_3 rfl (Or.inl rfl) dX11_at_2 (fun m1 H locs em1 hR hS => ?_)
  replace hf := hf m1 em1
  refine lv_iload_n hx hb dX11_at_5 rfl (lv_at hl 1 rfl) ?_
  refine lv_i2l hx hb dX11_at_6 rfl ?_
  refine lv_lconst (v := 0) hx hb dX11_at_7 (by decide) ?_
  refine lv_ldc2 (v := 23) hx hb E.2.2.2.2.1 (E.2.2.2.2.2.1 _ ljX11_254) dX11_at_8 ?_
  refine hw_callS (d := 1) E hR hS (As := [.long x1.toInt64, .long (0 : Int64), .long (23 : Int64)]) (rest := []) mcX11_in msX11_in lmX11_21 (ok_X11_in  hf) rfl rfl (by decide) hl.1 (Nat.le_of_ble_eq_true rfl) dX11_at_11 (fun rr m2 H locs hp hR hS => ?_)
  obtain ⟨r3, rfl, hf⟩ := hp
  refine W.eq (g2 := F0 m 14 ls [.int r3]) rfl ?_
  refine lv_if_ne (tgt := 22) hx hb dX11_at_14 (by decide) (fun c4 => ?_) (fun c4 => ?_)
  · replace hf := hf.2 c4
    refine lv_iload_n hx hb dX11_at_22 rfl (lv_at hl 1 rfl) ?_
    refine lv_iconst (v := 4) hx hb dX11_at_23 (by decide) ?_
    refine lv_irem hx hb dX11_at_24 (by decide) ?_
    refine lv_topi (fun v6 ev6 => ?_)
    replace hf := hf v6 ev6
    refine lv_istore_n (lv' := [(2, .int v6), (0, .ref (ad g a0)), (1, .int x1)]) hx hb dX11_at_25 rfl hl (by decide) rfl (fun ls hl => ?_)
    refine lv_iload_n hx hb dX11_at_26 rfl (lv_at hl 2 rfl) ?_
    refine lv_bipush (v := 8) hx hb dX11_at_27 (by decide) ?_
    refine lv_icmp_ge (tgt := 39) hx hb dX11_at_29 (by decide) (fun c7 => ?_) (fun c7 => ?_)
    · replace hf := hf.1 c7
      refine lv_iload_n hx hb dX11_at_39 rfl (lv_at hl 2 rfl) ?_
      refine lv_bipush (v := 12) hx hb dX11_at_40 (by decide) ?_
      refine lv_icmp_ge (tgt := 65) hx hb dX11_at_42 (by decide) (fun c8 => ?_) (fun c8 => ?_)
      · replace hf := hf.1 c8
        refine lv_iload_n hx hb dX11_at_65 rfl (lv_at hl 2 rfl) ?_
        refine lv_bipush (v := 16) hx hb dX11_at_66 (by decide) ?_
        refine lv_icmp_ge (tgt := 78) hx hb dX11_at_68 (by decide) (fun c9 => ?_) (fun c9 => ?_)
        · replace hf := hf.1 c9
          refine lv_iload_n hx hb dX11_at_78 rfl (lv_at hl 2 rfl) ?_
          refine lv_bipush (v := 20) hx hb dX11_at_79 (by decide) ?_
          refine lv_icmp_ge (tgt := 93) hx hb dX11_at_81 (by decide) (fun c10 => ?_) (fun c10 => ?_)
          · replace hf := hf.1 c10
            refine lv_iload_n hx hb dX11_at_93 rfl (lv_at hl 0 rfl) ?_
            refine lv_aload_n hx hb dX11_at_94 rfl (lv_at hl 1 rfl) ?_
            refine hw_getI E hR cI10 hs0 15 (by decide) lfX11_121 rfl dX11_at_95 ?_
            refine lv_icmp_ge (tgt := 110) hx hb dX11_at_98 (by decide) (fun c11 => ?_) (fun c11 => ?_)
            · replace hf := hf.1 c11
              refine lv_iconst (v := -1) hx hb dX11_at_110 (by decide) ?_
              exact hw_iret E hR hS ⟨_, rfl, hf⟩ dX11_at_111
            · replace hf := hf.2 c11
              refine lv_aload_n hx hb dX11_at_101 rfl (lv_at hl 1 rfl) ?_
              obtain ⟨b12, hb12, hf⟩ := hf
              refine hw_getR E hR cI10 hs0 25 (by decide) lfX11_145 rfl hb12 dX11_at_102 ?_
              refine lv_iload_n hx hb dX11_at_105 rfl (lv_at hl 0 rfl) ?_
              obtain ⟨n13, hn13, in13, hf⟩ := hf
              refine hw_iald E hR hS hn13 in13 dX11_at_106 ?_
              refine lv_goto (tgt := 111) hx hb dX11_at_107 (by decide) ?_
              exact hw_iret E hR hS ⟨_, rfl, hf⟩ dX11_at_111
          · replace hf := hf.2 c10
            refine lv_aload_n hx hb dX11_at_84 rfl (lv_at hl 1 rfl) ?_
            obtain ⟨b14, hb14, hf⟩ := hf
            refine hw_getR E hR cI10 hs0 24 (by decide) lfX11_167 rfl hb14 dX11_at_85 ?_
            refine lv_iload_n hx hb dX11_at_88 rfl (lv_at hl 0 rfl) ?_
            obtain ⟨n15, hn15, in15, hf⟩ := hf
            refine hw_iald E hR hS hn15 in15 dX11_at_89 ?_
            refine lv_goto (tgt := 111) hx hb dX11_at_90 (by decide) ?_
            exact hw_iret E hR hS ⟨_, rfl, hf⟩ dX11_at_111
        · replace hf := hf.2 c9
          refine lv_aload_n hx hb dX11_at_71 rfl (lv_at hl 1 rfl) ?_
          obtain ⟨b16, hb16, hf⟩ := hf
          refine hw_getR E hR cI10 hs0 23 (by decide) lfX11_170 rfl hb16 dX11_at_72 ?_
          refine lv_iload_n hx hb dX11_at_75 rfl (lv_at hl 0 rfl) ?_
          obtain ⟨n17, hn17, in17, hf⟩ := hf
          refine hw_iald E hR hS hn17 in17 dX11_at_76 ?_
          exact hw_iret E hR hS ⟨_, rfl, hf⟩ dX11_at_77
      · replace hf := hf.2 c8
        refine lv_aload_n hx hb dX11_at_45 rfl (lv_at hl 1 rfl) ?_
        obtain ⟨b18, hb18, hf⟩ := hf
        refine hw_getR E hR cI10 hs0 24 (by decide) lfX11_167 rfl hb18 dX11_at_46 ?_
        refine lv_iload_n hx hb dX11_at_49 rfl (lv_at hl 0 rfl) ?_
        obtain ⟨n19, hn19, in19, hf⟩ := hf
        refine hw_iald E hR hS hn19 in19 dX11_at_50 ?_
        refine lv_if_le (tgt := 58) hx hb dX11_at_51 (by decide) (fun c20 => ?_) (fun c20 => ?_)
        · replace hf := hf.1 c20
          refine lv_aload_n hx hb dX11_at_58 rfl (lv_at hl 1 rfl) ?_
          obtain ⟨b21, hb21, hf⟩ := hf
          refine hw_getR E hR cI10 hs0 23 (by decide) lfX11_170 rfl hb21 dX11_at_59 ?_
          refine lv_iload_n hx hb dX11_at_62 rfl (lv_at hl 0 rfl) ?_
          obtain ⟨n22, hn22, in22, hf⟩ := hf
          refine hw_iald E hR hS hn22 in22 dX11_at_63 ?_
          exact hw_iret E hR hS ⟨_, rfl, hf⟩ dX11_at_64
        · replace hf := hf.2 c20
          refine lv_iconst (v := 4) hx hb dX11_at_54 (by decide) ?_
          refine lv_goto (tgt := 64) hx hb dX11_at_55 (by decide) ?_
          exact hw_iret E hR hS ⟨_, rfl, hf⟩ dX11_at_64
    · replace hf := hf.2 c7
      refine lv_aload_n hx hb dX11_at_32 rfl (lv_at hl 1 rfl) ?_
      obtain ⟨b23, hb23, hf⟩ := hf
      refine hw_getR E hR cI10 hs0 22 (by decide) lfX11_164 rfl hb23 dX11_at_33 ?_
      refine lv_iload_n hx hb dX11_at_36 rfl (lv_at hl 2 rfl) ?_
      obtain ⟨n24, hn24, in24, hf⟩ := hf
      refine hw_iald E hR hS hn24 in24 dX11_at_37 ?_
      exact hw_iret E hR hS ⟨_, rfl, hf⟩ dX11_at_38
  · replace hf := hf.1 c4
    refine lv_aload_n hx hb dX11_at_17 rfl (lv_at hl 0 rfl) ?_
    refine hw_callV (d := 1) E hR hS (As := []) (rest := []) cI10 hs0 rfl mcX11_refuse miX11_refuse lmX11_256 (ok_X11_refuse hs0 hf) rfl rfl (by decide) hl.1 (Nat.le_of_ble_eq_true rfl) dX11_at_18 (fun rr m25 H locs hp hR hS => ?_)
    obtain ⟨r26, rfl, hf⟩ := hp
    refine W.eq (g2 := F0 m 21 ls [.int r26]) rfl ?_
    exact hw_iret E hR hS ⟨_, rfl, hf⟩ dX11_at_21
def f_X11_packsSlots_B4 (S : Ss) (a0 : Nat) (x1 : Int64) (x3 : Int32) (M : Mm) (BK4 : Int64 → Int32 → Mm → Prop) (EK4 : Int64 → Mm → Prop) (K : Int64 → Mm → Prop) : Prop :=
  (((8 : Int32) ≤ x3 →
    EK4 x1 M) ∧
   (¬ (8 : Int32) ≤ x3 →
    ∃ b2 : Nat, M.2.2 a0 22 = some b2 ∧
    ∃ n3 : Nat, shp S b2 = some (50, n3) ∧ vp_in x3 n3 ∧
    ∀ v4 : Int64, v4 = ((x1 <<< ((8 : Int32).toInt64 &&& 63)) ||| (M.1 b2 x3.toNatClampNeg).toInt64) →
    ∀ v5 : Int32, v5 = x3 + (1 : Int32) →
    BK4 v4 v5 M))
set_option maxHeartbeats 4000000 in
set_option maxRecDepth 100000 in
theorem w_X11_packsSlots_B4 {p : Program} {l : Launch} {e : Env} {s : State} {m : MethodId} {args : Array Value} {below : List Frame} {meth : Method} {c : Code} {g : Gg} {S : Ss} (a0 : Nat) (x1 : Int64) (x3 : Int32) (M : Mm) (BK4 : Int64 → Int32 → Mm → Prop) (EK4 : Int64 → Mm → Prop) (K : Int64 → Mm → Prop) (E : EN p s m args meth c cX11_packsSlots 4 (some .long) RX11 g) (hw : ad g 100000 < s.heap.size) (hs0 : S[a0]? = some (10, 0)) (hBK4 : ∀ (x1' : Int64) (x3' : Int32) (M' : Mm) (H : Heap) (locs : List Loc) (ls : Array Slot), BK4 x1' x3' M' → RP g S M' H → va_S (gA g) s.heap H locs → lv_has ls 4 [(0, .ref (ad g a0)), (1, .long x1'), (3, .int x3')] → W p l e (rmD 0) s m args below meth c H locs 0 0 (MQ below (QA g S (pJ K)) args s 0 0 (gA g)) (F0 m 4 ls [])) (hEK4 : ∀ (x1' : Int64) (M' : Mm) (H : Heap) (locs : List Loc) (ls : Array Slot), EK4 x1' M' → RP g S M' H → va_S (gA g) s.heap H locs → lv_has ls 4 [(1, .long x1')] → W p l e (rmD 0) s m args below meth c H locs 0 0 (MQ below (QA g S (pJ K)) args s 0 0 (gA g)) (F0 m 29 ls [])) (hf : f_X11_packsSlots_B4 S a0 x1 x3 M BK4 EK4 K) (H : Heap) (locs : List Loc) (ls : Array Slot) (hR : RP g S M H) (hS : va_S (gA g) s.heap H locs) (hl : lv_has ls 4 [(0, .ref (ad g a0)), (1, .long x1), (3, .int x3)]) : W p l e (rmD 0) s m args below meth c H locs 0 0 (MQ below (QA g S (pJ K)) args s 0 0 (gA g)) (F0 m 4 ls []) := by
  have hx := E.1
  have hb := E.2.1
  unfold f_X11_packsSlots_B4 at hf
  refine lv_iload_n hx hb dX11_packsSlots_4 rfl (lv_at hl 2 rfl) ?_
  refine lv_bipush (v := 8) hx hb dX11_packsSlots_5 (by decide) ?_
  refine lv_icmp_ge (tgt := 29) hx hb dX11_packsSlots_7 (by decide) (fun c1 => ?_) (fun c1 => ?_)
  · replace hf := hf.1 c1
    exact hEK4 _ _ _ _ _ hf hR hS (lv_sub hl [1] rfl)
  · replace hf := hf.2 c1
    refine lv_lload_n hx hb dX11_packsSlots_10 rfl (lv_at hl 1 rfl) ?_
    refine lv_bipush (v := 8) hx hb dX11_packsSlots_11 (by decide) ?_
    refine lv_lshl hx hb dX11_packsSlots_13 rfl ?_
    refine lv_aload_n hx hb dX11_packsSlots_14 rfl (lv_at hl 0 rfl) ?_
    obtain ⟨b2, hb2, hf⟩ := hf
    refine hw_getR E hR cI10 hs0 22 (by decide) lfX11_164 rfl hb2 dX11_packsSlots_15 ?_
    refine lv_iload_n hx hb dX11_packsSlots_18 rfl (lv_at hl 2 rfl) ?_
    obtain ⟨n3, hn3, in3, hf⟩ := hf
    refine hw_iald E hR hS hn3 in3 dX11_packsSlots_19 ?_
    refine lv_i2l hx hb dX11_packsSlots_20 rfl ?_
    refine lv_lor hx hb dX11_packsSlots_21 ?_
    refine lv_topl (fun v4 ev4 => ?_)
    replace hf := hf v4 ev4
    refine lv_lstore_n (lv' := [(1, .long v4), (0, .ref (ad g a0)), (3, .int x3)]) hx hb dX11_packsSlots_22 rfl hl (by decide) rfl (fun ls hl => ?_)
    obtain ⟨v5, ev5⟩ : ∃ y : Int32, y = x3 + (1 : Int32) := ⟨_, rfl⟩
    replace hf := hf v5 ev5
    refine lv_iinc (v := v5) (lv' := [(3, .int v5), (1, .long v4), (0, .ref (ad g a0))]) hx hb dX11_packsSlots_23 hl (k := 2) rfl (by rw [ev5]; rfl) (by decide) rfl (fun ls hl => ?_)
    refine lv_goto (tgt := 4) hx hb dX11_packsSlots_26 (by decide) ?_
    exact hBK4 _ _ _ _ _ _ hf hR hS (lv_sub hl [2, 1, 0] rfl)
def f_X11_packsSlots_L4 (S : Ss) (a0 : Nat) (EK4 : Int64 → Mm → Prop) (K : Int64 → Mm → Prop) : Nat → Int64 → Int32 → Mm → Prop
  | 0, _, _, _ => False
  | n + 1, x1, x3, M => f_X11_packsSlots_B4 S a0 x1 x3 M (fun (x1 : Int64) (x3 : Int32) (M : Mm) => f_X11_packsSlots_L4 S a0 EK4 K n x1 x3 M) EK4 K
set_option maxHeartbeats 4000000 in
set_option maxRecDepth 100000 in
theorem w_X11_packsSlots_L4 {p : Program} {l : Launch} {e : Env} {s : State} {m : MethodId} {args : Array Value} {below : List Frame} {meth : Method} {c : Code} {g : Gg} {S : Ss} (a0 : Nat) (EK4 : Int64 → Mm → Prop) (K : Int64 → Mm → Prop) (E : EN p s m args meth c cX11_packsSlots 4 (some .long) RX11 g) (hw : ad g 100000 < s.heap.size) (hs0 : S[a0]? = some (10, 0)) (hEK4 : ∀ (x1' : Int64) (M' : Mm) (H : Heap) (locs : List Loc) (ls : Array Slot), EK4 x1' M' → RP g S M' H → va_S (gA g) s.heap H locs → lv_has ls 4 [(1, .long x1')] → W p l e (rmD 0) s m args below meth c H locs 0 0 (MQ below (QA g S (pJ K)) args s 0 0 (gA g)) (F0 m 29 ls [])) : ∀ (n : Nat) (x1 : Int64) (x3 : Int32) (M : Mm), f_X11_packsSlots_L4 S a0 EK4 K n x1 x3 M → ∀ (H : Heap) (locs : List Loc) (ls : Array Slot), RP g S M H → va_S (gA g) s.heap H locs → lv_has ls 4 [(0, .ref (ad g a0)), (1, .long x1), (3, .int x3)] → W p l e (rmD 0) s m args below meth c H locs 0 0 (MQ below (QA g S (pJ K)) args s 0 0 (gA g)) (F0 m 4 ls []) := by
  intro n
  induction n with
  | zero => intro x1 x3 M hf; exact hf.elim
  | succ n ih =>
    intro x1 x3 M hf H locs ls hR hS hl
    exact w_X11_packsSlots_B4 _ _ _ _ _ _ _ E hw hs0 (fun _ _ M H locs ls h hR hS hl => ih _ _ M h H locs ls hR hS hl) hEK4 hf H locs ls hR hS hl
def f_X11_packsSlots (S : Ss) (a0 : Nat) (M : Mm) (K : Int64 → Mm → Prop) : Prop :=
  ∃ n8 : Nat, f_X11_packsSlots_L4 S a0 (fun (v6 : Int64) (m7 : Mm) =>
    K v6 m7) K n8 (0 : Int64) (0 : Int32) M
set_option maxHeartbeats 4000000 in
set_option maxRecDepth 100000 in
theorem ok_X11_packsSlots {l : Launch} {g : Gg} {S : Ss} {a0 : Nat} {M : Mm} {K : Int64 → Mm → Prop} (hs0 : S[a0]? = some (10, 0)) (hf : f_X11_packsSlots S a0 M K) : MT l g S yX11_packsSlots cX11_packsSlots 4 (some .long) 0 [.ref (ad g a0)] M (pJ K) := by
  refine MT.of (by decide +kernel) (Nat.le_of_ble_eq_true rfl) ?_
  intro p e s m below meth c ls E hw hR hS hl
  have hl : lv_has ls 4 [(0, .ref (ad g a0))] := hl
  generalize ([.ref (ad g a0)] : List Value).toArray = args at E ⊢
  have E : EN p s m args meth c cX11_packsSlots 4 (some .long) RX11 g := E
  have hx := E.1
  have hb := E.2.1
  unfold f_X11_packsSlots at hf
  refine lv_lconst (v := 0) hx hb dX11_packsSlots_0 (by decide) ?_
  refine lv_lstore_n (lv' := [(1, .long (0 : Int64)), (0, .ref (ad g a0))]) hx hb dX11_packsSlots_1 rfl hl (by decide) rfl (fun ls hl => ?_)
  refine lv_iconst (v := 0) hx hb dX11_packsSlots_2 (by decide) ?_
  refine lv_istore_n (lv' := [(3, .int (0 : Int32)), (1, .long (0 : Int64)), (0, .ref (ad g a0))]) hx hb dX11_packsSlots_3 rfl hl (by decide) rfl (fun ls hl => ?_)
  obtain ⟨n8, hf⟩ := hf
  refine w_X11_packsSlots_L4 _ _ _ E hw hs0 ?_ n8 _ _ _ hf _ _ _ hR hS (lv_sub hl [2, 1, 0] rfl)
  intro v6 m7 H locs ls hf hR hS hl
  refine lv_lload_n hx hb dX11_packsSlots_29 rfl (lv_at hl 0 rfl) ?_
  exact hw_lret E hR hS ⟨_, rfl, hf⟩ dX11_packsSlots_30
def f_X11_packsRest_B4 (S : Ss) (a0 : Nat) (x1 : Int64) (x3 : Int32) (M : Mm) (BK4 : Int64 → Int32 → Mm → Prop) (EK4 : Int64 → Mm → Prop) (K : Int64 → Mm → Prop) : Prop :=
  (((4 : Int32) ≤ x3 →
    EK4 x1 M) ∧
   (¬ (4 : Int32) ≤ x3 →
    ∃ b2 : Nat, M.2.2 a0 23 = some b2 ∧
    ∃ n3 : Nat, shp S b2 = some (50, n3) ∧ vp_in x3 n3 ∧
    ∃ b4 : Nat, M.2.2 a0 24 = some b4 ∧
    ∃ n5 : Nat, shp S b4 = some (50, n5) ∧ vp_in x3 n5 ∧
    ∀ v6 : Int64, v6 = (((x1 <<< ((6 : Int32).toInt64 &&& 63)) ||| ((M.1 b2 x3.toNatClampNeg) <<< ((4 : Int32) &&& 31)).toInt64) ||| (M.1 b4 x3.toNatClampNeg).toInt64) →
    ∀ v7 : Int32, v7 = x3 + (1 : Int32) →
    BK4 v6 v7 M))
set_option maxHeartbeats 4000000 in
set_option maxRecDepth 100000 in
theorem w_X11_packsRest_B4 {p : Program} {l : Launch} {e : Env} {s : State} {m : MethodId} {args : Array Value} {below : List Frame} {meth : Method} {c : Code} {g : Gg} {S : Ss} (a0 : Nat) (x1 : Int64) (x3 : Int32) (M : Mm) (BK4 : Int64 → Int32 → Mm → Prop) (EK4 : Int64 → Mm → Prop) (K : Int64 → Mm → Prop) (E : EN p s m args meth c cX11_packsRest 4 (some .long) RX11 g) (hw : ad g 100000 < s.heap.size) (hs0 : S[a0]? = some (10, 0)) (hBK4 : ∀ (x1' : Int64) (x3' : Int32) (M' : Mm) (H : Heap) (locs : List Loc) (ls : Array Slot), BK4 x1' x3' M' → RP g S M' H → va_S (gA g) s.heap H locs → lv_has ls 4 [(0, .ref (ad g a0)), (1, .long x1'), (3, .int x3')] → W p l e (rmD 0) s m args below meth c H locs 0 0 (MQ below (QA g S (pJ K)) args s 0 0 (gA g)) (F0 m 4 ls [])) (hEK4 : ∀ (x1' : Int64) (M' : Mm) (H : Heap) (locs : List Loc) (ls : Array Slot), EK4 x1' M' → RP g S M' H → va_S (gA g) s.heap H locs → lv_has ls 4 [(0, .ref (ad g a0)), (1, .long x1')] → W p l e (rmD 0) s m args below meth c H locs 0 0 (MQ below (QA g S (pJ K)) args s 0 0 (gA g)) (F0 m 38 ls [])) (hf : f_X11_packsRest_B4 S a0 x1 x3 M BK4 EK4 K) (H : Heap) (locs : List Loc) (ls : Array Slot) (hR : RP g S M H) (hS : va_S (gA g) s.heap H locs) (hl : lv_has ls 4 [(0, .ref (ad g a0)), (1, .long x1), (3, .int x3)]) : W p l e (rmD 0) s m args below meth c H locs 0 0 (MQ below (QA g S (pJ K)) args s 0 0 (gA g)) (F0 m 4 ls []) := by
  have hx := E.1
  have hb := E.2.1
  unfold f_X11_packsRest_B4 at hf
  refine lv_iload_n hx hb dX11_packsRest_4 rfl (lv_at hl 2 rfl) ?_
  refine lv_iconst (v := 4) hx hb dX11_packsRest_5 (by decide) ?_
  refine lv_icmp_ge (tgt := 38) hx hb dX11_packsRest_6 (by decide) (fun c1 => ?_) (fun c1 => ?_)
  · replace hf := hf.1 c1
    exact hEK4 _ _ _ _ _ hf hR hS (lv_sub hl [0, 1] rfl)
  · replace hf := hf.2 c1
    refine lv_lload_n hx hb dX11_packsRest_9 rfl (lv_at hl 1 rfl) ?_
    refine lv_bipush (v := 6) hx hb dX11_packsRest_10 (by decide) ?_
    refine lv_lshl hx hb dX11_packsRest_12 rfl ?_
    refine lv_aload_n hx hb dX11_packsRest_13 rfl (lv_at hl 0 rfl) ?_
    obtain ⟨b2, hb2, hf⟩ := hf
    refine hw_getR E hR cI10 hs0 23 (by decide) lfX11_170 rfl hb2 dX11_packsRest_14 ?_
    refine lv_iload_n hx hb dX11_packsRest_17 rfl (lv_at hl 2 rfl) ?_
    obtain ⟨n3, hn3, in3, hf⟩ := hf
    refine hw_iald E hR hS hn3 in3 dX11_packsRest_18 ?_
    refine lv_iconst (v := 4) hx hb dX11_packsRest_19 (by decide) ?_
    refine lv_ishl hx hb dX11_packsRest_20 ?_
    refine lv_i2l hx hb dX11_packsRest_21 rfl ?_
    refine lv_lor hx hb dX11_packsRest_22 ?_
    refine lv_aload_n hx hb dX11_packsRest_23 rfl (lv_at hl 0 rfl) ?_
    obtain ⟨b4, hb4, hf⟩ := hf
    refine hw_getR E hR cI10 hs0 24 (by decide) lfX11_167 rfl hb4 dX11_packsRest_24 ?_
    refine lv_iload_n hx hb dX11_packsRest_27 rfl (lv_at hl 2 rfl) ?_
    obtain ⟨n5, hn5, in5, hf⟩ := hf
    refine hw_iald E hR hS hn5 in5 dX11_packsRest_28 ?_
    refine lv_i2l hx hb dX11_packsRest_29 rfl ?_
    refine lv_lor hx hb dX11_packsRest_30 ?_
    refine lv_topl (fun v6 ev6 => ?_)
    replace hf := hf v6 ev6
    refine lv_lstore_n (lv' := [(1, .long v6), (0, .ref (ad g a0)), (3, .int x3)]) hx hb dX11_packsRest_31 rfl hl (by decide) rfl (fun ls hl => ?_)
    obtain ⟨v7, ev7⟩ : ∃ y : Int32, y = x3 + (1 : Int32) := ⟨_, rfl⟩
    replace hf := hf v7 ev7
    refine lv_iinc (v := v7) (lv' := [(3, .int v7), (1, .long v6), (0, .ref (ad g a0))]) hx hb dX11_packsRest_32 hl (k := 2) rfl (by rw [ev7]; rfl) (by decide) rfl (fun ls hl => ?_)
    refine lv_goto (tgt := 4) hx hb dX11_packsRest_35 (by decide) ?_
    exact hBK4 _ _ _ _ _ _ hf hR hS (lv_sub hl [2, 1, 0] rfl)
def f_X11_packsRest_L4 (S : Ss) (a0 : Nat) (EK4 : Int64 → Mm → Prop) (K : Int64 → Mm → Prop) : Nat → Int64 → Int32 → Mm → Prop
  | 0, _, _, _ => False
  | n + 1, x1, x3, M => f_X11_packsRest_B4 S a0 x1 x3 M (fun (x1 : Int64) (x3 : Int32) (M : Mm) => f_X11_packsRest_L4 S a0 EK4 K n x1 x3 M) EK4 K
set_option maxHeartbeats 4000000 in
set_option maxRecDepth 100000 in
theorem w_X11_packsRest_L4 {p : Program} {l : Launch} {e : Env} {s : State} {m : MethodId} {args : Array Value} {below : List Frame} {meth : Method} {c : Code} {g : Gg} {S : Ss} (a0 : Nat) (EK4 : Int64 → Mm → Prop) (K : Int64 → Mm → Prop) (E : EN p s m args meth c cX11_packsRest 4 (some .long) RX11 g) (hw : ad g 100000 < s.heap.size) (hs0 : S[a0]? = some (10, 0)) (hEK4 : ∀ (x1' : Int64) (M' : Mm) (H : Heap) (locs : List Loc) (ls : Array Slot), EK4 x1' M' → RP g S M' H → va_S (gA g) s.heap H locs → lv_has ls 4 [(0, .ref (ad g a0)), (1, .long x1')] → W p l e (rmD 0) s m args below meth c H locs 0 0 (MQ below (QA g S (pJ K)) args s 0 0 (gA g)) (F0 m 38 ls [])) : ∀ (n : Nat) (x1 : Int64) (x3 : Int32) (M : Mm), f_X11_packsRest_L4 S a0 EK4 K n x1 x3 M → ∀ (H : Heap) (locs : List Loc) (ls : Array Slot), RP g S M H → va_S (gA g) s.heap H locs → lv_has ls 4 [(0, .ref (ad g a0)), (1, .long x1), (3, .int x3)] → W p l e (rmD 0) s m args below meth c H locs 0 0 (MQ below (QA g S (pJ K)) args s 0 0 (gA g)) (F0 m 4 ls []) := by
  intro n
  induction n with
  | zero => intro x1 x3 M hf; exact hf.elim
  | succ n ih =>
    intro x1 x3 M hf H locs ls hR hS hl
    exact w_X11_packsRest_B4 _ _ _ _ _ _ _ E hw hs0 (fun _ _ M H locs ls h hR hS hl => ih _ _ M h H locs ls hR hS hl) hEK4 hf H locs ls hR hS hl
def f_X11_packsRest_B40 (S : Ss) (a0 : Nat) (x1 : Int64) (x3 : Int32) (M : Mm) (BK40 : Int64 → Int32 → Mm → Prop) (EK40 : Int64 → Mm → Prop) (K : Int64 → Mm → Prop) : Prop :=
  (((4 : Int32) ≤ x3 →
    EK40 x1 M) ∧
   (¬ (4 : Int32) ≤ x3 →
    ∃ b11 : Nat, M.2.2 a0 25 = some b11 ∧
    ∃ n12 : Nat, shp S b11 = some (50, n12) ∧ vp_in x3 n12 ∧
    ∀ v13 : Int64, v13 = ((x1 <<< ((4 : Int32).toInt64 &&& 63)) ||| (M.1 b11 x3.toNatClampNeg).toInt64) →
    ∀ v14 : Int32, v14 = x3 + (1 : Int32) →
    BK40 v13 v14 M))
set_option maxHeartbeats 4000000 in
set_option maxRecDepth 100000 in
theorem w_X11_packsRest_B40 {p : Program} {l : Launch} {e : Env} {s : State} {m : MethodId} {args : Array Value} {below : List Frame} {meth : Method} {c : Code} {g : Gg} {S : Ss} (a0 : Nat) (x1 : Int64) (x3 : Int32) (M : Mm) (BK40 : Int64 → Int32 → Mm → Prop) (EK40 : Int64 → Mm → Prop) (K : Int64 → Mm → Prop) (E : EN p s m args meth c cX11_packsRest 4 (some .long) RX11 g) (hw : ad g 100000 < s.heap.size) (hs0 : S[a0]? = some (10, 0)) (hBK40 : ∀ (x1' : Int64) (x3' : Int32) (M' : Mm) (H : Heap) (locs : List Loc) (ls : Array Slot), BK40 x1' x3' M' → RP g S M' H → va_S (gA g) s.heap H locs → lv_has ls 4 [(0, .ref (ad g a0)), (1, .long x1'), (3, .int x3')] → W p l e (rmD 0) s m args below meth c H locs 0 0 (MQ below (QA g S (pJ K)) args s 0 0 (gA g)) (F0 m 40 ls [])) (hEK40 : ∀ (x1' : Int64) (M' : Mm) (H : Heap) (locs : List Loc) (ls : Array Slot), EK40 x1' M' → RP g S M' H → va_S (gA g) s.heap H locs → lv_has ls 4 [(1, .long x1')] → W p l e (rmD 0) s m args below meth c H locs 0 0 (MQ below (QA g S (pJ K)) args s 0 0 (gA g)) (F0 m 63 ls [])) (hf : f_X11_packsRest_B40 S a0 x1 x3 M BK40 EK40 K) (H : Heap) (locs : List Loc) (ls : Array Slot) (hR : RP g S M H) (hS : va_S (gA g) s.heap H locs) (hl : lv_has ls 4 [(0, .ref (ad g a0)), (1, .long x1), (3, .int x3)]) : W p l e (rmD 0) s m args below meth c H locs 0 0 (MQ below (QA g S (pJ K)) args s 0 0 (gA g)) (F0 m 40 ls []) := by
  have hx := E.1
  have hb := E.2.1
  unfold f_X11_packsRest_B40 at hf
  refine lv_iload_n hx hb dX11_packsRest_40 rfl (lv_at hl 2 rfl) ?_
  refine lv_iconst (v := 4) hx hb dX11_packsRest_41 (by decide) ?_
  refine lv_icmp_ge (tgt := 63) hx hb dX11_packsRest_42 (by decide) (fun c10 => ?_) (fun c10 => ?_)
  · replace hf := hf.1 c10
    exact hEK40 _ _ _ _ _ hf hR hS (lv_sub hl [1] rfl)
  · replace hf := hf.2 c10
    refine lv_lload_n hx hb dX11_packsRest_45 rfl (lv_at hl 1 rfl) ?_
    refine lv_iconst (v := 4) hx hb dX11_packsRest_46 (by decide) ?_
    refine lv_lshl hx hb dX11_packsRest_47 rfl ?_
    refine lv_aload_n hx hb dX11_packsRest_48 rfl (lv_at hl 0 rfl) ?_
    obtain ⟨b11, hb11, hf⟩ := hf
    refine hw_getR E hR cI10 hs0 25 (by decide) lfX11_145 rfl hb11 dX11_packsRest_49 ?_
    refine lv_iload_n hx hb dX11_packsRest_52 rfl (lv_at hl 2 rfl) ?_
    obtain ⟨n12, hn12, in12, hf⟩ := hf
    refine hw_iald E hR hS hn12 in12 dX11_packsRest_53 ?_
    refine lv_i2l hx hb dX11_packsRest_54 rfl ?_
    refine lv_lor hx hb dX11_packsRest_55 ?_
    refine lv_topl (fun v13 ev13 => ?_)
    replace hf := hf v13 ev13
    refine lv_lstore_n (lv' := [(1, .long v13), (0, .ref (ad g a0)), (3, .int x3)]) hx hb dX11_packsRest_56 rfl hl (by decide) rfl (fun ls hl => ?_)
    obtain ⟨v14, ev14⟩ : ∃ y : Int32, y = x3 + (1 : Int32) := ⟨_, rfl⟩
    replace hf := hf v14 ev14
    refine lv_iinc (v := v14) (lv' := [(3, .int v14), (1, .long v13), (0, .ref (ad g a0))]) hx hb dX11_packsRest_57 hl (k := 2) rfl (by rw [ev14]; rfl) (by decide) rfl (fun ls hl => ?_)
    refine lv_goto (tgt := 40) hx hb dX11_packsRest_60 (by decide) ?_
    exact hBK40 _ _ _ _ _ _ hf hR hS (lv_sub hl [2, 1, 0] rfl)
def f_X11_packsRest_L40 (S : Ss) (a0 : Nat) (EK40 : Int64 → Mm → Prop) (K : Int64 → Mm → Prop) : Nat → Int64 → Int32 → Mm → Prop
  | 0, _, _, _ => False
  | n + 1, x1, x3, M => f_X11_packsRest_B40 S a0 x1 x3 M (fun (x1 : Int64) (x3 : Int32) (M : Mm) => f_X11_packsRest_L40 S a0 EK40 K n x1 x3 M) EK40 K
set_option maxHeartbeats 4000000 in
set_option maxRecDepth 100000 in
theorem w_X11_packsRest_L40 {p : Program} {l : Launch} {e : Env} {s : State} {m : MethodId} {args : Array Value} {below : List Frame} {meth : Method} {c : Code} {g : Gg} {S : Ss} (a0 : Nat) (EK40 : Int64 → Mm → Prop) (K : Int64 → Mm → Prop) (E : EN p s m args meth c cX11_packsRest 4 (some .long) RX11 g) (hw : ad g 100000 < s.heap.size) (hs0 : S[a0]? = some (10, 0)) (hEK40 : ∀ (x1' : Int64) (M' : Mm) (H : Heap) (locs : List Loc) (ls : Array Slot), EK40 x1' M' → RP g S M' H → va_S (gA g) s.heap H locs → lv_has ls 4 [(1, .long x1')] → W p l e (rmD 0) s m args below meth c H locs 0 0 (MQ below (QA g S (pJ K)) args s 0 0 (gA g)) (F0 m 63 ls [])) : ∀ (n : Nat) (x1 : Int64) (x3 : Int32) (M : Mm), f_X11_packsRest_L40 S a0 EK40 K n x1 x3 M → ∀ (H : Heap) (locs : List Loc) (ls : Array Slot), RP g S M H → va_S (gA g) s.heap H locs → lv_has ls 4 [(0, .ref (ad g a0)), (1, .long x1), (3, .int x3)] → W p l e (rmD 0) s m args below meth c H locs 0 0 (MQ below (QA g S (pJ K)) args s 0 0 (gA g)) (F0 m 40 ls []) := by
  intro n
  induction n with
  | zero => intro x1 x3 M hf; exact hf.elim
  | succ n ih =>
    intro x1 x3 M hf H locs ls hR hS hl
    exact w_X11_packsRest_B40 _ _ _ _ _ _ _ E hw hs0 (fun _ _ M H locs ls h hR hS hl => ih _ _ M h H locs ls hR hS hl) hEK40 hf H locs ls hR hS hl
def f_X11_packsRest (S : Ss) (a0 : Nat) (M : Mm) (K : Int64 → Mm → Prop) : Prop :=
  ∃ n18 : Nat, f_X11_packsRest_L4 S a0 (fun (v8 : Int64) (m9 : Mm) =>
    ∃ n17 : Nat, f_X11_packsRest_L40 S a0 (fun (v15 : Int64) (m16 : Mm) =>
      K v15 m16) K n17 v8 (0 : Int32) m9) K n18 (0 : Int64) (0 : Int32) M
set_option maxHeartbeats 4000000 in
set_option maxRecDepth 100000 in
theorem ok_X11_packsRest {l : Launch} {g : Gg} {S : Ss} {a0 : Nat} {M : Mm} {K : Int64 → Mm → Prop} (hs0 : S[a0]? = some (10, 0)) (hf : f_X11_packsRest S a0 M K) : MT l g S yX11_packsRest cX11_packsRest 4 (some .long) 0 [.ref (ad g a0)] M (pJ K) := by
  refine MT.of (by decide +kernel) (Nat.le_of_ble_eq_true rfl) ?_
  intro p e s m below meth c ls E hw hR hS hl
  have hl : lv_has ls 4 [(0, .ref (ad g a0))] := hl
  generalize ([.ref (ad g a0)] : List Value).toArray = args at E ⊢
  have E : EN p s m args meth c cX11_packsRest 4 (some .long) RX11 g := E
  have hx := E.1
  have hb := E.2.1
  unfold f_X11_packsRest at hf
  refine lv_lconst (v := 0) hx hb dX11_packsRest_0 (by decide) ?_
  refine lv_lstore_n (lv' := [(1, .long (0 : Int64)), (0, .ref (ad g a0))]) hx hb dX11_packsRest_1 rfl hl (by decide) rfl (fun ls hl => ?_)
  refine lv_iconst (v := 0) hx hb dX11_packsRest_2 (by decide) ?_
  refine lv_istore_n (lv' := [(3, .int (0 : Int32)), (1, .long (0 : Int64)), (0, .ref (ad g a0))]) hx hb dX11_packsRest_3 rfl hl (by decide) rfl (fun ls hl => ?_)
  obtain ⟨n18, hf⟩ := hf
  refine w_X11_packsRest_L4 _ _ _ E hw hs0 ?_ n18 _ _ _ hf _ _ _ hR hS (lv_sub hl [2, 1, 0] rfl)
  intro v8 m9 H locs ls hf hR hS hl
  refine lv_iconst (v := 0) hx hb dX11_packsRest_38 (by decide) ?_
  refine lv_istore_n (lv' := [(3, .int (0 : Int32)), (0, .ref (ad g a0)), (1, .long v8)]) hx hb dX11_packsRest_39 rfl hl (by decide) rfl (fun ls hl => ?_)
  obtain ⟨n17, hf⟩ := hf
  refine w_X11_packsRest_L40 _ _ _ E hw hs0 ?_ n17 _ _ _ hf _ _ _ hR hS (lv_sub hl [1, 2, 0] rfl)
  intro v15 m16 H locs ls hf hR hS hl
  refine lv_lload_n hx hb dX11_packsRest_63 rfl (lv_at hl 0 rfl) ?_
  exact hw_lret E hR hS ⟨_, rfl, hf⟩ dX11_packsRest_64
def f_X11_unpacks_B7 (S : Ss) (a0 : Nat) (x3 : Int64) (x5 : Int64) (x7 : Int32) (M : Mm) (BK7 : Int64 → Int32 → Mm → Prop) (EK7 : Mm → Prop) (K : Mm → Prop) : Prop :=
  ((x7 < 0 →
    EK7 M) ∧
   (¬ x7 < 0 →
    ∃ b2 : Nat, M.2.2 a0 22 = some b2 ∧
    ∃ n3 : Nat, S[b2]? = some (50, n3) ∧ vp_in x7 n3 ∧
    ∀ m4 : Mm, m4 = stI M b2 x7.toNatClampNeg (x5 &&& (255 : Int64)).toInt32 →
    ∀ v5 : Int64, v5 = (x5.toUInt64 >>> ((8 : Int32).toInt64.toUInt64 &&& Int64.toUInt64 63)).toInt64 →
    ∀ v6 : Int32, v6 = x7 + (-1 : Int32) →
    BK7 v5 v6 m4))
set_option maxHeartbeats 4000000 in
set_option maxRecDepth 100000 in
theorem w_X11_unpacks_B7 {p : Program} {l : Launch} {e : Env} {s : State} {m : MethodId} {args : Array Value} {below : List Frame} {meth : Method} {c : Code} {g : Gg} {S : Ss} (a0 : Nat) (x3 : Int64) (x5 : Int64) (x7 : Int32) (M : Mm) (BK7 : Int64 → Int32 → Mm → Prop) (EK7 : Mm → Prop) (K : Mm → Prop) (E : EN p s m args meth c cX11_unpacks 10 none RX11 g) (hw : ad g 100000 < s.heap.size) (hs0 : S[a0]? = some (10, 0)) (hBK7 : ∀ (x5' : Int64) (x7' : Int32) (M' : Mm) (H : Heap) (locs : List Loc) (ls : Array Slot), BK7 x5' x7' M' → RP g S M' H → va_S (gA g) s.heap H locs → lv_has ls 10 [(0, .ref (ad g a0)), (3, .long x3), (5, .long x5'), (7, .int x7')] → W p l e (rmD 0) s m args below meth c H locs 0 0 (MQ below (QA g S (pV K)) args s 0 0 (gA g)) (F0 m 7 ls [])) (hEK7 : ∀ (M' : Mm) (H : Heap) (locs : List Loc) (ls : Array Slot), EK7 M' → RP g S M' H → va_S (gA g) s.heap H locs → lv_has ls 10 [(0, .ref (ad g a0)), (3, .long x3)] → W p l e (rmD 0) s m args below meth c H locs 0 0 (MQ below (QA g S (pV K)) args s 0 0 (gA g)) (F0 m 39 ls [])) (hf : f_X11_unpacks_B7 S a0 x3 x5 x7 M BK7 EK7 K) (H : Heap) (locs : List Loc) (ls : Array Slot) (hR : RP g S M H) (hS : va_S (gA g) s.heap H locs) (hl : lv_has ls 10 [(0, .ref (ad g a0)), (3, .long x3), (5, .long x5), (7, .int x7)]) : W p l e (rmD 0) s m args below meth c H locs 0 0 (MQ below (QA g S (pV K)) args s 0 0 (gA g)) (F0 m 7 ls []) := by
  have hx := E.1
  have hb := E.2.1
  unfold f_X11_unpacks_B7 at hf
  refine lv_iload hx hb dX11_unpacks_7 (lv_at hl 3 rfl) ?_
  refine lv_if_lt (tgt := 39) hx hb dX11_unpacks_9 (by decide) (fun c1 => ?_) (fun c1 => ?_)
  · replace hf := hf.1 c1
    exact hEK7  _ _ _ _ hf hR hS (lv_sub hl [0, 1] rfl)
  · replace hf := hf.2 c1
    refine lv_aload_n hx hb dX11_unpacks_12 rfl (lv_at hl 0 rfl) ?_
    obtain ⟨b2, hb2, hf⟩ := hf
    refine hw_getR E hR cI10 hs0 22 (by decide) lfX11_164 rfl hb2 dX11_unpacks_13 ?_
    refine lv_iload hx hb dX11_unpacks_16 (lv_at hl 3 rfl) ?_
    refine lv_lload hx hb dX11_unpacks_18 (lv_at hl 2 rfl) ?_
    refine lv_ldc2 (v := 255) hx hb E.2.2.2.2.1 (E.2.2.2.2.2.1 _ ljX11_231) dX11_unpacks_20 ?_
    refine lv_land hx hb dX11_unpacks_23 ?_
    refine lv_l2i hx hb dX11_unpacks_24 rfl ?_
    obtain ⟨n3, hn3, in3, hf⟩ := hf
    refine hw_iast E hR hS hw hn3 in3 dX11_unpacks_25 (fun m4 H locs em4 hR hS => ?_)
    replace hf := hf m4 em4
    refine lv_lload hx hb dX11_unpacks_26 (lv_at hl 2 rfl) ?_
    refine lv_bipush (v := 8) hx hb dX11_unpacks_28 (by decide) ?_
    refine lv_lushr hx hb dX11_unpacks_30 rfl ?_
    refine lv_topl (fun v5 ev5 => ?_)
    replace hf := hf v5 ev5
    refine lv_lstore (lv' := [(5, .long v5), (0, .ref (ad g a0)), (3, .long x3), (7, .int x7)]) hx hb dX11_unpacks_31 hl (by decide) rfl (fun ls hl => ?_)
    obtain ⟨v6, ev6⟩ : ∃ y : Int32, y = x7 + (-1 : Int32) := ⟨_, rfl⟩
    replace hf := hf v6 ev6
    refine lv_iinc (v := v6) (lv' := [(7, .int v6), (5, .long v5), (0, .ref (ad g a0)), (3, .long x3)]) hx hb dX11_unpacks_33 hl (k := 3) rfl (by rw [ev6]; rfl) (by decide) rfl (fun ls hl => ?_)
    refine lv_goto (tgt := 7) hx hb dX11_unpacks_36 (by decide) ?_
    exact hBK7 _ _ _ _ _ _ hf hR hS (lv_sub hl [2, 3, 1, 0] rfl)
def f_X11_unpacks_L7 (S : Ss) (a0 : Nat) (x3 : Int64) (EK7 : Mm → Prop) (K : Mm → Prop) : Nat → Int64 → Int32 → Mm → Prop
  | 0, _, _, _ => False
  | n + 1, x5, x7, M => f_X11_unpacks_B7 S a0 x3 x5 x7 M (fun (x5 : Int64) (x7 : Int32) (M : Mm) => f_X11_unpacks_L7 S a0 x3 EK7 K n x5 x7 M) EK7 K
set_option maxHeartbeats 4000000 in
set_option maxRecDepth 100000 in
theorem w_X11_unpacks_L7 {p : Program} {l : Launch} {e : Env} {s : State} {m : MethodId} {args : Array Value} {below : List Frame} {meth : Method} {c : Code} {g : Gg} {S : Ss} (a0 : Nat) (x3 : Int64) (EK7 : Mm → Prop) (K : Mm → Prop) (E : EN p s m args meth c cX11_unpacks 10 none RX11 g) (hw : ad g 100000 < s.heap.size) (hs0 : S[a0]? = some (10, 0)) (hEK7 : ∀ (M' : Mm) (H : Heap) (locs : List Loc) (ls : Array Slot), EK7 M' → RP g S M' H → va_S (gA g) s.heap H locs → lv_has ls 10 [(0, .ref (ad g a0)), (3, .long x3)] → W p l e (rmD 0) s m args below meth c H locs 0 0 (MQ below (QA g S (pV K)) args s 0 0 (gA g)) (F0 m 39 ls [])) : ∀ (n : Nat) (x5 : Int64) (x7 : Int32) (M : Mm), f_X11_unpacks_L7 S a0 x3 EK7 K n x5 x7 M → ∀ (H : Heap) (locs : List Loc) (ls : Array Slot), RP g S M H → va_S (gA g) s.heap H locs → lv_has ls 10 [(0, .ref (ad g a0)), (3, .long x3), (5, .long x5), (7, .int x7)] → W p l e (rmD 0) s m args below meth c H locs 0 0 (MQ below (QA g S (pV K)) args s 0 0 (gA g)) (F0 m 7 ls []) := by
  intro n
  induction n with
  | zero => intro x5 x7 M hf; exact hf.elim
  | succ n ih =>
    intro x5 x7 M hf H locs ls hR hS hl
    exact w_X11_unpacks_B7 _ _ _ _ _ _ _ _ E hw hs0 (fun _ _ M H locs ls h hR hS hl => ih _ _ M h H locs ls hR hS hl) hEK7 hf H locs ls hR hS hl
def f_X11_unpacks_B45 (S : Ss) (a0 : Nat) (x7 : Int64) (x9 : Int32) (M : Mm) (BK45 : Int64 → Int32 → Mm → Prop) (EK45 : Int64 → Mm → Prop) (K : Mm → Prop) : Prop :=
  ((x9 < 0 →
    EK45 x7 M) ∧
   (¬ x9 < 0 →
    ∃ b9 : Nat, M.2.2 a0 25 = some b9 ∧
    ∃ n10 : Nat, S[b9]? = some (50, n10) ∧ vp_in x9 n10 ∧
    ∀ m11 : Mm, m11 = stI M b9 x9.toNatClampNeg (x7 &&& (15 : Int64)).toInt32 →
    ∀ v12 : Int64, v12 = (x7 >>> ((4 : Int32).toInt64 &&& 63)) →
    ∀ v13 : Int32, v13 = x9 + (-1 : Int32) →
    BK45 v12 v13 m11))
set_option maxHeartbeats 4000000 in
set_option maxRecDepth 100000 in
theorem w_X11_unpacks_B45 {p : Program} {l : Launch} {e : Env} {s : State} {m : MethodId} {args : Array Value} {below : List Frame} {meth : Method} {c : Code} {g : Gg} {S : Ss} (a0 : Nat) (x7 : Int64) (x9 : Int32) (M : Mm) (BK45 : Int64 → Int32 → Mm → Prop) (EK45 : Int64 → Mm → Prop) (K : Mm → Prop) (E : EN p s m args meth c cX11_unpacks 10 none RX11 g) (hw : ad g 100000 < s.heap.size) (hs0 : S[a0]? = some (10, 0)) (hBK45 : ∀ (x7' : Int64) (x9' : Int32) (M' : Mm) (H : Heap) (locs : List Loc) (ls : Array Slot), BK45 x7' x9' M' → RP g S M' H → va_S (gA g) s.heap H locs → lv_has ls 10 [(0, .ref (ad g a0)), (7, .long x7'), (9, .int x9')] → W p l e (rmD 0) s m args below meth c H locs 0 0 (MQ below (QA g S (pV K)) args s 0 0 (gA g)) (F0 m 45 ls [])) (hEK45 : ∀ (x7' : Int64) (M' : Mm) (H : Heap) (locs : List Loc) (ls : Array Slot), EK45 x7' M' → RP g S M' H → va_S (gA g) s.heap H locs → lv_has ls 10 [(0, .ref (ad g a0)), (7, .long x7')] → W p l e (rmD 0) s m args below meth c H locs 0 0 (MQ below (QA g S (pV K)) args s 0 0 (gA g)) (F0 m 76 ls [])) (hf : f_X11_unpacks_B45 S a0 x7 x9 M BK45 EK45 K) (H : Heap) (locs : List Loc) (ls : Array Slot) (hR : RP g S M H) (hS : va_S (gA g) s.heap H locs) (hl : lv_has ls 10 [(0, .ref (ad g a0)), (7, .long x7), (9, .int x9)]) : W p l e (rmD 0) s m args below meth c H locs 0 0 (MQ below (QA g S (pV K)) args s 0 0 (gA g)) (F0 m 45 ls []) := by
  have hx := E.1
  have hb := E.2.1
  unfold f_X11_unpacks_B45 at hf
  refine lv_iload hx hb dX11_unpacks_45 (lv_at hl 2 rfl) ?_
  refine lv_if_lt (tgt := 76) hx hb dX11_unpacks_47 (by decide) (fun c8 => ?_) (fun c8 => ?_)
  · replace hf := hf.1 c8
    exact hEK45 _ _ _ _ _ hf hR hS (lv_sub hl [0, 1] rfl)
  · replace hf := hf.2 c8
    refine lv_aload_n hx hb dX11_unpacks_50 rfl (lv_at hl 0 rfl) ?_
    obtain ⟨b9, hb9, hf⟩ := hf
    refine hw_getR E hR cI10 hs0 25 (by decide) lfX11_145 rfl hb9 dX11_unpacks_51 ?_
    refine lv_iload hx hb dX11_unpacks_54 (lv_at hl 2 rfl) ?_
    refine lv_lload hx hb dX11_unpacks_56 (lv_at hl 1 rfl) ?_
    refine lv_ldc2 (v := 15) hx hb E.2.2.2.2.1 (E.2.2.2.2.2.1 _ ljX11_235) dX11_unpacks_58 ?_
    refine lv_land hx hb dX11_unpacks_61 ?_
    refine lv_l2i hx hb dX11_unpacks_62 rfl ?_
    obtain ⟨n10, hn10, in10, hf⟩ := hf
    refine hw_iast E hR hS hw hn10 in10 dX11_unpacks_63 (fun m11 H locs em11 hR hS => ?_)
    replace hf := hf m11 em11
    refine lv_lload hx hb dX11_unpacks_64 (lv_at hl 1 rfl) ?_
    refine lv_iconst (v := 4) hx hb dX11_unpacks_66 (by decide) ?_
    refine lv_lshr hx hb dX11_unpacks_67 rfl ?_
    refine lv_topl (fun v12 ev12 => ?_)
    replace hf := hf v12 ev12
    refine lv_lstore (lv' := [(7, .long v12), (0, .ref (ad g a0)), (9, .int x9)]) hx hb dX11_unpacks_68 hl (by decide) rfl (fun ls hl => ?_)
    obtain ⟨v13, ev13⟩ : ∃ y : Int32, y = x9 + (-1 : Int32) := ⟨_, rfl⟩
    replace hf := hf v13 ev13
    refine lv_iinc (v := v13) (lv' := [(9, .int v13), (7, .long v12), (0, .ref (ad g a0))]) hx hb dX11_unpacks_70 hl (k := 2) rfl (by rw [ev13]; rfl) (by decide) rfl (fun ls hl => ?_)
    refine lv_goto (tgt := 45) hx hb dX11_unpacks_73 (by decide) ?_
    exact hBK45 _ _ _ _ _ _ hf hR hS (lv_sub hl [2, 1, 0] rfl)
def f_X11_unpacks_L45 (S : Ss) (a0 : Nat) (EK45 : Int64 → Mm → Prop) (K : Mm → Prop) : Nat → Int64 → Int32 → Mm → Prop
  | 0, _, _, _ => False
  | n + 1, x7, x9, M => f_X11_unpacks_B45 S a0 x7 x9 M (fun (x7 : Int64) (x9 : Int32) (M : Mm) => f_X11_unpacks_L45 S a0 EK45 K n x7 x9 M) EK45 K
set_option maxHeartbeats 4000000 in
set_option maxRecDepth 100000 in
theorem w_X11_unpacks_L45 {p : Program} {l : Launch} {e : Env} {s : State} {m : MethodId} {args : Array Value} {below : List Frame} {meth : Method} {c : Code} {g : Gg} {S : Ss} (a0 : Nat) (EK45 : Int64 → Mm → Prop) (K : Mm → Prop) (E : EN p s m args meth c cX11_unpacks 10 none RX11 g) (hw : ad g 100000 < s.heap.size) (hs0 : S[a0]? = some (10, 0)) (hEK45 : ∀ (x7' : Int64) (M' : Mm) (H : Heap) (locs : List Loc) (ls : Array Slot), EK45 x7' M' → RP g S M' H → va_S (gA g) s.heap H locs → lv_has ls 10 [(0, .ref (ad g a0)), (7, .long x7')] → W p l e (rmD 0) s m args below meth c H locs 0 0 (MQ below (QA g S (pV K)) args s 0 0 (gA g)) (F0 m 76 ls [])) : ∀ (n : Nat) (x7 : Int64) (x9 : Int32) (M : Mm), f_X11_unpacks_L45 S a0 EK45 K n x7 x9 M → ∀ (H : Heap) (locs : List Loc) (ls : Array Slot), RP g S M H → va_S (gA g) s.heap H locs → lv_has ls 10 [(0, .ref (ad g a0)), (7, .long x7), (9, .int x9)] → W p l e (rmD 0) s m args below meth c H locs 0 0 (MQ below (QA g S (pV K)) args s 0 0 (gA g)) (F0 m 45 ls []) := by
  intro n
  induction n with
  | zero => intro x7 x9 M hf; exact hf.elim
  | succ n ih =>
    intro x7 x9 M hf H locs ls hR hS hl
    exact w_X11_unpacks_B45 _ _ _ _ _ _ _ E hw hs0 (fun _ _ M H locs ls h hR hS hl => ih _ _ M h H locs ls hR hS hl) hEK45 hf H locs ls hR hS hl
def f_X11_unpacks_B79 (S : Ss) (a0 : Nat) (x7 : Int64) (x9 : Int32) (M : Mm) (BK79 : Int64 → Int32 → Mm → Prop) (EK79 : Mm → Prop) (K : Mm → Prop) : Prop :=
  ((x9 < 0 →
    EK79 M) ∧
   (¬ x9 < 0 →
    ∃ b17 : Nat, M.2.2 a0 24 = some b17 ∧
    ∃ n18 : Nat, S[b17]? = some (50, n18) ∧ vp_in x9 n18 ∧
    ∀ m19 : Mm, m19 = stI M b17 x9.toNatClampNeg (x7 &&& (15 : Int64)).toInt32 →
    ∃ b20 : Nat, m19.2.2 a0 23 = some b20 ∧
    ∃ n21 : Nat, S[b20]? = some (50, n21) ∧ vp_in x9 n21 ∧
    ∀ m22 : Mm, m22 = stI m19 b20 x9.toNatClampNeg ((x7 >>> ((4 : Int32).toInt64 &&& 63)) &&& (3 : Int64)).toInt32 →
    ∀ v23 : Int64, v23 = (x7 >>> ((6 : Int32).toInt64 &&& 63)) →
    ∀ v24 : Int32, v24 = x9 + (-1 : Int32) →
    BK79 v23 v24 m22))
set_option maxHeartbeats 4000000 in
set_option maxRecDepth 100000 in
theorem w_X11_unpacks_B79 {p : Program} {l : Launch} {e : Env} {s : State} {m : MethodId} {args : Array Value} {below : List Frame} {meth : Method} {c : Code} {g : Gg} {S : Ss} (a0 : Nat) (x7 : Int64) (x9 : Int32) (M : Mm) (BK79 : Int64 → Int32 → Mm → Prop) (EK79 : Mm → Prop) (K : Mm → Prop) (E : EN p s m args meth c cX11_unpacks 10 none RX11 g) (hw : ad g 100000 < s.heap.size) (hs0 : S[a0]? = some (10, 0)) (hBK79 : ∀ (x7' : Int64) (x9' : Int32) (M' : Mm) (H : Heap) (locs : List Loc) (ls : Array Slot), BK79 x7' x9' M' → RP g S M' H → va_S (gA g) s.heap H locs → lv_has ls 10 [(0, .ref (ad g a0)), (7, .long x7'), (9, .int x9')] → W p l e (rmD 0) s m args below meth c H locs 0 0 (MQ below (QA g S (pV K)) args s 0 0 (gA g)) (F0 m 79 ls [])) (hEK79 : ∀ (M' : Mm) (H : Heap) (locs : List Loc) (ls : Array Slot), EK79 M' → RP g S M' H → va_S (gA g) s.heap H locs → lv_has ls 10 [] → W p l e (rmD 0) s m args below meth c H locs 0 0 (MQ below (QA g S (pV K)) args s 0 0 (gA g)) (F0 m 127 ls [])) (hf : f_X11_unpacks_B79 S a0 x7 x9 M BK79 EK79 K) (H : Heap) (locs : List Loc) (ls : Array Slot) (hR : RP g S M H) (hS : va_S (gA g) s.heap H locs) (hl : lv_has ls 10 [(0, .ref (ad g a0)), (7, .long x7), (9, .int x9)]) : W p l e (rmD 0) s m args below meth c H locs 0 0 (MQ below (QA g S (pV K)) args s 0 0 (gA g)) (F0 m 79 ls []) := by
  have hx := E.1
  have hb := E.2.1
  unfold f_X11_unpacks_B79 at hf
  refine lv_iload hx hb dX11_unpacks_79 (lv_at hl 2 rfl) ?_
  refine lv_if_lt (tgt := 127) hx hb dX11_unpacks_81 (by decide) (fun c16 => ?_) (fun c16 => ?_)
  · replace hf := hf.1 c16
    exact hEK79  _ _ _ _ hf hR hS (lv_sub hl [] rfl)
  · replace hf := hf.2 c16
    refine lv_aload_n hx hb dX11_unpacks_84 rfl (lv_at hl 0 rfl) ?_
    obtain ⟨b17, hb17, hf⟩ := hf
    refine hw_getR E hR cI10 hs0 24 (by decide) lfX11_167 rfl hb17 dX11_unpacks_85 ?_
    refine lv_iload hx hb dX11_unpacks_88 (lv_at hl 2 rfl) ?_
    refine lv_lload hx hb dX11_unpacks_90 (lv_at hl 1 rfl) ?_
    refine lv_ldc2 (v := 15) hx hb E.2.2.2.2.1 (E.2.2.2.2.2.1 _ ljX11_235) dX11_unpacks_92 ?_
    refine lv_land hx hb dX11_unpacks_95 ?_
    refine lv_l2i hx hb dX11_unpacks_96 rfl ?_
    obtain ⟨n18, hn18, in18, hf⟩ := hf
    refine hw_iast E hR hS hw hn18 in18 dX11_unpacks_97 (fun m19 H locs em19 hR hS => ?_)
    replace hf := hf m19 em19
    refine lv_aload_n hx hb dX11_unpacks_98 rfl (lv_at hl 0 rfl) ?_
    obtain ⟨b20, hb20, hf⟩ := hf
    refine hw_getR E hR cI10 hs0 23 (by decide) lfX11_170 rfl hb20 dX11_unpacks_99 ?_
    refine lv_iload hx hb dX11_unpacks_102 (lv_at hl 2 rfl) ?_
    refine lv_lload hx hb dX11_unpacks_104 (lv_at hl 1 rfl) ?_
    refine lv_iconst (v := 4) hx hb dX11_unpacks_106 (by decide) ?_
    refine lv_lshr hx hb dX11_unpacks_107 rfl ?_
    refine lv_ldc2 (v := 3) hx hb E.2.2.2.2.1 (E.2.2.2.2.2.1 _ ljX11_233) dX11_unpacks_108 ?_
    refine lv_land hx hb dX11_unpacks_111 ?_
    refine lv_l2i hx hb dX11_unpacks_112 rfl ?_
    obtain ⟨n21, hn21, in21, hf⟩ := hf
    refine hw_iast E hR hS hw hn21 in21 dX11_unpacks_113 (fun m22 H locs em22 hR hS => ?_)
    replace hf := hf m22 em22
    refine lv_lload hx hb dX11_unpacks_114 (lv_at hl 1 rfl) ?_
    refine lv_bipush (v := 6) hx hb dX11_unpacks_116 (by decide) ?_
    refine lv_lshr hx hb dX11_unpacks_118 rfl ?_
    refine lv_topl (fun v23 ev23 => ?_)
    replace hf := hf v23 ev23
    refine lv_lstore (lv' := [(7, .long v23), (0, .ref (ad g a0)), (9, .int x9)]) hx hb dX11_unpacks_119 hl (by decide) rfl (fun ls hl => ?_)
    obtain ⟨v24, ev24⟩ : ∃ y : Int32, y = x9 + (-1 : Int32) := ⟨_, rfl⟩
    replace hf := hf v24 ev24
    refine lv_iinc (v := v24) (lv' := [(9, .int v24), (7, .long v23), (0, .ref (ad g a0))]) hx hb dX11_unpacks_121 hl (k := 2) rfl (by rw [ev24]; rfl) (by decide) rfl (fun ls hl => ?_)
    refine lv_goto (tgt := 79) hx hb dX11_unpacks_124 (by decide) ?_
    exact hBK79 _ _ _ _ _ _ hf hR hS (lv_sub hl [2, 1, 0] rfl)
def f_X11_unpacks_L79 (S : Ss) (a0 : Nat) (EK79 : Mm → Prop) (K : Mm → Prop) : Nat → Int64 → Int32 → Mm → Prop
  | 0, _, _, _ => False
  | n + 1, x7, x9, M => f_X11_unpacks_B79 S a0 x7 x9 M (fun (x7 : Int64) (x9 : Int32) (M : Mm) => f_X11_unpacks_L79 S a0 EK79 K n x7 x9 M) EK79 K
set_option maxHeartbeats 4000000 in
set_option maxRecDepth 100000 in
theorem w_X11_unpacks_L79 {p : Program} {l : Launch} {e : Env} {s : State} {m : MethodId} {args : Array Value} {below : List Frame} {meth : Method} {c : Code} {g : Gg} {S : Ss} (a0 : Nat) (EK79 : Mm → Prop) (K : Mm → Prop) (E : EN p s m args meth c cX11_unpacks 10 none RX11 g) (hw : ad g 100000 < s.heap.size) (hs0 : S[a0]? = some (10, 0)) (hEK79 : ∀ (M' : Mm) (H : Heap) (locs : List Loc) (ls : Array Slot), EK79 M' → RP g S M' H → va_S (gA g) s.heap H locs → lv_has ls 10 [] → W p l e (rmD 0) s m args below meth c H locs 0 0 (MQ below (QA g S (pV K)) args s 0 0 (gA g)) (F0 m 127 ls [])) : ∀ (n : Nat) (x7 : Int64) (x9 : Int32) (M : Mm), f_X11_unpacks_L79 S a0 EK79 K n x7 x9 M → ∀ (H : Heap) (locs : List Loc) (ls : Array Slot), RP g S M H → va_S (gA g) s.heap H locs → lv_has ls 10 [(0, .ref (ad g a0)), (7, .long x7), (9, .int x9)] → W p l e (rmD 0) s m args below meth c H locs 0 0 (MQ below (QA g S (pV K)) args s 0 0 (gA g)) (F0 m 79 ls []) := by
  intro n
  induction n with
  | zero => intro x7 x9 M hf; exact hf.elim
  | succ n ih =>
    intro x7 x9 M hf H locs ls hR hS hl
    exact w_X11_unpacks_B79 _ _ _ _ _ _ _ E hw hs0 (fun _ _ M H locs ls h hR hS hl => ih _ _ M h H locs ls hR hS hl) hEK79 hf H locs ls hR hS hl
def f_X11_unpacks (S : Ss) (a0 : Nat) (x1 : Int64) (x3 : Int64) (M : Mm) (K : Mm → Prop) : Prop :=
  ∃ n28 : Nat, f_X11_unpacks_L7 S a0 x3 (fun (m7 : Mm) =>
    ∃ n27 : Nat, f_X11_unpacks_L45 S a0 (fun (v14 : Int64) (m15 : Mm) =>
      ∃ n26 : Nat, f_X11_unpacks_L79 S a0 (fun (m25 : Mm) =>
        K m25) K n26 v14 (3 : Int32) m15) K n27 x3 (3 : Int32) m7) K n28 x1 (7 : Int32) M
set_option maxHeartbeats 4000000 in
set_option maxRecDepth 100000 in
theorem ok_X11_unpacks {l : Launch} {g : Gg} {S : Ss} {a0 : Nat} {x1 : Int64} {x3 : Int64} {M : Mm} {K : Mm → Prop} (hs0 : S[a0]? = some (10, 0)) (hf : f_X11_unpacks S a0 x1 x3 M K) : MT l g S yX11_unpacks cX11_unpacks 10 none 0 [.ref (ad g a0), .long x1, .long x3] M (pV K) := by
  refine MT.of (by decide +kernel) (Nat.le_of_ble_eq_true rfl) ?_
  intro p e s m below meth c ls E hw hR hS hl
  have hl : lv_has ls 10 [(0, .ref (ad g a0)), (1, .long x1), (3, .long x3)] := hl
  generalize ([.ref (ad g a0), .long x1, .long x3] : List Value).toArray = args at E ⊢
  have E : EN p s m args meth c cX11_unpacks 10 none RX11 g := E
  have hx := E.1
  have hb := E.2.1
  unfold f_X11_unpacks at hf
  refine lv_lload_n hx hb dX11_unpacks_0 rfl (lv_at hl 1 rfl) ?_
  refine lv_lstore (lv' := [(5, .long x1), (0, .ref (ad g a0)), (1, .long x1), (3, .long x3)]) hx hb dX11_unpacks_1 hl (by decide) rfl (fun ls hl => ?_)
  refine lv_bipush (v := 7) hx hb dX11_unpacks_3 (by decide) ?_
  refine lv_istore (lv' := [(7, .int (7 : Int32)), (5, .long x1), (0, .ref (ad g a0)), (1, .long x1), (3, .long x3)]) hx hb dX11_unpacks_5 hl (by decide) rfl (fun ls hl => ?_)
  obtain ⟨n28, hf⟩ := hf
  refine w_X11_unpacks_L7 _ _ _ _ E hw hs0 ?_ n28 _ _ _ hf _ _ _ hR hS (lv_sub hl [2, 4, 1, 0] rfl)
  intro m7 H locs ls hf hR hS hl
  refine lv_lload_n hx hb dX11_unpacks_39 rfl (lv_at hl 1 rfl) ?_
  refine lv_lstore (lv' := [(7, .long x3), (0, .ref (ad g a0)), (3, .long x3)]) hx hb dX11_unpacks_40 hl (by decide) rfl (fun ls hl => ?_)
  refine lv_iconst (v := 3) hx hb dX11_unpacks_42 (by decide) ?_
  refine lv_istore (lv' := [(9, .int (3 : Int32)), (7, .long x3), (0, .ref (ad g a0)), (3, .long x3)]) hx hb dX11_unpacks_43 hl (by decide) rfl (fun ls hl => ?_)
  obtain ⟨n27, hf⟩ := hf
  refine w_X11_unpacks_L45 _ _ _ E hw hs0 ?_ n27 _ _ _ hf _ _ _ hR hS (lv_sub hl [2, 1, 0] rfl)
  intro v14 m15 H locs ls hf hR hS hl
  refine lv_iconst (v := 3) hx hb dX11_unpacks_76 (by decide) ?_
  refine lv_istore (lv' := [(9, .int (3 : Int32)), (0, .ref (ad g a0)), (7, .long v14)]) hx hb dX11_unpacks_77 hl (by decide) rfl (fun ls hl => ?_)
  obtain ⟨n26, hf⟩ := hf
  refine w_X11_unpacks_L79 _ _ _ E hw hs0 ?_ n26 _ _ _ hf _ _ _ hR hS (lv_sub hl [1, 2, 0] rfl)
  intro m25 H locs ls hf hR hS hl
  exact hw_vret E hR hS ⟨rfl, hf⟩ dX11_unpacks_127
def f_X11_remembers (S : Ss) (a0 : Nat) (M : Mm) (K : Mm → Prop) : Prop :=
  f_X11_packsSlots S a0  M (fun (r2 : Int64) (m1 : Mm) =>
    ∀ m3 : Mm, m3 = stJ m1 a0 45 r2 →
  f_X11_packsRest S a0  m3 (fun (r5 : Int64) (m4 : Mm) =>
    ∀ m6 : Mm, m6 = stJ m4 a0 46 r5 →
  ∀ m7 : Mm, m7 = stI m6 a0 47 (m6.1 a0 28) →
  ∀ m8 : Mm, m8 = stI m7 a0 48 (m7.1 a0 29) →
  ∀ m9 : Mm, m9 = stI m8 a0 49 (m8.1 a0 30) →
  ∀ m10 : Mm, m10 = stI m9 a0 50 (m9.1 a0 31) →
  K m10))
set_option maxHeartbeats 4000000 in
set_option maxRecDepth 100000 in
theorem ok_X11_remembers {l : Launch} {g : Gg} {S : Ss} {a0 : Nat} {M : Mm} {K : Mm → Prop} (hs0 : S[a0]? = some (10, 0)) (hf : f_X11_remembers S a0 M K) : MT l g S yX11_remembers cX11_remembers 1 none 1 [.ref (ad g a0)] M (pV K) := by
  refine MT.of (by decide +kernel) (Nat.le_of_ble_eq_true rfl) ?_
  intro p e s m below meth c ls E hw hR hS hl
  have hl : lv_has ls 1 [(0, .ref (ad g a0))] := hl
  generalize ([.ref (ad g a0)] : List Value).toArray = args at E ⊢
  have E : EN p s m args meth c cX11_remembers 1 none RX11 g := E
  have hx := E.1
  have hb := E.2.1
  unfold f_X11_remembers at hf
  refine lv_aload_n hx hb dX11_remembers_0 rfl (lv_at hl 0 rfl) ?_
  refine lv_aload_n hx hb dX11_remembers_1 rfl (lv_at hl 0 rfl) ?_
  refine hw_callV (d := 1) E hR hS (As := []) (rest := [.ref (ad g a0)]) cI10 hs0 rfl mcX11_packsSlots miX11_packsSlots lmX11_266 (ok_X11_packsSlots hs0 hf) rfl rfl (by decide) hl.1 (Nat.le_of_ble_eq_true rfl) dX11_remembers_2 (fun rr m1 H locs hp hR hS => ?_)
  obtain ⟨r2, rfl, hf⟩ := hp
  refine W.eq (g2 := F0 m 5 ls [.long r2, .ref (ad g a0)]) rfl ?_
  refine hw_putJ E hR hS hw cI10 hs0 45 (by decide) lfX11_270 rfl rfl dX11_remembers_5 (fun m3 H locs em3 hR hS => ?_)
  replace hf := hf m3 em3
  refine lv_aload_n hx hb dX11_remembers_8 rfl (lv_at hl 0 rfl) ?_
  refine lv_aload_n hx hb dX11_remembers_9 rfl (lv_at hl 0 rfl) ?_
  refine hw_callV (d := 1) E hR hS (As := []) (rest := [.ref (ad g a0)]) cI10 hs0 rfl mcX11_packsRest miX11_packsRest lmX11_274 (ok_X11_packsRest hs0 hf) rfl rfl (by decide) hl.1 (Nat.le_of_ble_eq_true rfl) dX11_remembers_10 (fun rr m4 H locs hp hR hS => ?_)
  obtain ⟨r5, rfl, hf⟩ := hp
  refine W.eq (g2 := F0 m 13 ls [.long r5, .ref (ad g a0)]) rfl ?_
  refine hw_putJ E hR hS hw cI10 hs0 46 (by decide) lfX11_277 rfl rfl dX11_remembers_13 (fun m6 H locs em6 hR hS => ?_)
  replace hf := hf m6 em6
  refine lv_aload_n hx hb dX11_remembers_16 rfl (lv_at hl 0 rfl) ?_
  refine lv_aload_n hx hb dX11_remembers_17 rfl (lv_at hl 0 rfl) ?_
  refine hw_getI E hR cI10 hs0 28 (by decide) lfX11_173 rfl dX11_remembers_18 ?_
  refine hw_putI E hR hS hw cI10 hs0 47 (by decide) lfX11_280 rfl (Or.inl rfl) dX11_remembers_21 (fun m7 H locs em7 hR hS => ?_)
  replace hf := hf m7 em7
  refine lv_aload_n hx hb dX11_remembers_24 rfl (lv_at hl 0 rfl) ?_
  refine lv_aload_n hx hb dX11_remembers_25 rfl (lv_at hl 0 rfl) ?_
  refine hw_getI E hR cI10 hs0 29 (by decide) lfX11_176 rfl dX11_remembers_26 ?_
  refine hw_putI E hR hS hw cI10 hs0 48 (by decide) lfX11_283 rfl (Or.inl rfl) dX11_remembers_29 (fun m8 H locs em8 hR hS => ?_)
  replace hf := hf m8 em8
  refine lv_aload_n hx hb dX11_remembers_32 rfl (lv_at hl 0 rfl) ?_
  refine lv_aload_n hx hb dX11_remembers_33 rfl (lv_at hl 0 rfl) ?_
  refine hw_getI E hR cI10 hs0 30 (by decide) lfX11_179 rfl dX11_remembers_34 ?_
  refine hw_putI E hR hS hw cI10 hs0 49 (by decide) lfX11_286 rfl (Or.inl rfl) dX11_remembers_37 (fun m9 H locs em9 hR hS => ?_)
  replace hf := hf m9 em9
  refine lv_aload_n hx hb dX11_remembers_40 rfl (lv_at hl 0 rfl) ?_
  refine lv_aload_n hx hb dX11_remembers_41 rfl (lv_at hl 0 rfl) ?_
  refine hw_getI E hR cI10 hs0 31 (by decide) lfX11_182 rfl dX11_remembers_42 ?_
  refine hw_putI E hR hS hw cI10 hs0 50 (by decide) lfX11_289 rfl (Or.inl rfl) dX11_remembers_45 (fun m10 H locs em10 hR hS => ?_)
  replace hf := hf m10 em10
  exact hw_vret E hR hS ⟨rfl, hf⟩ dX11_remembers_48
def f_X11_comesBack (S : Ss) (a0 : Nat) (M : Mm) (K : Mm → Prop) : Prop :=
  f_X11_unpacks S a0 (M.2.1 a0 45) (M.2.1 a0 46) M (fun (m1 : Mm) =>
    ∀ m2 : Mm, m2 = stI m1 a0 28 (m1.1 a0 47) →
  ∀ m3 : Mm, m3 = stI m2 a0 29 (m2.1 a0 48) →
  ∀ m4 : Mm, m4 = stI m3 a0 30 (m3.1 a0 49) →
  ∀ m5 : Mm, m5 = stI m4 a0 31 (m4.1 a0 50) →
  ∀ m6 : Mm, m6 = stI m5 a0 33 (0 : Int32) →
  K m6)
set_option maxHeartbeats 4000000 in
set_option maxRecDepth 100000 in
theorem ok_X11_comesBack {l : Launch} {g : Gg} {S : Ss} {a0 : Nat} {M : Mm} {K : Mm → Prop} (hs0 : S[a0]? = some (10, 0)) (hf : f_X11_comesBack S a0 M K) : MT l g S yX11_comesBack cX11_comesBack 1 none 1 [.ref (ad g a0)] M (pV K) := by
  refine MT.of (by decide +kernel) (Nat.le_of_ble_eq_true rfl) ?_
  intro p e s m below meth c ls E hw hR hS hl
  have hl : lv_has ls 1 [(0, .ref (ad g a0))] := hl
  generalize ([.ref (ad g a0)] : List Value).toArray = args at E ⊢
  have E : EN p s m args meth c cX11_comesBack 1 none RX11 g := E
  have hx := E.1
  have hb := E.2.1
  unfold f_X11_comesBack at hf
  refine lv_aload_n hx hb dX11_comesBack_0 rfl (lv_at hl 0 rfl) ?_
  refine lv_aload_n hx hb dX11_comesBack_1 rfl (lv_at hl 0 rfl) ?_
  refine hw_getJ E hR cI10 hs0 45 (by decide) lfX11_270 rfl dX11_comesBack_2 ?_
  refine lv_aload_n hx hb dX11_comesBack_5 rfl (lv_at hl 0 rfl) ?_
  refine hw_getJ E hR cI10 hs0 46 (by decide) lfX11_277 rfl dX11_comesBack_6 ?_
  refine hw_callV (d := 1) E hR hS (As := [.long (M.2.1 a0 45), .long (M.2.1 a0 46)]) (rest := []) cI10 hs0 rfl mcX11_unpacks miX11_unpacks lmX11_292 (ok_X11_unpacks hs0 hf) rfl rfl (by decide) hl.1 (Nat.le_of_ble_eq_true rfl) dX11_comesBack_9 (fun rr m1 H locs hp hR hS => ?_)
  obtain ⟨rfl, hf⟩ := hp
  refine W.eq (g2 := F0 m 12 ls []) rfl ?_
  refine lv_aload_n hx hb dX11_comesBack_12 rfl (lv_at hl 0 rfl) ?_
  refine lv_aload_n hx hb dX11_comesBack_13 rfl (lv_at hl 0 rfl) ?_
  refine hw_getI E hR cI10 hs0 47 (by decide) lfX11_280 rfl dX11_comesBack_14 ?_
  refine hw_putI E hR hS hw cI10 hs0 28 (by decide) lfX11_173 rfl (Or.inl rfl) dX11_comesBack_17 (fun m2 H locs em2 hR hS => ?_)
  replace hf := hf m2 em2
  refine lv_aload_n hx hb dX11_comesBack_20 rfl (lv_at hl 0 rfl) ?_
  refine lv_aload_n hx hb dX11_comesBack_21 rfl (lv_at hl 0 rfl) ?_
  refine hw_getI E hR cI10 hs0 48 (by decide) lfX11_283 rfl dX11_comesBack_22 ?_
  refine hw_putI E hR hS hw cI10 hs0 29 (by decide) lfX11_176 rfl (Or.inl rfl) dX11_comesBack_25 (fun m3 H locs em3 hR hS => ?_)
  replace hf := hf m3 em3
  refine lv_aload_n hx hb dX11_comesBack_28 rfl (lv_at hl 0 rfl) ?_
  refine lv_aload_n hx hb dX11_comesBack_29 rfl (lv_at hl 0 rfl) ?_
  refine hw_getI E hR cI10 hs0 49 (by decide) lfX11_286 rfl dX11_comesBack_30 ?_
  refine hw_putI E hR hS hw cI10 hs0 30 (by decide) lfX11_179 rfl (Or.inl rfl) dX11_comesBack_33 (fun m4 H locs em4 hR hS => ?_)
  replace hf := hf m4 em4
  refine lv_aload_n hx hb dX11_comesBack_36 rfl (lv_at hl 0 rfl) ?_
  refine lv_aload_n hx hb dX11_comesBack_37 rfl (lv_at hl 0 rfl) ?_
  refine hw_getI E hR cI10 hs0 50 (by decide) lfX11_289 rfl dX11_comesBack_38 ?_
  refine hw_putI E hR hS hw cI10 hs0 31 (by decide) lfX11_182 rfl (Or.inl rfl) dX11_comesBack_41 (fun m5 H locs em5 hR hS => ?_)
  replace hf := hf m5 em5
  refine lv_aload_n hx hb dX11_comesBack_44 rfl (lv_at hl 0 rfl) ?_
  refine lv_iconst (v := 0) hx hb dX11_comesBack_45 (by decide) ?_
  refine hw_putI E hR hS hw cI10 hs0 33 (by decide) lfX11_201 rfl (Or.inl rfl) dX11_comesBack_46 (fun m6 H locs em6 hR hS => ?_)
  replace hf := hf m6 em6
  exact hw_vret E hR hS ⟨rfl, hf⟩ dX11_comesBack_49
def f_X11_empties_B7 (S : Ss) (a0 : Nat) (x1 : Int32) (M : Mm) (BK7 : Int32 → Mm → Prop) (EK7 : Mm → Prop) (K : Mm → Prop) : Prop :=
  (((16384 : Int32) ≤ x1 →
    EK7 M) ∧
   (¬ (16384 : Int32) ≤ x1 →
    ∃ b3 : Nat, M.2.2 a0 43 = some b3 ∧
    ∃ n4 : Nat, S[b3]? = some (50, n4) ∧ vp_in x1 n4 ∧
    ∀ m5 : Mm, m5 = stI M b3 x1.toNatClampNeg (-1 : Int32) →
    ∀ v6 : Int32, v6 = x1 + (1 : Int32) →
    BK7 v6 m5))
set_option maxHeartbeats 4000000 in
set_option maxRecDepth 100000 in
theorem w_X11_empties_B7 {p : Program} {l : Launch} {e : Env} {s : State} {m : MethodId} {args : Array Value} {below : List Frame} {meth : Method} {c : Code} {g : Gg} {S : Ss} (a0 : Nat) (x1 : Int32) (M : Mm) (BK7 : Int32 → Mm → Prop) (EK7 : Mm → Prop) (K : Mm → Prop) (E : EN p s m args meth c cX11_empties 2 none RX11 g) (hw : ad g 100000 < s.heap.size) (hs0 : S[a0]? = some (10, 0)) (hBK7 : ∀ (x1' : Int32) (M' : Mm) (H : Heap) (locs : List Loc) (ls : Array Slot), BK7 x1' M' → RP g S M' H → va_S (gA g) s.heap H locs → lv_has ls 2 [(0, .ref (ad g a0)), (1, .int x1')] → W p l e (rmD 0) s m args below meth c H locs 0 0 (MQ below (QA g S (pV K)) args s 0 0 (gA g)) (F0 m 7 ls [])) (hEK7 : ∀ (M' : Mm) (H : Heap) (locs : List Loc) (ls : Array Slot), EK7 M' → RP g S M' H → va_S (gA g) s.heap H locs → lv_has ls 2 [] → W p l e (rmD 0) s m args below meth c H locs 0 0 (MQ below (QA g S (pV K)) args s 0 0 (gA g)) (F0 m 27 ls [])) (hf : f_X11_empties_B7 S a0 x1 M BK7 EK7 K) (H : Heap) (locs : List Loc) (ls : Array Slot) (hR : RP g S M H) (hS : va_S (gA g) s.heap H locs) (hl : lv_has ls 2 [(0, .ref (ad g a0)), (1, .int x1)]) : W p l e (rmD 0) s m args below meth c H locs 0 0 (MQ below (QA g S (pV K)) args s 0 0 (gA g)) (F0 m 7 ls []) := by
  have hx := E.1
  have hb := E.2.1
  unfold f_X11_empties_B7 at hf
  refine lv_iload_n hx hb dX11_empties_7 rfl (lv_at hl 1 rfl) ?_
  refine lv_sipush (v := 16384) hx hb dX11_empties_8 (by decide) ?_
  refine lv_icmp_ge (tgt := 27) hx hb dX11_empties_11 (by decide) (fun c2 => ?_) (fun c2 => ?_)
  · replace hf := hf.1 c2
    exact hEK7  _ _ _ _ hf hR hS (lv_sub hl [] rfl)
  · replace hf := hf.2 c2
    refine lv_aload_n hx hb dX11_empties_14 rfl (lv_at hl 0 rfl) ?_
    obtain ⟨b3, hb3, hf⟩ := hf
    refine hw_getR E hR cI10 hs0 43 (by decide) lfX11_299 rfl hb3 dX11_empties_15 ?_
    refine lv_iload_n hx hb dX11_empties_18 rfl (lv_at hl 1 rfl) ?_
    refine lv_iconst (v := -1) hx hb dX11_empties_19 (by decide) ?_
    obtain ⟨n4, hn4, in4, hf⟩ := hf
    refine hw_iast E hR hS hw hn4 in4 dX11_empties_20 (fun m5 H locs em5 hR hS => ?_)
    replace hf := hf m5 em5
    obtain ⟨v6, ev6⟩ : ∃ y : Int32, y = x1 + (1 : Int32) := ⟨_, rfl⟩
    replace hf := hf v6 ev6
    refine lv_iinc (v := v6) (lv' := [(1, .int v6), (0, .ref (ad g a0))]) hx hb dX11_empties_21 hl (k := 1) rfl (by rw [ev6]; rfl) (by decide) rfl (fun ls hl => ?_)
    refine lv_goto (tgt := 7) hx hb dX11_empties_24 (by decide) ?_
    exact hBK7 _ _ _ _ _ hf hR hS (lv_sub hl [1, 0] rfl)
def f_X11_empties_L7 (S : Ss) (a0 : Nat) (EK7 : Mm → Prop) (K : Mm → Prop) : Nat → Int32 → Mm → Prop
  | 0, _, _ => False
  | n + 1, x1, M => f_X11_empties_B7 S a0 x1 M (fun (x1 : Int32) (M : Mm) => f_X11_empties_L7 S a0 EK7 K n x1 M) EK7 K
set_option maxHeartbeats 4000000 in
set_option maxRecDepth 100000 in
theorem w_X11_empties_L7 {p : Program} {l : Launch} {e : Env} {s : State} {m : MethodId} {args : Array Value} {below : List Frame} {meth : Method} {c : Code} {g : Gg} {S : Ss} (a0 : Nat) (EK7 : Mm → Prop) (K : Mm → Prop) (E : EN p s m args meth c cX11_empties 2 none RX11 g) (hw : ad g 100000 < s.heap.size) (hs0 : S[a0]? = some (10, 0)) (hEK7 : ∀ (M' : Mm) (H : Heap) (locs : List Loc) (ls : Array Slot), EK7 M' → RP g S M' H → va_S (gA g) s.heap H locs → lv_has ls 2 [] → W p l e (rmD 0) s m args below meth c H locs 0 0 (MQ below (QA g S (pV K)) args s 0 0 (gA g)) (F0 m 27 ls [])) : ∀ (n : Nat) (x1 : Int32) (M : Mm), f_X11_empties_L7 S a0 EK7 K n x1 M → ∀ (H : Heap) (locs : List Loc) (ls : Array Slot), RP g S M H → va_S (gA g) s.heap H locs → lv_has ls 2 [(0, .ref (ad g a0)), (1, .int x1)] → W p l e (rmD 0) s m args below meth c H locs 0 0 (MQ below (QA g S (pV K)) args s 0 0 (gA g)) (F0 m 7 ls []) := by
  intro n
  induction n with
  | zero => intro x1 M hf; exact hf.elim
  | succ n ih =>
    intro x1 M hf H locs ls hR hS hl
    exact w_X11_empties_B7 _ _ _ _ _ _ E hw hs0 (fun _ M H locs ls h hR hS hl => ih _ M h H locs ls hR hS hl) hEK7 hf H locs ls hR hS hl
def f_X11_empties (S : Ss) (a0 : Nat) (M : Mm) (K : Mm → Prop) : Prop :=
  ∀ m1 : Mm, m1 = stI M a0 44 (0 : Int32) →
  ∃ n8 : Nat, f_X11_empties_L7 S a0 (fun (m7 : Mm) =>
    K m7) K n8 (0 : Int32) m1
set_option maxHeartbeats 4000000 in
set_option maxRecDepth 100000 in
theorem ok_X11_empties {l : Launch} {g : Gg} {S : Ss} {a0 : Nat} {M : Mm} {K : Mm → Prop} (hs0 : S[a0]? = some (10, 0)) (hf : f_X11_empties S a0 M K) : MT l g S yX11_empties cX11_empties 2 none 0 [.ref (ad g a0)] M (pV K) := by
  refine MT.of (by decide +kernel) (Nat.le_of_ble_eq_true rfl) ?_
  intro p e s m below meth c ls E hw hR hS hl
  have hl : lv_has ls 2 [(0, .ref (ad g a0))] := hl
  generalize ([.ref (ad g a0)] : List Value).toArray = args at E ⊢
  have E : EN p s m args meth c cX11_empties 2 none RX11 g := E
  have hx := E.1
  have hb := E.2.1
  unfold f_X11_empties at hf
  refine lv_aload_n hx hb dX11_empties_0 rfl (lv_at hl 0 rfl) ?_
  refine lv_iconst (v := 0) hx hb dX11_empties_1 (by decide) ?_
  refine hw_putI E hR hS hw cI10 hs0 44 (by decide) lfX11_296 rfl (Or.inl rfl) dX11_empties_2 (fun m1 H locs em1 hR hS => ?_)
  replace hf := hf m1 em1
  refine lv_iconst (v := 0) hx hb dX11_empties_5 (by decide) ?_
  refine lv_istore_n (lv' := [(1, .int (0 : Int32)), (0, .ref (ad g a0))]) hx hb dX11_empties_6 rfl hl (by decide) rfl (fun ls hl => ?_)
  obtain ⟨n8, hf⟩ := hf
  refine w_X11_empties_L7 _ _ _ E hw hs0 ?_ n8 _ _ hf _ _ _ hR hS (lv_sub hl [1, 0] rfl)
  intro m7 H locs ls hf hR hS hl
  exact hw_vret E hR hS ⟨rfl, hf⟩ dX11_empties_27
def f_X11_places (S : Ss) (x0 : Int64) (x2 : Int64) (M : Mm) (K : Int32 → Mm → Prop) : Prop :=
  ∀ v1 : Int64, v1 = ((x0 * (1000003 : Int64)) + (x2 * (7919 : Int64))) →
  ∀ v2 : Int64, v2 = (v1 ^^^ (v1.toUInt64 >>> ((29 : Int32).toInt64.toUInt64 &&& Int64.toUInt64 63)).toInt64) →
  ∀ v3 : Int64, v3 = (v2 * (1000000007 : Int64)) →
  K ((v3.toUInt64 >>> ((33 : Int32).toInt64.toUInt64 &&& Int64.toUInt64 63)).toInt64.toInt32 &&& (16383 : Int32)) M
set_option maxHeartbeats 4000000 in
set_option maxRecDepth 100000 in
theorem ok_X11_places {l : Launch} {g : Gg} {S : Ss} {x0 : Int64} {x2 : Int64} {M : Mm} {K : Int32 → Mm → Prop} (hf : f_X11_places S x0 x2 M K) : MT l g S yX11_places cX11_places 6 (some .int) 0 [.long x0, .long x2] M (pI K) := by
  refine MT.of (by decide +kernel) (Nat.le_of_ble_eq_true rfl) ?_
  intro p e s m below meth c ls E hw hR hS hl
  have hl : lv_has ls 6 [(0, .long x0), (2, .long x2)] := hl
  generalize ([.long x0, .long x2] : List Value).toArray = args at E ⊢
  have E : EN p s m args meth c cX11_places 6 (some .int) RX11 g := E
  have hx := E.1
  have hb := E.2.1
  unfold f_X11_places at hf
  refine lv_lload_n hx hb dX11_places_0 rfl (lv_at hl 0 rfl) ?_
  refine lv_ldc2 (v := 1000003) hx hb E.2.2.2.2.1 (E.2.2.2.2.2.1 _ ljX11_302) dX11_places_1 ?_
  refine lv_lmul hx hb dX11_places_4 ?_
  refine lv_lload_n hx hb dX11_places_5 rfl (lv_at hl 1 rfl) ?_
  refine lv_ldc2 (v := 7919) hx hb E.2.2.2.2.1 (E.2.2.2.2.2.1 _ ljX11_304) dX11_places_6 ?_
  refine lv_lmul hx hb dX11_places_9 ?_
  refine lv_ladd hx hb dX11_places_10 ?_
  refine lv_topl (fun v1 ev1 => ?_)
  replace hf := hf v1 ev1
  refine lv_lstore (lv' := [(4, .long v1), (0, .long x0), (2, .long x2)]) hx hb dX11_places_11 hl (by decide) rfl (fun ls hl => ?_)
  refine lv_lload hx hb dX11_places_13 (lv_at hl 0 rfl) ?_
  refine lv_lload hx hb dX11_places_15 (lv_at hl 0 rfl) ?_
  refine lv_bipush (v := 29) hx hb dX11_places_17 (by decide) ?_
  refine lv_lushr hx hb dX11_places_19 rfl ?_
  refine lv_lxor hx hb dX11_places_20 ?_
  refine lv_topl (fun v2 ev2 => ?_)
  replace hf := hf v2 ev2
  refine lv_lstore (lv' := [(4, .long v2), (0, .long x0), (2, .long x2)]) hx hb dX11_places_21 hl (by decide) rfl (fun ls hl => ?_)
  refine lv_lload hx hb dX11_places_23 (lv_at hl 0 rfl) ?_
  refine lv_ldc2 (v := 1000000007) hx hb E.2.2.2.2.1 (E.2.2.2.2.2.1 _ ljX11_306) dX11_places_25 ?_
  refine lv_lmul hx hb dX11_places_28 ?_
  refine lv_topl (fun v3 ev3 => ?_)
  replace hf := hf v3 ev3
  refine lv_lstore (lv' := [(4, .long v3), (0, .long x0), (2, .long x2)]) hx hb dX11_places_29 hl (by decide) rfl (fun ls hl => ?_)
  refine lv_lload hx hb dX11_places_31 (lv_at hl 0 rfl) ?_
  refine lv_bipush (v := 33) hx hb dX11_places_33 (by decide) ?_
  refine lv_lushr hx hb dX11_places_35 rfl ?_
  refine lv_l2i hx hb dX11_places_36 rfl ?_
  refine lv_sipush (v := 16383) hx hb dX11_places_37 (by decide) ?_
  refine lv_iand hx hb dX11_places_40 ?_
  exact hw_iret E hR hS ⟨_, rfl, hf⟩ dX11_places_41
def f_X11_placeOf_J51 (S : Ss) (a0 : Nat) (x1 : Int64) (x3 : Int64) (x5 : Int32) (M : Mm) (BK7 : Int32 → Mm → Prop) (K : Int32 → Mm → Prop) : Prop :=
  ∀ v11 : Int32, v11 = ((x5 + (1 : Int32)) &&& (16383 : Int32)) →
  BK7 v11 M
set_option maxHeartbeats 4000000 in
set_option maxRecDepth 100000 in
theorem w_X11_placeOf_J51 {p : Program} {l : Launch} {e : Env} {s : State} {m : MethodId} {args : Array Value} {below : List Frame} {meth : Method} {c : Code} {g : Gg} {S : Ss} (a0 : Nat) (x1 : Int64) (x3 : Int64) (x5 : Int32) (M : Mm) (BK7 : Int32 → Mm → Prop) (K : Int32 → Mm → Prop) (E : EN p s m args meth c cX11_placeOf 6 (some .int) RX11 g) (hw : ad g 100000 < s.heap.size) (hs0 : S[a0]? = some (10, 0)) (hBK7 : ∀ (x5' : Int32) (M' : Mm) (H : Heap) (locs : List Loc) (ls : Array Slot), BK7 x5' M' → RP g S M' H → va_S (gA g) s.heap H locs → lv_has ls 6 [(0, .ref (ad g a0)), (1, .long x1), (3, .long x3), (5, .int x5')] → W p l e (rmD 1) s m args below meth c H locs 0 0 (MQ below (QA g S (pI K)) args s 0 0 (gA g)) (F0 m 7 ls [])) (hf : f_X11_placeOf_J51 S a0 x1 x3 x5 M BK7 K) (H : Heap) (locs : List Loc) (ls : Array Slot) (hR : RP g S M H) (hS : va_S (gA g) s.heap H locs) (hl : lv_has ls 6 [(0, .ref (ad g a0)), (1, .long x1), (3, .long x3), (5, .int x5)]) : W p l e (rmD 1) s m args below meth c H locs 0 0 (MQ below (QA g S (pI K)) args s 0 0 (gA g)) (F0 m 51 ls []) := by
  have hx := E.1
  have hb := E.2.1
  unfold f_X11_placeOf_J51 at hf
  refine lv_iload hx hb dX11_placeOf_51 (lv_at hl 3 rfl) ?_
  refine lv_iconst (v := 1) hx hb dX11_placeOf_53 (by decide) ?_
  refine lv_iadd hx hb dX11_placeOf_54 ?_
  refine lv_sipush (v := 16383) hx hb dX11_placeOf_55 (by decide) ?_
  refine lv_iand hx hb dX11_placeOf_58 ?_
  refine lv_topi (fun v11 ev11 => ?_)
  replace hf := hf v11 ev11
  refine lv_istore (lv' := [(5, .int v11), (0, .ref (ad g a0)), (1, .long x1), (3, .long x3)]) hx hb dX11_placeOf_59 hl (by decide) rfl (fun ls hl => ?_)
  refine lv_goto (tgt := 7) hx hb dX11_placeOf_61 (by decide) ?_
  exact hBK7 _ _ _ _ _ hf hR hS (lv_sub hl [1, 2, 3, 0] rfl)
def f_X11_placeOf_B7 (S : Ss) (a0 : Nat) (x1 : Int64) (x3 : Int64) (x5 : Int32) (M : Mm) (BK7 : Int32 → Mm → Prop) (EK7 : Int32 → Mm → Prop) (K : Int32 → Mm → Prop) : Prop :=
  ∃ b3 : Nat, M.2.2 a0 43 = some b3 ∧
  ∃ n4 : Nat, shp S b3 = some (50, n4) ∧ vp_in x5 n4 ∧
  (((M.1 b3 x5.toNatClampNeg) < 0 →
    EK7 x5 M) ∧
   (¬ (M.1 b3 x5.toNatClampNeg) < 0 →
    ∃ b6 : Nat, M.2.2 a0 38 = some b6 ∧
    ∃ b7 : Nat, M.2.2 a0 43 = some b7 ∧
    ∃ n8 : Nat, shp S b7 = some (50, n8) ∧ vp_in x5 n8 ∧
    ∃ n9 : Nat, S[b6]? = some (53, n9) ∧ vp_in (M.1 b7 x5.toNatClampNeg) n9 ∧
    (((M.2.1 b6 (M.1 b7 x5.toNatClampNeg).toNatClampNeg) = x1 →
      ∃ b12 : Nat, M.2.2 a0 39 = some b12 ∧
      ∃ b13 : Nat, M.2.2 a0 43 = some b13 ∧
      ∃ n14 : Nat, shp S b13 = some (50, n14) ∧ vp_in x5 n14 ∧
      ∃ n15 : Nat, S[b12]? = some (53, n15) ∧ vp_in (M.1 b13 x5.toNatClampNeg) n15 ∧
      (((M.2.1 b12 (M.1 b13 x5.toNatClampNeg).toNatClampNeg) = x3 →
        EK7 x5 M) ∧
       (¬ (M.2.1 b12 (M.1 b13 x5.toNatClampNeg).toNatClampNeg) = x3 →
        f_X11_placeOf_J51 S a0 x1 x3 x5 M BK7 K))) ∧
     (¬ (M.2.1 b6 (M.1 b7 x5.toNatClampNeg).toNatClampNeg) = x1 →
      f_X11_placeOf_J51 S a0 x1 x3 x5 M BK7 K))))
set_option maxHeartbeats 4000000 in
set_option maxRecDepth 100000 in
theorem w_X11_placeOf_B7 {p : Program} {l : Launch} {e : Env} {s : State} {m : MethodId} {args : Array Value} {below : List Frame} {meth : Method} {c : Code} {g : Gg} {S : Ss} (a0 : Nat) (x1 : Int64) (x3 : Int64) (x5 : Int32) (M : Mm) (BK7 : Int32 → Mm → Prop) (EK7 : Int32 → Mm → Prop) (K : Int32 → Mm → Prop) (E : EN p s m args meth c cX11_placeOf 6 (some .int) RX11 g) (hw : ad g 100000 < s.heap.size) (hs0 : S[a0]? = some (10, 0)) (hBK7 : ∀ (x5' : Int32) (M' : Mm) (H : Heap) (locs : List Loc) (ls : Array Slot), BK7 x5' M' → RP g S M' H → va_S (gA g) s.heap H locs → lv_has ls 6 [(0, .ref (ad g a0)), (1, .long x1), (3, .long x3), (5, .int x5')] → W p l e (rmD 1) s m args below meth c H locs 0 0 (MQ below (QA g S (pI K)) args s 0 0 (gA g)) (F0 m 7 ls [])) (hEK7 : ∀ (x5' : Int32) (M' : Mm) (H : Heap) (locs : List Loc) (ls : Array Slot), EK7 x5' M' → RP g S M' H → va_S (gA g) s.heap H locs → lv_has ls 6 [(0, .ref (ad g a0)), (1, .long x1), (3, .long x3), (5, .int x5')] → W p l e (rmD 1) s m args below meth c H locs 0 0 (MQ below (QA g S (pI K)) args s 0 0 (gA g)) (F0 m 64 ls [])) (hf : f_X11_placeOf_B7 S a0 x1 x3 x5 M BK7 EK7 K) (H : Heap) (locs : List Loc) (ls : Array Slot) (hR : RP g S M H) (hS : va_S (gA g) s.heap H locs) (hl : lv_has ls 6 [(0, .ref (ad g a0)), (1, .long x1), (3, .long x3), (5, .int x5)]) : W p l e (rmD 1) s m args below meth c H locs 0 0 (MQ below (QA g S (pI K)) args s 0 0 (gA g)) (F0 m 7 ls []) := by
  have hx := E.1
  have hb := E.2.1
  unfold f_X11_placeOf_B7 at hf
  refine lv_aload_n hx hb dX11_placeOf_7 rfl (lv_at hl 0 rfl) ?_
  obtain ⟨b3, hb3, hf⟩ := hf
  refine hw_getR E hR cI10 hs0 43 (by decide) lfX11_299 rfl hb3 dX11_placeOf_8 ?_
  refine lv_iload hx hb dX11_placeOf_11 (lv_at hl 3 rfl) ?_
  obtain ⟨n4, hn4, in4, hf⟩ := hf
  refine hw_iald E hR hS hn4 in4 dX11_placeOf_13 ?_
  refine lv_if_lt (tgt := 64) hx hb dX11_placeOf_14 (by decide) (fun c5 => ?_) (fun c5 => ?_)
  · replace hf := hf.1 c5
    exact hEK7 _ _ _ _ _ hf hR hS (lv_sub hl [0, 1, 2, 3] rfl)
  · replace hf := hf.2 c5
    refine lv_aload_n hx hb dX11_placeOf_17 rfl (lv_at hl 0 rfl) ?_
    obtain ⟨b6, hb6, hf⟩ := hf
    refine hw_getR E hR cI10 hs0 38 (by decide) lfX11_312 rfl hb6 dX11_placeOf_18 ?_
    refine lv_aload_n hx hb dX11_placeOf_21 rfl (lv_at hl 0 rfl) ?_
    obtain ⟨b7, hb7, hf⟩ := hf
    refine hw_getR E hR cI10 hs0 43 (by decide) lfX11_299 rfl hb7 dX11_placeOf_22 ?_
    refine lv_iload hx hb dX11_placeOf_25 (lv_at hl 3 rfl) ?_
    obtain ⟨n8, hn8, in8, hf⟩ := hf
    refine hw_iald E hR hS hn8 in8 dX11_placeOf_27 ?_
    obtain ⟨n9, hn9, in9, hf⟩ := hf
    refine hw_lald E hR hn9 in9 dX11_placeOf_28 ?_
    refine lv_lload_n hx hb dX11_placeOf_29 rfl (lv_at hl 1 rfl) ?_
    refine hw_lif_ne (tgt := 51) hx hb dX11_placeOf_30 dX11_placeOf_31 (by decide) (fun c10 => ?_) (fun c10 => ?_)
    · replace hf := hf.2 c10
      exact w_X11_placeOf_J51 _ _ _ _ _ _ _ E hw hs0 hBK7 hf _ _ _ hR hS (lv_sub hl [0, 1, 2, 3] rfl)
    · replace hf := hf.1 c10
      refine lv_aload_n hx hb dX11_placeOf_34 rfl (lv_at hl 0 rfl) ?_
      obtain ⟨b12, hb12, hf⟩ := hf
      refine hw_getR E hR cI10 hs0 39 (by decide) lfX11_315 rfl hb12 dX11_placeOf_35 ?_
      refine lv_aload_n hx hb dX11_placeOf_38 rfl (lv_at hl 0 rfl) ?_
      obtain ⟨b13, hb13, hf⟩ := hf
      refine hw_getR E hR cI10 hs0 43 (by decide) lfX11_299 rfl hb13 dX11_placeOf_39 ?_
      refine lv_iload hx hb dX11_placeOf_42 (lv_at hl 3 rfl) ?_
      obtain ⟨n14, hn14, in14, hf⟩ := hf
      refine hw_iald E hR hS hn14 in14 dX11_placeOf_44 ?_
      obtain ⟨n15, hn15, in15, hf⟩ := hf
      refine hw_lald E hR hn15 in15 dX11_placeOf_45 ?_
      refine lv_lload_n hx hb dX11_placeOf_46 rfl (lv_at hl 2 rfl) ?_
      refine hw_lif_eq (tgt := 64) hx hb dX11_placeOf_47 dX11_placeOf_48 (by decide) (fun c16 => ?_) (fun c16 => ?_)
      · replace hf := hf.1 c16
        exact hEK7 _ _ _ _ _ hf hR hS (lv_sub hl [0, 1, 2, 3] rfl)
      · replace hf := hf.2 c16
        exact w_X11_placeOf_J51 _ _ _ _ _ _ _ E hw hs0 hBK7 hf _ _ _ hR hS (lv_sub hl [0, 1, 2, 3] rfl)
def f_X11_placeOf_L7 (S : Ss) (a0 : Nat) (x1 : Int64) (x3 : Int64) (EK7 : Int32 → Mm → Prop) (K : Int32 → Mm → Prop) : Nat → Int32 → Mm → Prop
  | 0, _, _ => False
  | n + 1, x5, M => f_X11_placeOf_B7 S a0 x1 x3 x5 M (fun (x5 : Int32) (M : Mm) => f_X11_placeOf_L7 S a0 x1 x3 EK7 K n x5 M) EK7 K
set_option maxHeartbeats 4000000 in
set_option maxRecDepth 100000 in
theorem w_X11_placeOf_L7 {p : Program} {l : Launch} {e : Env} {s : State} {m : MethodId} {args : Array Value} {below : List Frame} {meth : Method} {c : Code} {g : Gg} {S : Ss} (a0 : Nat) (x1 : Int64) (x3 : Int64) (EK7 : Int32 → Mm → Prop) (K : Int32 → Mm → Prop) (E : EN p s m args meth c cX11_placeOf 6 (some .int) RX11 g) (hw : ad g 100000 < s.heap.size) (hs0 : S[a0]? = some (10, 0)) (hEK7 : ∀ (x5' : Int32) (M' : Mm) (H : Heap) (locs : List Loc) (ls : Array Slot), EK7 x5' M' → RP g S M' H → va_S (gA g) s.heap H locs → lv_has ls 6 [(0, .ref (ad g a0)), (1, .long x1), (3, .long x3), (5, .int x5')] → W p l e (rmD 1) s m args below meth c H locs 0 0 (MQ below (QA g S (pI K)) args s 0 0 (gA g)) (F0 m 64 ls [])) : ∀ (n : Nat) (x5 : Int32) (M : Mm), f_X11_placeOf_L7 S a0 x1 x3 EK7 K n x5 M → ∀ (H : Heap) (locs : List Loc) (ls : Array Slot), RP g S M H → va_S (gA g) s.heap H locs → lv_has ls 6 [(0, .ref (ad g a0)), (1, .long x1), (3, .long x3), (5, .int x5)] → W p l e (rmD 1) s m args below meth c H locs 0 0 (MQ below (QA g S (pI K)) args s 0 0 (gA g)) (F0 m 7 ls []) := by
  intro n
  induction n with
  | zero => intro x5 M hf; exact hf.elim
  | succ n ih =>
    intro x5 M hf H locs ls hR hS hl
    exact w_X11_placeOf_B7 _ _ _ _ _ _ _ _ E hw hs0 (fun _ M H locs ls h hR hS hl => ih _ M h H locs ls hR hS hl) hEK7 hf H locs ls hR hS hl
def f_X11_placeOf (S : Ss) (a0 : Nat) (x1 : Int64) (x3 : Int64) (M : Mm) (K : Int32 → Mm → Prop) : Prop :=
  f_X11_places S  x1 x3 M (fun (r2 : Int32) (m1 : Mm) =>
    ∃ n36 : Nat, f_X11_placeOf_L7 S a0 x1 x3 (fun (v17 : Int32) (m18 : Mm) =>
    ∃ b19 : Nat, m18.2.2 a0 43 = some b19 ∧
    ∃ n20 : Nat, shp S b19 = some (50, n20) ∧ vp_in v17 n20 ∧
    ((0 ≤ (m18.1 b19 v17.toNatClampNeg) →
      ∃ b22 : Nat, m18.2.2 a0 43 = some b22 ∧
      ∃ n23 : Nat, shp S b22 = some (50, n23) ∧ vp_in v17 n23 ∧
      K (m18.1 b22 v17.toNatClampNeg) m18) ∧
     (¬ 0 ≤ (m18.1 b19 v17.toNatClampNeg) →
      ∃ b24 : Nat, m18.2.2 a0 38 = some b24 ∧
      ∃ n25 : Nat, S[b24]? = some (53, n25) ∧ vp_in (m18.1 a0 44) n25 ∧
      ∀ m26 : Mm, m26 = stJ m18 b24 (m18.1 a0 44).toNatClampNeg x1 →
      ∃ b27 : Nat, m26.2.2 a0 39 = some b27 ∧
      ∃ n28 : Nat, S[b27]? = some (53, n28) ∧ vp_in (m26.1 a0 44) n28 ∧
      ∀ m29 : Mm, m29 = stJ m26 b27 (m26.1 a0 44).toNatClampNeg x3 →
      ∃ b30 : Nat, m29.2.2 a0 43 = some b30 ∧
      ∃ n31 : Nat, S[b30]? = some (50, n31) ∧ vp_in v17 n31 ∧
      ∀ m32 : Mm, m32 = stI m29 b30 v17.toNatClampNeg (m29.1 a0 44) →
      ∀ m33 : Mm, m33 = stI m32 a0 44 ((m32.1 a0 44) + (1 : Int32)) →
      ∃ b34 : Nat, m33.2.2 a0 43 = some b34 ∧
      ∃ n35 : Nat, shp S b34 = some (50, n35) ∧ vp_in v17 n35 ∧
      K (m33.1 b34 v17.toNatClampNeg) m33))) K n36 r2 m1)
set_option maxHeartbeats 4000000 in
set_option maxRecDepth 100000 in
theorem ok_X11_placeOf {l : Launch} {g : Gg} {S : Ss} {a0 : Nat} {x1 : Int64} {x3 : Int64} {M : Mm} {K : Int32 → Mm → Prop} (hs0 : S[a0]? = some (10, 0)) (hf : f_X11_placeOf S a0 x1 x3 M K) : MT l g S yX11_placeOf cX11_placeOf 6 (some .int) 1 [.ref (ad g a0), .long x1, .long x3] M (pI K) := by
  refine MT.of (by decide +kernel) (Nat.le_of_ble_eq_true rfl) ?_
  intro p e s m below meth c ls E hw hR hS hl
  have hl : lv_has ls 6 [(0, .ref (ad g a0)), (1, .long x1), (3, .long x3)] := hl
  generalize ([.ref (ad g a0), .long x1, .long x3] : List Value).toArray = args at E ⊢
  have E : EN p s m args meth c cX11_placeOf 6 (some .int) RX11 g := E
  have hx := E.1
  have hb := E.2.1
  unfold f_X11_placeOf at hf
  refine lv_lload_n hx hb dX11_placeOf_0 rfl (lv_at hl 1 rfl) ?_
  refine lv_lload_n hx hb dX11_placeOf_1 rfl (lv_at hl 2 rfl) ?_
  refine hw_callS (d := 1) E hR hS (As := [.long x1, .long x3]) (rest := []) mcX11_places msX11_places lmX11_308 (ok_X11_places  hf) rfl rfl (by decide) hl.1 (Nat.le_of_ble_eq_true rfl) dX11_placeOf_2 (fun rr m1 H locs hp hR hS => ?_)
  obtain ⟨r2, rfl, hf⟩ := hp
  refine W.eq (g2 := F0 m 5 ls [.int r2]) rfl ?_
  refine lv_istore (lv' := [(5, .int r2), (0, .ref (ad g a0)), (1, .long x1), (3, .long x3)]) hx hb dX11_placeOf_5 hl (by decide) rfl (fun ls hl => ?_)
  obtain ⟨n36, hf⟩ := hf
  refine w_X11_placeOf_L7 _ _ _ _ _ E hw hs0 ?_ n36 _ _ hf _ _ _ hR hS (lv_sub hl [1, 2, 3, 0] rfl)
  intro v17 m18 H locs ls hf hR hS hl
  refine lv_aload_n hx hb dX11_placeOf_64 rfl (lv_at hl 0 rfl) ?_
  obtain ⟨b19, hb19, hf⟩ := hf
  refine hw_getR E hR cI10 hs0 43 (by decide) lfX11_299 rfl hb19 dX11_placeOf_65 ?_
  refine lv_iload hx hb dX11_placeOf_68 (lv_at hl 3 rfl) ?_
  obtain ⟨n20, hn20, in20, hf⟩ := hf
  refine hw_iald E hR hS hn20 in20 dX11_placeOf_70 ?_
  refine lv_if_ge (tgt := 115) hx hb dX11_placeOf_71 (by decide) (fun c21 => ?_) (fun c21 => ?_)
  · replace hf := hf.1 c21
    refine lv_aload_n hx hb dX11_placeOf_115 rfl (lv_at hl 0 rfl) ?_
    obtain ⟨b22, hb22, hf⟩ := hf
    refine hw_getR E hR cI10 hs0 43 (by decide) lfX11_299 rfl hb22 dX11_placeOf_116 ?_
    refine lv_iload hx hb dX11_placeOf_119 (lv_at hl 3 rfl) ?_
    obtain ⟨n23, hn23, in23, hf⟩ := hf
    refine hw_iald E hR hS hn23 in23 dX11_placeOf_121 ?_
    exact hw_iret E hR hS ⟨_, rfl, hf⟩ dX11_placeOf_122
  · replace hf := hf.2 c21
    refine lv_aload_n hx hb dX11_placeOf_74 rfl (lv_at hl 0 rfl) ?_
    obtain ⟨b24, hb24, hf⟩ := hf
    refine hw_getR E hR cI10 hs0 38 (by decide) lfX11_312 rfl hb24 dX11_placeOf_75 ?_
    refine lv_aload_n hx hb dX11_placeOf_78 rfl (lv_at hl 0 rfl) ?_
    refine hw_getI E hR cI10 hs0 44 (by decide) lfX11_296 rfl dX11_placeOf_79 ?_
    refine lv_lload_n hx hb dX11_placeOf_82 rfl (lv_at hl 1 rfl) ?_
    obtain ⟨n25, hn25, in25, hf⟩ := hf
    refine hw_last E hR hS hw hn25 in25 dX11_placeOf_83 (fun m26 H locs em26 hR hS => ?_)
    replace hf := hf m26 em26
    refine lv_aload_n hx hb dX11_placeOf_84 rfl (lv_at hl 0 rfl) ?_
    obtain ⟨b27, hb27, hf⟩ := hf
    refine hw_getR E hR cI10 hs0 39 (by decide) lfX11_315 rfl hb27 dX11_placeOf_85 ?_
    refine lv_aload_n hx hb dX11_placeOf_88 rfl (lv_at hl 0 rfl) ?_
    refine hw_getI E hR cI10 hs0 44 (by decide) lfX11_296 rfl dX11_placeOf_89 ?_
    refine lv_lload_n hx hb dX11_placeOf_92 rfl (lv_at hl 2 rfl) ?_
    obtain ⟨n28, hn28, in28, hf⟩ := hf
    refine hw_last E hR hS hw hn28 in28 dX11_placeOf_93 (fun m29 H locs em29 hR hS => ?_)
    replace hf := hf m29 em29
    refine lv_aload_n hx hb dX11_placeOf_94 rfl (lv_at hl 0 rfl) ?_
    obtain ⟨b30, hb30, hf⟩ := hf
    refine hw_getR E hR cI10 hs0 43 (by decide) lfX11_299 rfl hb30 dX11_placeOf_95 ?_
    refine lv_iload hx hb dX11_placeOf_98 (lv_at hl 3 rfl) ?_
    refine lv_aload_n hx hb dX11_placeOf_100 rfl (lv_at hl 0 rfl) ?_
    refine hw_getI E hR cI10 hs0 44 (by decide) lfX11_296 rfl dX11_placeOf_101 ?_
    obtain ⟨n31, hn31, in31, hf⟩ := hf
    refine hw_iast E hR hS hw hn31 in31 dX11_placeOf_104 (fun m32 H locs em32 hR hS => ?_)
    replace hf := hf m32 em32
    refine lv_aload_n hx hb dX11_placeOf_105 rfl (lv_at hl 0 rfl) ?_
    refine lv_dup hx hb dX11_placeOf_106 rfl ?_
    refine hw_getI E hR cI10 hs0 44 (by decide) lfX11_296 rfl dX11_placeOf_107 ?_
    refine lv_iconst (v := 1) hx hb dX11_placeOf_110 (by decide) ?_
    refine lv_iadd hx hb dX11_placeOf_111 ?_
    refine hw_putI E hR hS hw cI10 hs0 44 (by decide) lfX11_296 rfl (Or.inl rfl) dX11_placeOf_112 (fun m33 H locs em33 hR hS => ?_)
    replace hf := hf m33 em33
    refine lv_aload_n hx hb dX11_placeOf_115 rfl (lv_at hl 0 rfl) ?_
    obtain ⟨b34, hb34, hf⟩ := hf
    refine hw_getR E hR cI10 hs0 43 (by decide) lfX11_299 rfl hb34 dX11_placeOf_116 ?_
    refine lv_iload hx hb dX11_placeOf_119 (lv_at hl 3 rfl) ?_
    obtain ⟨n35, hn35, in35, hf⟩ := hf
    refine hw_iald E hR hS hn35 in35 dX11_placeOf_121 ?_
    exact hw_iret E hR hS ⟨_, rfl, hf⟩ dX11_placeOf_122
def f_X11_goesTo (S : Ss) (a0 : Nat) (x1 : Int32) (x2 : Int32) (M : Mm) (K : Mm → Prop) : Prop :=
  ∃ b1 : Nat, M.2.2 a0 38 = some b1 ∧
  ∃ n2 : Nat, S[b1]? = some (53, n2) ∧ vp_in x1 n2 ∧
  ∃ b3 : Nat, M.2.2 a0 39 = some b3 ∧
  ∃ n4 : Nat, S[b3]? = some (53, n4) ∧ vp_in x1 n4 ∧
  f_X11_unpacks S a0 (M.2.1 b1 x1.toNatClampNeg) (M.2.1 b3 x1.toNatClampNeg) M (fun (m5 : Mm) =>
    ¬ ((m5.1 a0 27) + (1 : Int32)) = 0 ∧
  ¬ ((m5.1 a0 27) + (1 : Int32)) = 0 ∧
  f_X11_does S a0 (x2 / ((m5.1 a0 27) + (1 : Int32))) (x2 - x2 / ((m5.1 a0 27) + (1 : Int32)) * ((m5.1 a0 27) + (1 : Int32))) m5 (fun (m8 : Mm) =>
    K m8))
set_option maxHeartbeats 4000000 in
set_option maxRecDepth 100000 in
theorem ok_X11_goesTo {l : Launch} {g : Gg} {S : Ss} {a0 : Nat} {x1 : Int32} {x2 : Int32} {M : Mm} {K : Mm → Prop} (hs0 : S[a0]? = some (10, 0)) (hf : f_X11_goesTo S a0 x1 x2 M K) : MT l g S yX11_goesTo cX11_goesTo 3 none 5 [.ref (ad g a0), .int x1, .int x2] M (pV K) := by
  refine MT.of (by decide +kernel) (Nat.le_of_ble_eq_true rfl) ?_
  intro p e s m below meth c ls E hw hR hS hl
  have hl : lv_has ls 3 [(0, .ref (ad g a0)), (1, .int x1), (2, .int x2)] := hl
  generalize ([.ref (ad g a0), .int x1, .int x2] : List Value).toArray = args at E ⊢
  have E : EN p s m args meth c cX11_goesTo 3 none RX11 g := E
  have hx := E.1
  have hb := E.2.1
  unfold f_X11_goesTo at hf
  refine lv_aload_n hx hb dX11_goesTo_0 rfl (lv_at hl 0 rfl) ?_
  refine lv_aload_n hx hb dX11_goesTo_1 rfl (lv_at hl 0 rfl) ?_
  obtain ⟨b1, hb1, hf⟩ := hf
  refine hw_getR E hR cI10 hs0 38 (by decide) lfX11_312 rfl hb1 dX11_goesTo_2 ?_
  refine lv_iload_n hx hb dX11_goesTo_5 rfl (lv_at hl 1 rfl) ?_
  obtain ⟨n2, hn2, in2, hf⟩ := hf
  refine hw_lald E hR hn2 in2 dX11_goesTo_6 ?_
  refine lv_aload_n hx hb dX11_goesTo_7 rfl (lv_at hl 0 rfl) ?_
  obtain ⟨b3, hb3, hf⟩ := hf
  refine hw_getR E hR cI10 hs0 39 (by decide) lfX11_315 rfl hb3 dX11_goesTo_8 ?_
  refine lv_iload_n hx hb dX11_goesTo_11 rfl (lv_at hl 1 rfl) ?_
  obtain ⟨n4, hn4, in4, hf⟩ := hf
  refine hw_lald E hR hn4 in4 dX11_goesTo_12 ?_
  refine hw_callV (d := 5) E hR hS (As := [.long (M.2.1 b1 x1.toNatClampNeg), .long (M.2.1 b3 x1.toNatClampNeg)]) (rest := []) cI10 hs0 rfl mcX11_unpacks miX11_unpacks lmX11_292 (ok_X11_unpacks hs0 hf) rfl rfl (by decide) hl.1 (Nat.le_of_ble_eq_true rfl) dX11_goesTo_13 (fun rr m5 H locs hp hR hS => ?_)
  obtain ⟨rfl, hf⟩ := hp
  refine W.eq (g2 := F0 m 16 ls []) rfl ?_
  refine lv_aload_n hx hb dX11_goesTo_16 rfl (lv_at hl 0 rfl) ?_
  refine lv_iload_n hx hb dX11_goesTo_17 rfl (lv_at hl 2 rfl) ?_
  refine lv_aload_n hx hb dX11_goesTo_18 rfl (lv_at hl 0 rfl) ?_
  refine hw_getI E hR cI10 hs0 27 (by decide) lfX11_239 rfl dX11_goesTo_19 ?_
  refine lv_iconst (v := 1) hx hb dX11_goesTo_22 (by decide) ?_
  refine lv_iadd hx hb dX11_goesTo_23 ?_
  obtain ⟨h6, hf⟩ := hf
  refine lv_idiv hx hb dX11_goesTo_24 h6 ?_
  refine lv_iload_n hx hb dX11_goesTo_25 rfl (lv_at hl 2 rfl) ?_
  refine lv_aload_n hx hb dX11_goesTo_26 rfl (lv_at hl 0 rfl) ?_
  refine hw_getI E hR cI10 hs0 27 (by decide) lfX11_239 rfl dX11_goesTo_27 ?_
  refine lv_iconst (v := 1) hx hb dX11_goesTo_30 (by decide) ?_
  refine lv_iadd hx hb dX11_goesTo_31 ?_
  obtain ⟨h7, hf⟩ := hf
  refine lv_irem hx hb dX11_goesTo_32 h7 ?_
  refine hw_callV (d := 5) E hR hS (As := [.int (x2 / ((m5.1 a0 27) + (1 : Int32))), .int (x2 - x2 / ((m5.1 a0 27) + (1 : Int32)) * ((m5.1 a0 27) + (1 : Int32)))]) (rest := []) cI10 hs0 rfl mcX11_does miX11_does lmX11_242 (ok_X11_does hs0 hf) rfl rfl (by decide) hl.1 (Nat.le_of_ble_eq_true rfl) dX11_goesTo_33 (fun rr m8 H locs hp hR hS => ?_)
  obtain ⟨rfl, hf⟩ := hp
  refine W.eq (g2 := F0 m 36 ls []) rfl ?_
  exact hw_vret E hR hS ⟨rfl, hf⟩ dX11_goesTo_36
def f_X11_after (S : Ss) (a0 : Nat) (x1 : Int32) (x2 : Int32) (M : Mm) (K : Int32 → Mm → Prop) : Prop :=
  f_X11_goesTo S a0 x1 x2 M (fun (m1 : Mm) =>
    f_X11_packsSlots S a0  m1 (fun (r3 : Int64) (m2 : Mm) =>
    f_X11_packsRest S a0  m2 (fun (r5 : Int64) (m4 : Mm) =>
    f_X11_placeOf S a0 r3 r5 m4 (fun (r7 : Int32) (m6 : Mm) =>
    K r7 m6))))
set_option maxHeartbeats 4000000 in
set_option maxRecDepth 100000 in
theorem ok_X11_after {l : Launch} {g : Gg} {S : Ss} {a0 : Nat} {x1 : Int32} {x2 : Int32} {M : Mm} {K : Int32 → Mm → Prop} (hs0 : S[a0]? = some (10, 0)) (hf : f_X11_after S a0 x1 x2 M K) : MT l g S yX11_after cX11_after 3 (some .int) 6 [.ref (ad g a0), .int x1, .int x2] M (pI K) := by
  refine MT.of (by decide +kernel) (Nat.le_of_ble_eq_true rfl) ?_
  intro p e s m below meth c ls E hw hR hS hl
  have hl : lv_has ls 3 [(0, .ref (ad g a0)), (1, .int x1), (2, .int x2)] := hl
  generalize ([.ref (ad g a0), .int x1, .int x2] : List Value).toArray = args at E ⊢
  have E : EN p s m args meth c cX11_after 3 (some .int) RX11 g := E
  have hx := E.1
  have hb := E.2.1
  unfold f_X11_after at hf
  refine lv_aload_n hx hb dX11_after_0 rfl (lv_at hl 0 rfl) ?_
  refine lv_iload_n hx hb dX11_after_1 rfl (lv_at hl 1 rfl) ?_
  refine lv_iload_n hx hb dX11_after_2 rfl (lv_at hl 2 rfl) ?_
  refine hw_callV (d := 6) E hR hS (As := [.int x1, .int x2]) (rest := []) cI10 hs0 rfl mcX11_goesTo miX11_goesTo lmX11_318 (ok_X11_goesTo hs0 hf) rfl rfl (by decide) hl.1 (Nat.le_of_ble_eq_true rfl) dX11_after_3 (fun rr m1 H locs hp hR hS => ?_)
  obtain ⟨rfl, hf⟩ := hp
  refine W.eq (g2 := F0 m 6 ls []) rfl ?_
  refine lv_aload_n hx hb dX11_after_6 rfl (lv_at hl 0 rfl) ?_
  refine lv_aload_n hx hb dX11_after_7 rfl (lv_at hl 0 rfl) ?_
  refine hw_callV (d := 6) E hR hS (As := []) (rest := [.ref (ad g a0)]) cI10 hs0 rfl mcX11_packsSlots miX11_packsSlots lmX11_266 (ok_X11_packsSlots hs0 hf) rfl rfl (by decide) hl.1 (Nat.le_of_ble_eq_true rfl) dX11_after_8 (fun rr m2 H locs hp hR hS => ?_)
  obtain ⟨r3, rfl, hf⟩ := hp
  refine W.eq (g2 := F0 m 11 ls [.long r3, .ref (ad g a0)]) rfl ?_
  refine lv_aload_n hx hb dX11_after_11 rfl (lv_at hl 0 rfl) ?_
  refine hw_callV (d := 6) E hR hS (As := []) (rest := [.long r3, .ref (ad g a0)]) cI10 hs0 rfl mcX11_packsRest miX11_packsRest lmX11_274 (ok_X11_packsRest hs0 hf) rfl rfl (by decide) hl.1 (Nat.le_of_ble_eq_true rfl) dX11_after_12 (fun rr m4 H locs hp hR hS => ?_)
  obtain ⟨r5, rfl, hf⟩ := hp
  refine W.eq (g2 := F0 m 15 ls [.long r5, .long r3, .ref (ad g a0)]) rfl ?_
  refine hw_callV (d := 6) E hR hS (As := [.long r3, .long r5]) (rest := []) cI10 hs0 rfl mcX11_placeOf miX11_placeOf lmX11_321 (ok_X11_placeOf hs0 hf) rfl rfl (by decide) hl.1 (Nat.le_of_ble_eq_true rfl) dX11_after_15 (fun rr m6 H locs hp hR hS => ?_)
  obtain ⟨r7, rfl, hf⟩ := hp
  refine W.eq (g2 := F0 m 18 ls [.int r7]) rfl ?_
  exact hw_iret E hR hS ⟨_, rfl, hf⟩ dX11_after_18
def f_X11_explores_J123 (S : Ss) (a0 : Nat) (x1 : Int32) (x2 : Int32) (x4 : Int32) (x5 : Int32) (M : Mm) (BK46 : Int32 → Mm → Prop) (K : Int32 → Mm → Prop) : Prop :=
  (((M.1 a0 44) ≤ x2 →
    ∀ v22 : Int32, v22 = x5 + (1 : Int32) →
    BK46 v22 M) ∧
   (¬ (M.1 a0 44) ≤ x2 →
    K (0 : Int32) M))
set_option maxHeartbeats 4000000 in
set_option maxRecDepth 100000 in
theorem w_X11_explores_J123 {p : Program} {l : Launch} {e : Env} {s : State} {m : MethodId} {args : Array Value} {below : List Frame} {meth : Method} {c : Code} {g : Gg} {S : Ss} (a0 : Nat) (x1 : Int32) (x2 : Int32) (x4 : Int32) (x5 : Int32) (M : Mm) (BK46 : Int32 → Mm → Prop) (K : Int32 → Mm → Prop) (E : EN p s m args meth c cX11_explores 8 (some .boolean) RX11 g) (hw : ad g 100000 < s.heap.size) (hs0 : S[a0]? = some (10, 0)) (hBK46 : ∀ (x5' : Int32) (M' : Mm) (H : Heap) (locs : List Loc) (ls : Array Slot), BK46 x5' M' → RP g S M' H → va_S (gA g) s.heap H locs → lv_has ls 8 [(0, .ref (ad g a0)), (1, .int x1), (2, .int x2), (4, .int x4), (5, .int x5')] → W p l e (rmD 7) s m args below meth c H locs 0 0 (MQ below (QA g S (pI K)) args s 0 0 (gA g)) (F0 m 46 ls [])) (hf : f_X11_explores_J123 S a0 x1 x2 x4 x5 M BK46 K) (H : Heap) (locs : List Loc) (ls : Array Slot) (hR : RP g S M H) (hS : va_S (gA g) s.heap H locs) (hl : lv_has ls 8 [(0, .ref (ad g a0)), (1, .int x1), (2, .int x2), (4, .int x4), (5, .int x5)]) : W p l e (rmD 7) s m args below meth c H locs 0 0 (MQ below (QA g S (pI K)) args s 0 0 (gA g)) (F0 m 123 ls []) := by
  have hx := E.1
  have hb := E.2.1
  unfold f_X11_explores_J123 at hf
  refine lv_aload_n hx hb dX11_explores_123 rfl (lv_at hl 0 rfl) ?_
  refine hw_getI E hR cI10 hs0 44 (by decide) lfX11_296 rfl dX11_explores_124 ?_
  refine lv_iload_n hx hb dX11_explores_127 rfl (lv_at hl 2 rfl) ?_
  refine lv_icmp_le (tgt := 133) hx hb dX11_explores_128 (by decide) (fun c21 => ?_) (fun c21 => ?_)
  · replace hf := hf.1 c21
    obtain ⟨v22, ev22⟩ : ∃ y : Int32, y = x5 + (1 : Int32) := ⟨_, rfl⟩
    replace hf := hf v22 ev22
    refine lv_iinc (v := v22) (lv' := [(5, .int v22), (0, .ref (ad g a0)), (1, .int x1), (2, .int x2), (4, .int x4)]) hx hb dX11_explores_133 hl (k := 4) rfl (by rw [ev22]; rfl) (by decide) rfl (fun ls hl => ?_)
    refine lv_goto (tgt := 46) hx hb dX11_explores_136 (by decide) ?_
    exact hBK46 _ _ _ _ _ hf hR hS (lv_sub hl [1, 2, 3, 4, 0] rfl)
  · replace hf := hf.2 c21
    refine lv_iconst (v := 0) hx hb dX11_explores_131 (by decide) ?_
    exact hw_zret E hR hS (by decide) ⟨_, rfl, hf⟩ dX11_explores_132
def f_X11_explores_B46 (S : Ss) (a0 : Nat) (x1 : Int32) (x2 : Int32) (x4 : Int32) (x5 : Int32) (M : Mm) (BK46 : Int32 → Mm → Prop) (EK46 : Mm → Prop) (K : Int32 → Mm → Prop) : Prop :=
  f_X11_width S a0  M (fun (r12 : Int32) (m11 : Mm) =>
    ((r12 ≤ x5 →
    EK46 m11) ∧
   (¬ r12 ≤ x5 →
    ∃ b14 : Nat, m11.2.2 a0 42 = some b14 ∧
    ∃ n15 : Nat, shp S b14 = some (50, n15) ∧ vp_in x4 n15 ∧
    ((x1 ≤ (m11.1 b14 x4.toNatClampNeg) →
      EK46 m11) ∧
     (¬ x1 ≤ (m11.1 b14 x4.toNatClampNeg) →
      ∀ v17 : Int32, v17 = (m11.1 a0 44) →
      f_X11_after S a0 x4 x5 m11 (fun (r19 : Int32) (m18 : Mm) =>
        ((r19 = v17 →
        ∃ b23 : Nat, m18.2.2 a0 42 = some b23 ∧
        ∃ b24 : Nat, m18.2.2 a0 42 = some b24 ∧
        ∃ n25 : Nat, shp S b24 = some (50, n25) ∧ vp_in x4 n25 ∧
        ∃ n26 : Nat, S[b23]? = some (50, n26) ∧ vp_in r19 n26 ∧
        ∀ m27 : Mm, m27 = stI m18 b23 r19.toNatClampNeg ((m18.1 b24 x4.toNatClampNeg) + (1 : Int32)) →
        ∃ b28 : Nat, m27.2.2 a0 40 = some b28 ∧
        ∃ n29 : Nat, S[b28]? = some (50, n29) ∧ vp_in r19 n29 ∧
        ∀ m30 : Mm, m30 = stI m27 b28 r19.toNatClampNeg x4 →
        ∃ b31 : Nat, m30.2.2 a0 41 = some b31 ∧
        ∃ n32 : Nat, S[b31]? = some (50, n32) ∧ vp_in r19 n32 ∧
        ∀ m33 : Mm, m33 = stI m30 b31 r19.toNatClampNeg x5 →
        f_X11_explores_J123 S a0 x1 x2 x4 x5 m33 BK46 K) ∧
       (¬ r19 = v17 →
        f_X11_explores_J123 S a0 x1 x2 x4 x5 m18 BK46 K))))))))
set_option maxHeartbeats 4000000 in
set_option maxRecDepth 100000 in
theorem w_X11_explores_B46 {p : Program} {l : Launch} {e : Env} {s : State} {m : MethodId} {args : Array Value} {below : List Frame} {meth : Method} {c : Code} {g : Gg} {S : Ss} (a0 : Nat) (x1 : Int32) (x2 : Int32) (x4 : Int32) (x5 : Int32) (M : Mm) (BK46 : Int32 → Mm → Prop) (EK46 : Mm → Prop) (K : Int32 → Mm → Prop) (E : EN p s m args meth c cX11_explores 8 (some .boolean) RX11 g) (hw : ad g 100000 < s.heap.size) (hs0 : S[a0]? = some (10, 0)) (hBK46 : ∀ (x5' : Int32) (M' : Mm) (H : Heap) (locs : List Loc) (ls : Array Slot), BK46 x5' M' → RP g S M' H → va_S (gA g) s.heap H locs → lv_has ls 8 [(0, .ref (ad g a0)), (1, .int x1), (2, .int x2), (4, .int x4), (5, .int x5')] → W p l e (rmD 7) s m args below meth c H locs 0 0 (MQ below (QA g S (pI K)) args s 0 0 (gA g)) (F0 m 46 ls [])) (hEK46 : ∀ (M' : Mm) (H : Heap) (locs : List Loc) (ls : Array Slot), EK46 M' → RP g S M' H → va_S (gA g) s.heap H locs → lv_has ls 8 [(0, .ref (ad g a0)), (1, .int x1), (2, .int x2), (4, .int x4)] → W p l e (rmD 7) s m args below meth c H locs 0 0 (MQ below (QA g S (pI K)) args s 0 0 (gA g)) (F0 m 139 ls [])) (hf : f_X11_explores_B46 S a0 x1 x2 x4 x5 M BK46 EK46 K) (H : Heap) (locs : List Loc) (ls : Array Slot) (hR : RP g S M H) (hS : va_S (gA g) s.heap H locs) (hl : lv_has ls 8 [(0, .ref (ad g a0)), (1, .int x1), (2, .int x2), (4, .int x4), (5, .int x5)]) : W p l e (rmD 7) s m args below meth c H locs 0 0 (MQ below (QA g S (pI K)) args s 0 0 (gA g)) (F0 m 46 ls []) := by
  have hx := E.1
  have hb := E.2.1
  unfold f_X11_explores_B46 at hf
  refine lv_iload hx hb dX11_explores_46 (lv_at hl 4 rfl) ?_
  refine lv_aload_n hx hb dX11_explores_48 rfl (lv_at hl 0 rfl) ?_
  refine hw_callV (d := 7) E hR hS (As := []) (rest := [.int x5]) cI10 hs0 rfl mcX11_width miX11_width lmX11_251 (ok_X11_width hs0 hf) rfl rfl (by decide) hl.1 (Nat.le_of_ble_eq_true rfl) dX11_explores_49 (fun rr m11 H locs hp hR hS => ?_)
  obtain ⟨r12, rfl, hf⟩ := hp
  refine W.eq (g2 := F0 m 52 ls [.int r12, .int x5]) rfl ?_
  refine lv_icmp_ge (tgt := 139) hx hb dX11_explores_52 (by decide) (fun c13 => ?_) (fun c13 => ?_)
  · replace hf := hf.1 c13
    exact hEK46  _ _ _ _ hf hR hS (lv_sub hl [0, 1, 2, 3] rfl)
  · replace hf := hf.2 c13
    refine lv_aload_n hx hb dX11_explores_55 rfl (lv_at hl 0 rfl) ?_
    obtain ⟨b14, hb14, hf⟩ := hf
    refine hw_getR E hR cI10 hs0 42 (by decide) lfX11_327 rfl hb14 dX11_explores_56 ?_
    refine lv_iload hx hb dX11_explores_59 (lv_at hl 3 rfl) ?_
    obtain ⟨n15, hn15, in15, hf⟩ := hf
    refine hw_iald E hR hS hn15 in15 dX11_explores_61 ?_
    refine lv_iload_n hx hb dX11_explores_62 rfl (lv_at hl 1 rfl) ?_
    refine lv_icmp_ge (tgt := 139) hx hb dX11_explores_63 (by decide) (fun c16 => ?_) (fun c16 => ?_)
    · replace hf := hf.1 c16
      exact hEK46  _ _ _ _ hf hR hS (lv_sub hl [0, 1, 2, 3] rfl)
    · replace hf := hf.2 c16
      refine lv_aload_n hx hb dX11_explores_66 rfl (lv_at hl 0 rfl) ?_
      refine hw_getI E hR cI10 hs0 44 (by decide) lfX11_296 rfl dX11_explores_67 ?_
      refine lv_topi (fun v17 ev17 => ?_)
      replace hf := hf v17 ev17
      refine lv_istore (lv' := [(6, .int v17), (0, .ref (ad g a0)), (1, .int x1), (2, .int x2), (4, .int x4), (5, .int x5)]) hx hb dX11_explores_70 hl (by decide) rfl (fun ls hl => ?_)
      refine lv_aload_n hx hb dX11_explores_72 rfl (lv_at hl 1 rfl) ?_
      refine lv_iload hx hb dX11_explores_73 (lv_at hl 4 rfl) ?_
      refine lv_iload hx hb dX11_explores_75 (lv_at hl 5 rfl) ?_
      refine hw_callV (d := 7) E hR hS (As := [.int x4, .int x5]) (rest := []) cI10 hs0 rfl mcX11_after miX11_after lmX11_333 (ok_X11_after hs0 hf) rfl rfl (by decide) hl.1 (Nat.le_of_ble_eq_true rfl) dX11_explores_77 (fun rr m18 H locs hp hR hS => ?_)
      obtain ⟨r19, rfl, hf⟩ := hp
      refine W.eq (g2 := F0 m 80 ls [.int r19]) rfl ?_
      refine lv_istore (lv' := [(7, .int r19), (6, .int v17), (0, .ref (ad g a0)), (1, .int x1), (2, .int x2), (4, .int x4), (5, .int x5)]) hx hb dX11_explores_80 hl (by decide) rfl (fun ls hl => ?_)
      refine lv_iload hx hb dX11_explores_82 (lv_at hl 0 rfl) ?_
      refine lv_iload hx hb dX11_explores_84 (lv_at hl 1 rfl) ?_
      refine lv_icmp_ne (tgt := 123) hx hb dX11_explores_86 (by decide) (fun c20 => ?_) (fun c20 => ?_)
      · replace hf := hf.2 c20
        exact w_X11_explores_J123 _ _ _ _ _ _ _ _ E hw hs0 hBK46 hf _ _ _ hR hS (lv_sub hl [2, 3, 4, 5, 6] rfl)
      · replace hf := hf.1 c20
        refine lv_aload_n hx hb dX11_explores_89 rfl (lv_at hl 2 rfl) ?_
        obtain ⟨b23, hb23, hf⟩ := hf
        refine hw_getR E hR cI10 hs0 42 (by decide) lfX11_327 rfl hb23 dX11_explores_90 ?_
        refine lv_iload hx hb dX11_explores_93 (lv_at hl 0 rfl) ?_
        refine lv_aload_n hx hb dX11_explores_95 rfl (lv_at hl 2 rfl) ?_
        obtain ⟨b24, hb24, hf⟩ := hf
        refine hw_getR E hR cI10 hs0 42 (by decide) lfX11_327 rfl hb24 dX11_explores_96 ?_
        refine lv_iload hx hb dX11_explores_99 (lv_at hl 5 rfl) ?_
        obtain ⟨n25, hn25, in25, hf⟩ := hf
        refine hw_iald E hR hS hn25 in25 dX11_explores_101 ?_
        refine lv_iconst (v := 1) hx hb dX11_explores_102 (by decide) ?_
        refine lv_iadd hx hb dX11_explores_103 ?_
        obtain ⟨n26, hn26, in26, hf⟩ := hf
        refine hw_iast E hR hS hw hn26 in26 dX11_explores_104 (fun m27 H locs em27 hR hS => ?_)
        replace hf := hf m27 em27
        refine lv_aload_n hx hb dX11_explores_105 rfl (lv_at hl 2 rfl) ?_
        obtain ⟨b28, hb28, hf⟩ := hf
        refine hw_getR E hR cI10 hs0 40 (by decide) lfX11_330 rfl hb28 dX11_explores_106 ?_
        refine lv_iload hx hb dX11_explores_109 (lv_at hl 0 rfl) ?_
        refine lv_iload hx hb dX11_explores_111 (lv_at hl 5 rfl) ?_
        obtain ⟨n29, hn29, in29, hf⟩ := hf
        refine hw_iast E hR hS hw hn29 in29 dX11_explores_113 (fun m30 H locs em30 hR hS => ?_)
        replace hf := hf m30 em30
        refine lv_aload_n hx hb dX11_explores_114 rfl (lv_at hl 2 rfl) ?_
        obtain ⟨b31, hb31, hf⟩ := hf
        refine hw_getR E hR cI10 hs0 41 (by decide) lfX11_336 rfl hb31 dX11_explores_115 ?_
        refine lv_iload hx hb dX11_explores_118 (lv_at hl 0 rfl) ?_
        refine lv_iload hx hb dX11_explores_120 (lv_at hl 6 rfl) ?_
        obtain ⟨n32, hn32, in32, hf⟩ := hf
        refine hw_iast E hR hS hw hn32 in32 dX11_explores_122 (fun m33 H locs em33 hR hS => ?_)
        replace hf := hf m33 em33
        exact w_X11_explores_J123 _ _ _ _ _ _ _ _ E hw hs0 hBK46 hf _ _ _ hR hS (lv_sub hl [2, 3, 4, 5, 6] rfl)
def f_X11_explores_L46 (S : Ss) (a0 : Nat) (x1 : Int32) (x2 : Int32) (x4 : Int32) (EK46 : Mm → Prop) (K : Int32 → Mm → Prop) : Nat → Int32 → Mm → Prop
  | 0, _, _ => False
  | n + 1, x5, M => f_X11_explores_B46 S a0 x1 x2 x4 x5 M (fun (x5 : Int32) (M : Mm) => f_X11_explores_L46 S a0 x1 x2 x4 EK46 K n x5 M) EK46 K
set_option maxHeartbeats 4000000 in
set_option maxRecDepth 100000 in
theorem w_X11_explores_L46 {p : Program} {l : Launch} {e : Env} {s : State} {m : MethodId} {args : Array Value} {below : List Frame} {meth : Method} {c : Code} {g : Gg} {S : Ss} (a0 : Nat) (x1 : Int32) (x2 : Int32) (x4 : Int32) (EK46 : Mm → Prop) (K : Int32 → Mm → Prop) (E : EN p s m args meth c cX11_explores 8 (some .boolean) RX11 g) (hw : ad g 100000 < s.heap.size) (hs0 : S[a0]? = some (10, 0)) (hEK46 : ∀ (M' : Mm) (H : Heap) (locs : List Loc) (ls : Array Slot), EK46 M' → RP g S M' H → va_S (gA g) s.heap H locs → lv_has ls 8 [(0, .ref (ad g a0)), (1, .int x1), (2, .int x2), (4, .int x4)] → W p l e (rmD 7) s m args below meth c H locs 0 0 (MQ below (QA g S (pI K)) args s 0 0 (gA g)) (F0 m 139 ls [])) : ∀ (n : Nat) (x5 : Int32) (M : Mm), f_X11_explores_L46 S a0 x1 x2 x4 EK46 K n x5 M → ∀ (H : Heap) (locs : List Loc) (ls : Array Slot), RP g S M H → va_S (gA g) s.heap H locs → lv_has ls 8 [(0, .ref (ad g a0)), (1, .int x1), (2, .int x2), (4, .int x4), (5, .int x5)] → W p l e (rmD 7) s m args below meth c H locs 0 0 (MQ below (QA g S (pI K)) args s 0 0 (gA g)) (F0 m 46 ls []) := by
  intro n
  induction n with
  | zero => intro x5 M hf; exact hf.elim
  | succ n ih =>
    intro x5 M hf H locs ls hR hS hl
    exact w_X11_explores_B46 _ _ _ _ _ _ _ _ _ E hw hs0 (fun _ M H locs ls h hR hS hl => ih _ M h H locs ls hR hS hl) hEK46 hf H locs ls hR hS hl
def f_X11_explores_B34 (S : Ss) (a0 : Nat) (x1 : Int32) (x2 : Int32) (x4 : Int32) (M : Mm) (BK34 : Int32 → Mm → Prop) (EK34 : Mm → Prop) (K : Int32 → Mm → Prop) : Prop :=
  (((M.1 a0 44) ≤ x4 →
    EK34 M) ∧
   (¬ (M.1 a0 44) ≤ x4 →
    ∃ n36 : Nat, f_X11_explores_L46 S a0 x1 x2 x4 (fun (m34 : Mm) =>
      ∀ v35 : Int32, v35 = x4 + (1 : Int32) →
      BK34 v35 m34) K n36 (0 : Int32) M))
set_option maxHeartbeats 4000000 in
set_option maxRecDepth 100000 in
theorem w_X11_explores_B34 {p : Program} {l : Launch} {e : Env} {s : State} {m : MethodId} {args : Array Value} {below : List Frame} {meth : Method} {c : Code} {g : Gg} {S : Ss} (a0 : Nat) (x1 : Int32) (x2 : Int32) (x4 : Int32) (M : Mm) (BK34 : Int32 → Mm → Prop) (EK34 : Mm → Prop) (K : Int32 → Mm → Prop) (E : EN p s m args meth c cX11_explores 8 (some .boolean) RX11 g) (hw : ad g 100000 < s.heap.size) (hs0 : S[a0]? = some (10, 0)) (hBK34 : ∀ (x4' : Int32) (M' : Mm) (H : Heap) (locs : List Loc) (ls : Array Slot), BK34 x4' M' → RP g S M' H → va_S (gA g) s.heap H locs → lv_has ls 8 [(0, .ref (ad g a0)), (1, .int x1), (2, .int x2), (4, .int x4')] → W p l e (rmD 7) s m args below meth c H locs 0 0 (MQ below (QA g S (pI K)) args s 0 0 (gA g)) (F0 m 34 ls [])) (hEK34 : ∀ (M' : Mm) (H : Heap) (locs : List Loc) (ls : Array Slot), EK34 M' → RP g S M' H → va_S (gA g) s.heap H locs → lv_has ls 8 [] → W p l e (rmD 7) s m args below meth c H locs 0 0 (MQ below (QA g S (pI K)) args s 0 0 (gA g)) (F0 m 145 ls [])) (hf : f_X11_explores_B34 S a0 x1 x2 x4 M BK34 EK34 K) (H : Heap) (locs : List Loc) (ls : Array Slot) (hR : RP g S M H) (hS : va_S (gA g) s.heap H locs) (hl : lv_has ls 8 [(0, .ref (ad g a0)), (1, .int x1), (2, .int x2), (4, .int x4)]) : W p l e (rmD 7) s m args below meth c H locs 0 0 (MQ below (QA g S (pI K)) args s 0 0 (gA g)) (F0 m 34 ls []) := by
  have hx := E.1
  have hb := E.2.1
  unfold f_X11_explores_B34 at hf
  refine lv_iload hx hb dX11_explores_34 (lv_at hl 3 rfl) ?_
  refine lv_aload_n hx hb dX11_explores_36 rfl (lv_at hl 0 rfl) ?_
  refine hw_getI E hR cI10 hs0 44 (by decide) lfX11_296 rfl dX11_explores_37 ?_
  refine lv_icmp_ge (tgt := 145) hx hb dX11_explores_40 (by decide) (fun c10 => ?_) (fun c10 => ?_)
  · replace hf := hf.1 c10
    exact hEK34  _ _ _ _ hf hR hS (lv_sub hl [] rfl)
  · replace hf := hf.2 c10
    refine lv_iconst (v := 0) hx hb dX11_explores_43 (by decide) ?_
    refine lv_istore (lv' := [(5, .int (0 : Int32)), (0, .ref (ad g a0)), (1, .int x1), (2, .int x2), (4, .int x4)]) hx hb dX11_explores_44 hl (by decide) rfl (fun ls hl => ?_)
    obtain ⟨n36, hf⟩ := hf
    refine w_X11_explores_L46 _ _ _ _ _ _ E hw hs0 ?_ n36 _ _ hf _ _ _ hR hS (lv_sub hl [1, 2, 3, 4, 0] rfl)
    intro m34 H locs ls hf hR hS hl
    obtain ⟨v35, ev35⟩ : ∃ y : Int32, y = x4 + (1 : Int32) := ⟨_, rfl⟩
    replace hf := hf v35 ev35
    refine lv_iinc (v := v35) (lv' := [(4, .int v35), (0, .ref (ad g a0)), (1, .int x1), (2, .int x2)]) hx hb dX11_explores_139 hl (k := 3) rfl (by rw [ev35]; rfl) (by decide) rfl (fun ls hl => ?_)
    refine lv_goto (tgt := 34) hx hb dX11_explores_142 (by decide) ?_
    exact hBK34 _ _ _ _ _ hf hR hS (lv_sub hl [1, 2, 3, 0] rfl)
def f_X11_explores_L34 (S : Ss) (a0 : Nat) (x1 : Int32) (x2 : Int32) (EK34 : Mm → Prop) (K : Int32 → Mm → Prop) : Nat → Int32 → Mm → Prop
  | 0, _, _ => False
  | n + 1, x4, M => f_X11_explores_B34 S a0 x1 x2 x4 M (fun (x4 : Int32) (M : Mm) => f_X11_explores_L34 S a0 x1 x2 EK34 K n x4 M) EK34 K
set_option maxHeartbeats 4000000 in
set_option maxRecDepth 100000 in
theorem w_X11_explores_L34 {p : Program} {l : Launch} {e : Env} {s : State} {m : MethodId} {args : Array Value} {below : List Frame} {meth : Method} {c : Code} {g : Gg} {S : Ss} (a0 : Nat) (x1 : Int32) (x2 : Int32) (EK34 : Mm → Prop) (K : Int32 → Mm → Prop) (E : EN p s m args meth c cX11_explores 8 (some .boolean) RX11 g) (hw : ad g 100000 < s.heap.size) (hs0 : S[a0]? = some (10, 0)) (hEK34 : ∀ (M' : Mm) (H : Heap) (locs : List Loc) (ls : Array Slot), EK34 M' → RP g S M' H → va_S (gA g) s.heap H locs → lv_has ls 8 [] → W p l e (rmD 7) s m args below meth c H locs 0 0 (MQ below (QA g S (pI K)) args s 0 0 (gA g)) (F0 m 145 ls [])) : ∀ (n : Nat) (x4 : Int32) (M : Mm), f_X11_explores_L34 S a0 x1 x2 EK34 K n x4 M → ∀ (H : Heap) (locs : List Loc) (ls : Array Slot), RP g S M H → va_S (gA g) s.heap H locs → lv_has ls 8 [(0, .ref (ad g a0)), (1, .int x1), (2, .int x2), (4, .int x4)] → W p l e (rmD 7) s m args below meth c H locs 0 0 (MQ below (QA g S (pI K)) args s 0 0 (gA g)) (F0 m 34 ls []) := by
  intro n
  induction n with
  | zero => intro x4 M hf; exact hf.elim
  | succ n ih =>
    intro x4 M hf H locs ls hR hS hl
    exact w_X11_explores_B34 _ _ _ _ _ _ _ _ E hw hs0 (fun _ M H locs ls h hR hS hl => ih _ M h H locs ls hR hS hl) hEK34 hf H locs ls hR hS hl
def f_X11_explores (S : Ss) (a0 : Nat) (x1 : Int32) (x2 : Int32) (M : Mm) (K : Int32 → Mm → Prop) : Prop :=
  f_X11_empties S a0  M (fun (m1 : Mm) =>
    f_X11_placeOf S a0 (m1.2.1 a0 45) (m1.2.1 a0 46) m1 (fun (r3 : Int32) (m2 : Mm) =>
    ∃ b4 : Nat, m2.2.2 a0 42 = some b4 ∧
  ∃ n5 : Nat, S[b4]? = some (50, n5) ∧ vp_in r3 n5 ∧
  ∀ m6 : Mm, m6 = stI m2 b4 r3.toNatClampNeg (0 : Int32) →
  ∃ b7 : Nat, m6.2.2 a0 40 = some b7 ∧
  ∃ n8 : Nat, S[b7]? = some (50, n8) ∧ vp_in r3 n8 ∧
  ∀ m9 : Mm, m9 = stI m6 b7 r3.toNatClampNeg (-1 : Int32) →
  ∃ n38 : Nat, f_X11_explores_L34 S a0 x1 x2 (fun (m37 : Mm) =>
    K (1 : Int32) m37) K n38 (0 : Int32) m9))
set_option maxHeartbeats 4000000 in
set_option maxRecDepth 100000 in
theorem ok_X11_explores {l : Launch} {g : Gg} {S : Ss} {a0 : Nat} {x1 : Int32} {x2 : Int32} {M : Mm} {K : Int32 → Mm → Prop} (hs0 : S[a0]? = some (10, 0)) (hf : f_X11_explores S a0 x1 x2 M K) : MT l g S yX11_explores cX11_explores 8 (some .boolean) 7 [.ref (ad g a0), .int x1, .int x2] M (pI K) := by
  refine MT.of (by decide +kernel) (Nat.le_of_ble_eq_true rfl) ?_
  intro p e s m below meth c ls E hw hR hS hl
  have hl : lv_has ls 8 [(0, .ref (ad g a0)), (1, .int x1), (2, .int x2)] := hl
  generalize ([.ref (ad g a0), .int x1, .int x2] : List Value).toArray = args at E ⊢
  have E : EN p s m args meth c cX11_explores 8 (some .boolean) RX11 g := E
  have hx := E.1
  have hb := E.2.1
  unfold f_X11_explores at hf
  refine lv_aload_n hx hb dX11_explores_0 rfl (lv_at hl 0 rfl) ?_
  refine hw_callV (d := 7) E hR hS (As := []) (rest := []) cI10 hs0 rfl mcX11_empties miX11_empties lmX11_324 (ok_X11_empties hs0 hf) rfl rfl (by decide) hl.1 (Nat.le_of_ble_eq_true rfl) dX11_explores_1 (fun rr m1 H locs hp hR hS => ?_)
  obtain ⟨rfl, hf⟩ := hp
  refine W.eq (g2 := F0 m 4 ls []) rfl ?_
  refine lv_aload_n hx hb dX11_explores_4 rfl (lv_at hl 0 rfl) ?_
  refine lv_aload_n hx hb dX11_explores_5 rfl (lv_at hl 0 rfl) ?_
  refine hw_getJ E hR cI10 hs0 45 (by decide) lfX11_270 rfl dX11_explores_6 ?_
  refine lv_aload_n hx hb dX11_explores_9 rfl (lv_at hl 0 rfl) ?_
  refine hw_getJ E hR cI10 hs0 46 (by decide) lfX11_277 rfl dX11_explores_10 ?_
  refine hw_callV (d := 7) E hR hS (As := [.long (m1.2.1 a0 45), .long (m1.2.1 a0 46)]) (rest := []) cI10 hs0 rfl mcX11_placeOf miX11_placeOf lmX11_321 (ok_X11_placeOf hs0 hf) rfl rfl (by decide) hl.1 (Nat.le_of_ble_eq_true rfl) dX11_explores_13 (fun rr m2 H locs hp hR hS => ?_)
  obtain ⟨r3, rfl, hf⟩ := hp
  refine W.eq (g2 := F0 m 16 ls [.int r3]) rfl ?_
  refine lv_istore_n (lv' := [(3, .int r3), (0, .ref (ad g a0)), (1, .int x1), (2, .int x2)]) hx hb dX11_explores_16 rfl hl (by decide) rfl (fun ls hl => ?_)
  refine lv_aload_n hx hb dX11_explores_17 rfl (lv_at hl 1 rfl) ?_
  obtain ⟨b4, hb4, hf⟩ := hf
  refine hw_getR E hR cI10 hs0 42 (by decide) lfX11_327 rfl hb4 dX11_explores_18 ?_
  refine lv_iload_n hx hb dX11_explores_21 rfl (lv_at hl 0 rfl) ?_
  refine lv_iconst (v := 0) hx hb dX11_explores_22 (by decide) ?_
  obtain ⟨n5, hn5, in5, hf⟩ := hf
  refine hw_iast E hR hS hw hn5 in5 dX11_explores_23 (fun m6 H locs em6 hR hS => ?_)
  replace hf := hf m6 em6
  refine lv_aload_n hx hb dX11_explores_24 rfl (lv_at hl 1 rfl) ?_
  obtain ⟨b7, hb7, hf⟩ := hf
  refine hw_getR E hR cI10 hs0 40 (by decide) lfX11_330 rfl hb7 dX11_explores_25 ?_
  refine lv_iload_n hx hb dX11_explores_28 rfl (lv_at hl 0 rfl) ?_
  refine lv_iconst (v := -1) hx hb dX11_explores_29 (by decide) ?_
  obtain ⟨n8, hn8, in8, hf⟩ := hf
  refine hw_iast E hR hS hw hn8 in8 dX11_explores_30 (fun m9 H locs em9 hR hS => ?_)
  replace hf := hf m9 em9
  refine lv_iconst (v := 0) hx hb dX11_explores_31 (by decide) ?_
  refine lv_istore (lv' := [(4, .int (0 : Int32)), (3, .int r3), (0, .ref (ad g a0)), (1, .int x1), (2, .int x2)]) hx hb dX11_explores_32 hl (by decide) rfl (fun ls hl => ?_)
  obtain ⟨n38, hf⟩ := hf
  refine w_X11_explores_L34 _ _ _ _ _ E hw hs0 ?_ n38 _ _ hf _ _ _ hR hS (lv_sub hl [2, 3, 4, 0] rfl)
  intro m37 H locs ls hf hR hS hl
  refine lv_iconst (v := 1) hx hb dX11_explores_145 (by decide) ?_
  exact hw_zret E hR hS (by decide) ⟨_, rfl, hf⟩ dX11_explores_146
def f_X11_isRun (S : Ss) (a0 : Nat) (x1 : Int32) (M : Mm) (K : Int32 → Mm → Prop) : Prop :=
  f_X11_in S  x1.toInt64 (0 : Int64) (20 : Int64) M (fun (r2 : Int32) (m1 : Mm) =>
    ((r2 = 0 →
    K (0 : Int32) m1) ∧
   (¬ r2 = 0 →
    (((m1.1 a0 15) ≤ 0 →
      K (0 : Int32) m1) ∧
     (¬ (m1.1 a0 15) ≤ 0 →
      K (1 : Int32) m1)))))
set_option maxHeartbeats 4000000 in
set_option maxRecDepth 100000 in
theorem ok_X11_isRun {l : Launch} {g : Gg} {S : Ss} {a0 : Nat} {x1 : Int32} {M : Mm} {K : Int32 → Mm → Prop} (hs0 : S[a0]? = some (10, 0)) (hf : f_X11_isRun S a0 x1 M K) : MT l g S yX11_isRun cX11_isRun 2 (some .boolean) 1 [.ref (ad g a0), .int x1] M (pI K) := by
  refine MT.of (by decide +kernel) (Nat.le_of_ble_eq_true rfl) ?_
  intro p e s m below meth c ls E hw hR hS hl
  have hl : lv_has ls 2 [(0, .ref (ad g a0)), (1, .int x1)] := hl
  generalize ([.ref (ad g a0), .int x1] : List Value).toArray = args at E ⊢
  have E : EN p s m args meth c cX11_isRun 2 (some .boolean) RX11 g := E
  have hx := E.1
  have hb := E.2.1
  unfold f_X11_isRun at hf
  refine lv_iload_n hx hb dX11_isRun_0 rfl (lv_at hl 1 rfl) ?_
  refine lv_i2l hx hb dX11_isRun_1 rfl ?_
  refine lv_lconst (v := 0) hx hb dX11_isRun_2 (by decide) ?_
  refine lv_ldc2 (v := 20) hx hb E.2.2.2.2.1 (E.2.2.2.2.2.1 _ ljX11_339) dX11_isRun_3 ?_
  refine hw_callS (d := 1) E hR hS (As := [.long x1.toInt64, .long (0 : Int64), .long (20 : Int64)]) (rest := []) mcX11_in msX11_in lmX11_21 (ok_X11_in  hf) rfl rfl (by decide) hl.1 (Nat.le_of_ble_eq_true rfl) dX11_isRun_6 (fun rr m1 H locs hp hR hS => ?_)
  obtain ⟨r2, rfl, hf⟩ := hp
  refine W.eq (g2 := F0 m 9 ls [.int r2]) rfl ?_
  refine lv_if_eq (tgt := 23) hx hb dX11_isRun_9 (by decide) (fun c3 => ?_) (fun c3 => ?_)
  · replace hf := hf.1 c3
    refine lv_iconst (v := 0) hx hb dX11_isRun_23 (by decide) ?_
    exact hw_zret E hR hS (by decide) ⟨_, rfl, hf⟩ dX11_isRun_24
  · replace hf := hf.2 c3
    refine lv_aload_n hx hb dX11_isRun_12 rfl (lv_at hl 0 rfl) ?_
    refine hw_getI E hR cI10 hs0 15 (by decide) lfX11_121 rfl dX11_isRun_13 ?_
    refine lv_if_le (tgt := 23) hx hb dX11_isRun_16 (by decide) (fun c4 => ?_) (fun c4 => ?_)
    · replace hf := hf.1 c4
      refine lv_iconst (v := 0) hx hb dX11_isRun_23 (by decide) ?_
      exact hw_zret E hR hS (by decide) ⟨_, rfl, hf⟩ dX11_isRun_24
    · replace hf := hf.2 c4
      refine lv_iconst (v := 1) hx hb dX11_isRun_19 (by decide) ?_
      refine lv_goto (tgt := 24) hx hb dX11_isRun_20 (by decide) ?_
      exact hw_zret E hR hS (by decide) ⟨_, rfl, hf⟩ dX11_isRun_24
def f_X11_tellsWay_B20 (S : Ss) (a0 : Nat) (x2 : Int32) (x3 : Int32) (x4 : Int32) (x5 : Int32) (M : Mm) (BK20 : Int32 → Int32 → Mm → Prop) (EK20 : Mm → Prop) (K : Mm → Prop) : Prop :=
  ((x5 < 0 →
    EK20 M) ∧
   (¬ x5 < 0 →
    ∃ b7 : Nat, M.2.2 a0 2 = some b7 ∧
    ∃ b8 : Nat, M.2.2 a0 41 = some b8 ∧
    ∃ n9 : Nat, shp S b8 = some (50, n9) ∧ vp_in x4 n9 ∧
    ∃ n10 : Nat, S[b7]? = some (53, n10) ∧ vp_in x5 n10 ∧
    ∀ m11 : Mm, m11 = stJ M b7 x5.toNatClampNeg (M.1 b8 x4.toNatClampNeg).toInt64 →
    ∃ b12 : Nat, m11.2.2 a0 40 = some b12 ∧
    ∃ n13 : Nat, shp S b12 = some (50, n13) ∧ vp_in x4 n13 ∧
    ∀ v14 : Int32, v14 = (m11.1 b12 x4.toNatClampNeg) →
    ∀ v15 : Int32, v15 = x5 + (-1 : Int32) →
    BK20 v14 v15 m11))
set_option maxHeartbeats 4000000 in
set_option maxRecDepth 100000 in
theorem w_X11_tellsWay_B20 {p : Program} {l : Launch} {e : Env} {s : State} {m : MethodId} {args : Array Value} {below : List Frame} {meth : Method} {c : Code} {g : Gg} {S : Ss} (a0 : Nat) (x2 : Int32) (x3 : Int32) (x4 : Int32) (x5 : Int32) (M : Mm) (BK20 : Int32 → Int32 → Mm → Prop) (EK20 : Mm → Prop) (K : Mm → Prop) (E : EN p s m args meth c cX11_tellsWay 6 none RX11 g) (hw : ad g 100000 < s.heap.size) (hs0 : S[a0]? = some (10, 0)) (hBK20 : ∀ (x4' : Int32) (x5' : Int32) (M' : Mm) (H : Heap) (locs : List Loc) (ls : Array Slot), BK20 x4' x5' M' → RP g S M' H → va_S (gA g) s.heap H locs → lv_has ls 6 [(0, .ref (ad g a0)), (2, .int x2), (3, .int x3), (4, .int x4'), (5, .int x5')] → W p l e (rmD 1) s m args below meth c H locs 0 0 (MQ below (QA g S (pV K)) args s 0 0 (gA g)) (F0 m 20 ls [])) (hEK20 : ∀ (M' : Mm) (H : Heap) (locs : List Loc) (ls : Array Slot), EK20 M' → RP g S M' H → va_S (gA g) s.heap H locs → lv_has ls 6 [(0, .ref (ad g a0)), (2, .int x2), (3, .int x3)] → W p l e (rmD 1) s m args below meth c H locs 0 0 (MQ below (QA g S (pV K)) args s 0 0 (gA g)) (F0 m 55 ls [])) (hf : f_X11_tellsWay_B20 S a0 x2 x3 x4 x5 M BK20 EK20 K) (H : Heap) (locs : List Loc) (ls : Array Slot) (hR : RP g S M H) (hS : va_S (gA g) s.heap H locs) (hl : lv_has ls 6 [(0, .ref (ad g a0)), (2, .int x2), (3, .int x3), (4, .int x4), (5, .int x5)]) : W p l e (rmD 1) s m args below meth c H locs 0 0 (MQ below (QA g S (pV K)) args s 0 0 (gA g)) (F0 m 20 ls []) := by
  have hx := E.1
  have hb := E.2.1
  unfold f_X11_tellsWay_B20 at hf
  refine lv_iload hx hb dX11_tellsWay_20 (lv_at hl 4 rfl) ?_
  refine lv_if_lt (tgt := 55) hx hb dX11_tellsWay_22 (by decide) (fun c6 => ?_) (fun c6 => ?_)
  · replace hf := hf.1 c6
    exact hEK20  _ _ _ _ hf hR hS (lv_sub hl [0, 1, 2] rfl)
  · replace hf := hf.2 c6
    refine lv_aload_n hx hb dX11_tellsWay_25 rfl (lv_at hl 0 rfl) ?_
    obtain ⟨b7, hb7, hf⟩ := hf
    refine hw_getR E hR cI10 hs0 2 (by decide) lfX11_7 rfl hb7 dX11_tellsWay_26 ?_
    refine lv_iload hx hb dX11_tellsWay_29 (lv_at hl 4 rfl) ?_
    refine lv_aload_n hx hb dX11_tellsWay_31 rfl (lv_at hl 0 rfl) ?_
    obtain ⟨b8, hb8, hf⟩ := hf
    refine hw_getR E hR cI10 hs0 41 (by decide) lfX11_336 rfl hb8 dX11_tellsWay_32 ?_
    refine lv_iload hx hb dX11_tellsWay_35 (lv_at hl 3 rfl) ?_
    obtain ⟨n9, hn9, in9, hf⟩ := hf
    refine hw_iald E hR hS hn9 in9 dX11_tellsWay_37 ?_
    refine lv_i2l hx hb dX11_tellsWay_38 rfl ?_
    obtain ⟨n10, hn10, in10, hf⟩ := hf
    refine hw_last E hR hS hw hn10 in10 dX11_tellsWay_39 (fun m11 H locs em11 hR hS => ?_)
    replace hf := hf m11 em11
    refine lv_aload_n hx hb dX11_tellsWay_40 rfl (lv_at hl 0 rfl) ?_
    obtain ⟨b12, hb12, hf⟩ := hf
    refine hw_getR E hR cI10 hs0 40 (by decide) lfX11_330 rfl hb12 dX11_tellsWay_41 ?_
    refine lv_iload hx hb dX11_tellsWay_44 (lv_at hl 3 rfl) ?_
    obtain ⟨n13, hn13, in13, hf⟩ := hf
    refine hw_iald E hR hS hn13 in13 dX11_tellsWay_46 ?_
    refine lv_topi (fun v14 ev14 => ?_)
    replace hf := hf v14 ev14
    refine lv_istore (lv' := [(4, .int v14), (0, .ref (ad g a0)), (2, .int x2), (3, .int x3), (5, .int x5)]) hx hb dX11_tellsWay_47 hl (by decide) rfl (fun ls hl => ?_)
    obtain ⟨v15, ev15⟩ : ∃ y : Int32, y = x5 + (-1 : Int32) := ⟨_, rfl⟩
    replace hf := hf v15 ev15
    refine lv_iinc (v := v15) (lv' := [(5, .int v15), (4, .int v14), (0, .ref (ad g a0)), (2, .int x2), (3, .int x3)]) hx hb dX11_tellsWay_49 hl (k := 4) rfl (by rw [ev15]; rfl) (by decide) rfl (fun ls hl => ?_)
    refine lv_goto (tgt := 20) hx hb dX11_tellsWay_52 (by decide) ?_
    exact hBK20 _ _ _ _ _ _ hf hR hS (lv_sub hl [2, 3, 4, 1, 0] rfl)
def f_X11_tellsWay_L20 (S : Ss) (a0 : Nat) (x2 : Int32) (x3 : Int32) (EK20 : Mm → Prop) (K : Mm → Prop) : Nat → Int32 → Int32 → Mm → Prop
  | 0, _, _, _ => False
  | n + 1, x4, x5, M => f_X11_tellsWay_B20 S a0 x2 x3 x4 x5 M (fun (x4 : Int32) (x5 : Int32) (M : Mm) => f_X11_tellsWay_L20 S a0 x2 x3 EK20 K n x4 x5 M) EK20 K
set_option maxHeartbeats 4000000 in
set_option maxRecDepth 100000 in
theorem w_X11_tellsWay_L20 {p : Program} {l : Launch} {e : Env} {s : State} {m : MethodId} {args : Array Value} {below : List Frame} {meth : Method} {c : Code} {g : Gg} {S : Ss} (a0 : Nat) (x2 : Int32) (x3 : Int32) (EK20 : Mm → Prop) (K : Mm → Prop) (E : EN p s m args meth c cX11_tellsWay 6 none RX11 g) (hw : ad g 100000 < s.heap.size) (hs0 : S[a0]? = some (10, 0)) (hEK20 : ∀ (M' : Mm) (H : Heap) (locs : List Loc) (ls : Array Slot), EK20 M' → RP g S M' H → va_S (gA g) s.heap H locs → lv_has ls 6 [(0, .ref (ad g a0)), (2, .int x2), (3, .int x3)] → W p l e (rmD 1) s m args below meth c H locs 0 0 (MQ below (QA g S (pV K)) args s 0 0 (gA g)) (F0 m 55 ls [])) : ∀ (n : Nat) (x4 : Int32) (x5 : Int32) (M : Mm), f_X11_tellsWay_L20 S a0 x2 x3 EK20 K n x4 x5 M → ∀ (H : Heap) (locs : List Loc) (ls : Array Slot), RP g S M H → va_S (gA g) s.heap H locs → lv_has ls 6 [(0, .ref (ad g a0)), (2, .int x2), (3, .int x3), (4, .int x4), (5, .int x5)] → W p l e (rmD 1) s m args below meth c H locs 0 0 (MQ below (QA g S (pV K)) args s 0 0 (gA g)) (F0 m 20 ls []) := by
  intro n
  induction n with
  | zero => intro x4 x5 M hf; exact hf.elim
  | succ n ih =>
    intro x4 x5 M hf H locs ls hR hS hl
    exact w_X11_tellsWay_B20 _ _ _ _ _ _ _ _ _ E hw hs0 (fun _ _ M H locs ls h hR hS hl => ih _ _ M h H locs ls hR hS hl) hEK20 hf H locs ls hR hS hl
def f_X11_tellsWay (S : Ss) (a0 : Nat) (x1 : Int32) (x2 : Int32) (M : Mm) (K : Mm → Prop) : Prop :=
  ∀ m1 : Mm, m1 = stI M a0 1 (0 : Int32) →
  ∃ b2 : Nat, m1.2.2 a0 42 = some b2 ∧
  ∃ n3 : Nat, shp S b2 = some (50, n3) ∧ vp_in x1 n3 ∧
  ∀ v4 : Int32, v4 = (m1.1 b2 x1.toNatClampNeg) →
  ∀ v5 : Int32, v5 = (v4 - (1 : Int32)) →
  ∃ n20 : Nat, f_X11_tellsWay_L20 S a0 x2 v4 (fun (m16 : Mm) =>
    ∀ m17 : Mm, m17 = stI m16 a0 1 v4 →
    ((x2 < 0 →
      K m17) ∧
     (¬ x2 < 0 →
      f_X11_enters S a0 x2.toInt64 m17 (fun (m19 : Mm) =>
        K m19)))) K n20 x1 v5 m1
set_option maxHeartbeats 4000000 in
set_option maxRecDepth 100000 in
theorem ok_X11_tellsWay {l : Launch} {g : Gg} {S : Ss} {a0 : Nat} {x1 : Int32} {x2 : Int32} {M : Mm} {K : Mm → Prop} (hs0 : S[a0]? = some (10, 0)) (hf : f_X11_tellsWay S a0 x1 x2 M K) : MT l g S yX11_tellsWay cX11_tellsWay 6 none 1 [.ref (ad g a0), .int x1, .int x2] M (pV K) := by
  refine MT.of (by decide +kernel) (Nat.le_of_ble_eq_true rfl) ?_
  intro p e s m below meth c ls E hw hR hS hl
  have hl : lv_has ls 6 [(0, .ref (ad g a0)), (1, .int x1), (2, .int x2)] := hl
  generalize ([.ref (ad g a0), .int x1, .int x2] : List Value).toArray = args at E ⊢
  have E : EN p s m args meth c cX11_tellsWay 6 none RX11 g := E
  have hx := E.1
  have hb := E.2.1
  unfold f_X11_tellsWay at hf
  refine lv_aload_n hx hb dX11_tellsWay_0 rfl (lv_at hl 0 rfl) ?_
  refine lv_iconst (v := 0) hx hb dX11_tellsWay_1 (by decide) ?_
  refine hw_putI E hR hS hw cI10 hs0 1 (by decide) lfX11_11 rfl (Or.inl rfl) dX11_tellsWay_2 (fun m1 H locs em1 hR hS => ?_)
  replace hf := hf m1 em1
  refine lv_aload_n hx hb dX11_tellsWay_5 rfl (lv_at hl 0 rfl) ?_
  obtain ⟨b2, hb2, hf⟩ := hf
  refine hw_getR E hR cI10 hs0 42 (by decide) lfX11_327 rfl hb2 dX11_tellsWay_6 ?_
  refine lv_iload_n hx hb dX11_tellsWay_9 rfl (lv_at hl 1 rfl) ?_
  obtain ⟨n3, hn3, in3, hf⟩ := hf
  refine hw_iald E hR hS hn3 in3 dX11_tellsWay_10 ?_
  refine lv_topi (fun v4 ev4 => ?_)
  replace hf := hf v4 ev4
  refine lv_istore_n (lv' := [(3, .int v4), (0, .ref (ad g a0)), (1, .int x1), (2, .int x2)]) hx hb dX11_tellsWay_11 rfl hl (by decide) rfl (fun ls hl => ?_)
  refine lv_iload_n hx hb dX11_tellsWay_12 rfl (lv_at hl 2 rfl) ?_
  refine lv_istore (lv' := [(4, .int x1), (3, .int v4), (0, .ref (ad g a0)), (1, .int x1), (2, .int x2)]) hx hb dX11_tellsWay_13 hl (by decide) rfl (fun ls hl => ?_)
  refine lv_iload_n hx hb dX11_tellsWay_15 rfl (lv_at hl 1 rfl) ?_
  refine lv_iconst (v := 1) hx hb dX11_tellsWay_16 (by decide) ?_
  refine lv_isub hx hb dX11_tellsWay_17 ?_
  refine lv_topi (fun v5 ev5 => ?_)
  replace hf := hf v5 ev5
  refine lv_istore (lv' := [(5, .int v5), (4, .int x1), (3, .int v4), (0, .ref (ad g a0)), (1, .int x1), (2, .int x2)]) hx hb dX11_tellsWay_18 hl (by decide) rfl (fun ls hl => ?_)
  obtain ⟨n20, hf⟩ := hf
  refine w_X11_tellsWay_L20 _ _ _ _ _ E hw hs0 ?_ n20 _ _ _ hf _ _ _ hR hS (lv_sub hl [3, 5, 2, 1, 0] rfl)
  intro m16 H locs ls hf hR hS hl
  refine lv_aload_n hx hb dX11_tellsWay_55 rfl (lv_at hl 0 rfl) ?_
  refine lv_iload_n hx hb dX11_tellsWay_56 rfl (lv_at hl 2 rfl) ?_
  refine hw_putI E hR hS hw cI10 hs0 1 (by decide) lfX11_11 rfl (Or.inl rfl) dX11_tellsWay_57 (fun m17 H locs em17 hR hS => ?_)
  replace hf := hf m17 em17
  refine lv_iload_n hx hb dX11_tellsWay_60 rfl (lv_at hl 1 rfl) ?_
  refine lv_if_lt (tgt := 70) hx hb dX11_tellsWay_61 (by decide) (fun c18 => ?_) (fun c18 => ?_)
  · replace hf := hf.1 c18
    exact hw_vret E hR hS ⟨rfl, hf⟩ dX11_tellsWay_70
  · replace hf := hf.2 c18
    refine lv_aload_n hx hb dX11_tellsWay_64 rfl (lv_at hl 0 rfl) ?_
    refine lv_iload_n hx hb dX11_tellsWay_65 rfl (lv_at hl 1 rfl) ?_
    refine lv_i2l hx hb dX11_tellsWay_66 rfl ?_
    refine hw_callV (d := 1) E hR hS (As := [.long x2.toInt64]) (rest := []) cI10 hs0 rfl mcX11_enters miX11_enters lmX11_262 (ok_X11_enters hs0 hf) rfl rfl (by decide) hl.1 (Nat.le_of_ble_eq_true rfl) dX11_tellsWay_67 (fun rr m19 H locs hp hR hS => ?_)
    obtain ⟨rfl, hf⟩ := hp
    refine W.eq (g2 := F0 m 70 ls []) rfl ?_
    exact hw_vret E hR hS ⟨rfl, hf⟩ dX11_tellsWay_70
def f_X11_all (S : Ss) (a0 : Nat) (x1 : Int32) (M : Mm) (K : Int32 → Mm → Prop) : Prop :=
  ∀ m1 : Mm, m1 = stI M a0 0 (0 : Int32) →
  f_X11_isRun S a0 x1 m1 (fun (r3 : Int32) (m2 : Mm) =>
    ((r3 = 0 →
    K (-1 : Int32) m2) ∧
   (¬ r3 = 0 →
    f_X11_remembers S a0  m2 (fun (m5 : Mm) =>
      f_X11_explores S a0 x1 (4000 : Int32) m5 (fun (r7 : Int32) (m6 : Mm) =>
      f_X11_comesBack S a0  m6 (fun (m8 : Mm) =>
      ((r7 = 0 →
      K (-3 : Int32) m8) ∧
     (¬ r7 = 0 →
      K (m8.1 a0 44) m8))))))))
set_option maxHeartbeats 4000000 in
set_option maxRecDepth 100000 in
theorem ok_X11_all {l : Launch} {g : Gg} {S : Ss} {a0 : Nat} {x1 : Int32} {M : Mm} {K : Int32 → Mm → Prop} (hs0 : S[a0]? = some (10, 0)) (hf : f_X11_all S a0 x1 M K) : MT l g S yX11_all cX11_all 3 (some .int) 8 [.ref (ad g a0), .int x1] M (pI K) := by
  refine MT.of (by decide +kernel) (Nat.le_of_ble_eq_true rfl) ?_
  intro p e s m below meth c ls E hw hR hS hl
  have hl : lv_has ls 3 [(0, .ref (ad g a0)), (1, .int x1)] := hl
  generalize ([.ref (ad g a0), .int x1] : List Value).toArray = args at E ⊢
  have E : EN p s m args meth c cX11_all 3 (some .int) RX11 g := E
  have hx := E.1
  have hb := E.2.1
  unfold f_X11_all at hf
  refine lv_aload_n hx hb dX11_all_0 rfl (lv_at hl 0 rfl) ?_
  refine lv_iconst (v := 0) hx hb dX11_all_1 (by decide) ?_
  refine hw_putI E hR hS hw cI10 hs0 0 (by decide) lfX11_3 rfl (Or.inl rfl) dX11_all_2 (fun m1 H locs em1 hR hS => ?_)
  replace hf := hf m1 em1
  refine lv_aload_n hx hb dX11_all_5 rfl (lv_at hl 0 rfl) ?_
  refine lv_iload_n hx hb dX11_all_6 rfl (lv_at hl 1 rfl) ?_
  refine hw_callV (d := 8) E hR hS (As := [.int x1]) (rest := []) cI10 hs0 rfl mcX11_isRun miX11_isRun lmX11_341 (ok_X11_isRun hs0 hf) rfl rfl (by decide) hl.1 (Nat.le_of_ble_eq_true rfl) dX11_all_7 (fun rr m2 H locs hp hR hS => ?_)
  obtain ⟨r3, rfl, hf⟩ := hp
  refine W.eq (g2 := F0 m 10 ls [.int r3]) rfl ?_
  refine lv_if_ne (tgt := 15) hx hb dX11_all_10 (by decide) (fun c4 => ?_) (fun c4 => ?_)
  · replace hf := hf.2 c4
    refine lv_aload_n hx hb dX11_all_15 rfl (lv_at hl 0 rfl) ?_
    refine hw_callV (d := 8) E hR hS (As := []) (rest := []) cI10 hs0 rfl mcX11_remembers miX11_remembers lmX11_344 (ok_X11_remembers hs0 hf) rfl rfl (by decide) hl.1 (Nat.le_of_ble_eq_true rfl) dX11_all_16 (fun rr m5 H locs hp hR hS => ?_)
    obtain ⟨rfl, hf⟩ := hp
    refine W.eq (g2 := F0 m 19 ls []) rfl ?_
    refine lv_aload_n hx hb dX11_all_19 rfl (lv_at hl 0 rfl) ?_
    refine lv_iload_n hx hb dX11_all_20 rfl (lv_at hl 1 rfl) ?_
    refine lv_sipush (v := 4000) hx hb dX11_all_21 (by decide) ?_
    refine hw_callV (d := 8) E hR hS (As := [.int x1, .int (4000 : Int32)]) (rest := []) cI10 hs0 rfl mcX11_explores miX11_explores lmX11_347 (ok_X11_explores hs0 hf) rfl rfl (by decide) hl.1 (Nat.le_of_ble_eq_true rfl) dX11_all_24 (fun rr m6 H locs hp hR hS => ?_)
    obtain ⟨r7, rfl, hf⟩ := hp
    refine W.eq (g2 := F0 m 27 ls [.int r7]) rfl ?_
    refine lv_istore_n (lv' := [(2, .int r7), (0, .ref (ad g a0)), (1, .int x1)]) hx hb dX11_all_27 rfl hl (by decide) rfl (fun ls hl => ?_)
    refine lv_aload_n hx hb dX11_all_28 rfl (lv_at hl 1 rfl) ?_
    refine hw_callV (d := 8) E hR hS (As := []) (rest := []) cI10 hs0 rfl mcX11_comesBack miX11_comesBack lmX11_350 (ok_X11_comesBack hs0 hf) rfl rfl (by decide) hl.1 (Nat.le_of_ble_eq_true rfl) dX11_all_29 (fun rr m8 H locs hp hR hS => ?_)
    obtain ⟨rfl, hf⟩ := hp
    refine W.eq (g2 := F0 m 32 ls []) rfl ?_
    refine lv_iload_n hx hb dX11_all_32 rfl (lv_at hl 0 rfl) ?_
    refine lv_if_eq (tgt := 43) hx hb dX11_all_33 (by decide) (fun c9 => ?_) (fun c9 => ?_)
    · replace hf := hf.1 c9
      refine lv_bipush (v := -3) hx hb dX11_all_43 (by decide) ?_
      exact hw_iret E hR hS ⟨_, rfl, hf⟩ dX11_all_45
    · replace hf := hf.2 c9
      refine lv_aload_n hx hb dX11_all_36 rfl (lv_at hl 1 rfl) ?_
      refine hw_getI E hR cI10 hs0 44 (by decide) lfX11_296 rfl dX11_all_37 ?_
      refine lv_goto (tgt := 45) hx hb dX11_all_40 (by decide) ?_
      exact hw_iret E hR hS ⟨_, rfl, hf⟩ dX11_all_45
  · replace hf := hf.1 c4
    refine lv_iconst (v := -1) hx hb dX11_all_13 (by decide) ?_
    exact hw_iret E hR hS ⟨_, rfl, hf⟩ dX11_all_14
def f_X11_isFound (S : Ss) (a0 : Nat) (M : Mm) (K : Int32 → Mm → Prop) : Prop :=
  (((M.1 a0 51) = 0 →
    f_X11_breaks S a0  M (fun (r13 : Int32) (m12 : Mm) =>
      (r13 = 0 ∨ r13 = 1) ∧ K r13 m12)) ∧
   (¬ (M.1 a0 51) = 0 →
    (((M.1 a0 51) = (1 : Int32) →
      f_X11_worked S a0 (73 : Int32) M (fun (r10 : Int32) (m9 : Mm) =>
        ((r10 = 0 →
        K (0 : Int32) m9) ∧
       (¬ r10 = 0 →
        K (1 : Int32) m9)))) ∧
     (¬ (M.1 a0 51) = (1 : Int32) →
      (((M.1 a0 29) = 0 →
        K (0 : Int32) M) ∧
       (¬ (M.1 a0 29) = 0 →
        (((M.1 a0 37) = ((1 : Int32) <<< ((M.1 a0 52) &&& 31)) →
          ∀ m5 : Mm, m5 = stI M a0 28 (1 : Int32) →
          ∀ m6 : Mm, m6 = stI m5 a0 29 (0 : Int32) →
          f_X11_breaks S a0  m6 (fun (r8 : Int32) (m7 : Mm) =>
            (r8 = 0 ∨ r8 = 1) ∧ K r8 m7)) ∧
         (¬ (M.1 a0 37) = ((1 : Int32) <<< ((M.1 a0 52) &&& 31)) →
          K (0 : Int32) M))))))))
set_option maxHeartbeats 4000000 in
set_option maxRecDepth 100000 in
theorem ok_X11_isFound {l : Launch} {g : Gg} {S : Ss} {a0 : Nat} {M : Mm} {K : Int32 → Mm → Prop} (hs0 : S[a0]? = some (10, 0)) (hf : f_X11_isFound S a0 M K) : MT l g S yX11_isFound cX11_isFound 1 (some .boolean) 4 [.ref (ad g a0)] M (pI K) := by
  refine MT.of (by decide +kernel) (Nat.le_of_ble_eq_true rfl) ?_
  intro p e s m below meth c ls E hw hR hS hl
  have hl : lv_has ls 1 [(0, .ref (ad g a0))] := hl
  generalize ([.ref (ad g a0)] : List Value).toArray = args at E ⊢
  have E : EN p s m args meth c cX11_isFound 1 (some .boolean) RX11 g := E
  have hx := E.1
  have hb := E.2.1
  unfold f_X11_isFound at hf
  refine lv_aload_n hx hb dX11_isFound_0 rfl (lv_at hl 0 rfl) ?_
  refine hw_getI E hR cI10 hs0 51 (by decide) lfX11_353 rfl dX11_isFound_1 ?_
  refine lv_if_ne (tgt := 12) hx hb dX11_isFound_4 (by decide) (fun c1 => ?_) (fun c1 => ?_)
  · replace hf := hf.2 c1
    refine lv_aload_n hx hb dX11_isFound_12 rfl (lv_at hl 0 rfl) ?_
    refine hw_getI E hR cI10 hs0 51 (by decide) lfX11_353 rfl dX11_isFound_13 ?_
    refine lv_iconst (v := 1) hx hb dX11_isFound_16 (by decide) ?_
    refine lv_icmp_ne (tgt := 35) hx hb dX11_isFound_17 (by decide) (fun c2 => ?_) (fun c2 => ?_)
    · replace hf := hf.2 c2
      refine lv_aload_n hx hb dX11_isFound_35 rfl (lv_at hl 0 rfl) ?_
      refine hw_getI E hR cI10 hs0 29 (by decide) lfX11_176 rfl dX11_isFound_36 ?_
      refine lv_if_eq (tgt := 55) hx hb dX11_isFound_39 (by decide) (fun c3 => ?_) (fun c3 => ?_)
      · replace hf := hf.1 c3
        refine lv_iconst (v := 0) hx hb dX11_isFound_55 (by decide) ?_
        exact hw_zret E hR hS (by decide) ⟨_, rfl, hf⟩ dX11_isFound_56
      · replace hf := hf.2 c3
        refine lv_aload_n hx hb dX11_isFound_42 rfl (lv_at hl 0 rfl) ?_
        refine hw_getI E hR cI10 hs0 37 (by decide) lfX11_214 rfl dX11_isFound_43 ?_
        refine lv_iconst (v := 1) hx hb dX11_isFound_46 (by decide) ?_
        refine lv_aload_n hx hb dX11_isFound_47 rfl (lv_at hl 0 rfl) ?_
        refine hw_getI E hR cI10 hs0 52 (by decide) lfX11_359 rfl dX11_isFound_48 ?_
        refine lv_ishl hx hb dX11_isFound_51 ?_
        refine lv_icmp_eq (tgt := 57) hx hb dX11_isFound_52 (by decide) (fun c4 => ?_) (fun c4 => ?_)
        · replace hf := hf.1 c4
          refine lv_aload_n hx hb dX11_isFound_57 rfl (lv_at hl 0 rfl) ?_
          refine lv_iconst (v := 1) hx hb dX11_isFound_58 (by decide) ?_
          refine hw_putI E hR hS hw cI10 hs0 28 (by decide) lfX11_173 rfl (Or.inl rfl) dX11_isFound_59 (fun m5 H locs em5 hR hS => ?_)
          replace hf := hf m5 em5
          refine lv_aload_n hx hb dX11_isFound_62 rfl (lv_at hl 0 rfl) ?_
          refine lv_iconst (v := 0) hx hb dX11_isFound_63 (by decide) ?_
          refine hw_putI E hR hS hw cI10 hs0 29 (by decide) lfX11_176 rfl (Or.inl rfl) dX11_isFound_64 (fun m6 H locs em6 hR hS => ?_)
          replace hf := hf m6 em6
          refine lv_aload_n hx hb dX11_isFound_67 rfl (lv_at hl 0 rfl) ?_
          refine hw_callV (d := 4) E hR hS (As := []) (rest := []) cI10 hs0 rfl mcX11_breaks miX11_breaks lmX11_356 (ok_X11_breaks hs0 hf) rfl rfl (by decide) hl.1 (Nat.le_of_ble_eq_true rfl) dX11_isFound_68 (fun rr m7 H locs hp hR hS => ?_)
          obtain ⟨r8, rfl, hf⟩ := hp
          refine W.eq (g2 := F0 m 71 ls [.int r8]) rfl ?_
          exact hw_zret E hR hS hf.1 ⟨_, rfl, hf.2⟩ dX11_isFound_71
        · replace hf := hf.2 c4
          refine lv_iconst (v := 0) hx hb dX11_isFound_55 (by decide) ?_
          exact hw_zret E hR hS (by decide) ⟨_, rfl, hf⟩ dX11_isFound_56
    · replace hf := hf.1 c2
      refine lv_aload_n hx hb dX11_isFound_20 rfl (lv_at hl 0 rfl) ?_
      refine lv_bipush (v := 73) hx hb dX11_isFound_21 (by decide) ?_
      refine hw_callV (d := 4) E hR hS (As := [.int (73 : Int32)]) (rest := []) cI10 hs0 rfl mcX11_worked miX11_worked lmX11_195 (ok_X11_worked hs0 hf) rfl rfl (by decide) hl.1 (Nat.le_of_ble_eq_true rfl) dX11_isFound_23 (fun rr m9 H locs hp hR hS => ?_)
      obtain ⟨r10, rfl, hf⟩ := hp
      refine W.eq (g2 := F0 m 26 ls [.int r10]) rfl ?_
      refine lv_if_eq (tgt := 33) hx hb dX11_isFound_26 (by decide) (fun c11 => ?_) (fun c11 => ?_)
      · replace hf := hf.1 c11
        refine lv_iconst (v := 0) hx hb dX11_isFound_33 (by decide) ?_
        exact hw_zret E hR hS (by decide) ⟨_, rfl, hf⟩ dX11_isFound_34
      · replace hf := hf.2 c11
        refine lv_iconst (v := 1) hx hb dX11_isFound_29 (by decide) ?_
        refine lv_goto (tgt := 34) hx hb dX11_isFound_30 (by decide) ?_
        exact hw_zret E hR hS (by decide) ⟨_, rfl, hf⟩ dX11_isFound_34
  · replace hf := hf.1 c1
    refine lv_aload_n hx hb dX11_isFound_7 rfl (lv_at hl 0 rfl) ?_
    refine hw_callV (d := 4) E hR hS (As := []) (rest := []) cI10 hs0 rfl mcX11_breaks miX11_breaks lmX11_356 (ok_X11_breaks hs0 hf) rfl rfl (by decide) hl.1 (Nat.le_of_ble_eq_true rfl) dX11_isFound_8 (fun rr m12 H locs hp hR hS => ?_)
    obtain ⟨r13, rfl, hf⟩ := hp
    refine W.eq (g2 := F0 m 11 ls [.int r13]) rfl ?_
    exact hw_zret E hR hS hf.1 ⟨_, rfl, hf.2⟩ dX11_isFound_11
def f_X11_finds_B29 (S : Ss) (a0 : Nat) (x1 : Int32) (x2 : Int32) (x3 : Int32) (x4 : Int32) (M : Mm) (BK29 : Int32 → Mm → Prop) (EK29 : Mm → Prop) (K : Int32 → Mm → Prop) : Prop :=
  f_X11_width S a0  M (fun (r7 : Int32) (m6 : Mm) =>
    ((r7 ≤ x4 →
    EK29 m6) ∧
   (¬ r7 ≤ x4 →
    ∃ b9 : Nat, m6.2.2 a0 42 = some b9 ∧
    ∃ n10 : Nat, shp S b9 = some (50, n10) ∧ vp_in x3 n10 ∧
    ((x1 ≤ (m6.1 b9 x3.toNatClampNeg) →
      EK29 m6) ∧
     (¬ x1 ≤ (m6.1 b9 x3.toNatClampNeg) →
      f_X11_goesTo S a0 x3 x4 m6 (fun (m12 : Mm) =>
        f_X11_isFound S a0  m12 (fun (r14 : Int32) (m13 : Mm) =>
        ((r14 = 0 →
        ∀ v16 : Int32, v16 = x4 + (1 : Int32) →
        BK29 v16 m13) ∧
       (¬ r14 = 0 →
        f_X11_tellsWay S a0 x3 x4 m13 (fun (m17 : Mm) =>
          ∃ b18 : Nat, m17.2.2 a0 42 = some b18 ∧
        ∃ n19 : Nat, shp S b18 = some (50, n19) ∧ vp_in x3 n19 ∧
        K ((m17.1 b18 x3.toNatClampNeg) + (1 : Int32)) m17))))))))))
set_option maxHeartbeats 4000000 in
set_option maxRecDepth 100000 in
theorem w_X11_finds_B29 {p : Program} {l : Launch} {e : Env} {s : State} {m : MethodId} {args : Array Value} {below : List Frame} {meth : Method} {c : Code} {g : Gg} {S : Ss} (a0 : Nat) (x1 : Int32) (x2 : Int32) (x3 : Int32) (x4 : Int32) (M : Mm) (BK29 : Int32 → Mm → Prop) (EK29 : Mm → Prop) (K : Int32 → Mm → Prop) (E : EN p s m args meth c cX11_finds 5 (some .int) RX11 g) (hw : ad g 100000 < s.heap.size) (hs0 : S[a0]? = some (10, 0)) (hBK29 : ∀ (x4' : Int32) (M' : Mm) (H : Heap) (locs : List Loc) (ls : Array Slot), BK29 x4' M' → RP g S M' H → va_S (gA g) s.heap H locs → lv_has ls 5 [(0, .ref (ad g a0)), (1, .int x1), (2, .int x2), (3, .int x3), (4, .int x4')] → W p l e (rmD 8) s m args below meth c H locs 0 0 (MQ below (QA g S (pI K)) args s 0 0 (gA g)) (F0 m 29 ls [])) (hEK29 : ∀ (M' : Mm) (H : Heap) (locs : List Loc) (ls : Array Slot), EK29 M' → RP g S M' H → va_S (gA g) s.heap H locs → lv_has ls 5 [(0, .ref (ad g a0)), (1, .int x1), (2, .int x2), (3, .int x3)] → W p l e (rmD 8) s m args below meth c H locs 0 0 (MQ below (QA g S (pI K)) args s 0 0 (gA g)) (F0 m 84 ls [])) (hf : f_X11_finds_B29 S a0 x1 x2 x3 x4 M BK29 EK29 K) (H : Heap) (locs : List Loc) (ls : Array Slot) (hR : RP g S M H) (hS : va_S (gA g) s.heap H locs) (hl : lv_has ls 5 [(0, .ref (ad g a0)), (1, .int x1), (2, .int x2), (3, .int x3), (4, .int x4)]) : W p l e (rmD 8) s m args below meth c H locs 0 0 (MQ below (QA g S (pI K)) args s 0 0 (gA g)) (F0 m 29 ls []) := by
  have hx := E.1
  have hb := E.2.1
  unfold f_X11_finds_B29 at hf
  refine lv_iload hx hb dX11_finds_29 (lv_at hl 4 rfl) ?_
  refine lv_aload_n hx hb dX11_finds_31 rfl (lv_at hl 0 rfl) ?_
  refine hw_callV (d := 8) E hR hS (As := []) (rest := [.int x4]) cI10 hs0 rfl mcX11_width miX11_width lmX11_251 (ok_X11_width hs0 hf) rfl rfl (by decide) hl.1 (Nat.le_of_ble_eq_true rfl) dX11_finds_32 (fun rr m6 H locs hp hR hS => ?_)
  obtain ⟨r7, rfl, hf⟩ := hp
  refine W.eq (g2 := F0 m 35 ls [.int r7, .int x4]) rfl ?_
  refine lv_icmp_ge (tgt := 84) hx hb dX11_finds_35 (by decide) (fun c8 => ?_) (fun c8 => ?_)
  · replace hf := hf.1 c8
    exact hEK29  _ _ _ _ hf hR hS (lv_sub hl [0, 1, 2, 3] rfl)
  · replace hf := hf.2 c8
    refine lv_aload_n hx hb dX11_finds_38 rfl (lv_at hl 0 rfl) ?_
    obtain ⟨b9, hb9, hf⟩ := hf
    refine hw_getR E hR cI10 hs0 42 (by decide) lfX11_327 rfl hb9 dX11_finds_39 ?_
    refine lv_iload_n hx hb dX11_finds_42 rfl (lv_at hl 3 rfl) ?_
    obtain ⟨n10, hn10, in10, hf⟩ := hf
    refine hw_iald E hR hS hn10 in10 dX11_finds_43 ?_
    refine lv_iload_n hx hb dX11_finds_44 rfl (lv_at hl 1 rfl) ?_
    refine lv_icmp_ge (tgt := 84) hx hb dX11_finds_45 (by decide) (fun c11 => ?_) (fun c11 => ?_)
    · replace hf := hf.1 c11
      exact hEK29  _ _ _ _ hf hR hS (lv_sub hl [0, 1, 2, 3] rfl)
    · replace hf := hf.2 c11
      refine lv_aload_n hx hb dX11_finds_48 rfl (lv_at hl 0 rfl) ?_
      refine lv_iload_n hx hb dX11_finds_49 rfl (lv_at hl 3 rfl) ?_
      refine lv_iload hx hb dX11_finds_50 (lv_at hl 4 rfl) ?_
      refine hw_callV (d := 8) E hR hS (As := [.int x3, .int x4]) (rest := []) cI10 hs0 rfl mcX11_goesTo miX11_goesTo lmX11_318 (ok_X11_goesTo hs0 hf) rfl rfl (by decide) hl.1 (Nat.le_of_ble_eq_true rfl) dX11_finds_52 (fun rr m12 H locs hp hR hS => ?_)
      obtain ⟨rfl, hf⟩ := hp
      refine W.eq (g2 := F0 m 55 ls []) rfl ?_
      refine lv_aload_n hx hb dX11_finds_55 rfl (lv_at hl 0 rfl) ?_
      refine hw_callV (d := 8) E hR hS (As := []) (rest := []) cI10 hs0 rfl mcX11_isFound miX11_isFound lmX11_362 (ok_X11_isFound hs0 hf) rfl rfl (by decide) hl.1 (Nat.le_of_ble_eq_true rfl) dX11_finds_56 (fun rr m13 H locs hp hR hS => ?_)
      obtain ⟨r14, rfl, hf⟩ := hp
      refine W.eq (g2 := F0 m 59 ls [.int r14]) rfl ?_
      refine lv_if_eq (tgt := 78) hx hb dX11_finds_59 (by decide) (fun c15 => ?_) (fun c15 => ?_)
      · replace hf := hf.1 c15
        obtain ⟨v16, ev16⟩ : ∃ y : Int32, y = x4 + (1 : Int32) := ⟨_, rfl⟩
        replace hf := hf v16 ev16
        refine lv_iinc (v := v16) (lv' := [(4, .int v16), (0, .ref (ad g a0)), (1, .int x1), (2, .int x2), (3, .int x3)]) hx hb dX11_finds_78 hl (k := 4) rfl (by rw [ev16]; rfl) (by decide) rfl (fun ls hl => ?_)
        refine lv_goto (tgt := 29) hx hb dX11_finds_81 (by decide) ?_
        exact hBK29 _ _ _ _ _ hf hR hS (lv_sub hl [1, 2, 3, 4, 0] rfl)
      · replace hf := hf.2 c15
        refine lv_aload_n hx hb dX11_finds_62 rfl (lv_at hl 0 rfl) ?_
        refine lv_iload_n hx hb dX11_finds_63 rfl (lv_at hl 3 rfl) ?_
        refine lv_iload hx hb dX11_finds_64 (lv_at hl 4 rfl) ?_
        refine hw_callV (d := 8) E hR hS (As := [.int x3, .int x4]) (rest := []) cI10 hs0 rfl mcX11_tellsWay miX11_tellsWay lmX11_365 (ok_X11_tellsWay hs0 hf) rfl rfl (by decide) hl.1 (Nat.le_of_ble_eq_true rfl) dX11_finds_66 (fun rr m17 H locs hp hR hS => ?_)
        obtain ⟨rfl, hf⟩ := hp
        refine W.eq (g2 := F0 m 69 ls []) rfl ?_
        refine lv_aload_n hx hb dX11_finds_69 rfl (lv_at hl 0 rfl) ?_
        obtain ⟨b18, hb18, hf⟩ := hf
        refine hw_getR E hR cI10 hs0 42 (by decide) lfX11_327 rfl hb18 dX11_finds_70 ?_
        refine lv_iload_n hx hb dX11_finds_73 rfl (lv_at hl 3 rfl) ?_
        obtain ⟨n19, hn19, in19, hf⟩ := hf
        refine hw_iald E hR hS hn19 in19 dX11_finds_74 ?_
        refine lv_iconst (v := 1) hx hb dX11_finds_75 (by decide) ?_
        refine lv_iadd hx hb dX11_finds_76 ?_
        exact hw_iret E hR hS ⟨_, rfl, hf⟩ dX11_finds_77
def f_X11_finds_L29 (S : Ss) (a0 : Nat) (x1 : Int32) (x2 : Int32) (x3 : Int32) (EK29 : Mm → Prop) (K : Int32 → Mm → Prop) : Nat → Int32 → Mm → Prop
  | 0, _, _ => False
  | n + 1, x4, M => f_X11_finds_B29 S a0 x1 x2 x3 x4 M (fun (x4 : Int32) (M : Mm) => f_X11_finds_L29 S a0 x1 x2 x3 EK29 K n x4 M) EK29 K
set_option maxHeartbeats 4000000 in
set_option maxRecDepth 100000 in
theorem w_X11_finds_L29 {p : Program} {l : Launch} {e : Env} {s : State} {m : MethodId} {args : Array Value} {below : List Frame} {meth : Method} {c : Code} {g : Gg} {S : Ss} (a0 : Nat) (x1 : Int32) (x2 : Int32) (x3 : Int32) (EK29 : Mm → Prop) (K : Int32 → Mm → Prop) (E : EN p s m args meth c cX11_finds 5 (some .int) RX11 g) (hw : ad g 100000 < s.heap.size) (hs0 : S[a0]? = some (10, 0)) (hEK29 : ∀ (M' : Mm) (H : Heap) (locs : List Loc) (ls : Array Slot), EK29 M' → RP g S M' H → va_S (gA g) s.heap H locs → lv_has ls 5 [(0, .ref (ad g a0)), (1, .int x1), (2, .int x2), (3, .int x3)] → W p l e (rmD 8) s m args below meth c H locs 0 0 (MQ below (QA g S (pI K)) args s 0 0 (gA g)) (F0 m 84 ls [])) : ∀ (n : Nat) (x4 : Int32) (M : Mm), f_X11_finds_L29 S a0 x1 x2 x3 EK29 K n x4 M → ∀ (H : Heap) (locs : List Loc) (ls : Array Slot), RP g S M H → va_S (gA g) s.heap H locs → lv_has ls 5 [(0, .ref (ad g a0)), (1, .int x1), (2, .int x2), (3, .int x3), (4, .int x4)] → W p l e (rmD 8) s m args below meth c H locs 0 0 (MQ below (QA g S (pI K)) args s 0 0 (gA g)) (F0 m 29 ls []) := by
  intro n
  induction n with
  | zero => intro x4 M hf; exact hf.elim
  | succ n ih =>
    intro x4 M hf H locs ls hR hS hl
    exact w_X11_finds_B29 _ _ _ _ _ _ _ _ _ E hw hs0 (fun _ M H locs ls h hR hS hl => ih _ M h H locs ls hR hS hl) hEK29 hf H locs ls hR hS hl
def f_X11_finds_B21 (S : Ss) (a0 : Nat) (x1 : Int32) (x2 : Int32) (x3 : Int32) (M : Mm) (BK21 : Int32 → Mm → Prop) (EK21 : Mm → Prop) (K : Int32 → Mm → Prop) : Prop :=
  ((x2 ≤ x3 →
    EK21 M) ∧
   (¬ x2 ≤ x3 →
    ∃ n22 : Nat, f_X11_finds_L29 S a0 x1 x2 x3 (fun (m20 : Mm) =>
      ∀ v21 : Int32, v21 = x3 + (1 : Int32) →
      BK21 v21 m20) K n22 (0 : Int32) M))
set_option maxHeartbeats 4000000 in
set_option maxRecDepth 100000 in
theorem w_X11_finds_B21 {p : Program} {l : Launch} {e : Env} {s : State} {m : MethodId} {args : Array Value} {below : List Frame} {meth : Method} {c : Code} {g : Gg} {S : Ss} (a0 : Nat) (x1 : Int32) (x2 : Int32) (x3 : Int32) (M : Mm) (BK21 : Int32 → Mm → Prop) (EK21 : Mm → Prop) (K : Int32 → Mm → Prop) (E : EN p s m args meth c cX11_finds 5 (some .int) RX11 g) (hw : ad g 100000 < s.heap.size) (hs0 : S[a0]? = some (10, 0)) (hBK21 : ∀ (x3' : Int32) (M' : Mm) (H : Heap) (locs : List Loc) (ls : Array Slot), BK21 x3' M' → RP g S M' H → va_S (gA g) s.heap H locs → lv_has ls 5 [(0, .ref (ad g a0)), (1, .int x1), (2, .int x2), (3, .int x3')] → W p l e (rmD 8) s m args below meth c H locs 0 0 (MQ below (QA g S (pI K)) args s 0 0 (gA g)) (F0 m 21 ls [])) (hEK21 : ∀ (M' : Mm) (H : Heap) (locs : List Loc) (ls : Array Slot), EK21 M' → RP g S M' H → va_S (gA g) s.heap H locs → lv_has ls 5 [] → W p l e (rmD 8) s m args below meth c H locs 0 0 (MQ below (QA g S (pI K)) args s 0 0 (gA g)) (F0 m 90 ls [])) (hf : f_X11_finds_B21 S a0 x1 x2 x3 M BK21 EK21 K) (H : Heap) (locs : List Loc) (ls : Array Slot) (hR : RP g S M H) (hS : va_S (gA g) s.heap H locs) (hl : lv_has ls 5 [(0, .ref (ad g a0)), (1, .int x1), (2, .int x2), (3, .int x3)]) : W p l e (rmD 8) s m args below meth c H locs 0 0 (MQ below (QA g S (pI K)) args s 0 0 (gA g)) (F0 m 21 ls []) := by
  have hx := E.1
  have hb := E.2.1
  unfold f_X11_finds_B21 at hf
  refine lv_iload_n hx hb dX11_finds_21 rfl (lv_at hl 3 rfl) ?_
  refine lv_iload_n hx hb dX11_finds_22 rfl (lv_at hl 2 rfl) ?_
  refine lv_icmp_ge (tgt := 90) hx hb dX11_finds_23 (by decide) (fun c5 => ?_) (fun c5 => ?_)
  · replace hf := hf.1 c5
    exact hEK21  _ _ _ _ hf hR hS (lv_sub hl [] rfl)
  · replace hf := hf.2 c5
    refine lv_iconst (v := 0) hx hb dX11_finds_26 (by decide) ?_
    refine lv_istore (lv' := [(4, .int (0 : Int32)), (0, .ref (ad g a0)), (1, .int x1), (2, .int x2), (3, .int x3)]) hx hb dX11_finds_27 hl (by decide) rfl (fun ls hl => ?_)
    obtain ⟨n22, hf⟩ := hf
    refine w_X11_finds_L29 _ _ _ _ _ _ E hw hs0 ?_ n22 _ _ hf _ _ _ hR hS (lv_sub hl [1, 2, 3, 4, 0] rfl)
    intro m20 H locs ls hf hR hS hl
    obtain ⟨v21, ev21⟩ : ∃ y : Int32, y = x3 + (1 : Int32) := ⟨_, rfl⟩
    replace hf := hf v21 ev21
    refine lv_iinc (v := v21) (lv' := [(3, .int v21), (0, .ref (ad g a0)), (1, .int x1), (2, .int x2)]) hx hb dX11_finds_84 hl (k := 3) rfl (by rw [ev21]; rfl) (by decide) rfl (fun ls hl => ?_)
    refine lv_goto (tgt := 21) hx hb dX11_finds_87 (by decide) ?_
    exact hBK21 _ _ _ _ _ hf hR hS (lv_sub hl [1, 2, 3, 0] rfl)
def f_X11_finds_L21 (S : Ss) (a0 : Nat) (x1 : Int32) (x2 : Int32) (EK21 : Mm → Prop) (K : Int32 → Mm → Prop) : Nat → Int32 → Mm → Prop
  | 0, _, _ => False
  | n + 1, x3, M => f_X11_finds_B21 S a0 x1 x2 x3 M (fun (x3 : Int32) (M : Mm) => f_X11_finds_L21 S a0 x1 x2 EK21 K n x3 M) EK21 K
set_option maxHeartbeats 4000000 in
set_option maxRecDepth 100000 in
theorem w_X11_finds_L21 {p : Program} {l : Launch} {e : Env} {s : State} {m : MethodId} {args : Array Value} {below : List Frame} {meth : Method} {c : Code} {g : Gg} {S : Ss} (a0 : Nat) (x1 : Int32) (x2 : Int32) (EK21 : Mm → Prop) (K : Int32 → Mm → Prop) (E : EN p s m args meth c cX11_finds 5 (some .int) RX11 g) (hw : ad g 100000 < s.heap.size) (hs0 : S[a0]? = some (10, 0)) (hEK21 : ∀ (M' : Mm) (H : Heap) (locs : List Loc) (ls : Array Slot), EK21 M' → RP g S M' H → va_S (gA g) s.heap H locs → lv_has ls 5 [] → W p l e (rmD 8) s m args below meth c H locs 0 0 (MQ below (QA g S (pI K)) args s 0 0 (gA g)) (F0 m 90 ls [])) : ∀ (n : Nat) (x3 : Int32) (M : Mm), f_X11_finds_L21 S a0 x1 x2 EK21 K n x3 M → ∀ (H : Heap) (locs : List Loc) (ls : Array Slot), RP g S M H → va_S (gA g) s.heap H locs → lv_has ls 5 [(0, .ref (ad g a0)), (1, .int x1), (2, .int x2), (3, .int x3)] → W p l e (rmD 8) s m args below meth c H locs 0 0 (MQ below (QA g S (pI K)) args s 0 0 (gA g)) (F0 m 21 ls []) := by
  intro n
  induction n with
  | zero => intro x3 M hf; exact hf.elim
  | succ n ih =>
    intro x3 M hf H locs ls hR hS hl
    exact w_X11_finds_B21 _ _ _ _ _ _ _ _ E hw hs0 (fun _ M H locs ls h hR hS hl => ih _ M h H locs ls hR hS hl) hEK21 hf H locs ls hR hS hl
def f_X11_finds (S : Ss) (a0 : Nat) (x1 : Int32) (M : Mm) (K : Int32 → Mm → Prop) : Prop :=
  f_X11_explores S a0 x1 (4000 : Int32) M (fun (r2 : Int32) (m1 : Mm) =>
    ((r2 = 0 →
    K (-3 : Int32) m1) ∧
   (¬ r2 = 0 →
    ∀ v4 : Int32, v4 = (m1.1 a0 44) →
    ∃ n24 : Nat, f_X11_finds_L21 S a0 x1 v4 (fun (m23 : Mm) =>
      K (-2 : Int32) m23) K n24 (0 : Int32) m1)))
set_option maxHeartbeats 4000000 in
set_option maxRecDepth 100000 in
theorem ok_X11_finds {l : Launch} {g : Gg} {S : Ss} {a0 : Nat} {x1 : Int32} {M : Mm} {K : Int32 → Mm → Prop} (hs0 : S[a0]? = some (10, 0)) (hf : f_X11_finds S a0 x1 M K) : MT l g S yX11_finds cX11_finds 5 (some .int) 8 [.ref (ad g a0), .int x1] M (pI K) := by
  refine MT.of (by decide +kernel) (Nat.le_of_ble_eq_true rfl) ?_
  intro p e s m below meth c ls E hw hR hS hl
  have hl : lv_has ls 5 [(0, .ref (ad g a0)), (1, .int x1)] := hl
  generalize ([.ref (ad g a0), .int x1] : List Value).toArray = args at E ⊢
  have E : EN p s m args meth c cX11_finds 5 (some .int) RX11 g := E
  have hx := E.1
  have hb := E.2.1
  unfold f_X11_finds at hf
  refine lv_aload_n hx hb dX11_finds_0 rfl (lv_at hl 0 rfl) ?_
  refine lv_iload_n hx hb dX11_finds_1 rfl (lv_at hl 1 rfl) ?_
  refine lv_sipush (v := 4000) hx hb dX11_finds_2 (by decide) ?_
  refine hw_callV (d := 8) E hR hS (As := [.int x1, .int (4000 : Int32)]) (rest := []) cI10 hs0 rfl mcX11_explores miX11_explores lmX11_347 (ok_X11_explores hs0 hf) rfl rfl (by decide) hl.1 (Nat.le_of_ble_eq_true rfl) dX11_finds_5 (fun rr m1 H locs hp hR hS => ?_)
  obtain ⟨r2, rfl, hf⟩ := hp
  refine W.eq (g2 := F0 m 8 ls [.int r2]) rfl ?_
  refine lv_if_ne (tgt := 14) hx hb dX11_finds_8 (by decide) (fun c3 => ?_) (fun c3 => ?_)
  · replace hf := hf.2 c3
    refine lv_aload_n hx hb dX11_finds_14 rfl (lv_at hl 0 rfl) ?_
    refine hw_getI E hR cI10 hs0 44 (by decide) lfX11_296 rfl dX11_finds_15 ?_
    refine lv_topi (fun v4 ev4 => ?_)
    replace hf := hf v4 ev4
    refine lv_istore_n (lv' := [(2, .int v4), (0, .ref (ad g a0)), (1, .int x1)]) hx hb dX11_finds_18 rfl hl (by decide) rfl (fun ls hl => ?_)
    refine lv_iconst (v := 0) hx hb dX11_finds_19 (by decide) ?_
    refine lv_istore_n (lv' := [(3, .int (0 : Int32)), (2, .int v4), (0, .ref (ad g a0)), (1, .int x1)]) hx hb dX11_finds_20 rfl hl (by decide) rfl (fun ls hl => ?_)
    obtain ⟨n24, hf⟩ := hf
    refine w_X11_finds_L21 _ _ _ _ _ E hw hs0 ?_ n24 _ _ hf _ _ _ hR hS (lv_sub hl [2, 3, 1, 0] rfl)
    intro m23 H locs ls hf hR hS hl
    refine lv_bipush (v := -2) hx hb dX11_finds_90 (by decide) ?_
    exact hw_iret E hR hS ⟨_, rfl, hf⟩ dX11_finds_92
  · replace hf := hf.1 c3
    refine lv_bipush (v := -3) hx hb dX11_finds_11 (by decide) ?_
    exact hw_iret E hR hS ⟨_, rfl, hf⟩ dX11_finds_13
def f_X11_never (S : Ss) (a0 : Nat) (x1 : Int32) (M : Mm) (K : Int32 → Mm → Prop) : Prop :=
  ∀ m1 : Mm, m1 = stI M a0 0 (0 : Int32) →
  f_X11_isRun S a0 x1 m1 (fun (r3 : Int32) (m2 : Mm) =>
    ((r3 = 0 →
    K (-1 : Int32) m2) ∧
   (¬ r3 = 0 →
    f_X11_remembers S a0  m2 (fun (m5 : Mm) =>
      ∀ m6 : Mm, m6 = stI m5 a0 51 (0 : Int32) →
    f_X11_finds S a0 x1 m6 (fun (r8 : Int32) (m7 : Mm) =>
      f_X11_comesBack S a0  m7 (fun (m9 : Mm) =>
      K r8 m9))))))
set_option maxHeartbeats 4000000 in
set_option maxRecDepth 100000 in
theorem ok_X11_never {l : Launch} {g : Gg} {S : Ss} {a0 : Nat} {x1 : Int32} {M : Mm} {K : Int32 → Mm → Prop} (hs0 : S[a0]? = some (10, 0)) (hf : f_X11_never S a0 x1 M K) : MT l g S yX11_never cX11_never 3 (some .int) 9 [.ref (ad g a0), .int x1] M (pI K) := by
  refine MT.of (by decide +kernel) (Nat.le_of_ble_eq_true rfl) ?_
  intro p e s m below meth c ls E hw hR hS hl
  have hl : lv_has ls 3 [(0, .ref (ad g a0)), (1, .int x1)] := hl
  generalize ([.ref (ad g a0), .int x1] : List Value).toArray = args at E ⊢
  have E : EN p s m args meth c cX11_never 3 (some .int) RX11 g := E
  have hx := E.1
  have hb := E.2.1
  unfold f_X11_never at hf
  refine lv_aload_n hx hb dX11_never_0 rfl (lv_at hl 0 rfl) ?_
  refine lv_iconst (v := 0) hx hb dX11_never_1 (by decide) ?_
  refine hw_putI E hR hS hw cI10 hs0 0 (by decide) lfX11_3 rfl (Or.inl rfl) dX11_never_2 (fun m1 H locs em1 hR hS => ?_)
  replace hf := hf m1 em1
  refine lv_aload_n hx hb dX11_never_5 rfl (lv_at hl 0 rfl) ?_
  refine lv_iload_n hx hb dX11_never_6 rfl (lv_at hl 1 rfl) ?_
  refine hw_callV (d := 9) E hR hS (As := [.int x1]) (rest := []) cI10 hs0 rfl mcX11_isRun miX11_isRun lmX11_341 (ok_X11_isRun hs0 hf) rfl rfl (by decide) hl.1 (Nat.le_of_ble_eq_true rfl) dX11_never_7 (fun rr m2 H locs hp hR hS => ?_)
  obtain ⟨r3, rfl, hf⟩ := hp
  refine W.eq (g2 := F0 m 10 ls [.int r3]) rfl ?_
  refine lv_if_ne (tgt := 15) hx hb dX11_never_10 (by decide) (fun c4 => ?_) (fun c4 => ?_)
  · replace hf := hf.2 c4
    refine lv_aload_n hx hb dX11_never_15 rfl (lv_at hl 0 rfl) ?_
    refine hw_callV (d := 9) E hR hS (As := []) (rest := []) cI10 hs0 rfl mcX11_remembers miX11_remembers lmX11_344 (ok_X11_remembers hs0 hf) rfl rfl (by decide) hl.1 (Nat.le_of_ble_eq_true rfl) dX11_never_16 (fun rr m5 H locs hp hR hS => ?_)
    obtain ⟨rfl, hf⟩ := hp
    refine W.eq (g2 := F0 m 19 ls []) rfl ?_
    refine lv_aload_n hx hb dX11_never_19 rfl (lv_at hl 0 rfl) ?_
    refine lv_iconst (v := 0) hx hb dX11_never_20 (by decide) ?_
    refine hw_putI E hR hS hw cI10 hs0 51 (by decide) lfX11_353 rfl (Or.inl rfl) dX11_never_21 (fun m6 H locs em6 hR hS => ?_)
    replace hf := hf m6 em6
    refine lv_aload_n hx hb dX11_never_24 rfl (lv_at hl 0 rfl) ?_
    refine lv_iload_n hx hb dX11_never_25 rfl (lv_at hl 1 rfl) ?_
    refine hw_callV (d := 9) E hR hS (As := [.int x1]) (rest := []) cI10 hs0 rfl mcX11_finds miX11_finds lmX11_368 (ok_X11_finds hs0 hf) rfl rfl (by decide) hl.1 (Nat.le_of_ble_eq_true rfl) dX11_never_26 (fun rr m7 H locs hp hR hS => ?_)
    obtain ⟨r8, rfl, hf⟩ := hp
    refine W.eq (g2 := F0 m 29 ls [.int r8]) rfl ?_
    refine lv_istore_n (lv' := [(2, .int r8), (0, .ref (ad g a0)), (1, .int x1)]) hx hb dX11_never_29 rfl hl (by decide) rfl (fun ls hl => ?_)
    refine lv_aload_n hx hb dX11_never_30 rfl (lv_at hl 1 rfl) ?_
    refine hw_callV (d := 9) E hR hS (As := []) (rest := []) cI10 hs0 rfl mcX11_comesBack miX11_comesBack lmX11_350 (ok_X11_comesBack hs0 hf) rfl rfl (by decide) hl.1 (Nat.le_of_ble_eq_true rfl) dX11_never_31 (fun rr m9 H locs hp hR hS => ?_)
    obtain ⟨rfl, hf⟩ := hp
    refine W.eq (g2 := F0 m 34 ls []) rfl ?_
    refine lv_iload_n hx hb dX11_never_34 rfl (lv_at hl 0 rfl) ?_
    exact hw_iret E hR hS ⟨_, rfl, hf⟩ dX11_never_35
  · replace hf := hf.1 c4
    refine lv_iconst (v := -1) hx hb dX11_never_13 (by decide) ?_
    exact hw_iret E hR hS ⟨_, rfl, hf⟩ dX11_never_14
def f_X11_stuck_B79 (S : Ss) (a0 : Nat) (x1 : Int32) (x2 : Int32) (x3 : Int32) (x4 : Int32) (x5 : Int32) (x6 : Int32) (M : Mm) (BK79 : Int32 → Int32 → Mm → Prop) (EK79 : Int32 → Mm → Prop) (K : Int32 → Mm → Prop) : Prop :=
  f_X11_width S a0  M (fun (r16 : Int32) (m15 : Mm) =>
    ((r16 ≤ x6 →
    EK79 x5 m15) ∧
   (¬ r16 ≤ x6 →
    ((x5 = 0 →
      EK79 x5 m15) ∧
     (¬ x5 = 0 →
      f_X11_goesTo S a0 x4 x6 m15 (fun (m19 : Mm) =>
        f_X11_packsSlots S a0  m19 (fun (r21 : Int64) (m20 : Mm) =>
        ∃ b22 : Nat, m20.2.2 a0 38 = some b22 ∧
      ∃ n23 : Nat, S[b22]? = some (53, n23) ∧ vp_in x4 n23 ∧
      ((r21 = (m20.2.1 b22 x4.toNatClampNeg) →
        f_X11_packsRest S a0  m20 (fun (r27 : Int64) (m26 : Mm) =>
          ∃ b28 : Nat, m26.2.2 a0 39 = some b28 ∧
        ∃ n29 : Nat, S[b28]? = some (53, n29) ∧ vp_in x4 n29 ∧
        ((r27 = (m26.2.1 b28 x4.toNatClampNeg) →
          ∀ v32 : Int32, v32 = x6 + (1 : Int32) →
          BK79 (1 : Int32) v32 m26) ∧
         (¬ r27 = (m26.2.1 b28 x4.toNatClampNeg) →
          ∀ v31 : Int32, v31 = x6 + (1 : Int32) →
          BK79 (0 : Int32) v31 m26)))) ∧
       (¬ r21 = (m20.2.1 b22 x4.toNatClampNeg) →
        ∀ v25 : Int32, v25 = x6 + (1 : Int32) →
        BK79 (0 : Int32) v25 m20)))))))))
set_option maxHeartbeats 4000000 in
set_option maxRecDepth 100000 in
theorem w_X11_stuck_B79 {p : Program} {l : Launch} {e : Env} {s : State} {m : MethodId} {args : Array Value} {below : List Frame} {meth : Method} {c : Code} {g : Gg} {S : Ss} (a0 : Nat) (x1 : Int32) (x2 : Int32) (x3 : Int32) (x4 : Int32) (x5 : Int32) (x6 : Int32) (M : Mm) (BK79 : Int32 → Int32 → Mm → Prop) (EK79 : Int32 → Mm → Prop) (K : Int32 → Mm → Prop) (E : EN p s m args meth c cX11_stuck 7 (some .int) RX11 g) (hw : ad g 100000 < s.heap.size) (hs0 : S[a0]? = some (10, 0)) (hBK79 : ∀ (x5' : Int32) (x6' : Int32) (M' : Mm) (H : Heap) (locs : List Loc) (ls : Array Slot), BK79 x5' x6' M' → RP g S M' H → va_S (gA g) s.heap H locs → lv_has ls 7 [(0, .ref (ad g a0)), (1, .int x1), (2, .int x2), (3, .int x3), (4, .int x4), (5, .int x5'), (6, .int x6')] → W p l e (rmD 8) s m args below meth c H locs 0 0 (MQ below (QA g S (pI K)) args s 0 0 (gA g)) (F0 m 79 ls [])) (hEK79 : ∀ (x5' : Int32) (M' : Mm) (H : Heap) (locs : List Loc) (ls : Array Slot), EK79 x5' M' → RP g S M' H → va_S (gA g) s.heap H locs → lv_has ls 7 [(0, .ref (ad g a0)), (1, .int x1), (2, .int x2), (3, .int x3), (4, .int x4), (5, .int x5')] → W p l e (rmD 8) s m args below meth c H locs 0 0 (MQ below (QA g S (pI K)) args s 0 0 (gA g)) (F0 m 144 ls [])) (hf : f_X11_stuck_B79 S a0 x1 x2 x3 x4 x5 x6 M BK79 EK79 K) (H : Heap) (locs : List Loc) (ls : Array Slot) (hR : RP g S M H) (hS : va_S (gA g) s.heap H locs) (hl : lv_has ls 7 [(0, .ref (ad g a0)), (1, .int x1), (2, .int x2), (3, .int x3), (4, .int x4), (5, .int x5), (6, .int x6)]) : W p l e (rmD 8) s m args below meth c H locs 0 0 (MQ below (QA g S (pI K)) args s 0 0 (gA g)) (F0 m 79 ls []) := by
  have hx := E.1
  have hb := E.2.1
  unfold f_X11_stuck_B79 at hf
  refine lv_iload hx hb dX11_stuck_79 (lv_at hl 6 rfl) ?_
  refine lv_aload_n hx hb dX11_stuck_81 rfl (lv_at hl 0 rfl) ?_
  refine hw_callV (d := 8) E hR hS (As := []) (rest := [.int x6]) cI10 hs0 rfl mcX11_width miX11_width lmX11_251 (ok_X11_width hs0 hf) rfl rfl (by decide) hl.1 (Nat.le_of_ble_eq_true rfl) dX11_stuck_82 (fun rr m15 H locs hp hR hS => ?_)
  obtain ⟨r16, rfl, hf⟩ := hp
  refine W.eq (g2 := F0 m 85 ls [.int r16, .int x6]) rfl ?_
  refine lv_icmp_ge (tgt := 144) hx hb dX11_stuck_85 (by decide) (fun c17 => ?_) (fun c17 => ?_)
  · replace hf := hf.1 c17
    exact hEK79 _ _ _ _ _ hf hR hS (lv_sub hl [0, 1, 2, 3, 4, 5] rfl)
  · replace hf := hf.2 c17
    refine lv_iload hx hb dX11_stuck_88 (lv_at hl 5 rfl) ?_
    refine lv_if_eq (tgt := 144) hx hb dX11_stuck_90 (by decide) (fun c18 => ?_) (fun c18 => ?_)
    · replace hf := hf.1 c18
      exact hEK79 _ _ _ _ _ hf hR hS (lv_sub hl [0, 1, 2, 3, 4, 5] rfl)
    · replace hf := hf.2 c18
      refine lv_aload_n hx hb dX11_stuck_93 rfl (lv_at hl 0 rfl) ?_
      refine lv_iload hx hb dX11_stuck_94 (lv_at hl 4 rfl) ?_
      refine lv_iload hx hb dX11_stuck_96 (lv_at hl 6 rfl) ?_
      refine hw_callV (d := 8) E hR hS (As := [.int x4, .int x6]) (rest := []) cI10 hs0 rfl mcX11_goesTo miX11_goesTo lmX11_318 (ok_X11_goesTo hs0 hf) rfl rfl (by decide) hl.1 (Nat.le_of_ble_eq_true rfl) dX11_stuck_98 (fun rr m19 H locs hp hR hS => ?_)
      obtain ⟨rfl, hf⟩ := hp
      refine W.eq (g2 := F0 m 101 ls []) rfl ?_
      refine lv_aload_n hx hb dX11_stuck_101 rfl (lv_at hl 0 rfl) ?_
      refine hw_callV (d := 8) E hR hS (As := []) (rest := []) cI10 hs0 rfl mcX11_packsSlots miX11_packsSlots lmX11_266 (ok_X11_packsSlots hs0 hf) rfl rfl (by decide) hl.1 (Nat.le_of_ble_eq_true rfl) dX11_stuck_102 (fun rr m20 H locs hp hR hS => ?_)
      obtain ⟨r21, rfl, hf⟩ := hp
      refine W.eq (g2 := F0 m 105 ls [.long r21]) rfl ?_
      refine lv_aload_n hx hb dX11_stuck_105 rfl (lv_at hl 0 rfl) ?_
      obtain ⟨b22, hb22, hf⟩ := hf
      refine hw_getR E hR cI10 hs0 38 (by decide) lfX11_312 rfl hb22 dX11_stuck_106 ?_
      refine lv_iload hx hb dX11_stuck_109 (lv_at hl 4 rfl) ?_
      obtain ⟨n23, hn23, in23, hf⟩ := hf
      refine hw_lald E hR hn23 in23 dX11_stuck_111 ?_
      refine hw_lif_ne (tgt := 135) hx hb dX11_stuck_112 dX11_stuck_113 (by decide) (fun c24 => ?_) (fun c24 => ?_)
      · replace hf := hf.2 c24
        refine lv_iconst (v := 0) hx hb dX11_stuck_135 (by decide) ?_
        refine lv_istore (lv' := [(5, .int (0 : Int32)), (0, .ref (ad g a0)), (1, .int x1), (2, .int x2), (3, .int x3), (4, .int x4), (6, .int x6)]) hx hb dX11_stuck_136 hl (by decide) rfl (fun ls hl => ?_)
        obtain ⟨v25, ev25⟩ : ∃ y : Int32, y = x6 + (1 : Int32) := ⟨_, rfl⟩
        replace hf := hf v25 ev25
        refine lv_iinc (v := v25) (lv' := [(6, .int v25), (5, .int (0 : Int32)), (0, .ref (ad g a0)), (1, .int x1), (2, .int x2), (3, .int x3), (4, .int x4)]) hx hb dX11_stuck_138 hl (k := 6) rfl (by rw [ev25]; rfl) (by decide) rfl (fun ls hl => ?_)
        refine lv_goto (tgt := 79) hx hb dX11_stuck_141 (by decide) ?_
        exact hBK79 _ _ _ _ _ _ hf hR hS (lv_sub hl [2, 3, 4, 5, 6, 1, 0] rfl)
      · replace hf := hf.1 c24
        refine lv_aload_n hx hb dX11_stuck_116 rfl (lv_at hl 0 rfl) ?_
        refine hw_callV (d := 8) E hR hS (As := []) (rest := []) cI10 hs0 rfl mcX11_packsRest miX11_packsRest lmX11_274 (ok_X11_packsRest hs0 hf) rfl rfl (by decide) hl.1 (Nat.le_of_ble_eq_true rfl) dX11_stuck_117 (fun rr m26 H locs hp hR hS => ?_)
        obtain ⟨r27, rfl, hf⟩ := hp
        refine W.eq (g2 := F0 m 120 ls [.long r27]) rfl ?_
        refine lv_aload_n hx hb dX11_stuck_120 rfl (lv_at hl 0 rfl) ?_
        obtain ⟨b28, hb28, hf⟩ := hf
        refine hw_getR E hR cI10 hs0 39 (by decide) lfX11_315 rfl hb28 dX11_stuck_121 ?_
        refine lv_iload hx hb dX11_stuck_124 (lv_at hl 4 rfl) ?_
        obtain ⟨n29, hn29, in29, hf⟩ := hf
        refine hw_lald E hR hn29 in29 dX11_stuck_126 ?_
        refine hw_lif_ne (tgt := 135) hx hb dX11_stuck_127 dX11_stuck_128 (by decide) (fun c30 => ?_) (fun c30 => ?_)
        · replace hf := hf.2 c30
          refine lv_iconst (v := 0) hx hb dX11_stuck_135 (by decide) ?_
          refine lv_istore (lv' := [(5, .int (0 : Int32)), (0, .ref (ad g a0)), (1, .int x1), (2, .int x2), (3, .int x3), (4, .int x4), (6, .int x6)]) hx hb dX11_stuck_136 hl (by decide) rfl (fun ls hl => ?_)
          obtain ⟨v31, ev31⟩ : ∃ y : Int32, y = x6 + (1 : Int32) := ⟨_, rfl⟩
          replace hf := hf v31 ev31
          refine lv_iinc (v := v31) (lv' := [(6, .int v31), (5, .int (0 : Int32)), (0, .ref (ad g a0)), (1, .int x1), (2, .int x2), (3, .int x3), (4, .int x4)]) hx hb dX11_stuck_138 hl (k := 6) rfl (by rw [ev31]; rfl) (by decide) rfl (fun ls hl => ?_)
          refine lv_goto (tgt := 79) hx hb dX11_stuck_141 (by decide) ?_
          exact hBK79 _ _ _ _ _ _ hf hR hS (lv_sub hl [2, 3, 4, 5, 6, 1, 0] rfl)
        · replace hf := hf.1 c30
          refine lv_iconst (v := 1) hx hb dX11_stuck_131 (by decide) ?_
          refine lv_goto (tgt := 136) hx hb dX11_stuck_132 (by decide) ?_
          refine lv_istore (lv' := [(5, .int (1 : Int32)), (0, .ref (ad g a0)), (1, .int x1), (2, .int x2), (3, .int x3), (4, .int x4), (6, .int x6)]) hx hb dX11_stuck_136 hl (by decide) rfl (fun ls hl => ?_)
          obtain ⟨v32, ev32⟩ : ∃ y : Int32, y = x6 + (1 : Int32) := ⟨_, rfl⟩
          replace hf := hf v32 ev32
          refine lv_iinc (v := v32) (lv' := [(6, .int v32), (5, .int (1 : Int32)), (0, .ref (ad g a0)), (1, .int x1), (2, .int x2), (3, .int x3), (4, .int x4)]) hx hb dX11_stuck_138 hl (k := 6) rfl (by rw [ev32]; rfl) (by decide) rfl (fun ls hl => ?_)
          refine lv_goto (tgt := 79) hx hb dX11_stuck_141 (by decide) ?_
          exact hBK79 _ _ _ _ _ _ hf hR hS (lv_sub hl [2, 3, 4, 5, 6, 1, 0] rfl)
def f_X11_stuck_L79 (S : Ss) (a0 : Nat) (x1 : Int32) (x2 : Int32) (x3 : Int32) (x4 : Int32) (EK79 : Int32 → Mm → Prop) (K : Int32 → Mm → Prop) : Nat → Int32 → Int32 → Mm → Prop
  | 0, _, _, _ => False
  | n + 1, x5, x6, M => f_X11_stuck_B79 S a0 x1 x2 x3 x4 x5 x6 M (fun (x5 : Int32) (x6 : Int32) (M : Mm) => f_X11_stuck_L79 S a0 x1 x2 x3 x4 EK79 K n x5 x6 M) EK79 K
set_option maxHeartbeats 4000000 in
set_option maxRecDepth 100000 in
theorem w_X11_stuck_L79 {p : Program} {l : Launch} {e : Env} {s : State} {m : MethodId} {args : Array Value} {below : List Frame} {meth : Method} {c : Code} {g : Gg} {S : Ss} (a0 : Nat) (x1 : Int32) (x2 : Int32) (x3 : Int32) (x4 : Int32) (EK79 : Int32 → Mm → Prop) (K : Int32 → Mm → Prop) (E : EN p s m args meth c cX11_stuck 7 (some .int) RX11 g) (hw : ad g 100000 < s.heap.size) (hs0 : S[a0]? = some (10, 0)) (hEK79 : ∀ (x5' : Int32) (M' : Mm) (H : Heap) (locs : List Loc) (ls : Array Slot), EK79 x5' M' → RP g S M' H → va_S (gA g) s.heap H locs → lv_has ls 7 [(0, .ref (ad g a0)), (1, .int x1), (2, .int x2), (3, .int x3), (4, .int x4), (5, .int x5')] → W p l e (rmD 8) s m args below meth c H locs 0 0 (MQ below (QA g S (pI K)) args s 0 0 (gA g)) (F0 m 144 ls [])) : ∀ (n : Nat) (x5 : Int32) (x6 : Int32) (M : Mm), f_X11_stuck_L79 S a0 x1 x2 x3 x4 EK79 K n x5 x6 M → ∀ (H : Heap) (locs : List Loc) (ls : Array Slot), RP g S M H → va_S (gA g) s.heap H locs → lv_has ls 7 [(0, .ref (ad g a0)), (1, .int x1), (2, .int x2), (3, .int x3), (4, .int x4), (5, .int x5), (6, .int x6)] → W p l e (rmD 8) s m args below meth c H locs 0 0 (MQ below (QA g S (pI K)) args s 0 0 (gA g)) (F0 m 79 ls []) := by
  intro n
  induction n with
  | zero => intro x5 x6 M hf; exact hf.elim
  | succ n ih =>
    intro x5 x6 M hf H locs ls hR hS hl
    exact w_X11_stuck_B79 _ _ _ _ _ _ _ _ _ _ _ E hw hs0 (fun _ _ M H locs ls h hR hS hl => ih _ _ M h H locs ls hR hS hl) hEK79 hf H locs ls hR hS hl
def f_X11_stuck_B46 (S : Ss) (a0 : Nat) (x1 : Int32) (x2 : Int32) (x3 : Int32) (x4 : Int32) (M : Mm) (BK46 : Int32 → Int32 → Mm → Prop) (EK46 : Int32 → Mm → Prop) (K : Int32 → Mm → Prop) : Prop :=
  ((x3 ≤ x4 →
    EK46 x2 M) ∧
   (¬ x3 ≤ x4 →
    ((x2 = (-2 : Int32) →
      ∃ b12 : Nat, M.2.2 a0 42 = some b12 ∧
      ∃ n13 : Nat, shp S b12 = some (50, n13) ∧ vp_in x4 n13 ∧
      ((x1 ≤ (M.1 b12 x4.toNatClampNeg) →
        ∃ n42 : Nat, f_X11_stuck_L79 S a0 x1 x2 x3 x4 (fun (v33 : Int32) (m34 : Mm) =>
          ((v33 = 0 →
            ∀ v36 : Int32, v36 = x4 + (1 : Int32) →
            BK46 x2 v36 m34) ∧
           (¬ v33 = 0 →
            f_X11_tellsWay S a0 x4 (-1 : Int32) m34 (fun (m37 : Mm) =>
              ∃ b38 : Nat, m37.2.2 a0 42 = some b38 ∧
            ∃ n39 : Nat, shp S b38 = some (50, n39) ∧ vp_in x4 n39 ∧
            ∀ v40 : Int32, v40 = (m37.1 b38 x4.toNatClampNeg) →
            ∀ v41 : Int32, v41 = x4 + (1 : Int32) →
            BK46 v40 v41 m37)))) K n42 (0 : Int32) (0 : Int32) M) ∧
       (¬ x1 ≤ (M.1 b12 x4.toNatClampNeg) →
        ∃ n52 : Nat, f_X11_stuck_L79 S a0 x1 x2 x3 x4 (fun (v43 : Int32) (m44 : Mm) =>
          ((v43 = 0 →
            ∀ v46 : Int32, v46 = x4 + (1 : Int32) →
            BK46 x2 v46 m44) ∧
           (¬ v43 = 0 →
            f_X11_tellsWay S a0 x4 (-1 : Int32) m44 (fun (m47 : Mm) =>
              ∃ b48 : Nat, m47.2.2 a0 42 = some b48 ∧
            ∃ n49 : Nat, shp S b48 = some (50, n49) ∧ vp_in x4 n49 ∧
            ∀ v50 : Int32, v50 = (m47.1 b48 x4.toNatClampNeg) →
            ∀ v51 : Int32, v51 = x4 + (1 : Int32) →
            BK46 v50 v51 m47)))) K n52 (1 : Int32) (0 : Int32) M))) ∧
     (¬ x2 = (-2 : Int32) →
      EK46 x2 M))))
set_option maxHeartbeats 4000000 in
set_option maxRecDepth 100000 in
theorem w_X11_stuck_B46 {p : Program} {l : Launch} {e : Env} {s : State} {m : MethodId} {args : Array Value} {below : List Frame} {meth : Method} {c : Code} {g : Gg} {S : Ss} (a0 : Nat) (x1 : Int32) (x2 : Int32) (x3 : Int32) (x4 : Int32) (M : Mm) (BK46 : Int32 → Int32 → Mm → Prop) (EK46 : Int32 → Mm → Prop) (K : Int32 → Mm → Prop) (E : EN p s m args meth c cX11_stuck 7 (some .int) RX11 g) (hw : ad g 100000 < s.heap.size) (hs0 : S[a0]? = some (10, 0)) (hBK46 : ∀ (x2' : Int32) (x4' : Int32) (M' : Mm) (H : Heap) (locs : List Loc) (ls : Array Slot), BK46 x2' x4' M' → RP g S M' H → va_S (gA g) s.heap H locs → lv_has ls 7 [(0, .ref (ad g a0)), (1, .int x1), (2, .int x2'), (3, .int x3), (4, .int x4')] → W p l e (rmD 8) s m args below meth c H locs 0 0 (MQ below (QA g S (pI K)) args s 0 0 (gA g)) (F0 m 46 ls [])) (hEK46 : ∀ (x2' : Int32) (M' : Mm) (H : Heap) (locs : List Loc) (ls : Array Slot), EK46 x2' M' → RP g S M' H → va_S (gA g) s.heap H locs → lv_has ls 7 [(0, .ref (ad g a0)), (2, .int x2')] → W p l e (rmD 8) s m args below meth c H locs 0 0 (MQ below (QA g S (pI K)) args s 0 0 (gA g)) (F0 m 170 ls [])) (hf : f_X11_stuck_B46 S a0 x1 x2 x3 x4 M BK46 EK46 K) (H : Heap) (locs : List Loc) (ls : Array Slot) (hR : RP g S M H) (hS : va_S (gA g) s.heap H locs) (hl : lv_has ls 7 [(0, .ref (ad g a0)), (1, .int x1), (2, .int x2), (3, .int x3), (4, .int x4)]) : W p l e (rmD 8) s m args below meth c H locs 0 0 (MQ below (QA g S (pI K)) args s 0 0 (gA g)) (F0 m 46 ls []) := by
  have hx := E.1
  have hb := E.2.1
  unfold f_X11_stuck_B46 at hf
  refine lv_iload hx hb dX11_stuck_46 (lv_at hl 4 rfl) ?_
  refine lv_iload_n hx hb dX11_stuck_48 rfl (lv_at hl 3 rfl) ?_
  refine lv_icmp_ge (tgt := 170) hx hb dX11_stuck_49 (by decide) (fun c10 => ?_) (fun c10 => ?_)
  · replace hf := hf.1 c10
    exact hEK46 _ _ _ _ _ hf hR hS (lv_sub hl [0, 2] rfl)
  · replace hf := hf.2 c10
    refine lv_iload_n hx hb dX11_stuck_52 rfl (lv_at hl 2 rfl) ?_
    refine lv_bipush (v := -2) hx hb dX11_stuck_53 (by decide) ?_
    refine lv_icmp_ne (tgt := 170) hx hb dX11_stuck_55 (by decide) (fun c11 => ?_) (fun c11 => ?_)
    · replace hf := hf.2 c11
      exact hEK46 _ _ _ _ _ hf hR hS (lv_sub hl [0, 2] rfl)
    · replace hf := hf.1 c11
      refine lv_aload_n hx hb dX11_stuck_58 rfl (lv_at hl 0 rfl) ?_
      obtain ⟨b12, hb12, hf⟩ := hf
      refine hw_getR E hR cI10 hs0 42 (by decide) lfX11_327 rfl hb12 dX11_stuck_59 ?_
      refine lv_iload hx hb dX11_stuck_62 (lv_at hl 4 rfl) ?_
      obtain ⟨n13, hn13, in13, hf⟩ := hf
      refine hw_iald E hR hS hn13 in13 dX11_stuck_64 ?_
      refine lv_iload_n hx hb dX11_stuck_65 rfl (lv_at hl 1 rfl) ?_
      refine lv_icmp_ge (tgt := 73) hx hb dX11_stuck_66 (by decide) (fun c14 => ?_) (fun c14 => ?_)
      · replace hf := hf.1 c14
        refine lv_iconst (v := 0) hx hb dX11_stuck_73 (by decide) ?_
        refine lv_istore (lv' := [(5, .int (0 : Int32)), (0, .ref (ad g a0)), (1, .int x1), (2, .int x2), (3, .int x3), (4, .int x4)]) hx hb dX11_stuck_74 hl (by decide) rfl (fun ls hl => ?_)
        refine lv_iconst (v := 0) hx hb dX11_stuck_76 (by decide) ?_
        refine lv_istore (lv' := [(6, .int (0 : Int32)), (5, .int (0 : Int32)), (0, .ref (ad g a0)), (1, .int x1), (2, .int x2), (3, .int x3), (4, .int x4)]) hx hb dX11_stuck_77 hl (by decide) rfl (fun ls hl => ?_)
        obtain ⟨n42, hf⟩ := hf
        refine w_X11_stuck_L79 _ _ _ _ _ _ _ E hw hs0 ?_ n42 _ _ _ hf _ _ _ hR hS (lv_sub hl [2, 3, 4, 5, 6, 1, 0] rfl)
        intro v33 m34 H locs ls hf hR hS hl
        refine lv_iload hx hb dX11_stuck_144 (lv_at hl 5 rfl) ?_
        refine lv_if_eq (tgt := 164) hx hb dX11_stuck_146 (by decide) (fun c35 => ?_) (fun c35 => ?_)
        · replace hf := hf.1 c35
          obtain ⟨v36, ev36⟩ : ∃ y : Int32, y = x4 + (1 : Int32) := ⟨_, rfl⟩
          replace hf := hf v36 ev36
          refine lv_iinc (v := v36) (lv' := [(4, .int v36), (0, .ref (ad g a0)), (1, .int x1), (2, .int x2), (3, .int x3), (5, .int v33)]) hx hb dX11_stuck_164 hl (k := 4) rfl (by rw [ev36]; rfl) (by decide) rfl (fun ls hl => ?_)
          refine lv_goto (tgt := 46) hx hb dX11_stuck_167 (by decide) ?_
          exact hBK46 _ _ _ _ _ _ hf hR hS (lv_sub hl [1, 2, 3, 4, 0] rfl)
        · replace hf := hf.2 c35
          refine lv_aload_n hx hb dX11_stuck_149 rfl (lv_at hl 0 rfl) ?_
          refine lv_iload hx hb dX11_stuck_150 (lv_at hl 4 rfl) ?_
          refine lv_iconst (v := -1) hx hb dX11_stuck_152 (by decide) ?_
          refine hw_callV (d := 8) E hR hS (As := [.int x4, .int (-1 : Int32)]) (rest := []) cI10 hs0 rfl mcX11_tellsWay miX11_tellsWay lmX11_365 (ok_X11_tellsWay hs0 hf) rfl rfl (by decide) hl.1 (Nat.le_of_ble_eq_true rfl) dX11_stuck_153 (fun rr m37 H locs hp hR hS => ?_)
          obtain ⟨rfl, hf⟩ := hp
          refine W.eq (g2 := F0 m 156 ls []) rfl ?_
          refine lv_aload_n hx hb dX11_stuck_156 rfl (lv_at hl 0 rfl) ?_
          obtain ⟨b38, hb38, hf⟩ := hf
          refine hw_getR E hR cI10 hs0 42 (by decide) lfX11_327 rfl hb38 dX11_stuck_157 ?_
          refine lv_iload hx hb dX11_stuck_160 (lv_at hl 4 rfl) ?_
          obtain ⟨n39, hn39, in39, hf⟩ := hf
          refine hw_iald E hR hS hn39 in39 dX11_stuck_162 ?_
          refine lv_topi (fun v40 ev40 => ?_)
          replace hf := hf v40 ev40
          refine lv_istore_n (lv' := [(2, .int v40), (0, .ref (ad g a0)), (1, .int x1), (3, .int x3), (4, .int x4), (5, .int v33)]) hx hb dX11_stuck_163 rfl hl (by decide) rfl (fun ls hl => ?_)
          obtain ⟨v41, ev41⟩ : ∃ y : Int32, y = x4 + (1 : Int32) := ⟨_, rfl⟩
          replace hf := hf v41 ev41
          refine lv_iinc (v := v41) (lv' := [(4, .int v41), (2, .int v40), (0, .ref (ad g a0)), (1, .int x1), (3, .int x3), (5, .int v33)]) hx hb dX11_stuck_164 hl (k := 4) rfl (by rw [ev41]; rfl) (by decide) rfl (fun ls hl => ?_)
          refine lv_goto (tgt := 46) hx hb dX11_stuck_167 (by decide) ?_
          exact hBK46 _ _ _ _ _ _ hf hR hS (lv_sub hl [2, 3, 1, 4, 0] rfl)
      · replace hf := hf.2 c14
        refine lv_iconst (v := 1) hx hb dX11_stuck_69 (by decide) ?_
        refine lv_goto (tgt := 74) hx hb dX11_stuck_70 (by decide) ?_
        refine lv_istore (lv' := [(5, .int (1 : Int32)), (0, .ref (ad g a0)), (1, .int x1), (2, .int x2), (3, .int x3), (4, .int x4)]) hx hb dX11_stuck_74 hl (by decide) rfl (fun ls hl => ?_)
        refine lv_iconst (v := 0) hx hb dX11_stuck_76 (by decide) ?_
        refine lv_istore (lv' := [(6, .int (0 : Int32)), (5, .int (1 : Int32)), (0, .ref (ad g a0)), (1, .int x1), (2, .int x2), (3, .int x3), (4, .int x4)]) hx hb dX11_stuck_77 hl (by decide) rfl (fun ls hl => ?_)
        obtain ⟨n52, hf⟩ := hf
        refine w_X11_stuck_L79 _ _ _ _ _ _ _ E hw hs0 ?_ n52 _ _ _ hf _ _ _ hR hS (lv_sub hl [2, 3, 4, 5, 6, 1, 0] rfl)
        intro v43 m44 H locs ls hf hR hS hl
        refine lv_iload hx hb dX11_stuck_144 (lv_at hl 5 rfl) ?_
        refine lv_if_eq (tgt := 164) hx hb dX11_stuck_146 (by decide) (fun c45 => ?_) (fun c45 => ?_)
        · replace hf := hf.1 c45
          obtain ⟨v46, ev46⟩ : ∃ y : Int32, y = x4 + (1 : Int32) := ⟨_, rfl⟩
          replace hf := hf v46 ev46
          refine lv_iinc (v := v46) (lv' := [(4, .int v46), (0, .ref (ad g a0)), (1, .int x1), (2, .int x2), (3, .int x3), (5, .int v43)]) hx hb dX11_stuck_164 hl (k := 4) rfl (by rw [ev46]; rfl) (by decide) rfl (fun ls hl => ?_)
          refine lv_goto (tgt := 46) hx hb dX11_stuck_167 (by decide) ?_
          exact hBK46 _ _ _ _ _ _ hf hR hS (lv_sub hl [1, 2, 3, 4, 0] rfl)
        · replace hf := hf.2 c45
          refine lv_aload_n hx hb dX11_stuck_149 rfl (lv_at hl 0 rfl) ?_
          refine lv_iload hx hb dX11_stuck_150 (lv_at hl 4 rfl) ?_
          refine lv_iconst (v := -1) hx hb dX11_stuck_152 (by decide) ?_
          refine hw_callV (d := 8) E hR hS (As := [.int x4, .int (-1 : Int32)]) (rest := []) cI10 hs0 rfl mcX11_tellsWay miX11_tellsWay lmX11_365 (ok_X11_tellsWay hs0 hf) rfl rfl (by decide) hl.1 (Nat.le_of_ble_eq_true rfl) dX11_stuck_153 (fun rr m47 H locs hp hR hS => ?_)
          obtain ⟨rfl, hf⟩ := hp
          refine W.eq (g2 := F0 m 156 ls []) rfl ?_
          refine lv_aload_n hx hb dX11_stuck_156 rfl (lv_at hl 0 rfl) ?_
          obtain ⟨b48, hb48, hf⟩ := hf
          refine hw_getR E hR cI10 hs0 42 (by decide) lfX11_327 rfl hb48 dX11_stuck_157 ?_
          refine lv_iload hx hb dX11_stuck_160 (lv_at hl 4 rfl) ?_
          obtain ⟨n49, hn49, in49, hf⟩ := hf
          refine hw_iald E hR hS hn49 in49 dX11_stuck_162 ?_
          refine lv_topi (fun v50 ev50 => ?_)
          replace hf := hf v50 ev50
          refine lv_istore_n (lv' := [(2, .int v50), (0, .ref (ad g a0)), (1, .int x1), (3, .int x3), (4, .int x4), (5, .int v43)]) hx hb dX11_stuck_163 rfl hl (by decide) rfl (fun ls hl => ?_)
          obtain ⟨v51, ev51⟩ : ∃ y : Int32, y = x4 + (1 : Int32) := ⟨_, rfl⟩
          replace hf := hf v51 ev51
          refine lv_iinc (v := v51) (lv' := [(4, .int v51), (2, .int v50), (0, .ref (ad g a0)), (1, .int x1), (3, .int x3), (5, .int v43)]) hx hb dX11_stuck_164 hl (k := 4) rfl (by rw [ev51]; rfl) (by decide) rfl (fun ls hl => ?_)
          refine lv_goto (tgt := 46) hx hb dX11_stuck_167 (by decide) ?_
          exact hBK46 _ _ _ _ _ _ hf hR hS (lv_sub hl [2, 3, 1, 4, 0] rfl)
def f_X11_stuck_L46 (S : Ss) (a0 : Nat) (x1 : Int32) (x3 : Int32) (EK46 : Int32 → Mm → Prop) (K : Int32 → Mm → Prop) : Nat → Int32 → Int32 → Mm → Prop
  | 0, _, _, _ => False
  | n + 1, x2, x4, M => f_X11_stuck_B46 S a0 x1 x2 x3 x4 M (fun (x2 : Int32) (x4 : Int32) (M : Mm) => f_X11_stuck_L46 S a0 x1 x3 EK46 K n x2 x4 M) EK46 K
set_option maxHeartbeats 4000000 in
set_option maxRecDepth 100000 in
theorem w_X11_stuck_L46 {p : Program} {l : Launch} {e : Env} {s : State} {m : MethodId} {args : Array Value} {below : List Frame} {meth : Method} {c : Code} {g : Gg} {S : Ss} (a0 : Nat) (x1 : Int32) (x3 : Int32) (EK46 : Int32 → Mm → Prop) (K : Int32 → Mm → Prop) (E : EN p s m args meth c cX11_stuck 7 (some .int) RX11 g) (hw : ad g 100000 < s.heap.size) (hs0 : S[a0]? = some (10, 0)) (hEK46 : ∀ (x2' : Int32) (M' : Mm) (H : Heap) (locs : List Loc) (ls : Array Slot), EK46 x2' M' → RP g S M' H → va_S (gA g) s.heap H locs → lv_has ls 7 [(0, .ref (ad g a0)), (2, .int x2')] → W p l e (rmD 8) s m args below meth c H locs 0 0 (MQ below (QA g S (pI K)) args s 0 0 (gA g)) (F0 m 170 ls [])) : ∀ (n : Nat) (x2 : Int32) (x4 : Int32) (M : Mm), f_X11_stuck_L46 S a0 x1 x3 EK46 K n x2 x4 M → ∀ (H : Heap) (locs : List Loc) (ls : Array Slot), RP g S M H → va_S (gA g) s.heap H locs → lv_has ls 7 [(0, .ref (ad g a0)), (1, .int x1), (2, .int x2), (3, .int x3), (4, .int x4)] → W p l e (rmD 8) s m args below meth c H locs 0 0 (MQ below (QA g S (pI K)) args s 0 0 (gA g)) (F0 m 46 ls []) := by
  intro n
  induction n with
  | zero => intro x2 x4 M hf; exact hf.elim
  | succ n ih =>
    intro x2 x4 M hf H locs ls hR hS hl
    exact w_X11_stuck_B46 _ _ _ _ _ _ _ _ _ E hw hs0 (fun _ _ M H locs ls h hR hS hl => ih _ _ M h H locs ls hR hS hl) hEK46 hf H locs ls hR hS hl
def f_X11_stuck (S : Ss) (a0 : Nat) (x1 : Int32) (M : Mm) (K : Int32 → Mm → Prop) : Prop :=
  ∀ m1 : Mm, m1 = stI M a0 0 (0 : Int32) →
  f_X11_isRun S a0 x1 m1 (fun (r3 : Int32) (m2 : Mm) =>
    ((r3 = 0 →
    K (-1 : Int32) m2) ∧
   (¬ r3 = 0 →
    f_X11_remembers S a0  m2 (fun (m5 : Mm) =>
      f_X11_explores S a0 x1 (4000 : Int32) m5 (fun (r7 : Int32) (m6 : Mm) =>
      ((r7 = 0 →
      ∀ v9 : Int32, v9 = (m6.1 a0 44) →
      ∃ n56 : Nat, f_X11_stuck_L46 S a0 x1 v9 (fun (v53 : Int32) (m54 : Mm) =>
        f_X11_comesBack S a0  m54 (fun (m55 : Mm) =>
          K v53 m55)) K n56 (-3 : Int32) (0 : Int32) m6) ∧
     (¬ r7 = 0 →
      ∀ v57 : Int32, v57 = (m6.1 a0 44) →
      ∃ n61 : Nat, f_X11_stuck_L46 S a0 x1 v57 (fun (v58 : Int32) (m59 : Mm) =>
        f_X11_comesBack S a0  m59 (fun (m60 : Mm) =>
          K v58 m60)) K n61 (-2 : Int32) (0 : Int32) m6)))))))
set_option maxHeartbeats 4000000 in
set_option maxRecDepth 100000 in
theorem ok_X11_stuck {l : Launch} {g : Gg} {S : Ss} {a0 : Nat} {x1 : Int32} {M : Mm} {K : Int32 → Mm → Prop} (hs0 : S[a0]? = some (10, 0)) (hf : f_X11_stuck S a0 x1 M K) : MT l g S yX11_stuck cX11_stuck 7 (some .int) 8 [.ref (ad g a0), .int x1] M (pI K) := by
  refine MT.of (by decide +kernel) (Nat.le_of_ble_eq_true rfl) ?_
  intro p e s m below meth c ls E hw hR hS hl
  have hl : lv_has ls 7 [(0, .ref (ad g a0)), (1, .int x1)] := hl
  generalize ([.ref (ad g a0), .int x1] : List Value).toArray = args at E ⊢
  have E : EN p s m args meth c cX11_stuck 7 (some .int) RX11 g := E
  have hx := E.1
  have hb := E.2.1
  unfold f_X11_stuck at hf
  refine lv_aload_n hx hb dX11_stuck_0 rfl (lv_at hl 0 rfl) ?_
  refine lv_iconst (v := 0) hx hb dX11_stuck_1 (by decide) ?_
  refine hw_putI E hR hS hw cI10 hs0 0 (by decide) lfX11_3 rfl (Or.inl rfl) dX11_stuck_2 (fun m1 H locs em1 hR hS => ?_)
  replace hf := hf m1 em1
  refine lv_aload_n hx hb dX11_stuck_5 rfl (lv_at hl 0 rfl) ?_
  refine lv_iload_n hx hb dX11_stuck_6 rfl (lv_at hl 1 rfl) ?_
  refine hw_callV (d := 8) E hR hS (As := [.int x1]) (rest := []) cI10 hs0 rfl mcX11_isRun miX11_isRun lmX11_341 (ok_X11_isRun hs0 hf) rfl rfl (by decide) hl.1 (Nat.le_of_ble_eq_true rfl) dX11_stuck_7 (fun rr m2 H locs hp hR hS => ?_)
  obtain ⟨r3, rfl, hf⟩ := hp
  refine W.eq (g2 := F0 m 10 ls [.int r3]) rfl ?_
  refine lv_if_ne (tgt := 15) hx hb dX11_stuck_10 (by decide) (fun c4 => ?_) (fun c4 => ?_)
  · replace hf := hf.2 c4
    refine lv_aload_n hx hb dX11_stuck_15 rfl (lv_at hl 0 rfl) ?_
    refine hw_callV (d := 8) E hR hS (As := []) (rest := []) cI10 hs0 rfl mcX11_remembers miX11_remembers lmX11_344 (ok_X11_remembers hs0 hf) rfl rfl (by decide) hl.1 (Nat.le_of_ble_eq_true rfl) dX11_stuck_16 (fun rr m5 H locs hp hR hS => ?_)
    obtain ⟨rfl, hf⟩ := hp
    refine W.eq (g2 := F0 m 19 ls []) rfl ?_
    refine lv_aload_n hx hb dX11_stuck_19 rfl (lv_at hl 0 rfl) ?_
    refine lv_iload_n hx hb dX11_stuck_20 rfl (lv_at hl 1 rfl) ?_
    refine lv_sipush (v := 4000) hx hb dX11_stuck_21 (by decide) ?_
    refine hw_callV (d := 8) E hR hS (As := [.int x1, .int (4000 : Int32)]) (rest := []) cI10 hs0 rfl mcX11_explores miX11_explores lmX11_347 (ok_X11_explores hs0 hf) rfl rfl (by decide) hl.1 (Nat.le_of_ble_eq_true rfl) dX11_stuck_24 (fun rr m6 H locs hp hR hS => ?_)
    obtain ⟨r7, rfl, hf⟩ := hp
    refine W.eq (g2 := F0 m 27 ls [.int r7]) rfl ?_
    refine lv_if_eq (tgt := 35) hx hb dX11_stuck_27 (by decide) (fun c8 => ?_) (fun c8 => ?_)
    · replace hf := hf.1 c8
      refine lv_bipush (v := -3) hx hb dX11_stuck_35 (by decide) ?_
      refine lv_istore_n (lv' := [(2, .int (-3 : Int32)), (0, .ref (ad g a0)), (1, .int x1)]) hx hb dX11_stuck_37 rfl hl (by decide) rfl (fun ls hl => ?_)
      refine lv_aload_n hx hb dX11_stuck_38 rfl (lv_at hl 1 rfl) ?_
      refine hw_getI E hR cI10 hs0 44 (by decide) lfX11_296 rfl dX11_stuck_39 ?_
      refine lv_topi (fun v9 ev9 => ?_)
      replace hf := hf v9 ev9
      refine lv_istore_n (lv' := [(3, .int v9), (2, .int (-3 : Int32)), (0, .ref (ad g a0)), (1, .int x1)]) hx hb dX11_stuck_42 rfl hl (by decide) rfl (fun ls hl => ?_)
      refine lv_iconst (v := 0) hx hb dX11_stuck_43 (by decide) ?_
      refine lv_istore (lv' := [(4, .int (0 : Int32)), (3, .int v9), (2, .int (-3 : Int32)), (0, .ref (ad g a0)), (1, .int x1)]) hx hb dX11_stuck_44 hl (by decide) rfl (fun ls hl => ?_)
      obtain ⟨n56, hf⟩ := hf
      refine w_X11_stuck_L46 _ _ _ _ _ E hw hs0 ?_ n56 _ _ _ hf _ _ _ hR hS (lv_sub hl [3, 4, 2, 1, 0] rfl)
      intro v53 m54 H locs ls hf hR hS hl
      refine lv_aload_n hx hb dX11_stuck_170 rfl (lv_at hl 0 rfl) ?_
      refine hw_callV (d := 8) E hR hS (As := []) (rest := []) cI10 hs0 rfl mcX11_comesBack miX11_comesBack lmX11_350 (ok_X11_comesBack hs0 hf) rfl rfl (by decide) hl.1 (Nat.le_of_ble_eq_true rfl) dX11_stuck_171 (fun rr m55 H locs hp hR hS => ?_)
      obtain ⟨rfl, hf⟩ := hp
      refine W.eq (g2 := F0 m 174 ls []) rfl ?_
      refine lv_iload_n hx hb dX11_stuck_174 rfl (lv_at hl 1 rfl) ?_
      exact hw_iret E hR hS ⟨_, rfl, hf⟩ dX11_stuck_175
    · replace hf := hf.2 c8
      refine lv_bipush (v := -2) hx hb dX11_stuck_30 (by decide) ?_
      refine lv_goto (tgt := 37) hx hb dX11_stuck_32 (by decide) ?_
      refine lv_istore_n (lv' := [(2, .int (-2 : Int32)), (0, .ref (ad g a0)), (1, .int x1)]) hx hb dX11_stuck_37 rfl hl (by decide) rfl (fun ls hl => ?_)
      refine lv_aload_n hx hb dX11_stuck_38 rfl (lv_at hl 1 rfl) ?_
      refine hw_getI E hR cI10 hs0 44 (by decide) lfX11_296 rfl dX11_stuck_39 ?_
      refine lv_topi (fun v57 ev57 => ?_)
      replace hf := hf v57 ev57
      refine lv_istore_n (lv' := [(3, .int v57), (2, .int (-2 : Int32)), (0, .ref (ad g a0)), (1, .int x1)]) hx hb dX11_stuck_42 rfl hl (by decide) rfl (fun ls hl => ?_)
      refine lv_iconst (v := 0) hx hb dX11_stuck_43 (by decide) ?_
      refine lv_istore (lv' := [(4, .int (0 : Int32)), (3, .int v57), (2, .int (-2 : Int32)), (0, .ref (ad g a0)), (1, .int x1)]) hx hb dX11_stuck_44 hl (by decide) rfl (fun ls hl => ?_)
      obtain ⟨n61, hf⟩ := hf
      refine w_X11_stuck_L46 _ _ _ _ _ E hw hs0 ?_ n61 _ _ _ hf _ _ _ hR hS (lv_sub hl [3, 4, 2, 1, 0] rfl)
      intro v58 m59 H locs ls hf hR hS hl
      refine lv_aload_n hx hb dX11_stuck_170 rfl (lv_at hl 0 rfl) ?_
      refine hw_callV (d := 8) E hR hS (As := []) (rest := []) cI10 hs0 rfl mcX11_comesBack miX11_comesBack lmX11_350 (ok_X11_comesBack hs0 hf) rfl rfl (by decide) hl.1 (Nat.le_of_ble_eq_true rfl) dX11_stuck_171 (fun rr m60 H locs hp hR hS => ?_)
      obtain ⟨rfl, hf⟩ := hp
      refine W.eq (g2 := F0 m 174 ls []) rfl ?_
      refine lv_iload_n hx hb dX11_stuck_174 rfl (lv_at hl 1 rfl) ?_
      exact hw_iret E hR hS ⟨_, rfl, hf⟩ dX11_stuck_175
  · replace hf := hf.1 c4
    refine lv_iconst (v := -1) hx hb dX11_stuck_13 (by decide) ?_
    exact hw_iret E hR hS ⟨_, rfl, hf⟩ dX11_stuck_14
def f_X11_weighs_B25 (S : Ss) (a0 : Nat) (x1 : Int32) (x2 : Int32) (x3 : Int32) (x4 : Int32) (x5 : Int32) (x6 : Int32) (x7 : Int32) (M : Mm) (BK25 : Int32 → Mm → Prop) (EK25 : Mm → Prop) (K : Mm → Prop) : Prop :=
  ((x5 ≤ x7 →
    EK25 M) ∧
   (¬ x5 ≤ x7 →
    ∃ b6 : Nat, M.2.2 a0 42 = some b6 ∧
    ∃ n7 : Nat, shp S b6 = some (50, n7) ∧ vp_in x6 n7 ∧
    ((x1 ≤ (M.1 b6 x6.toNatClampNeg) →
      EK25 M) ∧
     (¬ x1 ≤ (M.1 b6 x6.toNatClampNeg) →
      ∃ b9 : Nat, M.2.2 a0 55 = some b9 ∧
      f_X11_after S a0 x6 x7 M (fun (r11 : Int32) (m10 : Mm) =>
        ∃ n12 : Nat, S[b9]? = some (50, n12) ∧ vp_in (((20 : Int32) * x6) + x7) n12 ∧
      ∀ m13 : Mm, m13 = stI m10 b9 (((20 : Int32) * x6) + x7).toNatClampNeg r11 →
      ∃ b14 : Nat, m13.2.2 a0 56 = some b14 ∧
      f_X11_breaks S a0  m13 (fun (r16 : Int32) (m15 : Mm) =>
        ∃ n17 : Nat, S[b14]? = some (52, n17) ∧ vp_in (((20 : Int32) * x6) + x7) n17 ∧
      ∀ m18 : Mm, m18 = stI m15 b14 (((20 : Int32) * x6) + x7).toNatClampNeg (vp_nar .boolean r16) →
      ∃ b19 : Nat, m18.2.2 a0 57 = some b19 ∧
      ∃ n20 : Nat, S[b19]? = some (50, n20) ∧ vp_in (((20 : Int32) * x6) + x7) n20 ∧
      ∀ m21 : Mm, m21 = stI m18 b19 (((20 : Int32) * x6) + x7).toNatClampNeg (m18.1 a0 30) →
      ∀ v22 : Int32, v22 = x7 + (1 : Int32) →
      BK25 v22 m21))))))
set_option maxHeartbeats 4000000 in
set_option maxRecDepth 100000 in
theorem w_X11_weighs_B25 {p : Program} {l : Launch} {e : Env} {s : State} {m : MethodId} {args : Array Value} {below : List Frame} {meth : Method} {c : Code} {g : Gg} {S : Ss} (a0 : Nat) (x1 : Int32) (x2 : Int32) (x3 : Int32) (x4 : Int32) (x5 : Int32) (x6 : Int32) (x7 : Int32) (M : Mm) (BK25 : Int32 → Mm → Prop) (EK25 : Mm → Prop) (K : Mm → Prop) (E : EN p s m args meth c cX11_weighs 13 none RX11 g) (hw : ad g 100000 < s.heap.size) (hs0 : S[a0]? = some (10, 0)) (hBK25 : ∀ (x7' : Int32) (M' : Mm) (H : Heap) (locs : List Loc) (ls : Array Slot), BK25 x7' M' → RP g S M' H → va_S (gA g) s.heap H locs → lv_has ls 13 [(0, .ref (ad g a0)), (1, .int x1), (2, .int x2), (3, .int x3), (4, .int x4), (5, .int x5), (6, .int x6), (7, .int x7')] → W p l e (rmD 7) s m args below meth c H locs 0 0 (MQ below (QA g S (pV K)) args s 0 0 (gA g)) (F0 m 25 ls [])) (hEK25 : ∀ (M' : Mm) (H : Heap) (locs : List Loc) (ls : Array Slot), EK25 M' → RP g S M' H → va_S (gA g) s.heap H locs → lv_has ls 13 [(0, .ref (ad g a0)), (1, .int x1), (2, .int x2), (3, .int x3), (4, .int x4), (5, .int x5), (6, .int x6)] → W p l e (rmD 7) s m args below meth c H locs 0 0 (MQ below (QA g S (pV K)) args s 0 0 (gA g)) (F0 m 104 ls [])) (hf : f_X11_weighs_B25 S a0 x1 x2 x3 x4 x5 x6 x7 M BK25 EK25 K) (H : Heap) (locs : List Loc) (ls : Array Slot) (hR : RP g S M H) (hS : va_S (gA g) s.heap H locs) (hl : lv_has ls 13 [(0, .ref (ad g a0)), (1, .int x1), (2, .int x2), (3, .int x3), (4, .int x4), (5, .int x5), (6, .int x6), (7, .int x7)]) : W p l e (rmD 7) s m args below meth c H locs 0 0 (MQ below (QA g S (pV K)) args s 0 0 (gA g)) (F0 m 25 ls []) := by
  have hx := E.1
  have hb := E.2.1
  unfold f_X11_weighs_B25 at hf
  refine lv_iload hx hb dX11_weighs_25 (lv_at hl 7 rfl) ?_
  refine lv_iload hx hb dX11_weighs_27 (lv_at hl 5 rfl) ?_
  refine lv_icmp_ge (tgt := 104) hx hb dX11_weighs_29 (by decide) (fun c5 => ?_) (fun c5 => ?_)
  · replace hf := hf.1 c5
    exact hEK25  _ _ _ _ hf hR hS (lv_sub hl [0, 1, 2, 3, 4, 5, 6] rfl)
  · replace hf := hf.2 c5
    refine lv_aload_n hx hb dX11_weighs_32 rfl (lv_at hl 0 rfl) ?_
    obtain ⟨b6, hb6, hf⟩ := hf
    refine hw_getR E hR cI10 hs0 42 (by decide) lfX11_327 rfl hb6 dX11_weighs_33 ?_
    refine lv_iload hx hb dX11_weighs_36 (lv_at hl 6 rfl) ?_
    obtain ⟨n7, hn7, in7, hf⟩ := hf
    refine hw_iald E hR hS hn7 in7 dX11_weighs_38 ?_
    refine lv_iload_n hx hb dX11_weighs_39 rfl (lv_at hl 1 rfl) ?_
    refine lv_icmp_ge (tgt := 104) hx hb dX11_weighs_40 (by decide) (fun c8 => ?_) (fun c8 => ?_)
    · replace hf := hf.1 c8
      exact hEK25  _ _ _ _ hf hR hS (lv_sub hl [0, 1, 2, 3, 4, 5, 6] rfl)
    · replace hf := hf.2 c8
      refine lv_aload_n hx hb dX11_weighs_43 rfl (lv_at hl 0 rfl) ?_
      obtain ⟨b9, hb9, hf⟩ := hf
      refine hw_getR E hR cI10 hs0 55 (by decide) lfX11_371 rfl hb9 dX11_weighs_44 ?_
      refine lv_bipush (v := 20) hx hb dX11_weighs_47 (by decide) ?_
      refine lv_iload hx hb dX11_weighs_49 (lv_at hl 6 rfl) ?_
      refine lv_imul hx hb dX11_weighs_51 ?_
      refine lv_iload hx hb dX11_weighs_52 (lv_at hl 7 rfl) ?_
      refine lv_iadd hx hb dX11_weighs_54 ?_
      refine lv_aload_n hx hb dX11_weighs_55 rfl (lv_at hl 0 rfl) ?_
      refine lv_iload hx hb dX11_weighs_56 (lv_at hl 6 rfl) ?_
      refine lv_iload hx hb dX11_weighs_58 (lv_at hl 7 rfl) ?_
      refine hw_callV (d := 7) E hR hS (As := [.int x6, .int x7]) (rest := [.int (((20 : Int32) * x6) + x7), .ref (ad g b9)]) cI10 hs0 rfl mcX11_after miX11_after lmX11_333 (ok_X11_after hs0 hf) rfl rfl (by decide) hl.1 (Nat.le_of_ble_eq_true rfl) dX11_weighs_60 (fun rr m10 H locs hp hR hS => ?_)
      obtain ⟨r11, rfl, hf⟩ := hp
      refine W.eq (g2 := F0 m 63 ls [.int r11, .int (((20 : Int32) * x6) + x7), .ref (ad g b9)]) rfl ?_
      obtain ⟨n12, hn12, in12, hf⟩ := hf
      refine hw_iast E hR hS hw hn12 in12 dX11_weighs_63 (fun m13 H locs em13 hR hS => ?_)
      replace hf := hf m13 em13
      refine lv_aload_n hx hb dX11_weighs_64 rfl (lv_at hl 0 rfl) ?_
      obtain ⟨b14, hb14, hf⟩ := hf
      refine hw_getR E hR cI10 hs0 56 (by decide) lfX11_374 rfl hb14 dX11_weighs_65 ?_
      refine lv_bipush (v := 20) hx hb dX11_weighs_68 (by decide) ?_
      refine lv_iload hx hb dX11_weighs_70 (lv_at hl 6 rfl) ?_
      refine lv_imul hx hb dX11_weighs_72 ?_
      refine lv_iload hx hb dX11_weighs_73 (lv_at hl 7 rfl) ?_
      refine lv_iadd hx hb dX11_weighs_75 ?_
      refine lv_aload_n hx hb dX11_weighs_76 rfl (lv_at hl 0 rfl) ?_
      refine hw_callV (d := 7) E hR hS (As := []) (rest := [.int (((20 : Int32) * x6) + x7), .ref (ad g b14)]) cI10 hs0 rfl mcX11_breaks miX11_breaks lmX11_356 (ok_X11_breaks hs0 hf) rfl rfl (by decide) hl.1 (Nat.le_of_ble_eq_true rfl) dX11_weighs_77 (fun rr m15 H locs hp hR hS => ?_)
      obtain ⟨r16, rfl, hf⟩ := hp
      refine W.eq (g2 := F0 m 80 ls [.int r16, .int (((20 : Int32) * x6) + x7), .ref (ad g b14)]) rfl ?_
      obtain ⟨n17, hn17, in17, hf⟩ := hf
      refine hw_zast E hR hS hw hn17 in17 dX11_weighs_80 (fun m18 H locs em18 hR hS => ?_)
      replace hf := hf m18 em18
      refine lv_aload_n hx hb dX11_weighs_81 rfl (lv_at hl 0 rfl) ?_
      obtain ⟨b19, hb19, hf⟩ := hf
      refine hw_getR E hR cI10 hs0 57 (by decide) lfX11_378 rfl hb19 dX11_weighs_82 ?_
      refine lv_bipush (v := 20) hx hb dX11_weighs_85 (by decide) ?_
      refine lv_iload hx hb dX11_weighs_87 (lv_at hl 6 rfl) ?_
      refine lv_imul hx hb dX11_weighs_89 ?_
      refine lv_iload hx hb dX11_weighs_90 (lv_at hl 7 rfl) ?_
      refine lv_iadd hx hb dX11_weighs_92 ?_
      refine lv_aload_n hx hb dX11_weighs_93 rfl (lv_at hl 0 rfl) ?_
      refine hw_getI E hR cI10 hs0 30 (by decide) lfX11_179 rfl dX11_weighs_94 ?_
      obtain ⟨n20, hn20, in20, hf⟩ := hf
      refine hw_iast E hR hS hw hn20 in20 dX11_weighs_97 (fun m21 H locs em21 hR hS => ?_)
      replace hf := hf m21 em21
      obtain ⟨v22, ev22⟩ : ∃ y : Int32, y = x7 + (1 : Int32) := ⟨_, rfl⟩
      replace hf := hf v22 ev22
      refine lv_iinc (v := v22) (lv' := [(7, .int v22), (0, .ref (ad g a0)), (1, .int x1), (2, .int x2), (3, .int x3), (4, .int x4), (5, .int x5), (6, .int x6)]) hx hb dX11_weighs_98 hl (k := 7) rfl (by rw [ev22]; rfl) (by decide) rfl (fun ls hl => ?_)
      refine lv_goto (tgt := 25) hx hb dX11_weighs_101 (by decide) ?_
      exact hBK25 _ _ _ _ _ hf hR hS (lv_sub hl [1, 2, 3, 4, 5, 6, 7, 0] rfl)
def f_X11_weighs_L25 (S : Ss) (a0 : Nat) (x1 : Int32) (x2 : Int32) (x3 : Int32) (x4 : Int32) (x5 : Int32) (x6 : Int32) (EK25 : Mm → Prop) (K : Mm → Prop) : Nat → Int32 → Mm → Prop
  | 0, _, _ => False
  | n + 1, x7, M => f_X11_weighs_B25 S a0 x1 x2 x3 x4 x5 x6 x7 M (fun (x7 : Int32) (M : Mm) => f_X11_weighs_L25 S a0 x1 x2 x3 x4 x5 x6 EK25 K n x7 M) EK25 K
set_option maxHeartbeats 4000000 in
set_option maxRecDepth 100000 in
theorem w_X11_weighs_L25 {p : Program} {l : Launch} {e : Env} {s : State} {m : MethodId} {args : Array Value} {below : List Frame} {meth : Method} {c : Code} {g : Gg} {S : Ss} (a0 : Nat) (x1 : Int32) (x2 : Int32) (x3 : Int32) (x4 : Int32) (x5 : Int32) (x6 : Int32) (EK25 : Mm → Prop) (K : Mm → Prop) (E : EN p s m args meth c cX11_weighs 13 none RX11 g) (hw : ad g 100000 < s.heap.size) (hs0 : S[a0]? = some (10, 0)) (hEK25 : ∀ (M' : Mm) (H : Heap) (locs : List Loc) (ls : Array Slot), EK25 M' → RP g S M' H → va_S (gA g) s.heap H locs → lv_has ls 13 [(0, .ref (ad g a0)), (1, .int x1), (2, .int x2), (3, .int x3), (4, .int x4), (5, .int x5), (6, .int x6)] → W p l e (rmD 7) s m args below meth c H locs 0 0 (MQ below (QA g S (pV K)) args s 0 0 (gA g)) (F0 m 104 ls [])) : ∀ (n : Nat) (x7 : Int32) (M : Mm), f_X11_weighs_L25 S a0 x1 x2 x3 x4 x5 x6 EK25 K n x7 M → ∀ (H : Heap) (locs : List Loc) (ls : Array Slot), RP g S M H → va_S (gA g) s.heap H locs → lv_has ls 13 [(0, .ref (ad g a0)), (1, .int x1), (2, .int x2), (3, .int x3), (4, .int x4), (5, .int x5), (6, .int x6), (7, .int x7)] → W p l e (rmD 7) s m args below meth c H locs 0 0 (MQ below (QA g S (pV K)) args s 0 0 (gA g)) (F0 m 25 ls []) := by
  intro n
  induction n with
  | zero => intro x7 M hf; exact hf.elim
  | succ n ih =>
    intro x7 M hf H locs ls hR hS hl
    exact w_X11_weighs_B25 _ _ _ _ _ _ _ _ _ _ _ _ E hw hs0 (fun _ M H locs ls h hR hS hl => ih _ M h H locs ls hR hS hl) hEK25 hf H locs ls hR hS hl
def f_X11_weighs_B15 (S : Ss) (a0 : Nat) (x1 : Int32) (x2 : Int32) (x3 : Int32) (x4 : Int32) (x5 : Int32) (x6 : Int32) (M : Mm) (BK15 : Int32 → Mm → Prop) (EK15 : Mm → Prop) (K : Mm → Prop) : Prop :=
  ((x4 ≤ x6 →
    EK15 M) ∧
   (¬ x4 ≤ x6 →
    ∃ n25 : Nat, f_X11_weighs_L25 S a0 x1 x2 x3 x4 x5 x6 (fun (m23 : Mm) =>
      ∀ v24 : Int32, v24 = x6 + (1 : Int32) →
      BK15 v24 m23) K n25 (0 : Int32) M))
set_option maxHeartbeats 4000000 in
set_option maxRecDepth 100000 in
theorem w_X11_weighs_B15 {p : Program} {l : Launch} {e : Env} {s : State} {m : MethodId} {args : Array Value} {below : List Frame} {meth : Method} {c : Code} {g : Gg} {S : Ss} (a0 : Nat) (x1 : Int32) (x2 : Int32) (x3 : Int32) (x4 : Int32) (x5 : Int32) (x6 : Int32) (M : Mm) (BK15 : Int32 → Mm → Prop) (EK15 : Mm → Prop) (K : Mm → Prop) (E : EN p s m args meth c cX11_weighs 13 none RX11 g) (hw : ad g 100000 < s.heap.size) (hs0 : S[a0]? = some (10, 0)) (hBK15 : ∀ (x6' : Int32) (M' : Mm) (H : Heap) (locs : List Loc) (ls : Array Slot), BK15 x6' M' → RP g S M' H → va_S (gA g) s.heap H locs → lv_has ls 13 [(0, .ref (ad g a0)), (1, .int x1), (2, .int x2), (3, .int x3), (4, .int x4), (5, .int x5), (6, .int x6')] → W p l e (rmD 7) s m args below meth c H locs 0 0 (MQ below (QA g S (pV K)) args s 0 0 (gA g)) (F0 m 15 ls [])) (hEK15 : ∀ (M' : Mm) (H : Heap) (locs : List Loc) (ls : Array Slot), EK15 M' → RP g S M' H → va_S (gA g) s.heap H locs → lv_has ls 13 [(0, .ref (ad g a0)), (1, .int x1), (2, .int x2), (3, .int x3), (4, .int x4), (5, .int x5)] → W p l e (rmD 7) s m args below meth c H locs 0 0 (MQ below (QA g S (pV K)) args s 0 0 (gA g)) (F0 m 110 ls [])) (hf : f_X11_weighs_B15 S a0 x1 x2 x3 x4 x5 x6 M BK15 EK15 K) (H : Heap) (locs : List Loc) (ls : Array Slot) (hR : RP g S M H) (hS : va_S (gA g) s.heap H locs) (hl : lv_has ls 13 [(0, .ref (ad g a0)), (1, .int x1), (2, .int x2), (3, .int x3), (4, .int x4), (5, .int x5), (6, .int x6)]) : W p l e (rmD 7) s m args below meth c H locs 0 0 (MQ below (QA g S (pV K)) args s 0 0 (gA g)) (F0 m 15 ls []) := by
  have hx := E.1
  have hb := E.2.1
  unfold f_X11_weighs_B15 at hf
  refine lv_iload hx hb dX11_weighs_15 (lv_at hl 6 rfl) ?_
  refine lv_iload hx hb dX11_weighs_17 (lv_at hl 4 rfl) ?_
  refine lv_icmp_ge (tgt := 110) hx hb dX11_weighs_19 (by decide) (fun c4 => ?_) (fun c4 => ?_)
  · replace hf := hf.1 c4
    exact hEK15  _ _ _ _ hf hR hS (lv_sub hl [0, 1, 2, 3, 4, 5] rfl)
  · replace hf := hf.2 c4
    refine lv_iconst (v := 0) hx hb dX11_weighs_22 (by decide) ?_
    refine lv_istore (lv' := [(7, .int (0 : Int32)), (0, .ref (ad g a0)), (1, .int x1), (2, .int x2), (3, .int x3), (4, .int x4), (5, .int x5), (6, .int x6)]) hx hb dX11_weighs_23 hl (by decide) rfl (fun ls hl => ?_)
    obtain ⟨n25, hf⟩ := hf
    refine w_X11_weighs_L25 _ _ _ _ _ _ _ _ _ E hw hs0 ?_ n25 _ _ hf _ _ _ hR hS (lv_sub hl [1, 2, 3, 4, 5, 6, 7, 0] rfl)
    intro m23 H locs ls hf hR hS hl
    obtain ⟨v24, ev24⟩ : ∃ y : Int32, y = x6 + (1 : Int32) := ⟨_, rfl⟩
    replace hf := hf v24 ev24
    refine lv_iinc (v := v24) (lv' := [(6, .int v24), (0, .ref (ad g a0)), (1, .int x1), (2, .int x2), (3, .int x3), (4, .int x4), (5, .int x5)]) hx hb dX11_weighs_104 hl (k := 6) rfl (by rw [ev24]; rfl) (by decide) rfl (fun ls hl => ?_)
    refine lv_goto (tgt := 15) hx hb dX11_weighs_107 (by decide) ?_
    exact hBK15 _ _ _ _ _ hf hR hS (lv_sub hl [1, 2, 3, 4, 5, 6, 0] rfl)
def f_X11_weighs_L15 (S : Ss) (a0 : Nat) (x1 : Int32) (x2 : Int32) (x3 : Int32) (x4 : Int32) (x5 : Int32) (EK15 : Mm → Prop) (K : Mm → Prop) : Nat → Int32 → Mm → Prop
  | 0, _, _ => False
  | n + 1, x6, M => f_X11_weighs_B15 S a0 x1 x2 x3 x4 x5 x6 M (fun (x6 : Int32) (M : Mm) => f_X11_weighs_L15 S a0 x1 x2 x3 x4 x5 EK15 K n x6 M) EK15 K
set_option maxHeartbeats 4000000 in
set_option maxRecDepth 100000 in
theorem w_X11_weighs_L15 {p : Program} {l : Launch} {e : Env} {s : State} {m : MethodId} {args : Array Value} {below : List Frame} {meth : Method} {c : Code} {g : Gg} {S : Ss} (a0 : Nat) (x1 : Int32) (x2 : Int32) (x3 : Int32) (x4 : Int32) (x5 : Int32) (EK15 : Mm → Prop) (K : Mm → Prop) (E : EN p s m args meth c cX11_weighs 13 none RX11 g) (hw : ad g 100000 < s.heap.size) (hs0 : S[a0]? = some (10, 0)) (hEK15 : ∀ (M' : Mm) (H : Heap) (locs : List Loc) (ls : Array Slot), EK15 M' → RP g S M' H → va_S (gA g) s.heap H locs → lv_has ls 13 [(0, .ref (ad g a0)), (1, .int x1), (2, .int x2), (3, .int x3), (4, .int x4), (5, .int x5)] → W p l e (rmD 7) s m args below meth c H locs 0 0 (MQ below (QA g S (pV K)) args s 0 0 (gA g)) (F0 m 110 ls [])) : ∀ (n : Nat) (x6 : Int32) (M : Mm), f_X11_weighs_L15 S a0 x1 x2 x3 x4 x5 EK15 K n x6 M → ∀ (H : Heap) (locs : List Loc) (ls : Array Slot), RP g S M H → va_S (gA g) s.heap H locs → lv_has ls 13 [(0, .ref (ad g a0)), (1, .int x1), (2, .int x2), (3, .int x3), (4, .int x4), (5, .int x5), (6, .int x6)] → W p l e (rmD 7) s m args below meth c H locs 0 0 (MQ below (QA g S (pV K)) args s 0 0 (gA g)) (F0 m 15 ls []) := by
  intro n
  induction n with
  | zero => intro x6 M hf; exact hf.elim
  | succ n ih =>
    intro x6 M hf H locs ls hR hS hl
    exact w_X11_weighs_B15 _ _ _ _ _ _ _ _ _ _ _ E hw hs0 (fun _ M H locs ls h hR hS hl => ih _ M h H locs ls hR hS hl) hEK15 hf H locs ls hR hS hl
def f_X11_weighs_B113 (S : Ss) (a0 : Nat) (x1 : Int32) (x2 : Int32) (x3 : Int32) (x4 : Int32) (x5 : Int32) (x6 : Int32) (M : Mm) (BK113 : Int32 → Mm → Prop) (EK113 : Mm → Prop) (K : Mm → Prop) : Prop :=
  ((((4 : Int32) * x4) ≤ x6 →
    EK113 M) ∧
   (¬ ((4 : Int32) * x4) ≤ x6 →
    ∃ b28 : Nat, M.2.2 a0 53 = some b28 ∧
    ∃ n29 : Nat, S[b28]? = some (53, n29) ∧ vp_in x6 n29 ∧
    ∀ m30 : Mm, m30 = stJ M b28 x6.toNatClampNeg (0 : Int64) →
    ∀ v31 : Int32, v31 = x6 + (1 : Int32) →
    BK113 v31 m30))
set_option maxHeartbeats 4000000 in
set_option maxRecDepth 100000 in
theorem w_X11_weighs_B113 {p : Program} {l : Launch} {e : Env} {s : State} {m : MethodId} {args : Array Value} {below : List Frame} {meth : Method} {c : Code} {g : Gg} {S : Ss} (a0 : Nat) (x1 : Int32) (x2 : Int32) (x3 : Int32) (x4 : Int32) (x5 : Int32) (x6 : Int32) (M : Mm) (BK113 : Int32 → Mm → Prop) (EK113 : Mm → Prop) (K : Mm → Prop) (E : EN p s m args meth c cX11_weighs 13 none RX11 g) (hw : ad g 100000 < s.heap.size) (hs0 : S[a0]? = some (10, 0)) (hBK113 : ∀ (x6' : Int32) (M' : Mm) (H : Heap) (locs : List Loc) (ls : Array Slot), BK113 x6' M' → RP g S M' H → va_S (gA g) s.heap H locs → lv_has ls 13 [(0, .ref (ad g a0)), (1, .int x1), (2, .int x2), (3, .int x3), (4, .int x4), (5, .int x5), (6, .int x6')] → W p l e (rmD 7) s m args below meth c H locs 0 0 (MQ below (QA g S (pV K)) args s 0 0 (gA g)) (F0 m 113 ls [])) (hEK113 : ∀ (M' : Mm) (H : Heap) (locs : List Loc) (ls : Array Slot), EK113 M' → RP g S M' H → va_S (gA g) s.heap H locs → lv_has ls 13 [(0, .ref (ad g a0)), (1, .int x1), (2, .int x2), (3, .int x3), (4, .int x4), (5, .int x5)] → W p l e (rmD 7) s m args below meth c H locs 0 0 (MQ below (QA g S (pV K)) args s 0 0 (gA g)) (F0 m 136 ls [])) (hf : f_X11_weighs_B113 S a0 x1 x2 x3 x4 x5 x6 M BK113 EK113 K) (H : Heap) (locs : List Loc) (ls : Array Slot) (hR : RP g S M H) (hS : va_S (gA g) s.heap H locs) (hl : lv_has ls 13 [(0, .ref (ad g a0)), (1, .int x1), (2, .int x2), (3, .int x3), (4, .int x4), (5, .int x5), (6, .int x6)]) : W p l e (rmD 7) s m args below meth c H locs 0 0 (MQ below (QA g S (pV K)) args s 0 0 (gA g)) (F0 m 113 ls []) := by
  have hx := E.1
  have hb := E.2.1
  unfold f_X11_weighs_B113 at hf
  refine lv_iload hx hb dX11_weighs_113 (lv_at hl 6 rfl) ?_
  refine lv_iconst (v := 4) hx hb dX11_weighs_115 (by decide) ?_
  refine lv_iload hx hb dX11_weighs_116 (lv_at hl 4 rfl) ?_
  refine lv_imul hx hb dX11_weighs_118 ?_
  refine lv_icmp_ge (tgt := 136) hx hb dX11_weighs_119 (by decide) (fun c27 => ?_) (fun c27 => ?_)
  · replace hf := hf.1 c27
    exact hEK113  _ _ _ _ hf hR hS (lv_sub hl [0, 1, 2, 3, 4, 5] rfl)
  · replace hf := hf.2 c27
    refine lv_aload_n hx hb dX11_weighs_122 rfl (lv_at hl 0 rfl) ?_
    obtain ⟨b28, hb28, hf⟩ := hf
    refine hw_getR E hR cI10 hs0 53 (by decide) lfX11_381 rfl hb28 dX11_weighs_123 ?_
    refine lv_iload hx hb dX11_weighs_126 (lv_at hl 6 rfl) ?_
    refine lv_lconst (v := 0) hx hb dX11_weighs_128 (by decide) ?_
    obtain ⟨n29, hn29, in29, hf⟩ := hf
    refine hw_last E hR hS hw hn29 in29 dX11_weighs_129 (fun m30 H locs em30 hR hS => ?_)
    replace hf := hf m30 em30
    obtain ⟨v31, ev31⟩ : ∃ y : Int32, y = x6 + (1 : Int32) := ⟨_, rfl⟩
    replace hf := hf v31 ev31
    refine lv_iinc (v := v31) (lv' := [(6, .int v31), (0, .ref (ad g a0)), (1, .int x1), (2, .int x2), (3, .int x3), (4, .int x4), (5, .int x5)]) hx hb dX11_weighs_130 hl (k := 6) rfl (by rw [ev31]; rfl) (by decide) rfl (fun ls hl => ?_)
    refine lv_goto (tgt := 113) hx hb dX11_weighs_133 (by decide) ?_
    exact hBK113 _ _ _ _ _ hf hR hS (lv_sub hl [1, 2, 3, 4, 5, 6, 0] rfl)
def f_X11_weighs_L113 (S : Ss) (a0 : Nat) (x1 : Int32) (x2 : Int32) (x3 : Int32) (x4 : Int32) (x5 : Int32) (EK113 : Mm → Prop) (K : Mm → Prop) : Nat → Int32 → Mm → Prop
  | 0, _, _ => False
  | n + 1, x6, M => f_X11_weighs_B113 S a0 x1 x2 x3 x4 x5 x6 M (fun (x6 : Int32) (M : Mm) => f_X11_weighs_L113 S a0 x1 x2 x3 x4 x5 EK113 K n x6 M) EK113 K
set_option maxHeartbeats 4000000 in
set_option maxRecDepth 100000 in
theorem w_X11_weighs_L113 {p : Program} {l : Launch} {e : Env} {s : State} {m : MethodId} {args : Array Value} {below : List Frame} {meth : Method} {c : Code} {g : Gg} {S : Ss} (a0 : Nat) (x1 : Int32) (x2 : Int32) (x3 : Int32) (x4 : Int32) (x5 : Int32) (EK113 : Mm → Prop) (K : Mm → Prop) (E : EN p s m args meth c cX11_weighs 13 none RX11 g) (hw : ad g 100000 < s.heap.size) (hs0 : S[a0]? = some (10, 0)) (hEK113 : ∀ (M' : Mm) (H : Heap) (locs : List Loc) (ls : Array Slot), EK113 M' → RP g S M' H → va_S (gA g) s.heap H locs → lv_has ls 13 [(0, .ref (ad g a0)), (1, .int x1), (2, .int x2), (3, .int x3), (4, .int x4), (5, .int x5)] → W p l e (rmD 7) s m args below meth c H locs 0 0 (MQ below (QA g S (pV K)) args s 0 0 (gA g)) (F0 m 136 ls [])) : ∀ (n : Nat) (x6 : Int32) (M : Mm), f_X11_weighs_L113 S a0 x1 x2 x3 x4 x5 EK113 K n x6 M → ∀ (H : Heap) (locs : List Loc) (ls : Array Slot), RP g S M H → va_S (gA g) s.heap H locs → lv_has ls 13 [(0, .ref (ad g a0)), (1, .int x1), (2, .int x2), (3, .int x3), (4, .int x4), (5, .int x5), (6, .int x6)] → W p l e (rmD 7) s m args below meth c H locs 0 0 (MQ below (QA g S (pV K)) args s 0 0 (gA g)) (F0 m 113 ls []) := by
  intro n
  induction n with
  | zero => intro x6 M hf; exact hf.elim
  | succ n ih =>
    intro x6 M hf H locs ls hR hS hl
    exact w_X11_weighs_B113 _ _ _ _ _ _ _ _ _ _ _ E hw hs0 (fun _ M H locs ls h hR hS hl => ih _ M h H locs ls hR hS hl) hEK113 hf H locs ls hR hS hl
def f_X11_weighs_B155 (S : Ss) (a0 : Nat) (x1 : Int32) (x2 : Int32) (x3 : Int32) (x4 : Int32) (x5 : Int32) (x6 : Int32) (x7 : Int32) (M : Mm) (BK155 : Int32 → Mm → Prop) (EK155 : Mm → Prop) (K : Mm → Prop) : Prop :=
  ((((4 : Int32) * x4) ≤ x7 →
    EK155 M) ∧
   (¬ ((4 : Int32) * x4) ≤ x7 →
    ∃ b38 : Nat, M.2.2 a0 54 = some b38 ∧
    ∃ n39 : Nat, S[b38]? = some (53, n39) ∧ vp_in x7 n39 ∧
    ∀ m40 : Mm, m40 = stJ M b38 x7.toNatClampNeg (0 : Int64) →
    ∀ v41 : Int32, v41 = x7 + (1 : Int32) →
    BK155 v41 m40))
set_option maxHeartbeats 4000000 in
set_option maxRecDepth 100000 in
theorem w_X11_weighs_B155 {p : Program} {l : Launch} {e : Env} {s : State} {m : MethodId} {args : Array Value} {below : List Frame} {meth : Method} {c : Code} {g : Gg} {S : Ss} (a0 : Nat) (x1 : Int32) (x2 : Int32) (x3 : Int32) (x4 : Int32) (x5 : Int32) (x6 : Int32) (x7 : Int32) (M : Mm) (BK155 : Int32 → Mm → Prop) (EK155 : Mm → Prop) (K : Mm → Prop) (E : EN p s m args meth c cX11_weighs 13 none RX11 g) (hw : ad g 100000 < s.heap.size) (hs0 : S[a0]? = some (10, 0)) (hBK155 : ∀ (x7' : Int32) (M' : Mm) (H : Heap) (locs : List Loc) (ls : Array Slot), BK155 x7' M' → RP g S M' H → va_S (gA g) s.heap H locs → lv_has ls 13 [(0, .ref (ad g a0)), (1, .int x1), (2, .int x2), (3, .int x3), (4, .int x4), (5, .int x5), (6, .int x6), (7, .int x7')] → W p l e (rmD 7) s m args below meth c H locs 0 0 (MQ below (QA g S (pV K)) args s 0 0 (gA g)) (F0 m 155 ls [])) (hEK155 : ∀ (M' : Mm) (H : Heap) (locs : List Loc) (ls : Array Slot), EK155 M' → RP g S M' H → va_S (gA g) s.heap H locs → lv_has ls 13 [(0, .ref (ad g a0)), (1, .int x1), (2, .int x2), (3, .int x3), (4, .int x4), (5, .int x5), (6, .int x6)] → W p l e (rmD 7) s m args below meth c H locs 0 0 (MQ below (QA g S (pV K)) args s 0 0 (gA g)) (F0 m 178 ls [])) (hf : f_X11_weighs_B155 S a0 x1 x2 x3 x4 x5 x6 x7 M BK155 EK155 K) (H : Heap) (locs : List Loc) (ls : Array Slot) (hR : RP g S M H) (hS : va_S (gA g) s.heap H locs) (hl : lv_has ls 13 [(0, .ref (ad g a0)), (1, .int x1), (2, .int x2), (3, .int x3), (4, .int x4), (5, .int x5), (6, .int x6), (7, .int x7)]) : W p l e (rmD 7) s m args below meth c H locs 0 0 (MQ below (QA g S (pV K)) args s 0 0 (gA g)) (F0 m 155 ls []) := by
  have hx := E.1
  have hb := E.2.1
  unfold f_X11_weighs_B155 at hf
  refine lv_iload hx hb dX11_weighs_155 (lv_at hl 7 rfl) ?_
  refine lv_iconst (v := 4) hx hb dX11_weighs_157 (by decide) ?_
  refine lv_iload hx hb dX11_weighs_158 (lv_at hl 4 rfl) ?_
  refine lv_imul hx hb dX11_weighs_160 ?_
  refine lv_icmp_ge (tgt := 178) hx hb dX11_weighs_161 (by decide) (fun c37 => ?_) (fun c37 => ?_)
  · replace hf := hf.1 c37
    exact hEK155  _ _ _ _ hf hR hS (lv_sub hl [0, 1, 2, 3, 4, 5, 6] rfl)
  · replace hf := hf.2 c37
    refine lv_aload_n hx hb dX11_weighs_164 rfl (lv_at hl 0 rfl) ?_
    obtain ⟨b38, hb38, hf⟩ := hf
    refine hw_getR E hR cI10 hs0 54 (by decide) lfX11_384 rfl hb38 dX11_weighs_165 ?_
    refine lv_iload hx hb dX11_weighs_168 (lv_at hl 7 rfl) ?_
    refine lv_lconst (v := 0) hx hb dX11_weighs_170 (by decide) ?_
    obtain ⟨n39, hn39, in39, hf⟩ := hf
    refine hw_last E hR hS hw hn39 in39 dX11_weighs_171 (fun m40 H locs em40 hR hS => ?_)
    replace hf := hf m40 em40
    obtain ⟨v41, ev41⟩ : ∃ y : Int32, y = x7 + (1 : Int32) := ⟨_, rfl⟩
    replace hf := hf v41 ev41
    refine lv_iinc (v := v41) (lv' := [(7, .int v41), (0, .ref (ad g a0)), (1, .int x1), (2, .int x2), (3, .int x3), (4, .int x4), (5, .int x5), (6, .int x6)]) hx hb dX11_weighs_172 hl (k := 7) rfl (by rw [ev41]; rfl) (by decide) rfl (fun ls hl => ?_)
    refine lv_goto (tgt := 155) hx hb dX11_weighs_175 (by decide) ?_
    exact hBK155 _ _ _ _ _ hf hR hS (lv_sub hl [1, 2, 3, 4, 5, 6, 7, 0] rfl)
def f_X11_weighs_L155 (S : Ss) (a0 : Nat) (x1 : Int32) (x2 : Int32) (x3 : Int32) (x4 : Int32) (x5 : Int32) (x6 : Int32) (EK155 : Mm → Prop) (K : Mm → Prop) : Nat → Int32 → Mm → Prop
  | 0, _, _ => False
  | n + 1, x7, M => f_X11_weighs_B155 S a0 x1 x2 x3 x4 x5 x6 x7 M (fun (x7 : Int32) (M : Mm) => f_X11_weighs_L155 S a0 x1 x2 x3 x4 x5 x6 EK155 K n x7 M) EK155 K
set_option maxHeartbeats 4000000 in
set_option maxRecDepth 100000 in
theorem w_X11_weighs_L155 {p : Program} {l : Launch} {e : Env} {s : State} {m : MethodId} {args : Array Value} {below : List Frame} {meth : Method} {c : Code} {g : Gg} {S : Ss} (a0 : Nat) (x1 : Int32) (x2 : Int32) (x3 : Int32) (x4 : Int32) (x5 : Int32) (x6 : Int32) (EK155 : Mm → Prop) (K : Mm → Prop) (E : EN p s m args meth c cX11_weighs 13 none RX11 g) (hw : ad g 100000 < s.heap.size) (hs0 : S[a0]? = some (10, 0)) (hEK155 : ∀ (M' : Mm) (H : Heap) (locs : List Loc) (ls : Array Slot), EK155 M' → RP g S M' H → va_S (gA g) s.heap H locs → lv_has ls 13 [(0, .ref (ad g a0)), (1, .int x1), (2, .int x2), (3, .int x3), (4, .int x4), (5, .int x5), (6, .int x6)] → W p l e (rmD 7) s m args below meth c H locs 0 0 (MQ below (QA g S (pV K)) args s 0 0 (gA g)) (F0 m 178 ls [])) : ∀ (n : Nat) (x7 : Int32) (M : Mm), f_X11_weighs_L155 S a0 x1 x2 x3 x4 x5 x6 EK155 K n x7 M → ∀ (H : Heap) (locs : List Loc) (ls : Array Slot), RP g S M H → va_S (gA g) s.heap H locs → lv_has ls 13 [(0, .ref (ad g a0)), (1, .int x1), (2, .int x2), (3, .int x3), (4, .int x4), (5, .int x5), (6, .int x6), (7, .int x7)] → W p l e (rmD 7) s m args below meth c H locs 0 0 (MQ below (QA g S (pV K)) args s 0 0 (gA g)) (F0 m 155 ls []) := by
  intro n
  induction n with
  | zero => intro x7 M hf; exact hf.elim
  | succ n ih =>
    intro x7 M hf H locs ls hR hS hl
    exact w_X11_weighs_B155 _ _ _ _ _ _ _ _ _ _ _ _ E hw hs0 (fun _ M H locs ls h hR hS hl => ih _ M h H locs ls hR hS hl) hEK155 hf H locs ls hR hS hl
def f_X11_weighs_J271 (S : Ss) (a0 : Nat) (x1 : Int32) (x2 : Int32) (x3 : Int32) (x4 : Int32) (x5 : Int32) (x6 : Int32) (x7 : Int32) (x8 : Int32) (x9 : Int64) (x11 : Int32) (t0 : Int32) (t1 : Int32) (M : Mm) (BK214 : Int32 → Mm → Prop) (K : Mm → Prop) : Prop :=
  ∀ v57 : Int32, v57 = (t1 ||| t0) →
  ∃ b58 : Nat, M.2.2 a0 54 = some b58 ∧
  ∃ b59 : Nat, M.2.2 a0 55 = some b59 ∧
  ∃ n60 : Nat, shp S b59 = some (50, n60) ∧ vp_in (((20 : Int32) * x7) + x11) n60 ∧
  ∃ n61 : Nat, S[b58]? = some (53, n61) ∧ vp_in (((4 : Int32) * (M.1 b59 (((20 : Int32) * x7) + x11).toNatClampNeg)) + v57) n61 ∧
  ((0 ≤ x3 →
    ∃ b63 : Nat, M.2.2 a0 58 = some b63 ∧
    ¬ ((M.1 a0 27) + (1 : Int32)) = 0 ∧
    ∃ n65 : Nat, shp S b63 = some (50, n65) ∧ vp_in (((5 : Int32) * x3) + (x11 - x11 / ((M.1 a0 27) + (1 : Int32)) * ((M.1 a0 27) + (1 : Int32)))) n65 ∧
    ∃ n66 : Nat, S[b58]? = some (53, n66) ∧ vp_in (((4 : Int32) * (M.1 b59 (((20 : Int32) * x7) + x11).toNatClampNeg)) + v57) n66 ∧
    ∀ m67 : Mm, m67 = stJ M b58 (((4 : Int32) * (M.1 b59 (((20 : Int32) * x7) + x11).toNatClampNeg)) + v57).toNatClampNeg ((M.2.1 b58 (((4 : Int32) * (M.1 b59 (((20 : Int32) * x7) + x11).toNatClampNeg)) + v57).toNatClampNeg) + (x9 * (M.1 b63 (((5 : Int32) * x3) + (x11 - x11 / ((M.1 a0 27) + (1 : Int32)) * ((M.1 a0 27) + (1 : Int32)))).toNatClampNeg).toInt64)) →
    ∀ v68 : Int32, v68 = x11 + (1 : Int32) →
    BK214 v68 m67) ∧
   (¬ 0 ≤ x3 →
    ∃ n69 : Nat, S[b58]? = some (53, n69) ∧ vp_in (((4 : Int32) * (M.1 b59 (((20 : Int32) * x7) + x11).toNatClampNeg)) + v57) n69 ∧
    ∀ m70 : Mm, m70 = stJ M b58 (((4 : Int32) * (M.1 b59 (((20 : Int32) * x7) + x11).toNatClampNeg)) + v57).toNatClampNeg ((M.2.1 b58 (((4 : Int32) * (M.1 b59 (((20 : Int32) * x7) + x11).toNatClampNeg)) + v57).toNatClampNeg) + (x9 * (1 : Int32).toInt64)) →
    ∀ v71 : Int32, v71 = x11 + (1 : Int32) →
    BK214 v71 m70))
set_option maxHeartbeats 4000000 in
set_option maxRecDepth 100000 in
theorem w_X11_weighs_J271 {p : Program} {l : Launch} {e : Env} {s : State} {m : MethodId} {args : Array Value} {below : List Frame} {meth : Method} {c : Code} {g : Gg} {S : Ss} (a0 : Nat) (x1 : Int32) (x2 : Int32) (x3 : Int32) (x4 : Int32) (x5 : Int32) (x6 : Int32) (x7 : Int32) (x8 : Int32) (x9 : Int64) (x11 : Int32) (t0 : Int32) (t1 : Int32) (M : Mm) (BK214 : Int32 → Mm → Prop) (K : Mm → Prop) (E : EN p s m args meth c cX11_weighs 13 none RX11 g) (hw : ad g 100000 < s.heap.size) (hs0 : S[a0]? = some (10, 0)) (hBK214 : ∀ (x11' : Int32) (M' : Mm) (H : Heap) (locs : List Loc) (ls : Array Slot), BK214 x11' M' → RP g S M' H → va_S (gA g) s.heap H locs → lv_has ls 13 [(0, .ref (ad g a0)), (1, .int x1), (2, .int x2), (3, .int x3), (4, .int x4), (5, .int x5), (6, .int x6), (7, .int x7), (8, .int x8), (9, .long x9), (11, .int x11')] → W p l e (rmD 7) s m args below meth c H locs 0 0 (MQ below (QA g S (pV K)) args s 0 0 (gA g)) (F0 m 214 ls [])) (hf : f_X11_weighs_J271 S a0 x1 x2 x3 x4 x5 x6 x7 x8 x9 x11 t0 t1 M BK214 K) (H : Heap) (locs : List Loc) (ls : Array Slot) (hR : RP g S M H) (hS : va_S (gA g) s.heap H locs) (hl : lv_has ls 13 [(0, .ref (ad g a0)), (1, .int x1), (2, .int x2), (3, .int x3), (4, .int x4), (5, .int x5), (6, .int x6), (7, .int x7), (8, .int x8), (9, .long x9), (11, .int x11)]) : W p l e (rmD 7) s m args below meth c H locs 0 0 (MQ below (QA g S (pV K)) args s 0 0 (gA g)) (F0 m 271 ls [.int t0, .int t1]) := by
  have hx := E.1
  have hb := E.2.1
  unfold f_X11_weighs_J271 at hf
  refine lv_ior hx hb dX11_weighs_271 ?_
  refine lv_topi (fun v57 ev57 => ?_)
  replace hf := hf v57 ev57
  refine lv_istore (lv' := [(12, .int v57), (0, .ref (ad g a0)), (1, .int x1), (2, .int x2), (3, .int x3), (4, .int x4), (5, .int x5), (6, .int x6), (7, .int x7), (8, .int x8), (9, .long x9), (11, .int x11)]) hx hb dX11_weighs_272 hl (by decide) rfl (fun ls hl => ?_)
  refine lv_aload_n hx hb dX11_weighs_274 rfl (lv_at hl 1 rfl) ?_
  obtain ⟨b58, hb58, hf⟩ := hf
  refine hw_getR E hR cI10 hs0 54 (by decide) lfX11_384 rfl hb58 dX11_weighs_275 ?_
  refine lv_iconst (v := 4) hx hb dX11_weighs_278 (by decide) ?_
  refine lv_aload_n hx hb dX11_weighs_279 rfl (lv_at hl 1 rfl) ?_
  obtain ⟨b59, hb59, hf⟩ := hf
  refine hw_getR E hR cI10 hs0 55 (by decide) lfX11_371 rfl hb59 dX11_weighs_280 ?_
  refine lv_bipush (v := 20) hx hb dX11_weighs_283 (by decide) ?_
  refine lv_iload hx hb dX11_weighs_285 (lv_at hl 8 rfl) ?_
  refine lv_imul hx hb dX11_weighs_287 ?_
  refine lv_iload hx hb dX11_weighs_288 (lv_at hl 11 rfl) ?_
  refine lv_iadd hx hb dX11_weighs_290 ?_
  obtain ⟨n60, hn60, in60, hf⟩ := hf
  refine hw_iald E hR hS hn60 in60 dX11_weighs_291 ?_
  refine lv_imul hx hb dX11_weighs_292 ?_
  refine lv_iload hx hb dX11_weighs_293 (lv_at hl 0 rfl) ?_
  refine lv_iadd hx hb dX11_weighs_295 ?_
  refine lv_dup2_11 hx hb dX11_weighs_296 rfl rfl ?_
  obtain ⟨n61, hn61, in61, hf⟩ := hf
  refine hw_lald E hR hn61 in61 dX11_weighs_297 ?_
  refine lv_lload hx hb dX11_weighs_298 (lv_at hl 10 rfl) ?_
  refine lv_iload_n hx hb dX11_weighs_300 rfl (lv_at hl 4 rfl) ?_
  refine lv_if_ge (tgt := 308) hx hb dX11_weighs_301 (by decide) (fun c62 => ?_) (fun c62 => ?_)
  · replace hf := hf.1 c62
    refine lv_aload_n hx hb dX11_weighs_308 rfl (lv_at hl 1 rfl) ?_
    obtain ⟨b63, hb63, hf⟩ := hf
    refine hw_getR E hR cI10 hs0 58 (by decide) lfX11_387 rfl hb63 dX11_weighs_309 ?_
    refine lv_iconst (v := 5) hx hb dX11_weighs_312 (by decide) ?_
    refine lv_iload_n hx hb dX11_weighs_313 rfl (lv_at hl 4 rfl) ?_
    refine lv_imul hx hb dX11_weighs_314 ?_
    refine lv_iload hx hb dX11_weighs_315 (lv_at hl 11 rfl) ?_
    refine lv_aload_n hx hb dX11_weighs_317 rfl (lv_at hl 1 rfl) ?_
    refine hw_getI E hR cI10 hs0 27 (by decide) lfX11_239 rfl dX11_weighs_318 ?_
    refine lv_iconst (v := 1) hx hb dX11_weighs_321 (by decide) ?_
    refine lv_iadd hx hb dX11_weighs_322 ?_
    obtain ⟨h64, hf⟩ := hf
    refine lv_irem hx hb dX11_weighs_323 h64 ?_
    refine lv_iadd hx hb dX11_weighs_324 ?_
    obtain ⟨n65, hn65, in65, hf⟩ := hf
    refine hw_iald E hR hS hn65 in65 dX11_weighs_325 ?_
    refine lv_i2l hx hb dX11_weighs_326 rfl ?_
    refine lv_lmul hx hb dX11_weighs_327 ?_
    refine lv_ladd hx hb dX11_weighs_328 ?_
    obtain ⟨n66, hn66, in66, hf⟩ := hf
    refine hw_last E hR hS hw hn66 in66 dX11_weighs_329 (fun m67 H locs em67 hR hS => ?_)
    replace hf := hf m67 em67
    obtain ⟨v68, ev68⟩ : ∃ y : Int32, y = x11 + (1 : Int32) := ⟨_, rfl⟩
    replace hf := hf v68 ev68
    refine lv_iinc (v := v68) (lv' := [(11, .int v68), (12, .int v57), (0, .ref (ad g a0)), (1, .int x1), (2, .int x2), (3, .int x3), (4, .int x4), (5, .int x5), (6, .int x6), (7, .int x7), (8, .int x8), (9, .long x9)]) hx hb dX11_weighs_330 hl (k := 11) rfl (by rw [ev68]; rfl) (by decide) rfl (fun ls hl => ?_)
    refine lv_goto (tgt := 214) hx hb dX11_weighs_333 (by decide) ?_
    exact hBK214 _ _ _ _ _ hf hR hS (lv_sub hl [2, 3, 4, 5, 6, 7, 8, 9, 10, 11, 0] rfl)
  · replace hf := hf.2 c62
    refine lv_iconst (v := 1) hx hb dX11_weighs_304 (by decide) ?_
    refine lv_goto (tgt := 326) hx hb dX11_weighs_305 (by decide) ?_
    refine lv_i2l hx hb dX11_weighs_326 rfl ?_
    refine lv_lmul hx hb dX11_weighs_327 ?_
    refine lv_ladd hx hb dX11_weighs_328 ?_
    obtain ⟨n69, hn69, in69, hf⟩ := hf
    refine hw_last E hR hS hw hn69 in69 dX11_weighs_329 (fun m70 H locs em70 hR hS => ?_)
    replace hf := hf m70 em70
    obtain ⟨v71, ev71⟩ : ∃ y : Int32, y = x11 + (1 : Int32) := ⟨_, rfl⟩
    replace hf := hf v71 ev71
    refine lv_iinc (v := v71) (lv' := [(11, .int v71), (12, .int v57), (0, .ref (ad g a0)), (1, .int x1), (2, .int x2), (3, .int x3), (4, .int x4), (5, .int x5), (6, .int x6), (7, .int x7), (8, .int x8), (9, .long x9)]) hx hb dX11_weighs_330 hl (k := 11) rfl (by rw [ev71]; rfl) (by decide) rfl (fun ls hl => ?_)
    refine lv_goto (tgt := 214) hx hb dX11_weighs_333 (by decide) ?_
    exact hBK214 _ _ _ _ _ hf hR hS (lv_sub hl [2, 3, 4, 5, 6, 7, 8, 9, 10, 11, 0] rfl)
def f_X11_weighs_B214 (S : Ss) (a0 : Nat) (x1 : Int32) (x2 : Int32) (x3 : Int32) (x4 : Int32) (x5 : Int32) (x6 : Int32) (x7 : Int32) (x8 : Int32) (x9 : Int64) (x11 : Int32) (M : Mm) (BK214 : Int32 → Mm → Prop) (EK214 : Mm → Prop) (K : Mm → Prop) : Prop :=
  ((x5 ≤ x11 →
    EK214 M) ∧
   (¬ x5 ≤ x11 →
    ((x9 ≤ (0 : Int64) →
      EK214 M) ∧
     (¬ x9 ≤ (0 : Int64) →
      ∃ b50 : Nat, M.2.2 a0 56 = some b50 ∧
      ∃ n51 : Nat, S[b50]? = some (52, n51) ∧ vp_in (((20 : Int32) * x7) + x11) n51 ∧
      f_X11_truth S  (M.1 b50 (((20 : Int32) * x7) + x11).toNatClampNeg) M (fun (r53 : Int32) (m52 : Mm) =>
        ∃ b54 : Nat, m52.2.2 a0 57 = some b54 ∧
      ∃ n55 : Nat, shp S b54 = some (50, n55) ∧ vp_in (((20 : Int32) * x7) + x11) n55 ∧
      (((m52.1 b54 (((20 : Int32) * x7) + x11).toNatClampNeg) = (x2 + (1 : Int32)) →
        f_X11_weighs_J271 S a0 x1 x2 x3 x4 x5 x6 x7 x8 x9 x11 (2 : Int32) (x8 ||| r53) m52 BK214 K) ∧
       (¬ (m52.1 b54 (((20 : Int32) * x7) + x11).toNatClampNeg) = (x2 + (1 : Int32)) →
        f_X11_weighs_J271 S a0 x1 x2 x3 x4 x5 x6 x7 x8 x9 x11 (0 : Int32) (x8 ||| r53) m52 BK214 K)))))))
set_option maxHeartbeats 4000000 in
set_option maxRecDepth 100000 in
theorem w_X11_weighs_B214 {p : Program} {l : Launch} {e : Env} {s : State} {m : MethodId} {args : Array Value} {below : List Frame} {meth : Method} {c : Code} {g : Gg} {S : Ss} (a0 : Nat) (x1 : Int32) (x2 : Int32) (x3 : Int32) (x4 : Int32) (x5 : Int32) (x6 : Int32) (x7 : Int32) (x8 : Int32) (x9 : Int64) (x11 : Int32) (M : Mm) (BK214 : Int32 → Mm → Prop) (EK214 : Mm → Prop) (K : Mm → Prop) (E : EN p s m args meth c cX11_weighs 13 none RX11 g) (hw : ad g 100000 < s.heap.size) (hs0 : S[a0]? = some (10, 0)) (hBK214 : ∀ (x11' : Int32) (M' : Mm) (H : Heap) (locs : List Loc) (ls : Array Slot), BK214 x11' M' → RP g S M' H → va_S (gA g) s.heap H locs → lv_has ls 13 [(0, .ref (ad g a0)), (1, .int x1), (2, .int x2), (3, .int x3), (4, .int x4), (5, .int x5), (6, .int x6), (7, .int x7), (8, .int x8), (9, .long x9), (11, .int x11')] → W p l e (rmD 7) s m args below meth c H locs 0 0 (MQ below (QA g S (pV K)) args s 0 0 (gA g)) (F0 m 214 ls [])) (hEK214 : ∀ (M' : Mm) (H : Heap) (locs : List Loc) (ls : Array Slot), EK214 M' → RP g S M' H → va_S (gA g) s.heap H locs → lv_has ls 13 [(0, .ref (ad g a0)), (1, .int x1), (2, .int x2), (3, .int x3), (4, .int x4), (5, .int x5), (6, .int x6), (7, .int x7), (8, .int x8)] → W p l e (rmD 7) s m args below meth c H locs 0 0 (MQ below (QA g S (pV K)) args s 0 0 (gA g)) (F0 m 336 ls [])) (hf : f_X11_weighs_B214 S a0 x1 x2 x3 x4 x5 x6 x7 x8 x9 x11 M BK214 EK214 K) (H : Heap) (locs : List Loc) (ls : Array Slot) (hR : RP g S M H) (hS : va_S (gA g) s.heap H locs) (hl : lv_has ls 13 [(0, .ref (ad g a0)), (1, .int x1), (2, .int x2), (3, .int x3), (4, .int x4), (5, .int x5), (6, .int x6), (7, .int x7), (8, .int x8), (9, .long x9), (11, .int x11)]) : W p l e (rmD 7) s m args below meth c H locs 0 0 (MQ below (QA g S (pV K)) args s 0 0 (gA g)) (F0 m 214 ls []) := by
  have hx := E.1
  have hb := E.2.1
  unfold f_X11_weighs_B214 at hf
  refine lv_iload hx hb dX11_weighs_214 (lv_at hl 10 rfl) ?_
  refine lv_iload hx hb dX11_weighs_216 (lv_at hl 5 rfl) ?_
  refine lv_icmp_ge (tgt := 336) hx hb dX11_weighs_218 (by decide) (fun c48 => ?_) (fun c48 => ?_)
  · replace hf := hf.1 c48
    exact hEK214  _ _ _ _ hf hR hS (lv_sub hl [0, 1, 2, 3, 4, 5, 6, 7, 8] rfl)
  · replace hf := hf.2 c48
    refine lv_lload hx hb dX11_weighs_221 (lv_at hl 9 rfl) ?_
    refine lv_lconst (v := 0) hx hb dX11_weighs_223 (by decide) ?_
    refine hw_lif_le (tgt := 336) hx hb dX11_weighs_224 dX11_weighs_225 (by decide) (fun c49 => ?_) (fun c49 => ?_)
    · replace hf := hf.1 c49
      exact hEK214  _ _ _ _ hf hR hS (lv_sub hl [0, 1, 2, 3, 4, 5, 6, 7, 8] rfl)
    · replace hf := hf.2 c49
      refine lv_iload hx hb dX11_weighs_228 (lv_at hl 8 rfl) ?_
      refine lv_aload_n hx hb dX11_weighs_230 rfl (lv_at hl 0 rfl) ?_
      obtain ⟨b50, hb50, hf⟩ := hf
      refine hw_getR E hR cI10 hs0 56 (by decide) lfX11_374 rfl hb50 dX11_weighs_231 ?_
      refine lv_bipush (v := 20) hx hb dX11_weighs_234 (by decide) ?_
      refine lv_iload hx hb dX11_weighs_236 (lv_at hl 7 rfl) ?_
      refine lv_imul hx hb dX11_weighs_238 ?_
      refine lv_iload hx hb dX11_weighs_239 (lv_at hl 10 rfl) ?_
      refine lv_iadd hx hb dX11_weighs_241 ?_
      obtain ⟨n51, hn51, in51, hf⟩ := hf
      refine hw_zald E hR hn51 in51 dX11_weighs_242 ?_
      refine hw_callS (d := 7) E hR hS (As := [.int (M.1 b50 (((20 : Int32) * x7) + x11).toNatClampNeg)]) (rest := [.int x8]) mcX11_truth msX11_truth lmX11_35 (ok_X11_truth  hf) rfl rfl (by decide) hl.1 (Nat.le_of_ble_eq_true rfl) dX11_weighs_243 (fun rr m52 H locs hp hR hS => ?_)
      obtain ⟨r53, rfl, hf⟩ := hp
      refine W.eq (g2 := F0 m 246 ls [.int r53, .int x8]) rfl ?_
      refine lv_ior hx hb dX11_weighs_246 ?_
      refine lv_aload_n hx hb dX11_weighs_247 rfl (lv_at hl 0 rfl) ?_
      obtain ⟨b54, hb54, hf⟩ := hf
      refine hw_getR E hR cI10 hs0 57 (by decide) lfX11_378 rfl hb54 dX11_weighs_248 ?_
      refine lv_bipush (v := 20) hx hb dX11_weighs_251 (by decide) ?_
      refine lv_iload hx hb dX11_weighs_253 (lv_at hl 7 rfl) ?_
      refine lv_imul hx hb dX11_weighs_255 ?_
      refine lv_iload hx hb dX11_weighs_256 (lv_at hl 10 rfl) ?_
      refine lv_iadd hx hb dX11_weighs_258 ?_
      obtain ⟨n55, hn55, in55, hf⟩ := hf
      refine hw_iald E hR hS hn55 in55 dX11_weighs_259 ?_
      refine lv_iload_n hx hb dX11_weighs_260 rfl (lv_at hl 2 rfl) ?_
      refine lv_iconst (v := 1) hx hb dX11_weighs_261 (by decide) ?_
      refine lv_iadd hx hb dX11_weighs_262 ?_
      refine lv_icmp_ne (tgt := 270) hx hb dX11_weighs_263 (by decide) (fun c56 => ?_) (fun c56 => ?_)
      · replace hf := hf.2 c56
        refine lv_iconst (v := 0) hx hb dX11_weighs_270 (by decide) ?_
        exact w_X11_weighs_J271 _ _ _ _ _ _ _ _ _ _ _ _ _ _ _ _ E hw hs0 hBK214 hf _ _ _ hR hS (lv_sub hl [0, 1, 2, 3, 4, 5, 6, 7, 8, 9, 10] rfl)
      · replace hf := hf.1 c56
        refine lv_iconst (v := 2) hx hb dX11_weighs_266 (by decide) ?_
        refine lv_goto (tgt := 271) hx hb dX11_weighs_267 (by decide) ?_
        exact w_X11_weighs_J271 _ _ _ _ _ _ _ _ _ _ _ _ _ _ _ _ E hw hs0 hBK214 hf _ _ _ hR hS (lv_sub hl [0, 1, 2, 3, 4, 5, 6, 7, 8, 9, 10] rfl)
def f_X11_weighs_L214 (S : Ss) (a0 : Nat) (x1 : Int32) (x2 : Int32) (x3 : Int32) (x4 : Int32) (x5 : Int32) (x6 : Int32) (x7 : Int32) (x8 : Int32) (x9 : Int64) (EK214 : Mm → Prop) (K : Mm → Prop) : Nat → Int32 → Mm → Prop
  | 0, _, _ => False
  | n + 1, x11, M => f_X11_weighs_B214 S a0 x1 x2 x3 x4 x5 x6 x7 x8 x9 x11 M (fun (x11 : Int32) (M : Mm) => f_X11_weighs_L214 S a0 x1 x2 x3 x4 x5 x6 x7 x8 x9 EK214 K n x11 M) EK214 K
set_option maxHeartbeats 4000000 in
set_option maxRecDepth 100000 in
theorem w_X11_weighs_L214 {p : Program} {l : Launch} {e : Env} {s : State} {m : MethodId} {args : Array Value} {below : List Frame} {meth : Method} {c : Code} {g : Gg} {S : Ss} (a0 : Nat) (x1 : Int32) (x2 : Int32) (x3 : Int32) (x4 : Int32) (x5 : Int32) (x6 : Int32) (x7 : Int32) (x8 : Int32) (x9 : Int64) (EK214 : Mm → Prop) (K : Mm → Prop) (E : EN p s m args meth c cX11_weighs 13 none RX11 g) (hw : ad g 100000 < s.heap.size) (hs0 : S[a0]? = some (10, 0)) (hEK214 : ∀ (M' : Mm) (H : Heap) (locs : List Loc) (ls : Array Slot), EK214 M' → RP g S M' H → va_S (gA g) s.heap H locs → lv_has ls 13 [(0, .ref (ad g a0)), (1, .int x1), (2, .int x2), (3, .int x3), (4, .int x4), (5, .int x5), (6, .int x6), (7, .int x7), (8, .int x8)] → W p l e (rmD 7) s m args below meth c H locs 0 0 (MQ below (QA g S (pV K)) args s 0 0 (gA g)) (F0 m 336 ls [])) : ∀ (n : Nat) (x11 : Int32) (M : Mm), f_X11_weighs_L214 S a0 x1 x2 x3 x4 x5 x6 x7 x8 x9 EK214 K n x11 M → ∀ (H : Heap) (locs : List Loc) (ls : Array Slot), RP g S M H → va_S (gA g) s.heap H locs → lv_has ls 13 [(0, .ref (ad g a0)), (1, .int x1), (2, .int x2), (3, .int x3), (4, .int x4), (5, .int x5), (6, .int x6), (7, .int x7), (8, .int x8), (9, .long x9), (11, .int x11)] → W p l e (rmD 7) s m args below meth c H locs 0 0 (MQ below (QA g S (pV K)) args s 0 0 (gA g)) (F0 m 214 ls []) := by
  intro n
  induction n with
  | zero => intro x11 M hf; exact hf.elim
  | succ n ih =>
    intro x11 M hf H locs ls hR hS hl
    exact w_X11_weighs_B214 _ _ _ _ _ _ _ _ _ _ _ _ _ _ _ E hw hs0 (fun _ M H locs ls h hR hS hl => ih _ M h H locs ls hR hS hl) hEK214 hf H locs ls hR hS hl
def f_X11_weighs_B191 (S : Ss) (a0 : Nat) (x1 : Int32) (x2 : Int32) (x3 : Int32) (x4 : Int32) (x5 : Int32) (x6 : Int32) (x7 : Int32) (x8 : Int32) (M : Mm) (BK191 : Int32 → Mm → Prop) (EK191 : Mm → Prop) (K : Mm → Prop) : Prop :=
  (((4 : Int32) ≤ x8 →
    EK191 M) ∧
   (¬ (4 : Int32) ≤ x8 →
    ∃ b45 : Nat, M.2.2 a0 53 = some b45 ∧
    ∃ n46 : Nat, S[b45]? = some (53, n46) ∧ vp_in (((4 : Int32) * x7) + x8) n46 ∧
    ∀ v47 : Int64, v47 = (M.2.1 b45 (((4 : Int32) * x7) + x8).toNatClampNeg) →
    ∃ n74 : Nat, f_X11_weighs_L214 S a0 x1 x2 x3 x4 x5 x6 x7 x8 v47 (fun (m72 : Mm) =>
      ∀ v73 : Int32, v73 = x8 + (1 : Int32) →
      BK191 v73 m72) K n74 (0 : Int32) M))
set_option maxHeartbeats 4000000 in
set_option maxRecDepth 100000 in
theorem w_X11_weighs_B191 {p : Program} {l : Launch} {e : Env} {s : State} {m : MethodId} {args : Array Value} {below : List Frame} {meth : Method} {c : Code} {g : Gg} {S : Ss} (a0 : Nat) (x1 : Int32) (x2 : Int32) (x3 : Int32) (x4 : Int32) (x5 : Int32) (x6 : Int32) (x7 : Int32) (x8 : Int32) (M : Mm) (BK191 : Int32 → Mm → Prop) (EK191 : Mm → Prop) (K : Mm → Prop) (E : EN p s m args meth c cX11_weighs 13 none RX11 g) (hw : ad g 100000 < s.heap.size) (hs0 : S[a0]? = some (10, 0)) (hBK191 : ∀ (x8' : Int32) (M' : Mm) (H : Heap) (locs : List Loc) (ls : Array Slot), BK191 x8' M' → RP g S M' H → va_S (gA g) s.heap H locs → lv_has ls 13 [(0, .ref (ad g a0)), (1, .int x1), (2, .int x2), (3, .int x3), (4, .int x4), (5, .int x5), (6, .int x6), (7, .int x7), (8, .int x8')] → W p l e (rmD 7) s m args below meth c H locs 0 0 (MQ below (QA g S (pV K)) args s 0 0 (gA g)) (F0 m 191 ls [])) (hEK191 : ∀ (M' : Mm) (H : Heap) (locs : List Loc) (ls : Array Slot), EK191 M' → RP g S M' H → va_S (gA g) s.heap H locs → lv_has ls 13 [(0, .ref (ad g a0)), (1, .int x1), (2, .int x2), (3, .int x3), (4, .int x4), (5, .int x5), (6, .int x6), (7, .int x7)] → W p l e (rmD 7) s m args below meth c H locs 0 0 (MQ below (QA g S (pV K)) args s 0 0 (gA g)) (F0 m 342 ls [])) (hf : f_X11_weighs_B191 S a0 x1 x2 x3 x4 x5 x6 x7 x8 M BK191 EK191 K) (H : Heap) (locs : List Loc) (ls : Array Slot) (hR : RP g S M H) (hS : va_S (gA g) s.heap H locs) (hl : lv_has ls 13 [(0, .ref (ad g a0)), (1, .int x1), (2, .int x2), (3, .int x3), (4, .int x4), (5, .int x5), (6, .int x6), (7, .int x7), (8, .int x8)]) : W p l e (rmD 7) s m args below meth c H locs 0 0 (MQ below (QA g S (pV K)) args s 0 0 (gA g)) (F0 m 191 ls []) := by
  have hx := E.1
  have hb := E.2.1
  unfold f_X11_weighs_B191 at hf
  refine lv_iload hx hb dX11_weighs_191 (lv_at hl 8 rfl) ?_
  refine lv_iconst (v := 4) hx hb dX11_weighs_193 (by decide) ?_
  refine lv_icmp_ge (tgt := 342) hx hb dX11_weighs_194 (by decide) (fun c44 => ?_) (fun c44 => ?_)
  · replace hf := hf.1 c44
    exact hEK191  _ _ _ _ hf hR hS (lv_sub hl [0, 1, 2, 3, 4, 5, 6, 7] rfl)
  · replace hf := hf.2 c44
    refine lv_aload_n hx hb dX11_weighs_197 rfl (lv_at hl 0 rfl) ?_
    obtain ⟨b45, hb45, hf⟩ := hf
    refine hw_getR E hR cI10 hs0 53 (by decide) lfX11_381 rfl hb45 dX11_weighs_198 ?_
    refine lv_iconst (v := 4) hx hb dX11_weighs_201 (by decide) ?_
    refine lv_iload hx hb dX11_weighs_202 (lv_at hl 7 rfl) ?_
    refine lv_imul hx hb dX11_weighs_204 ?_
    refine lv_iload hx hb dX11_weighs_205 (lv_at hl 8 rfl) ?_
    refine lv_iadd hx hb dX11_weighs_207 ?_
    obtain ⟨n46, hn46, in46, hf⟩ := hf
    refine hw_lald E hR hn46 in46 dX11_weighs_208 ?_
    refine lv_topl (fun v47 ev47 => ?_)
    replace hf := hf v47 ev47
    refine lv_lstore (lv' := [(9, .long v47), (0, .ref (ad g a0)), (1, .int x1), (2, .int x2), (3, .int x3), (4, .int x4), (5, .int x5), (6, .int x6), (7, .int x7), (8, .int x8)]) hx hb dX11_weighs_209 hl (by decide) rfl (fun ls hl => ?_)
    refine lv_iconst (v := 0) hx hb dX11_weighs_211 (by decide) ?_
    refine lv_istore (lv' := [(11, .int (0 : Int32)), (9, .long v47), (0, .ref (ad g a0)), (1, .int x1), (2, .int x2), (3, .int x3), (4, .int x4), (5, .int x5), (6, .int x6), (7, .int x7), (8, .int x8)]) hx hb dX11_weighs_212 hl (by decide) rfl (fun ls hl => ?_)
    obtain ⟨n74, hf⟩ := hf
    refine w_X11_weighs_L214 _ _ _ _ _ _ _ _ _ _ _ _ E hw hs0 ?_ n74 _ _ hf _ _ _ hR hS (lv_sub hl [2, 3, 4, 5, 6, 7, 8, 9, 10, 1, 0] rfl)
    intro m72 H locs ls hf hR hS hl
    obtain ⟨v73, ev73⟩ : ∃ y : Int32, y = x8 + (1 : Int32) := ⟨_, rfl⟩
    replace hf := hf v73 ev73
    refine lv_iinc (v := v73) (lv' := [(8, .int v73), (0, .ref (ad g a0)), (1, .int x1), (2, .int x2), (3, .int x3), (4, .int x4), (5, .int x5), (6, .int x6), (7, .int x7)]) hx hb dX11_weighs_336 hl (k := 8) rfl (by rw [ev73]; rfl) (by decide) rfl (fun ls hl => ?_)
    refine lv_goto (tgt := 191) hx hb dX11_weighs_339 (by decide) ?_
    exact hBK191 _ _ _ _ _ hf hR hS (lv_sub hl [1, 2, 3, 4, 5, 6, 7, 8, 0] rfl)
def f_X11_weighs_L191 (S : Ss) (a0 : Nat) (x1 : Int32) (x2 : Int32) (x3 : Int32) (x4 : Int32) (x5 : Int32) (x6 : Int32) (x7 : Int32) (EK191 : Mm → Prop) (K : Mm → Prop) : Nat → Int32 → Mm → Prop
  | 0, _, _ => False
  | n + 1, x8, M => f_X11_weighs_B191 S a0 x1 x2 x3 x4 x5 x6 x7 x8 M (fun (x8 : Int32) (M : Mm) => f_X11_weighs_L191 S a0 x1 x2 x3 x4 x5 x6 x7 EK191 K n x8 M) EK191 K
set_option maxHeartbeats 4000000 in
set_option maxRecDepth 100000 in
theorem w_X11_weighs_L191 {p : Program} {l : Launch} {e : Env} {s : State} {m : MethodId} {args : Array Value} {below : List Frame} {meth : Method} {c : Code} {g : Gg} {S : Ss} (a0 : Nat) (x1 : Int32) (x2 : Int32) (x3 : Int32) (x4 : Int32) (x5 : Int32) (x6 : Int32) (x7 : Int32) (EK191 : Mm → Prop) (K : Mm → Prop) (E : EN p s m args meth c cX11_weighs 13 none RX11 g) (hw : ad g 100000 < s.heap.size) (hs0 : S[a0]? = some (10, 0)) (hEK191 : ∀ (M' : Mm) (H : Heap) (locs : List Loc) (ls : Array Slot), EK191 M' → RP g S M' H → va_S (gA g) s.heap H locs → lv_has ls 13 [(0, .ref (ad g a0)), (1, .int x1), (2, .int x2), (3, .int x3), (4, .int x4), (5, .int x5), (6, .int x6), (7, .int x7)] → W p l e (rmD 7) s m args below meth c H locs 0 0 (MQ below (QA g S (pV K)) args s 0 0 (gA g)) (F0 m 342 ls [])) : ∀ (n : Nat) (x8 : Int32) (M : Mm), f_X11_weighs_L191 S a0 x1 x2 x3 x4 x5 x6 x7 EK191 K n x8 M → ∀ (H : Heap) (locs : List Loc) (ls : Array Slot), RP g S M H → va_S (gA g) s.heap H locs → lv_has ls 13 [(0, .ref (ad g a0)), (1, .int x1), (2, .int x2), (3, .int x3), (4, .int x4), (5, .int x5), (6, .int x6), (7, .int x7), (8, .int x8)] → W p l e (rmD 7) s m args below meth c H locs 0 0 (MQ below (QA g S (pV K)) args s 0 0 (gA g)) (F0 m 191 ls []) := by
  intro n
  induction n with
  | zero => intro x8 M hf; exact hf.elim
  | succ n ih =>
    intro x8 M hf H locs ls hR hS hl
    exact w_X11_weighs_B191 _ _ _ _ _ _ _ _ _ _ _ _ _ E hw hs0 (fun _ M H locs ls h hR hS hl => ih _ M h H locs ls hR hS hl) hEK191 hf H locs ls hR hS hl
def f_X11_weighs_B181 (S : Ss) (a0 : Nat) (x1 : Int32) (x2 : Int32) (x3 : Int32) (x4 : Int32) (x5 : Int32) (x6 : Int32) (x7 : Int32) (M : Mm) (BK181 : Int32 → Mm → Prop) (EK181 : Mm → Prop) (K : Mm → Prop) : Prop :=
  ((x4 ≤ x7 →
    EK181 M) ∧
   (¬ x4 ≤ x7 →
    ∃ n77 : Nat, f_X11_weighs_L191 S a0 x1 x2 x3 x4 x5 x6 x7 (fun (m75 : Mm) =>
      ∀ v76 : Int32, v76 = x7 + (1 : Int32) →
      BK181 v76 m75) K n77 (0 : Int32) M))
set_option maxHeartbeats 4000000 in
set_option maxRecDepth 100000 in
theorem w_X11_weighs_B181 {p : Program} {l : Launch} {e : Env} {s : State} {m : MethodId} {args : Array Value} {below : List Frame} {meth : Method} {c : Code} {g : Gg} {S : Ss} (a0 : Nat) (x1 : Int32) (x2 : Int32) (x3 : Int32) (x4 : Int32) (x5 : Int32) (x6 : Int32) (x7 : Int32) (M : Mm) (BK181 : Int32 → Mm → Prop) (EK181 : Mm → Prop) (K : Mm → Prop) (E : EN p s m args meth c cX11_weighs 13 none RX11 g) (hw : ad g 100000 < s.heap.size) (hs0 : S[a0]? = some (10, 0)) (hBK181 : ∀ (x7' : Int32) (M' : Mm) (H : Heap) (locs : List Loc) (ls : Array Slot), BK181 x7' M' → RP g S M' H → va_S (gA g) s.heap H locs → lv_has ls 13 [(0, .ref (ad g a0)), (1, .int x1), (2, .int x2), (3, .int x3), (4, .int x4), (5, .int x5), (6, .int x6), (7, .int x7')] → W p l e (rmD 7) s m args below meth c H locs 0 0 (MQ below (QA g S (pV K)) args s 0 0 (gA g)) (F0 m 181 ls [])) (hEK181 : ∀ (M' : Mm) (H : Heap) (locs : List Loc) (ls : Array Slot), EK181 M' → RP g S M' H → va_S (gA g) s.heap H locs → lv_has ls 13 [(0, .ref (ad g a0)), (1, .int x1), (2, .int x2), (3, .int x3), (4, .int x4), (5, .int x5), (6, .int x6)] → W p l e (rmD 7) s m args below meth c H locs 0 0 (MQ below (QA g S (pV K)) args s 0 0 (gA g)) (F0 m 348 ls [])) (hf : f_X11_weighs_B181 S a0 x1 x2 x3 x4 x5 x6 x7 M BK181 EK181 K) (H : Heap) (locs : List Loc) (ls : Array Slot) (hR : RP g S M H) (hS : va_S (gA g) s.heap H locs) (hl : lv_has ls 13 [(0, .ref (ad g a0)), (1, .int x1), (2, .int x2), (3, .int x3), (4, .int x4), (5, .int x5), (6, .int x6), (7, .int x7)]) : W p l e (rmD 7) s m args below meth c H locs 0 0 (MQ below (QA g S (pV K)) args s 0 0 (gA g)) (F0 m 181 ls []) := by
  have hx := E.1
  have hb := E.2.1
  unfold f_X11_weighs_B181 at hf
  refine lv_iload hx hb dX11_weighs_181 (lv_at hl 7 rfl) ?_
  refine lv_iload hx hb dX11_weighs_183 (lv_at hl 4 rfl) ?_
  refine lv_icmp_ge (tgt := 348) hx hb dX11_weighs_185 (by decide) (fun c43 => ?_) (fun c43 => ?_)
  · replace hf := hf.1 c43
    exact hEK181  _ _ _ _ hf hR hS (lv_sub hl [0, 1, 2, 3, 4, 5, 6] rfl)
  · replace hf := hf.2 c43
    refine lv_iconst (v := 0) hx hb dX11_weighs_188 (by decide) ?_
    refine lv_istore (lv' := [(8, .int (0 : Int32)), (0, .ref (ad g a0)), (1, .int x1), (2, .int x2), (3, .int x3), (4, .int x4), (5, .int x5), (6, .int x6), (7, .int x7)]) hx hb dX11_weighs_189 hl (by decide) rfl (fun ls hl => ?_)
    obtain ⟨n77, hf⟩ := hf
    refine w_X11_weighs_L191 _ _ _ _ _ _ _ _ _ _ E hw hs0 ?_ n77 _ _ hf _ _ _ hR hS (lv_sub hl [1, 2, 3, 4, 5, 6, 7, 8, 0] rfl)
    intro m75 H locs ls hf hR hS hl
    obtain ⟨v76, ev76⟩ : ∃ y : Int32, y = x7 + (1 : Int32) := ⟨_, rfl⟩
    replace hf := hf v76 ev76
    refine lv_iinc (v := v76) (lv' := [(7, .int v76), (0, .ref (ad g a0)), (1, .int x1), (2, .int x2), (3, .int x3), (4, .int x4), (5, .int x5), (6, .int x6)]) hx hb dX11_weighs_342 hl (k := 7) rfl (by rw [ev76]; rfl) (by decide) rfl (fun ls hl => ?_)
    refine lv_goto (tgt := 181) hx hb dX11_weighs_345 (by decide) ?_
    exact hBK181 _ _ _ _ _ hf hR hS (lv_sub hl [1, 2, 3, 4, 5, 6, 7, 0] rfl)
def f_X11_weighs_L181 (S : Ss) (a0 : Nat) (x1 : Int32) (x2 : Int32) (x3 : Int32) (x4 : Int32) (x5 : Int32) (x6 : Int32) (EK181 : Mm → Prop) (K : Mm → Prop) : Nat → Int32 → Mm → Prop
  | 0, _, _ => False
  | n + 1, x7, M => f_X11_weighs_B181 S a0 x1 x2 x3 x4 x5 x6 x7 M (fun (x7 : Int32) (M : Mm) => f_X11_weighs_L181 S a0 x1 x2 x3 x4 x5 x6 EK181 K n x7 M) EK181 K
set_option maxHeartbeats 4000000 in
set_option maxRecDepth 100000 in
theorem w_X11_weighs_L181 {p : Program} {l : Launch} {e : Env} {s : State} {m : MethodId} {args : Array Value} {below : List Frame} {meth : Method} {c : Code} {g : Gg} {S : Ss} (a0 : Nat) (x1 : Int32) (x2 : Int32) (x3 : Int32) (x4 : Int32) (x5 : Int32) (x6 : Int32) (EK181 : Mm → Prop) (K : Mm → Prop) (E : EN p s m args meth c cX11_weighs 13 none RX11 g) (hw : ad g 100000 < s.heap.size) (hs0 : S[a0]? = some (10, 0)) (hEK181 : ∀ (M' : Mm) (H : Heap) (locs : List Loc) (ls : Array Slot), EK181 M' → RP g S M' H → va_S (gA g) s.heap H locs → lv_has ls 13 [(0, .ref (ad g a0)), (1, .int x1), (2, .int x2), (3, .int x3), (4, .int x4), (5, .int x5), (6, .int x6)] → W p l e (rmD 7) s m args below meth c H locs 0 0 (MQ below (QA g S (pV K)) args s 0 0 (gA g)) (F0 m 348 ls [])) : ∀ (n : Nat) (x7 : Int32) (M : Mm), f_X11_weighs_L181 S a0 x1 x2 x3 x4 x5 x6 EK181 K n x7 M → ∀ (H : Heap) (locs : List Loc) (ls : Array Slot), RP g S M H → va_S (gA g) s.heap H locs → lv_has ls 13 [(0, .ref (ad g a0)), (1, .int x1), (2, .int x2), (3, .int x3), (4, .int x4), (5, .int x5), (6, .int x6), (7, .int x7)] → W p l e (rmD 7) s m args below meth c H locs 0 0 (MQ below (QA g S (pV K)) args s 0 0 (gA g)) (F0 m 181 ls []) := by
  intro n
  induction n with
  | zero => intro x7 M hf; exact hf.elim
  | succ n ih =>
    intro x7 M hf H locs ls hR hS hl
    exact w_X11_weighs_B181 _ _ _ _ _ _ _ _ _ _ _ _ E hw hs0 (fun _ M H locs ls h hR hS hl => ih _ M h H locs ls hR hS hl) hEK181 hf H locs ls hR hS hl
def f_X11_weighs_B351 (S : Ss) (a0 : Nat) (x1 : Int32) (x2 : Int32) (x3 : Int32) (x4 : Int32) (x5 : Int32) (x6 : Int32) (x7 : Int32) (M : Mm) (BK351 : Int32 → Mm → Prop) (EK351 : Mm → Prop) (K : Mm → Prop) : Prop :=
  ((((4 : Int32) * x4) ≤ x7 →
    EK351 M) ∧
   (¬ ((4 : Int32) * x4) ≤ x7 →
    ∃ b80 : Nat, M.2.2 a0 53 = some b80 ∧
    ∃ b81 : Nat, M.2.2 a0 54 = some b81 ∧
    ∃ n82 : Nat, S[b81]? = some (53, n82) ∧ vp_in x7 n82 ∧
    ∃ n83 : Nat, S[b80]? = some (53, n83) ∧ vp_in x7 n83 ∧
    ∀ m84 : Mm, m84 = stJ M b80 x7.toNatClampNeg (M.2.1 b81 x7.toNatClampNeg) →
    ∀ v85 : Int32, v85 = x7 + (1 : Int32) →
    BK351 v85 m84))
set_option maxHeartbeats 4000000 in
set_option maxRecDepth 100000 in
theorem w_X11_weighs_B351 {p : Program} {l : Launch} {e : Env} {s : State} {m : MethodId} {args : Array Value} {below : List Frame} {meth : Method} {c : Code} {g : Gg} {S : Ss} (a0 : Nat) (x1 : Int32) (x2 : Int32) (x3 : Int32) (x4 : Int32) (x5 : Int32) (x6 : Int32) (x7 : Int32) (M : Mm) (BK351 : Int32 → Mm → Prop) (EK351 : Mm → Prop) (K : Mm → Prop) (E : EN p s m args meth c cX11_weighs 13 none RX11 g) (hw : ad g 100000 < s.heap.size) (hs0 : S[a0]? = some (10, 0)) (hBK351 : ∀ (x7' : Int32) (M' : Mm) (H : Heap) (locs : List Loc) (ls : Array Slot), BK351 x7' M' → RP g S M' H → va_S (gA g) s.heap H locs → lv_has ls 13 [(0, .ref (ad g a0)), (1, .int x1), (2, .int x2), (3, .int x3), (4, .int x4), (5, .int x5), (6, .int x6), (7, .int x7')] → W p l e (rmD 7) s m args below meth c H locs 0 0 (MQ below (QA g S (pV K)) args s 0 0 (gA g)) (F0 m 351 ls [])) (hEK351 : ∀ (M' : Mm) (H : Heap) (locs : List Loc) (ls : Array Slot), EK351 M' → RP g S M' H → va_S (gA g) s.heap H locs → lv_has ls 13 [(0, .ref (ad g a0)), (1, .int x1), (2, .int x2), (3, .int x3), (4, .int x4), (5, .int x5), (6, .int x6)] → W p l e (rmD 7) s m args below meth c H locs 0 0 (MQ below (QA g S (pV K)) args s 0 0 (gA g)) (F0 m 380 ls [])) (hf : f_X11_weighs_B351 S a0 x1 x2 x3 x4 x5 x6 x7 M BK351 EK351 K) (H : Heap) (locs : List Loc) (ls : Array Slot) (hR : RP g S M H) (hS : va_S (gA g) s.heap H locs) (hl : lv_has ls 13 [(0, .ref (ad g a0)), (1, .int x1), (2, .int x2), (3, .int x3), (4, .int x4), (5, .int x5), (6, .int x6), (7, .int x7)]) : W p l e (rmD 7) s m args below meth c H locs 0 0 (MQ below (QA g S (pV K)) args s 0 0 (gA g)) (F0 m 351 ls []) := by
  have hx := E.1
  have hb := E.2.1
  unfold f_X11_weighs_B351 at hf
  refine lv_iload hx hb dX11_weighs_351 (lv_at hl 7 rfl) ?_
  refine lv_iconst (v := 4) hx hb dX11_weighs_353 (by decide) ?_
  refine lv_iload hx hb dX11_weighs_354 (lv_at hl 4 rfl) ?_
  refine lv_imul hx hb dX11_weighs_356 ?_
  refine lv_icmp_ge (tgt := 380) hx hb dX11_weighs_357 (by decide) (fun c79 => ?_) (fun c79 => ?_)
  · replace hf := hf.1 c79
    exact hEK351  _ _ _ _ hf hR hS (lv_sub hl [0, 1, 2, 3, 4, 5, 6] rfl)
  · replace hf := hf.2 c79
    refine lv_aload_n hx hb dX11_weighs_360 rfl (lv_at hl 0 rfl) ?_
    obtain ⟨b80, hb80, hf⟩ := hf
    refine hw_getR E hR cI10 hs0 53 (by decide) lfX11_381 rfl hb80 dX11_weighs_361 ?_
    refine lv_iload hx hb dX11_weighs_364 (lv_at hl 7 rfl) ?_
    refine lv_aload_n hx hb dX11_weighs_366 rfl (lv_at hl 0 rfl) ?_
    obtain ⟨b81, hb81, hf⟩ := hf
    refine hw_getR E hR cI10 hs0 54 (by decide) lfX11_384 rfl hb81 dX11_weighs_367 ?_
    refine lv_iload hx hb dX11_weighs_370 (lv_at hl 7 rfl) ?_
    obtain ⟨n82, hn82, in82, hf⟩ := hf
    refine hw_lald E hR hn82 in82 dX11_weighs_372 ?_
    obtain ⟨n83, hn83, in83, hf⟩ := hf
    refine hw_last E hR hS hw hn83 in83 dX11_weighs_373 (fun m84 H locs em84 hR hS => ?_)
    replace hf := hf m84 em84
    obtain ⟨v85, ev85⟩ : ∃ y : Int32, y = x7 + (1 : Int32) := ⟨_, rfl⟩
    replace hf := hf v85 ev85
    refine lv_iinc (v := v85) (lv' := [(7, .int v85), (0, .ref (ad g a0)), (1, .int x1), (2, .int x2), (3, .int x3), (4, .int x4), (5, .int x5), (6, .int x6)]) hx hb dX11_weighs_374 hl (k := 7) rfl (by rw [ev85]; rfl) (by decide) rfl (fun ls hl => ?_)
    refine lv_goto (tgt := 351) hx hb dX11_weighs_377 (by decide) ?_
    exact hBK351 _ _ _ _ _ hf hR hS (lv_sub hl [1, 2, 3, 4, 5, 6, 7, 0] rfl)
def f_X11_weighs_L351 (S : Ss) (a0 : Nat) (x1 : Int32) (x2 : Int32) (x3 : Int32) (x4 : Int32) (x5 : Int32) (x6 : Int32) (EK351 : Mm → Prop) (K : Mm → Prop) : Nat → Int32 → Mm → Prop
  | 0, _, _ => False
  | n + 1, x7, M => f_X11_weighs_B351 S a0 x1 x2 x3 x4 x5 x6 x7 M (fun (x7 : Int32) (M : Mm) => f_X11_weighs_L351 S a0 x1 x2 x3 x4 x5 x6 EK351 K n x7 M) EK351 K
set_option maxHeartbeats 4000000 in
set_option maxRecDepth 100000 in
theorem w_X11_weighs_L351 {p : Program} {l : Launch} {e : Env} {s : State} {m : MethodId} {args : Array Value} {below : List Frame} {meth : Method} {c : Code} {g : Gg} {S : Ss} (a0 : Nat) (x1 : Int32) (x2 : Int32) (x3 : Int32) (x4 : Int32) (x5 : Int32) (x6 : Int32) (EK351 : Mm → Prop) (K : Mm → Prop) (E : EN p s m args meth c cX11_weighs 13 none RX11 g) (hw : ad g 100000 < s.heap.size) (hs0 : S[a0]? = some (10, 0)) (hEK351 : ∀ (M' : Mm) (H : Heap) (locs : List Loc) (ls : Array Slot), EK351 M' → RP g S M' H → va_S (gA g) s.heap H locs → lv_has ls 13 [(0, .ref (ad g a0)), (1, .int x1), (2, .int x2), (3, .int x3), (4, .int x4), (5, .int x5), (6, .int x6)] → W p l e (rmD 7) s m args below meth c H locs 0 0 (MQ below (QA g S (pV K)) args s 0 0 (gA g)) (F0 m 380 ls [])) : ∀ (n : Nat) (x7 : Int32) (M : Mm), f_X11_weighs_L351 S a0 x1 x2 x3 x4 x5 x6 EK351 K n x7 M → ∀ (H : Heap) (locs : List Loc) (ls : Array Slot), RP g S M H → va_S (gA g) s.heap H locs → lv_has ls 13 [(0, .ref (ad g a0)), (1, .int x1), (2, .int x2), (3, .int x3), (4, .int x4), (5, .int x5), (6, .int x6), (7, .int x7)] → W p l e (rmD 7) s m args below meth c H locs 0 0 (MQ below (QA g S (pV K)) args s 0 0 (gA g)) (F0 m 351 ls []) := by
  intro n
  induction n with
  | zero => intro x7 M hf; exact hf.elim
  | succ n ih =>
    intro x7 M hf H locs ls hR hS hl
    exact w_X11_weighs_B351 _ _ _ _ _ _ _ _ _ _ _ _ E hw hs0 (fun _ M H locs ls h hR hS hl => ih _ M h H locs ls hR hS hl) hEK351 hf H locs ls hR hS hl
def f_X11_weighs_B146 (S : Ss) (a0 : Nat) (x1 : Int32) (x2 : Int32) (x3 : Int32) (x4 : Int32) (x5 : Int32) (x6 : Int32) (M : Mm) (BK146 : Int32 → Mm → Prop) (EK146 : Mm → Prop) (K : Mm → Prop) : Prop :=
  ((x1 ≤ x6 →
    EK146 M) ∧
   (¬ x1 ≤ x6 →
    ∃ n90 : Nat, f_X11_weighs_L155 S a0 x1 x2 x3 x4 x5 x6 (fun (m42 : Mm) =>
      ∃ n89 : Nat, f_X11_weighs_L181 S a0 x1 x2 x3 x4 x5 x6 (fun (m78 : Mm) =>
        ∃ n88 : Nat, f_X11_weighs_L351 S a0 x1 x2 x3 x4 x5 x6 (fun (m86 : Mm) =>
          ∀ v87 : Int32, v87 = x6 + (1 : Int32) →
          BK146 v87 m86) K n88 (0 : Int32) m78) K n89 (0 : Int32) m42) K n90 (0 : Int32) M))
set_option maxHeartbeats 4000000 in
set_option maxRecDepth 100000 in
theorem w_X11_weighs_B146 {p : Program} {l : Launch} {e : Env} {s : State} {m : MethodId} {args : Array Value} {below : List Frame} {meth : Method} {c : Code} {g : Gg} {S : Ss} (a0 : Nat) (x1 : Int32) (x2 : Int32) (x3 : Int32) (x4 : Int32) (x5 : Int32) (x6 : Int32) (M : Mm) (BK146 : Int32 → Mm → Prop) (EK146 : Mm → Prop) (K : Mm → Prop) (E : EN p s m args meth c cX11_weighs 13 none RX11 g) (hw : ad g 100000 < s.heap.size) (hs0 : S[a0]? = some (10, 0)) (hBK146 : ∀ (x6' : Int32) (M' : Mm) (H : Heap) (locs : List Loc) (ls : Array Slot), BK146 x6' M' → RP g S M' H → va_S (gA g) s.heap H locs → lv_has ls 13 [(0, .ref (ad g a0)), (1, .int x1), (2, .int x2), (3, .int x3), (4, .int x4), (5, .int x5), (6, .int x6')] → W p l e (rmD 7) s m args below meth c H locs 0 0 (MQ below (QA g S (pV K)) args s 0 0 (gA g)) (F0 m 146 ls [])) (hEK146 : ∀ (M' : Mm) (H : Heap) (locs : List Loc) (ls : Array Slot), EK146 M' → RP g S M' H → va_S (gA g) s.heap H locs → lv_has ls 13 [] → W p l e (rmD 7) s m args below meth c H locs 0 0 (MQ below (QA g S (pV K)) args s 0 0 (gA g)) (F0 m 386 ls [])) (hf : f_X11_weighs_B146 S a0 x1 x2 x3 x4 x5 x6 M BK146 EK146 K) (H : Heap) (locs : List Loc) (ls : Array Slot) (hR : RP g S M H) (hS : va_S (gA g) s.heap H locs) (hl : lv_has ls 13 [(0, .ref (ad g a0)), (1, .int x1), (2, .int x2), (3, .int x3), (4, .int x4), (5, .int x5), (6, .int x6)]) : W p l e (rmD 7) s m args below meth c H locs 0 0 (MQ below (QA g S (pV K)) args s 0 0 (gA g)) (F0 m 146 ls []) := by
  have hx := E.1
  have hb := E.2.1
  unfold f_X11_weighs_B146 at hf
  refine lv_iload hx hb dX11_weighs_146 (lv_at hl 6 rfl) ?_
  refine lv_iload_n hx hb dX11_weighs_148 rfl (lv_at hl 1 rfl) ?_
  refine lv_icmp_ge (tgt := 386) hx hb dX11_weighs_149 (by decide) (fun c36 => ?_) (fun c36 => ?_)
  · replace hf := hf.1 c36
    exact hEK146  _ _ _ _ hf hR hS (lv_sub hl [] rfl)
  · replace hf := hf.2 c36
    refine lv_iconst (v := 0) hx hb dX11_weighs_152 (by decide) ?_
    refine lv_istore (lv' := [(7, .int (0 : Int32)), (0, .ref (ad g a0)), (1, .int x1), (2, .int x2), (3, .int x3), (4, .int x4), (5, .int x5), (6, .int x6)]) hx hb dX11_weighs_153 hl (by decide) rfl (fun ls hl => ?_)
    obtain ⟨n90, hf⟩ := hf
    refine w_X11_weighs_L155 _ _ _ _ _ _ _ _ _ E hw hs0 ?_ n90 _ _ hf _ _ _ hR hS (lv_sub hl [1, 2, 3, 4, 5, 6, 7, 0] rfl)
    intro m42 H locs ls hf hR hS hl
    refine lv_iconst (v := 0) hx hb dX11_weighs_178 (by decide) ?_
    refine lv_istore (lv' := [(7, .int (0 : Int32)), (0, .ref (ad g a0)), (1, .int x1), (2, .int x2), (3, .int x3), (4, .int x4), (5, .int x5), (6, .int x6)]) hx hb dX11_weighs_179 hl (by decide) rfl (fun ls hl => ?_)
    obtain ⟨n89, hf⟩ := hf
    refine w_X11_weighs_L181 _ _ _ _ _ _ _ _ _ E hw hs0 ?_ n89 _ _ hf _ _ _ hR hS (lv_sub hl [1, 2, 3, 4, 5, 6, 7, 0] rfl)
    intro m78 H locs ls hf hR hS hl
    refine lv_iconst (v := 0) hx hb dX11_weighs_348 (by decide) ?_
    refine lv_istore (lv' := [(7, .int (0 : Int32)), (0, .ref (ad g a0)), (1, .int x1), (2, .int x2), (3, .int x3), (4, .int x4), (5, .int x5), (6, .int x6)]) hx hb dX11_weighs_349 hl (by decide) rfl (fun ls hl => ?_)
    obtain ⟨n88, hf⟩ := hf
    refine w_X11_weighs_L351 _ _ _ _ _ _ _ _ _ E hw hs0 ?_ n88 _ _ hf _ _ _ hR hS (lv_sub hl [1, 2, 3, 4, 5, 6, 7, 0] rfl)
    intro m86 H locs ls hf hR hS hl
    obtain ⟨v87, ev87⟩ : ∃ y : Int32, y = x6 + (1 : Int32) := ⟨_, rfl⟩
    replace hf := hf v87 ev87
    refine lv_iinc (v := v87) (lv' := [(6, .int v87), (0, .ref (ad g a0)), (1, .int x1), (2, .int x2), (3, .int x3), (4, .int x4), (5, .int x5)]) hx hb dX11_weighs_380 hl (k := 6) rfl (by rw [ev87]; rfl) (by decide) rfl (fun ls hl => ?_)
    refine lv_goto (tgt := 146) hx hb dX11_weighs_383 (by decide) ?_
    exact hBK146 _ _ _ _ _ hf hR hS (lv_sub hl [1, 2, 3, 4, 5, 6, 0] rfl)
def f_X11_weighs_L146 (S : Ss) (a0 : Nat) (x1 : Int32) (x2 : Int32) (x3 : Int32) (x4 : Int32) (x5 : Int32) (EK146 : Mm → Prop) (K : Mm → Prop) : Nat → Int32 → Mm → Prop
  | 0, _, _ => False
  | n + 1, x6, M => f_X11_weighs_B146 S a0 x1 x2 x3 x4 x5 x6 M (fun (x6 : Int32) (M : Mm) => f_X11_weighs_L146 S a0 x1 x2 x3 x4 x5 EK146 K n x6 M) EK146 K
set_option maxHeartbeats 4000000 in
set_option maxRecDepth 100000 in
theorem w_X11_weighs_L146 {p : Program} {l : Launch} {e : Env} {s : State} {m : MethodId} {args : Array Value} {below : List Frame} {meth : Method} {c : Code} {g : Gg} {S : Ss} (a0 : Nat) (x1 : Int32) (x2 : Int32) (x3 : Int32) (x4 : Int32) (x5 : Int32) (EK146 : Mm → Prop) (K : Mm → Prop) (E : EN p s m args meth c cX11_weighs 13 none RX11 g) (hw : ad g 100000 < s.heap.size) (hs0 : S[a0]? = some (10, 0)) (hEK146 : ∀ (M' : Mm) (H : Heap) (locs : List Loc) (ls : Array Slot), EK146 M' → RP g S M' H → va_S (gA g) s.heap H locs → lv_has ls 13 [] → W p l e (rmD 7) s m args below meth c H locs 0 0 (MQ below (QA g S (pV K)) args s 0 0 (gA g)) (F0 m 386 ls [])) : ∀ (n : Nat) (x6 : Int32) (M : Mm), f_X11_weighs_L146 S a0 x1 x2 x3 x4 x5 EK146 K n x6 M → ∀ (H : Heap) (locs : List Loc) (ls : Array Slot), RP g S M H → va_S (gA g) s.heap H locs → lv_has ls 13 [(0, .ref (ad g a0)), (1, .int x1), (2, .int x2), (3, .int x3), (4, .int x4), (5, .int x5), (6, .int x6)] → W p l e (rmD 7) s m args below meth c H locs 0 0 (MQ below (QA g S (pV K)) args s 0 0 (gA g)) (F0 m 146 ls []) := by
  intro n
  induction n with
  | zero => intro x6 M hf; exact hf.elim
  | succ n ih =>
    intro x6 M hf H locs ls hR hS hl
    exact w_X11_weighs_B146 _ _ _ _ _ _ _ _ _ _ _ E hw hs0 (fun _ M H locs ls h hR hS hl => ih _ M h H locs ls hR hS hl) hEK146 hf H locs ls hR hS hl
def f_X11_weighs (S : Ss) (a0 : Nat) (x1 : Int32) (x2 : Int32) (x3 : Int32) (M : Mm) (K : Mm → Prop) : Prop :=
  ∀ v1 : Int32, v1 = (M.1 a0 44) →
  f_X11_width S a0  M (fun (r3 : Int32) (m2 : Mm) =>
    ∃ n94 : Nat, f_X11_weighs_L15 S a0 x1 x2 x3 v1 r3 (fun (m26 : Mm) =>
    ∃ n93 : Nat, f_X11_weighs_L113 S a0 x1 x2 x3 v1 r3 (fun (m32 : Mm) =>
      ∃ b33 : Nat, m32.2.2 a0 53 = some b33 ∧
      ∃ n34 : Nat, S[b33]? = some (53, n34) ∧ vp_in (0 : Int32) n34 ∧
      ∀ m35 : Mm, m35 = stJ m32 b33 (0 : Int32).toNatClampNeg (1 : Int64) →
      ∃ n92 : Nat, f_X11_weighs_L146 S a0 x1 x2 x3 v1 r3 (fun (m91 : Mm) =>
        K m91) K n92 (0 : Int32) m35) K n93 (0 : Int32) m26) K n94 (0 : Int32) m2)
set_option maxHeartbeats 4000000 in
set_option maxRecDepth 100000 in
theorem ok_X11_weighs {l : Launch} {g : Gg} {S : Ss} {a0 : Nat} {x1 : Int32} {x2 : Int32} {x3 : Int32} {M : Mm} {K : Mm → Prop} (hs0 : S[a0]? = some (10, 0)) (hf : f_X11_weighs S a0 x1 x2 x3 M K) : MT l g S yX11_weighs cX11_weighs 13 none 7 [.ref (ad g a0), .int x1, .int x2, .int x3] M (pV K) := by
  refine MT.of (by decide +kernel) (Nat.le_of_ble_eq_true rfl) ?_
  intro p e s m below meth c ls E hw hR hS hl
  have hl : lv_has ls 13 [(0, .ref (ad g a0)), (1, .int x1), (2, .int x2), (3, .int x3)] := hl
  generalize ([.ref (ad g a0), .int x1, .int x2, .int x3] : List Value).toArray = args at E ⊢
  have E : EN p s m args meth c cX11_weighs 13 none RX11 g := E
  have hx := E.1
  have hb := E.2.1
  unfold f_X11_weighs at hf
  refine lv_aload_n hx hb dX11_weighs_0 rfl (lv_at hl 0 rfl) ?_
  refine hw_getI E hR cI10 hs0 44 (by decide) lfX11_296 rfl dX11_weighs_1 ?_
  refine lv_topi (fun v1 ev1 => ?_)
  replace hf := hf v1 ev1
  refine lv_istore (lv' := [(4, .int v1), (0, .ref (ad g a0)), (1, .int x1), (2, .int x2), (3, .int x3)]) hx hb dX11_weighs_4 hl (by decide) rfl (fun ls hl => ?_)
  refine lv_aload_n hx hb dX11_weighs_6 rfl (lv_at hl 1 rfl) ?_
  refine hw_callV (d := 7) E hR hS (As := []) (rest := []) cI10 hs0 rfl mcX11_width miX11_width lmX11_251 (ok_X11_width hs0 hf) rfl rfl (by decide) hl.1 (Nat.le_of_ble_eq_true rfl) dX11_weighs_7 (fun rr m2 H locs hp hR hS => ?_)
  obtain ⟨r3, rfl, hf⟩ := hp
  refine W.eq (g2 := F0 m 10 ls [.int r3]) rfl ?_
  refine lv_istore (lv' := [(5, .int r3), (4, .int v1), (0, .ref (ad g a0)), (1, .int x1), (2, .int x2), (3, .int x3)]) hx hb dX11_weighs_10 hl (by decide) rfl (fun ls hl => ?_)
  refine lv_iconst (v := 0) hx hb dX11_weighs_12 (by decide) ?_
  refine lv_istore (lv' := [(6, .int (0 : Int32)), (5, .int r3), (4, .int v1), (0, .ref (ad g a0)), (1, .int x1), (2, .int x2), (3, .int x3)]) hx hb dX11_weighs_13 hl (by decide) rfl (fun ls hl => ?_)
  obtain ⟨n94, hf⟩ := hf
  refine w_X11_weighs_L15 _ _ _ _ _ _ _ _ E hw hs0 ?_ n94 _ _ hf _ _ _ hR hS (lv_sub hl [3, 4, 5, 6, 2, 1, 0] rfl)
  intro m26 H locs ls hf hR hS hl
  refine lv_iconst (v := 0) hx hb dX11_weighs_110 (by decide) ?_
  refine lv_istore (lv' := [(6, .int (0 : Int32)), (0, .ref (ad g a0)), (1, .int x1), (2, .int x2), (3, .int x3), (4, .int v1), (5, .int r3)]) hx hb dX11_weighs_111 hl (by decide) rfl (fun ls hl => ?_)
  obtain ⟨n93, hf⟩ := hf
  refine w_X11_weighs_L113 _ _ _ _ _ _ _ _ E hw hs0 ?_ n93 _ _ hf _ _ _ hR hS (lv_sub hl [1, 2, 3, 4, 5, 6, 0] rfl)
  intro m32 H locs ls hf hR hS hl
  refine lv_aload_n hx hb dX11_weighs_136 rfl (lv_at hl 0 rfl) ?_
  obtain ⟨b33, hb33, hf⟩ := hf
  refine hw_getR E hR cI10 hs0 53 (by decide) lfX11_381 rfl hb33 dX11_weighs_137 ?_
  refine lv_iconst (v := 0) hx hb dX11_weighs_140 (by decide) ?_
  refine lv_lconst (v := 1) hx hb dX11_weighs_141 (by decide) ?_
  obtain ⟨n34, hn34, in34, hf⟩ := hf
  refine hw_last E hR hS hw hn34 in34 dX11_weighs_142 (fun m35 H locs em35 hR hS => ?_)
  replace hf := hf m35 em35
  refine lv_iconst (v := 0) hx hb dX11_weighs_143 (by decide) ?_
  refine lv_istore (lv' := [(6, .int (0 : Int32)), (0, .ref (ad g a0)), (1, .int x1), (2, .int x2), (3, .int x3), (4, .int v1), (5, .int r3)]) hx hb dX11_weighs_144 hl (by decide) rfl (fun ls hl => ?_)
  obtain ⟨n92, hf⟩ := hf
  refine w_X11_weighs_L146 _ _ _ _ _ _ _ _ E hw hs0 ?_ n92 _ _ hf _ _ _ hR hS (lv_sub hl [1, 2, 3, 4, 5, 6, 0] rfl)
  intro m91 H locs ls hf hR hS hl
  exact hw_vret E hR hS ⟨rfl, hf⟩ dX11_weighs_386
def f_X11_sumOf_B17 (S : Ss) (a0 : Nat) (x1 : Int32) (x2 : Int32) (x3 : Int64) (x5 : Int32) (x6 : Int32) (M : Mm) (BK17 : Int64 → Int32 → Mm → Prop) (EK17 : Int64 → Mm → Prop) (K : Int64 → Mm → Prop) : Prop :=
  (((4 : Int32) ≤ x6 →
    EK17 x3 M) ∧
   (¬ (4 : Int32) ≤ x6 →
    (((x6 &&& x1) = x2 →
      ∃ b6 : Nat, M.2.2 a0 53 = some b6 ∧
      ∃ n7 : Nat, S[b6]? = some (53, n7) ∧ vp_in (((4 : Int32) * x5) + x6) n7 ∧
      ∀ v8 : Int64, v8 = (x3 + (M.2.1 b6 (((4 : Int32) * x5) + x6).toNatClampNeg)) →
      ∀ v9 : Int32, v9 = x6 + (1 : Int32) →
      BK17 v8 v9 M) ∧
     (¬ (x6 &&& x1) = x2 →
      ∀ v4 : Int64, v4 = (x3 + (0 : Int64)) →
      ∀ v5 : Int32, v5 = x6 + (1 : Int32) →
      BK17 v4 v5 M))))
set_option maxHeartbeats 4000000 in
set_option maxRecDepth 100000 in
theorem w_X11_sumOf_B17 {p : Program} {l : Launch} {e : Env} {s : State} {m : MethodId} {args : Array Value} {below : List Frame} {meth : Method} {c : Code} {g : Gg} {S : Ss} (a0 : Nat) (x1 : Int32) (x2 : Int32) (x3 : Int64) (x5 : Int32) (x6 : Int32) (M : Mm) (BK17 : Int64 → Int32 → Mm → Prop) (EK17 : Int64 → Mm → Prop) (K : Int64 → Mm → Prop) (E : EN p s m args meth c cX11_sumOf 7 (some .long) RX11 g) (hw : ad g 100000 < s.heap.size) (hs0 : S[a0]? = some (10, 0)) (hBK17 : ∀ (x3' : Int64) (x6' : Int32) (M' : Mm) (H : Heap) (locs : List Loc) (ls : Array Slot), BK17 x3' x6' M' → RP g S M' H → va_S (gA g) s.heap H locs → lv_has ls 7 [(0, .ref (ad g a0)), (1, .int x1), (2, .int x2), (3, .long x3'), (5, .int x5), (6, .int x6')] → W p l e (rmD 0) s m args below meth c H locs 0 0 (MQ below (QA g S (pJ K)) args s 0 0 (gA g)) (F0 m 17 ls [])) (hEK17 : ∀ (x3' : Int64) (M' : Mm) (H : Heap) (locs : List Loc) (ls : Array Slot), EK17 x3' M' → RP g S M' H → va_S (gA g) s.heap H locs → lv_has ls 7 [(0, .ref (ad g a0)), (1, .int x1), (2, .int x2), (3, .long x3'), (5, .int x5)] → W p l e (rmD 0) s m args below meth c H locs 0 0 (MQ below (QA g S (pJ K)) args s 0 0 (gA g)) (F0 m 56 ls [])) (hf : f_X11_sumOf_B17 S a0 x1 x2 x3 x5 x6 M BK17 EK17 K) (H : Heap) (locs : List Loc) (ls : Array Slot) (hR : RP g S M H) (hS : va_S (gA g) s.heap H locs) (hl : lv_has ls 7 [(0, .ref (ad g a0)), (1, .int x1), (2, .int x2), (3, .long x3), (5, .int x5), (6, .int x6)]) : W p l e (rmD 0) s m args below meth c H locs 0 0 (MQ below (QA g S (pJ K)) args s 0 0 (gA g)) (F0 m 17 ls []) := by
  have hx := E.1
  have hb := E.2.1
  unfold f_X11_sumOf_B17 at hf
  refine lv_iload hx hb dX11_sumOf_17 (lv_at hl 5 rfl) ?_
  refine lv_iconst (v := 4) hx hb dX11_sumOf_19 (by decide) ?_
  refine lv_icmp_ge (tgt := 56) hx hb dX11_sumOf_20 (by decide) (fun c2 => ?_) (fun c2 => ?_)
  · replace hf := hf.1 c2
    exact hEK17 _ _ _ _ _ hf hR hS (lv_sub hl [0, 1, 2, 3, 4] rfl)
  · replace hf := hf.2 c2
    refine lv_lload_n hx hb dX11_sumOf_23 rfl (lv_at hl 3 rfl) ?_
    refine lv_iload hx hb dX11_sumOf_24 (lv_at hl 5 rfl) ?_
    refine lv_iload_n hx hb dX11_sumOf_26 rfl (lv_at hl 1 rfl) ?_
    refine lv_iand hx hb dX11_sumOf_27 ?_
    refine lv_iload_n hx hb dX11_sumOf_28 rfl (lv_at hl 2 rfl) ?_
    refine lv_icmp_ne (tgt := 47) hx hb dX11_sumOf_29 (by decide) (fun c3 => ?_) (fun c3 => ?_)
    · replace hf := hf.2 c3
      refine lv_lconst (v := 0) hx hb dX11_sumOf_47 (by decide) ?_
      refine lv_ladd hx hb dX11_sumOf_48 ?_
      refine lv_topl (fun v4 ev4 => ?_)
      replace hf := hf v4 ev4
      refine lv_lstore_n (lv' := [(3, .long v4), (0, .ref (ad g a0)), (1, .int x1), (2, .int x2), (5, .int x5), (6, .int x6)]) hx hb dX11_sumOf_49 rfl hl (by decide) rfl (fun ls hl => ?_)
      obtain ⟨v5, ev5⟩ : ∃ y : Int32, y = x6 + (1 : Int32) := ⟨_, rfl⟩
      replace hf := hf v5 ev5
      refine lv_iinc (v := v5) (lv' := [(6, .int v5), (3, .long v4), (0, .ref (ad g a0)), (1, .int x1), (2, .int x2), (5, .int x5)]) hx hb dX11_sumOf_50 hl (k := 5) rfl (by rw [ev5]; rfl) (by decide) rfl (fun ls hl => ?_)
      refine lv_goto (tgt := 17) hx hb dX11_sumOf_53 (by decide) ?_
      exact hBK17 _ _ _ _ _ _ hf hR hS (lv_sub hl [2, 3, 4, 1, 5, 0] rfl)
    · replace hf := hf.1 c3
      refine lv_aload_n hx hb dX11_sumOf_32 rfl (lv_at hl 0 rfl) ?_
      obtain ⟨b6, hb6, hf⟩ := hf
      refine hw_getR E hR cI10 hs0 53 (by decide) lfX11_381 rfl hb6 dX11_sumOf_33 ?_
      refine lv_iconst (v := 4) hx hb dX11_sumOf_36 (by decide) ?_
      refine lv_iload hx hb dX11_sumOf_37 (lv_at hl 4 rfl) ?_
      refine lv_imul hx hb dX11_sumOf_39 ?_
      refine lv_iload hx hb dX11_sumOf_40 (lv_at hl 5 rfl) ?_
      refine lv_iadd hx hb dX11_sumOf_42 ?_
      obtain ⟨n7, hn7, in7, hf⟩ := hf
      refine hw_lald E hR hn7 in7 dX11_sumOf_43 ?_
      refine lv_goto (tgt := 48) hx hb dX11_sumOf_44 (by decide) ?_
      refine lv_ladd hx hb dX11_sumOf_48 ?_
      refine lv_topl (fun v8 ev8 => ?_)
      replace hf := hf v8 ev8
      refine lv_lstore_n (lv' := [(3, .long v8), (0, .ref (ad g a0)), (1, .int x1), (2, .int x2), (5, .int x5), (6, .int x6)]) hx hb dX11_sumOf_49 rfl hl (by decide) rfl (fun ls hl => ?_)
      obtain ⟨v9, ev9⟩ : ∃ y : Int32, y = x6 + (1 : Int32) := ⟨_, rfl⟩
      replace hf := hf v9 ev9
      refine lv_iinc (v := v9) (lv' := [(6, .int v9), (3, .long v8), (0, .ref (ad g a0)), (1, .int x1), (2, .int x2), (5, .int x5)]) hx hb dX11_sumOf_50 hl (k := 5) rfl (by rw [ev9]; rfl) (by decide) rfl (fun ls hl => ?_)
      refine lv_goto (tgt := 17) hx hb dX11_sumOf_53 (by decide) ?_
      exact hBK17 _ _ _ _ _ _ hf hR hS (lv_sub hl [2, 3, 4, 1, 5, 0] rfl)
def f_X11_sumOf_L17 (S : Ss) (a0 : Nat) (x1 : Int32) (x2 : Int32) (x5 : Int32) (EK17 : Int64 → Mm → Prop) (K : Int64 → Mm → Prop) : Nat → Int64 → Int32 → Mm → Prop
  | 0, _, _, _ => False
  | n + 1, x3, x6, M => f_X11_sumOf_B17 S a0 x1 x2 x3 x5 x6 M (fun (x3 : Int64) (x6 : Int32) (M : Mm) => f_X11_sumOf_L17 S a0 x1 x2 x5 EK17 K n x3 x6 M) EK17 K
set_option maxHeartbeats 4000000 in
set_option maxRecDepth 100000 in
theorem w_X11_sumOf_L17 {p : Program} {l : Launch} {e : Env} {s : State} {m : MethodId} {args : Array Value} {below : List Frame} {meth : Method} {c : Code} {g : Gg} {S : Ss} (a0 : Nat) (x1 : Int32) (x2 : Int32) (x5 : Int32) (EK17 : Int64 → Mm → Prop) (K : Int64 → Mm → Prop) (E : EN p s m args meth c cX11_sumOf 7 (some .long) RX11 g) (hw : ad g 100000 < s.heap.size) (hs0 : S[a0]? = some (10, 0)) (hEK17 : ∀ (x3' : Int64) (M' : Mm) (H : Heap) (locs : List Loc) (ls : Array Slot), EK17 x3' M' → RP g S M' H → va_S (gA g) s.heap H locs → lv_has ls 7 [(0, .ref (ad g a0)), (1, .int x1), (2, .int x2), (3, .long x3'), (5, .int x5)] → W p l e (rmD 0) s m args below meth c H locs 0 0 (MQ below (QA g S (pJ K)) args s 0 0 (gA g)) (F0 m 56 ls [])) : ∀ (n : Nat) (x3 : Int64) (x6 : Int32) (M : Mm), f_X11_sumOf_L17 S a0 x1 x2 x5 EK17 K n x3 x6 M → ∀ (H : Heap) (locs : List Loc) (ls : Array Slot), RP g S M H → va_S (gA g) s.heap H locs → lv_has ls 7 [(0, .ref (ad g a0)), (1, .int x1), (2, .int x2), (3, .long x3), (5, .int x5), (6, .int x6)] → W p l e (rmD 0) s m args below meth c H locs 0 0 (MQ below (QA g S (pJ K)) args s 0 0 (gA g)) (F0 m 17 ls []) := by
  intro n
  induction n with
  | zero => intro x3 x6 M hf; exact hf.elim
  | succ n ih =>
    intro x3 x6 M hf H locs ls hR hS hl
    exact w_X11_sumOf_B17 _ _ _ _ _ _ _ _ _ _ E hw hs0 (fun _ _ M H locs ls h hR hS hl => ih _ _ M h H locs ls hR hS hl) hEK17 hf H locs ls hR hS hl
def f_X11_sumOf_B5 (S : Ss) (a0 : Nat) (x1 : Int32) (x2 : Int32) (x3 : Int64) (x5 : Int32) (M : Mm) (BK5 : Int64 → Int32 → Mm → Prop) (EK5 : Int64 → Mm → Prop) (K : Int64 → Mm → Prop) : Prop :=
  (((M.1 a0 44) ≤ x5 →
    EK5 x3 M) ∧
   (¬ (M.1 a0 44) ≤ x5 →
    ∃ n13 : Nat, f_X11_sumOf_L17 S a0 x1 x2 x5 (fun (v10 : Int64) (m11 : Mm) =>
      ∀ v12 : Int32, v12 = x5 + (1 : Int32) →
      BK5 v10 v12 m11) K n13 x3 (0 : Int32) M))
set_option maxHeartbeats 4000000 in
set_option maxRecDepth 100000 in
theorem w_X11_sumOf_B5 {p : Program} {l : Launch} {e : Env} {s : State} {m : MethodId} {args : Array Value} {below : List Frame} {meth : Method} {c : Code} {g : Gg} {S : Ss} (a0 : Nat) (x1 : Int32) (x2 : Int32) (x3 : Int64) (x5 : Int32) (M : Mm) (BK5 : Int64 → Int32 → Mm → Prop) (EK5 : Int64 → Mm → Prop) (K : Int64 → Mm → Prop) (E : EN p s m args meth c cX11_sumOf 7 (some .long) RX11 g) (hw : ad g 100000 < s.heap.size) (hs0 : S[a0]? = some (10, 0)) (hBK5 : ∀ (x3' : Int64) (x5' : Int32) (M' : Mm) (H : Heap) (locs : List Loc) (ls : Array Slot), BK5 x3' x5' M' → RP g S M' H → va_S (gA g) s.heap H locs → lv_has ls 7 [(0, .ref (ad g a0)), (1, .int x1), (2, .int x2), (3, .long x3'), (5, .int x5')] → W p l e (rmD 0) s m args below meth c H locs 0 0 (MQ below (QA g S (pJ K)) args s 0 0 (gA g)) (F0 m 5 ls [])) (hEK5 : ∀ (x3' : Int64) (M' : Mm) (H : Heap) (locs : List Loc) (ls : Array Slot), EK5 x3' M' → RP g S M' H → va_S (gA g) s.heap H locs → lv_has ls 7 [(3, .long x3')] → W p l e (rmD 0) s m args below meth c H locs 0 0 (MQ below (QA g S (pJ K)) args s 0 0 (gA g)) (F0 m 62 ls [])) (hf : f_X11_sumOf_B5 S a0 x1 x2 x3 x5 M BK5 EK5 K) (H : Heap) (locs : List Loc) (ls : Array Slot) (hR : RP g S M H) (hS : va_S (gA g) s.heap H locs) (hl : lv_has ls 7 [(0, .ref (ad g a0)), (1, .int x1), (2, .int x2), (3, .long x3), (5, .int x5)]) : W p l e (rmD 0) s m args below meth c H locs 0 0 (MQ below (QA g S (pJ K)) args s 0 0 (gA g)) (F0 m 5 ls []) := by
  have hx := E.1
  have hb := E.2.1
  unfold f_X11_sumOf_B5 at hf
  refine lv_iload hx hb dX11_sumOf_5 (lv_at hl 4 rfl) ?_
  refine lv_aload_n hx hb dX11_sumOf_7 rfl (lv_at hl 0 rfl) ?_
  refine hw_getI E hR cI10 hs0 44 (by decide) lfX11_296 rfl dX11_sumOf_8 ?_
  refine lv_icmp_ge (tgt := 62) hx hb dX11_sumOf_11 (by decide) (fun c1 => ?_) (fun c1 => ?_)
  · replace hf := hf.1 c1
    exact hEK5 _ _ _ _ _ hf hR hS (lv_sub hl [3] rfl)
  · replace hf := hf.2 c1
    refine lv_iconst (v := 0) hx hb dX11_sumOf_14 (by decide) ?_
    refine lv_istore (lv' := [(6, .int (0 : Int32)), (0, .ref (ad g a0)), (1, .int x1), (2, .int x2), (3, .long x3), (5, .int x5)]) hx hb dX11_sumOf_15 hl (by decide) rfl (fun ls hl => ?_)
    obtain ⟨n13, hf⟩ := hf
    refine w_X11_sumOf_L17 _ _ _ _ _ _ E hw hs0 ?_ n13 _ _ _ hf _ _ _ hR hS (lv_sub hl [1, 2, 3, 4, 5, 0] rfl)
    intro v10 m11 H locs ls hf hR hS hl
    obtain ⟨v12, ev12⟩ : ∃ y : Int32, y = x5 + (1 : Int32) := ⟨_, rfl⟩
    replace hf := hf v12 ev12
    refine lv_iinc (v := v12) (lv' := [(5, .int v12), (0, .ref (ad g a0)), (1, .int x1), (2, .int x2), (3, .long v10)]) hx hb dX11_sumOf_56 hl (k := 4) rfl (by rw [ev12]; rfl) (by decide) rfl (fun ls hl => ?_)
    refine lv_goto (tgt := 5) hx hb dX11_sumOf_59 (by decide) ?_
    exact hBK5 _ _ _ _ _ _ hf hR hS (lv_sub hl [1, 2, 3, 4, 0] rfl)
def f_X11_sumOf_L5 (S : Ss) (a0 : Nat) (x1 : Int32) (x2 : Int32) (EK5 : Int64 → Mm → Prop) (K : Int64 → Mm → Prop) : Nat → Int64 → Int32 → Mm → Prop
  | 0, _, _, _ => False
  | n + 1, x3, x5, M => f_X11_sumOf_B5 S a0 x1 x2 x3 x5 M (fun (x3 : Int64) (x5 : Int32) (M : Mm) => f_X11_sumOf_L5 S a0 x1 x2 EK5 K n x3 x5 M) EK5 K
set_option maxHeartbeats 4000000 in
set_option maxRecDepth 100000 in
theorem w_X11_sumOf_L5 {p : Program} {l : Launch} {e : Env} {s : State} {m : MethodId} {args : Array Value} {below : List Frame} {meth : Method} {c : Code} {g : Gg} {S : Ss} (a0 : Nat) (x1 : Int32) (x2 : Int32) (EK5 : Int64 → Mm → Prop) (K : Int64 → Mm → Prop) (E : EN p s m args meth c cX11_sumOf 7 (some .long) RX11 g) (hw : ad g 100000 < s.heap.size) (hs0 : S[a0]? = some (10, 0)) (hEK5 : ∀ (x3' : Int64) (M' : Mm) (H : Heap) (locs : List Loc) (ls : Array Slot), EK5 x3' M' → RP g S M' H → va_S (gA g) s.heap H locs → lv_has ls 7 [(3, .long x3')] → W p l e (rmD 0) s m args below meth c H locs 0 0 (MQ below (QA g S (pJ K)) args s 0 0 (gA g)) (F0 m 62 ls [])) : ∀ (n : Nat) (x3 : Int64) (x5 : Int32) (M : Mm), f_X11_sumOf_L5 S a0 x1 x2 EK5 K n x3 x5 M → ∀ (H : Heap) (locs : List Loc) (ls : Array Slot), RP g S M H → va_S (gA g) s.heap H locs → lv_has ls 7 [(0, .ref (ad g a0)), (1, .int x1), (2, .int x2), (3, .long x3), (5, .int x5)] → W p l e (rmD 0) s m args below meth c H locs 0 0 (MQ below (QA g S (pJ K)) args s 0 0 (gA g)) (F0 m 5 ls []) := by
  intro n
  induction n with
  | zero => intro x3 x5 M hf; exact hf.elim
  | succ n ih =>
    intro x3 x5 M hf H locs ls hR hS hl
    exact w_X11_sumOf_B5 _ _ _ _ _ _ _ _ _ E hw hs0 (fun _ _ M H locs ls h hR hS hl => ih _ _ M h H locs ls hR hS hl) hEK5 hf H locs ls hR hS hl
def f_X11_sumOf (S : Ss) (a0 : Nat) (x1 : Int32) (x2 : Int32) (M : Mm) (K : Int64 → Mm → Prop) : Prop :=
  ∃ n16 : Nat, f_X11_sumOf_L5 S a0 x1 x2 (fun (v14 : Int64) (m15 : Mm) =>
    K v14 m15) K n16 (0 : Int64) (0 : Int32) M
set_option maxHeartbeats 4000000 in
set_option maxRecDepth 100000 in
theorem ok_X11_sumOf {l : Launch} {g : Gg} {S : Ss} {a0 : Nat} {x1 : Int32} {x2 : Int32} {M : Mm} {K : Int64 → Mm → Prop} (hs0 : S[a0]? = some (10, 0)) (hf : f_X11_sumOf S a0 x1 x2 M K) : MT l g S yX11_sumOf cX11_sumOf 7 (some .long) 0 [.ref (ad g a0), .int x1, .int x2] M (pJ K) := by
  refine MT.of (by decide +kernel) (Nat.le_of_ble_eq_true rfl) ?_
  intro p e s m below meth c ls E hw hR hS hl
  have hl : lv_has ls 7 [(0, .ref (ad g a0)), (1, .int x1), (2, .int x2)] := hl
  generalize ([.ref (ad g a0), .int x1, .int x2] : List Value).toArray = args at E ⊢
  have E : EN p s m args meth c cX11_sumOf 7 (some .long) RX11 g := E
  have hx := E.1
  have hb := E.2.1
  unfold f_X11_sumOf at hf
  refine lv_lconst (v := 0) hx hb dX11_sumOf_0 (by decide) ?_
  refine lv_lstore_n (lv' := [(3, .long (0 : Int64)), (0, .ref (ad g a0)), (1, .int x1), (2, .int x2)]) hx hb dX11_sumOf_1 rfl hl (by decide) rfl (fun ls hl => ?_)
  refine lv_iconst (v := 0) hx hb dX11_sumOf_2 (by decide) ?_
  refine lv_istore (lv' := [(5, .int (0 : Int32)), (3, .long (0 : Int64)), (0, .ref (ad g a0)), (1, .int x1), (2, .int x2)]) hx hb dX11_sumOf_3 hl (by decide) rfl (fun ls hl => ?_)
  obtain ⟨n16, hf⟩ := hf
  refine w_X11_sumOf_L5 _ _ _ _ _ E hw hs0 ?_ n16 _ _ _ hf _ _ _ hR hS (lv_sub hl [2, 3, 4, 1, 0] rfl)
  intro v14 m15 H locs ls hf hR hS hl
  refine lv_lload_n hx hb dX11_sumOf_62 rfl (lv_at hl 0 rfl) ?_
  exact hw_lret E hR hS ⟨_, rfl, hf⟩ dX11_sumOf_63
def f_X11_power_B5 (S : Ss) (x0 : Int64) (x2 : Int32) (x3 : Int64) (x5 : Int32) (M : Mm) (BK5 : Int64 → Int32 → Mm → Prop) (EK5 : Int64 → Mm → Prop) (K : Int64 → Mm → Prop) : Prop :=
  ((x2 ≤ x5 →
    EK5 x3 M) ∧
   (¬ x2 ≤ x5 →
    ∀ v2 : Int64, v2 = (x3 * x0) →
    ((v2 ≤ (1000000000000 : Int64) →
      ∀ v4 : Int32, v4 = x5 + (1 : Int32) →
      BK5 v2 v4 M) ∧
     (¬ v2 ≤ (1000000000000 : Int64) →
      K (1000000000001 : Int64) M))))
set_option maxHeartbeats 4000000 in
set_option maxRecDepth 100000 in
theorem w_X11_power_B5 {p : Program} {l : Launch} {e : Env} {s : State} {m : MethodId} {args : Array Value} {below : List Frame} {meth : Method} {c : Code} {g : Gg} {S : Ss} (x0 : Int64) (x2 : Int32) (x3 : Int64) (x5 : Int32) (M : Mm) (BK5 : Int64 → Int32 → Mm → Prop) (EK5 : Int64 → Mm → Prop) (K : Int64 → Mm → Prop) (E : EN p s m args meth c cX11_power 6 (some .long) RX11 g) (hw : ad g 100000 < s.heap.size) (hBK5 : ∀ (x3' : Int64) (x5' : Int32) (M' : Mm) (H : Heap) (locs : List Loc) (ls : Array Slot), BK5 x3' x5' M' → RP g S M' H → va_S (gA g) s.heap H locs → lv_has ls 6 [(0, .long x0), (2, .int x2), (3, .long x3'), (5, .int x5')] → W p l e (rmD 0) s m args below meth c H locs 0 0 (MQ below (QA g S (pJ K)) args s 0 0 (gA g)) (F0 m 5 ls [])) (hEK5 : ∀ (x3' : Int64) (M' : Mm) (H : Heap) (locs : List Loc) (ls : Array Slot), EK5 x3' M' → RP g S M' H → va_S (gA g) s.heap H locs → lv_has ls 6 [(3, .long x3')] → W p l e (rmD 0) s m args below meth c H locs 0 0 (MQ below (QA g S (pJ K)) args s 0 0 (gA g)) (F0 m 33 ls [])) (hf : f_X11_power_B5 S x0 x2 x3 x5 M BK5 EK5 K) (H : Heap) (locs : List Loc) (ls : Array Slot) (hR : RP g S M H) (hS : va_S (gA g) s.heap H locs) (hl : lv_has ls 6 [(0, .long x0), (2, .int x2), (3, .long x3), (5, .int x5)]) : W p l e (rmD 0) s m args below meth c H locs 0 0 (MQ below (QA g S (pJ K)) args s 0 0 (gA g)) (F0 m 5 ls []) := by
  have hx := E.1
  have hb := E.2.1
  unfold f_X11_power_B5 at hf
  refine lv_iload hx hb dX11_power_5 (lv_at hl 3 rfl) ?_
  refine lv_iload_n hx hb dX11_power_7 rfl (lv_at hl 1 rfl) ?_
  refine lv_icmp_ge (tgt := 33) hx hb dX11_power_8 (by decide) (fun c1 => ?_) (fun c1 => ?_)
  · replace hf := hf.1 c1
    exact hEK5 _ _ _ _ _ hf hR hS (lv_sub hl [2] rfl)
  · replace hf := hf.2 c1
    refine lv_lload_n hx hb dX11_power_11 rfl (lv_at hl 2 rfl) ?_
    refine lv_lload_n hx hb dX11_power_12 rfl (lv_at hl 0 rfl) ?_
    refine lv_lmul hx hb dX11_power_13 ?_
    refine lv_topl (fun v2 ev2 => ?_)
    replace hf := hf v2 ev2
    refine lv_lstore_n (lv' := [(3, .long v2), (0, .long x0), (2, .int x2), (5, .int x5)]) hx hb dX11_power_14 rfl hl (by decide) rfl (fun ls hl => ?_)
    refine lv_lload_n hx hb dX11_power_15 rfl (lv_at hl 0 rfl) ?_
    refine lv_ldc2 (v := 1000000000000) hx hb E.2.2.2.2.1 (E.2.2.2.2.2.1 _ ljX11_390) dX11_power_16 ?_
    refine hw_lif_le (tgt := 27) hx hb dX11_power_19 dX11_power_20 (by decide) (fun c3 => ?_) (fun c3 => ?_)
    · replace hf := hf.1 c3
      obtain ⟨v4, ev4⟩ : ∃ y : Int32, y = x5 + (1 : Int32) := ⟨_, rfl⟩
      replace hf := hf v4 ev4
      refine lv_iinc (v := v4) (lv' := [(5, .int v4), (3, .long v2), (0, .long x0), (2, .int x2)]) hx hb dX11_power_27 hl (k := 3) rfl (by rw [ev4]; rfl) (by decide) rfl (fun ls hl => ?_)
      refine lv_goto (tgt := 5) hx hb dX11_power_30 (by decide) ?_
      exact hBK5 _ _ _ _ _ _ hf hR hS (lv_sub hl [2, 3, 1, 0] rfl)
    · replace hf := hf.2 c3
      refine lv_ldc2 (v := 1000000000001) hx hb E.2.2.2.2.1 (E.2.2.2.2.2.1 _ ljX11_392) dX11_power_23 ?_
      exact hw_lret E hR hS ⟨_, rfl, hf⟩ dX11_power_26
def f_X11_power_L5 (S : Ss) (x0 : Int64) (x2 : Int32) (EK5 : Int64 → Mm → Prop) (K : Int64 → Mm → Prop) : Nat → Int64 → Int32 → Mm → Prop
  | 0, _, _, _ => False
  | n + 1, x3, x5, M => f_X11_power_B5 S x0 x2 x3 x5 M (fun (x3 : Int64) (x5 : Int32) (M : Mm) => f_X11_power_L5 S x0 x2 EK5 K n x3 x5 M) EK5 K
set_option maxHeartbeats 4000000 in
set_option maxRecDepth 100000 in
theorem w_X11_power_L5 {p : Program} {l : Launch} {e : Env} {s : State} {m : MethodId} {args : Array Value} {below : List Frame} {meth : Method} {c : Code} {g : Gg} {S : Ss} (x0 : Int64) (x2 : Int32) (EK5 : Int64 → Mm → Prop) (K : Int64 → Mm → Prop) (E : EN p s m args meth c cX11_power 6 (some .long) RX11 g) (hw : ad g 100000 < s.heap.size) (hEK5 : ∀ (x3' : Int64) (M' : Mm) (H : Heap) (locs : List Loc) (ls : Array Slot), EK5 x3' M' → RP g S M' H → va_S (gA g) s.heap H locs → lv_has ls 6 [(3, .long x3')] → W p l e (rmD 0) s m args below meth c H locs 0 0 (MQ below (QA g S (pJ K)) args s 0 0 (gA g)) (F0 m 33 ls [])) : ∀ (n : Nat) (x3 : Int64) (x5 : Int32) (M : Mm), f_X11_power_L5 S x0 x2 EK5 K n x3 x5 M → ∀ (H : Heap) (locs : List Loc) (ls : Array Slot), RP g S M H → va_S (gA g) s.heap H locs → lv_has ls 6 [(0, .long x0), (2, .int x2), (3, .long x3), (5, .int x5)] → W p l e (rmD 0) s m args below meth c H locs 0 0 (MQ below (QA g S (pJ K)) args s 0 0 (gA g)) (F0 m 5 ls []) := by
  intro n
  induction n with
  | zero => intro x3 x5 M hf; exact hf.elim
  | succ n ih =>
    intro x3 x5 M hf H locs ls hR hS hl
    exact w_X11_power_B5 _ _ _ _ _ _ _ _ E hw (fun _ _ M H locs ls h hR hS hl => ih _ _ M h H locs ls hR hS hl) hEK5 hf H locs ls hR hS hl
def f_X11_power (S : Ss) (x0 : Int64) (x2 : Int32) (M : Mm) (K : Int64 → Mm → Prop) : Prop :=
  ∃ n7 : Nat, f_X11_power_L5 S x0 x2 (fun (v5 : Int64) (m6 : Mm) =>
    K v5 m6) K n7 (1 : Int64) (0 : Int32) M
set_option maxHeartbeats 4000000 in
set_option maxRecDepth 100000 in
theorem ok_X11_power {l : Launch} {g : Gg} {S : Ss} {x0 : Int64} {x2 : Int32} {M : Mm} {K : Int64 → Mm → Prop} (hf : f_X11_power S x0 x2 M K) : MT l g S yX11_power cX11_power 6 (some .long) 0 [.long x0, .int x2] M (pJ K) := by
  refine MT.of (by decide +kernel) (Nat.le_of_ble_eq_true rfl) ?_
  intro p e s m below meth c ls E hw hR hS hl
  have hl : lv_has ls 6 [(0, .long x0), (2, .int x2)] := hl
  generalize ([.long x0, .int x2] : List Value).toArray = args at E ⊢
  have E : EN p s m args meth c cX11_power 6 (some .long) RX11 g := E
  have hx := E.1
  have hb := E.2.1
  unfold f_X11_power at hf
  refine lv_lconst (v := 1) hx hb dX11_power_0 (by decide) ?_
  refine lv_lstore_n (lv' := [(3, .long (1 : Int64)), (0, .long x0), (2, .int x2)]) hx hb dX11_power_1 rfl hl (by decide) rfl (fun ls hl => ?_)
  refine lv_iconst (v := 0) hx hb dX11_power_2 (by decide) ?_
  refine lv_istore (lv' := [(5, .int (0 : Int32)), (3, .long (1 : Int64)), (0, .long x0), (2, .int x2)]) hx hb dX11_power_3 hl (by decide) rfl (fun ls hl => ?_)
  obtain ⟨n7, hf⟩ := hf
  refine w_X11_power_L5 _ _ _ _ E hw ?_ n7 _ _ _ hf _ _ _ hR hS (lv_sub hl [2, 3, 1, 0] rfl)
  intro v5 m6 H locs ls hf hR hS hl
  refine lv_lload_n hx hb dX11_power_33 rfl (lv_at hl 0 rfl) ?_
  exact hw_lret E hR hS ⟨_, rfl, hf⟩ dX11_power_34
def f_X11_runs_J56 (S : Ss) (a0 : Nat) (x1 : Int32) (x2 : Int32) (M : Mm) (K : Int32 → Mm → Prop) : Prop :=
  f_X11_comesBack S a0  M (fun (m14 : Mm) =>
    ((x2 = 0 →
    K (-3 : Int32) m14) ∧
   (¬ x2 = 0 →
    ∀ m16 : Mm, m16 = stI m14 a0 1 (0 : Int32) →
    f_X11_sumOf S a0 (1 : Int32) (1 : Int32) m16 (fun (r18 : Int64) (m17 : Mm) =>
      f_X11_enters S a0 r18 m17 (fun (m19 : Mm) =>
      f_X11_width S a0  m19 (fun (r21 : Int32) (m20 : Mm) =>
      f_X11_power S  r21.toInt64 x1 m20 (fun (r23 : Int64) (m22 : Mm) =>
      f_X11_enters S a0 r23 m22 (fun (m24 : Mm) =>
      K (0 : Int32) m24))))))))
set_option maxHeartbeats 4000000 in
set_option maxRecDepth 100000 in
theorem w_X11_runs_J56 {p : Program} {l : Launch} {e : Env} {s : State} {m : MethodId} {args : Array Value} {below : List Frame} {meth : Method} {c : Code} {g : Gg} {S : Ss} (a0 : Nat) (x1 : Int32) (x2 : Int32) (M : Mm) (K : Int32 → Mm → Prop) (E : EN p s m args meth c cX11_runs 3 (some .int) RX11 g) (hw : ad g 100000 < s.heap.size) (hs0 : S[a0]? = some (10, 0)) (hf : f_X11_runs_J56 S a0 x1 x2 M K) (H : Heap) (locs : List Loc) (ls : Array Slot) (hR : RP g S M H) (hS : va_S (gA g) s.heap H locs) (hl : lv_has ls 3 [(0, .ref (ad g a0)), (1, .int x1), (2, .int x2)]) : W p l e (rmD 8) s m args below meth c H locs 0 0 (MQ below (QA g S (pI K)) args s 0 0 (gA g)) (F0 m 56 ls []) := by
  have hx := E.1
  have hb := E.2.1
  unfold f_X11_runs_J56 at hf
  refine lv_aload_n hx hb dX11_runs_56 rfl (lv_at hl 0 rfl) ?_
  refine hw_callV (d := 8) E hR hS (As := []) (rest := []) cI10 hs0 rfl mcX11_comesBack miX11_comesBack lmX11_350 (ok_X11_comesBack hs0 hf) rfl rfl (by decide) hl.1 (Nat.le_of_ble_eq_true rfl) dX11_runs_57 (fun rr m14 H locs hp hR hS => ?_)
  obtain ⟨rfl, hf⟩ := hp
  refine W.eq (g2 := F0 m 60 ls []) rfl ?_
  refine lv_iload_n hx hb dX11_runs_60 rfl (lv_at hl 2 rfl) ?_
  refine lv_if_ne (tgt := 67) hx hb dX11_runs_61 (by decide) (fun c15 => ?_) (fun c15 => ?_)
  · replace hf := hf.2 c15
    refine lv_aload_n hx hb dX11_runs_67 rfl (lv_at hl 0 rfl) ?_
    refine lv_iconst (v := 0) hx hb dX11_runs_68 (by decide) ?_
    refine hw_putI E hR hS hw cI10 hs0 1 (by decide) lfX11_11 rfl (Or.inl rfl) dX11_runs_69 (fun m16 H locs em16 hR hS => ?_)
    replace hf := hf m16 em16
    refine lv_aload_n hx hb dX11_runs_72 rfl (lv_at hl 0 rfl) ?_
    refine lv_aload_n hx hb dX11_runs_73 rfl (lv_at hl 0 rfl) ?_
    refine lv_iconst (v := 1) hx hb dX11_runs_74 (by decide) ?_
    refine lv_iconst (v := 1) hx hb dX11_runs_75 (by decide) ?_
    refine hw_callV (d := 8) E hR hS (As := [.int (1 : Int32), .int (1 : Int32)]) (rest := [.ref (ad g a0)]) cI10 hs0 rfl mcX11_sumOf miX11_sumOf lmX11_402 (ok_X11_sumOf hs0 hf) rfl rfl (by decide) hl.1 (Nat.le_of_ble_eq_true rfl) dX11_runs_76 (fun rr m17 H locs hp hR hS => ?_)
    obtain ⟨r18, rfl, hf⟩ := hp
    refine W.eq (g2 := F0 m 79 ls [.long r18, .ref (ad g a0)]) rfl ?_
    refine hw_callV (d := 8) E hR hS (As := [.long r18]) (rest := []) cI10 hs0 rfl mcX11_enters miX11_enters lmX11_262 (ok_X11_enters hs0 hf) rfl rfl (by decide) hl.1 (Nat.le_of_ble_eq_true rfl) dX11_runs_79 (fun rr m19 H locs hp hR hS => ?_)
    obtain ⟨rfl, hf⟩ := hp
    refine W.eq (g2 := F0 m 82 ls []) rfl ?_
    refine lv_aload_n hx hb dX11_runs_82 rfl (lv_at hl 0 rfl) ?_
    refine lv_aload_n hx hb dX11_runs_83 rfl (lv_at hl 0 rfl) ?_
    refine hw_callV (d := 8) E hR hS (As := []) (rest := [.ref (ad g a0)]) cI10 hs0 rfl mcX11_width miX11_width lmX11_251 (ok_X11_width hs0 hf) rfl rfl (by decide) hl.1 (Nat.le_of_ble_eq_true rfl) dX11_runs_84 (fun rr m20 H locs hp hR hS => ?_)
    obtain ⟨r21, rfl, hf⟩ := hp
    refine W.eq (g2 := F0 m 87 ls [.int r21, .ref (ad g a0)]) rfl ?_
    refine lv_i2l hx hb dX11_runs_87 rfl ?_
    refine lv_iload_n hx hb dX11_runs_88 rfl (lv_at hl 1 rfl) ?_
    refine hw_callS (d := 8) E hR hS (As := [.long r21.toInt64, .int x1]) (rest := [.ref (ad g a0)]) mcX11_power msX11_power lmX11_394 (ok_X11_power  hf) rfl rfl (by decide) hl.1 (Nat.le_of_ble_eq_true rfl) dX11_runs_89 (fun rr m22 H locs hp hR hS => ?_)
    obtain ⟨r23, rfl, hf⟩ := hp
    refine W.eq (g2 := F0 m 92 ls [.long r23, .ref (ad g a0)]) rfl ?_
    refine hw_callV (d := 8) E hR hS (As := [.long r23]) (rest := []) cI10 hs0 rfl mcX11_enters miX11_enters lmX11_262 (ok_X11_enters hs0 hf) rfl rfl (by decide) hl.1 (Nat.le_of_ble_eq_true rfl) dX11_runs_92 (fun rr m24 H locs hp hR hS => ?_)
    obtain ⟨rfl, hf⟩ := hp
    refine W.eq (g2 := F0 m 95 ls []) rfl ?_
    refine lv_iconst (v := 0) hx hb dX11_runs_95 (by decide) ?_
    exact hw_iret E hR hS ⟨_, rfl, hf⟩ dX11_runs_96
  · replace hf := hf.1 c15
    refine lv_bipush (v := -3) hx hb dX11_runs_64 (by decide) ?_
    exact hw_iret E hR hS ⟨_, rfl, hf⟩ dX11_runs_66
def f_X11_runs (S : Ss) (a0 : Nat) (x1 : Int32) (M : Mm) (K : Int32 → Mm → Prop) : Prop :=
  ∀ m1 : Mm, m1 = stI M a0 0 (0 : Int32) →
  f_X11_isRun S a0 x1 m1 (fun (r3 : Int32) (m2 : Mm) =>
    ((r3 = 0 →
    K (-1 : Int32) m2) ∧
   (¬ r3 = 0 →
    f_X11_width S a0  m2 (fun (r6 : Int32) (m5 : Mm) =>
      f_X11_power S  r6.toInt64 x1 m5 (fun (r8 : Int64) (m7 : Mm) =>
      ((r8 ≤ (1000000000000 : Int64) →
      f_X11_remembers S a0  m7 (fun (m10 : Mm) =>
        f_X11_explores S a0 x1 (4000 : Int32) m10 (fun (r12 : Int32) (m11 : Mm) =>
        ((r12 = 0 →
        f_X11_runs_J56 S a0 x1 r12 m11 K) ∧
       (¬ r12 = 0 →
        f_X11_weighs S a0 x1 (-2 : Int32) (-1 : Int32) m11 (fun (m25 : Mm) =>
          f_X11_runs_J56 S a0 x1 r12 m25 K)))))) ∧
     (¬ r8 ≤ (1000000000000 : Int64) →
      K (-1 : Int32) m7)))))))
set_option maxHeartbeats 4000000 in
set_option maxRecDepth 100000 in
theorem ok_X11_runs {l : Launch} {g : Gg} {S : Ss} {a0 : Nat} {x1 : Int32} {M : Mm} {K : Int32 → Mm → Prop} (hs0 : S[a0]? = some (10, 0)) (hf : f_X11_runs S a0 x1 M K) : MT l g S yX11_runs cX11_runs 3 (some .int) 8 [.ref (ad g a0), .int x1] M (pI K) := by
  refine MT.of (by decide +kernel) (Nat.le_of_ble_eq_true rfl) ?_
  intro p e s m below meth c ls E hw hR hS hl
  have hl : lv_has ls 3 [(0, .ref (ad g a0)), (1, .int x1)] := hl
  generalize ([.ref (ad g a0), .int x1] : List Value).toArray = args at E ⊢
  have E : EN p s m args meth c cX11_runs 3 (some .int) RX11 g := E
  have hx := E.1
  have hb := E.2.1
  unfold f_X11_runs at hf
  refine lv_aload_n hx hb dX11_runs_0 rfl (lv_at hl 0 rfl) ?_
  refine lv_iconst (v := 0) hx hb dX11_runs_1 (by decide) ?_
  refine hw_putI E hR hS hw cI10 hs0 0 (by decide) lfX11_3 rfl (Or.inl rfl) dX11_runs_2 (fun m1 H locs em1 hR hS => ?_)
  replace hf := hf m1 em1
  refine lv_aload_n hx hb dX11_runs_5 rfl (lv_at hl 0 rfl) ?_
  refine lv_iload_n hx hb dX11_runs_6 rfl (lv_at hl 1 rfl) ?_
  refine hw_callV (d := 8) E hR hS (As := [.int x1]) (rest := []) cI10 hs0 rfl mcX11_isRun miX11_isRun lmX11_341 (ok_X11_isRun hs0 hf) rfl rfl (by decide) hl.1 (Nat.le_of_ble_eq_true rfl) dX11_runs_7 (fun rr m2 H locs hp hR hS => ?_)
  obtain ⟨r3, rfl, hf⟩ := hp
  refine W.eq (g2 := F0 m 10 ls [.int r3]) rfl ?_
  refine lv_if_eq (tgt := 29) hx hb dX11_runs_10 (by decide) (fun c4 => ?_) (fun c4 => ?_)
  · replace hf := hf.1 c4
    refine lv_iconst (v := -1) hx hb dX11_runs_29 (by decide) ?_
    exact hw_iret E hR hS ⟨_, rfl, hf⟩ dX11_runs_30
  · replace hf := hf.2 c4
    refine lv_aload_n hx hb dX11_runs_13 rfl (lv_at hl 0 rfl) ?_
    refine hw_callV (d := 8) E hR hS (As := []) (rest := []) cI10 hs0 rfl mcX11_width miX11_width lmX11_251 (ok_X11_width hs0 hf) rfl rfl (by decide) hl.1 (Nat.le_of_ble_eq_true rfl) dX11_runs_14 (fun rr m5 H locs hp hR hS => ?_)
    obtain ⟨r6, rfl, hf⟩ := hp
    refine W.eq (g2 := F0 m 17 ls [.int r6]) rfl ?_
    refine lv_i2l hx hb dX11_runs_17 rfl ?_
    refine lv_iload_n hx hb dX11_runs_18 rfl (lv_at hl 1 rfl) ?_
    refine hw_callS (d := 8) E hR hS (As := [.long r6.toInt64, .int x1]) (rest := []) mcX11_power msX11_power lmX11_394 (ok_X11_power  hf) rfl rfl (by decide) hl.1 (Nat.le_of_ble_eq_true rfl) dX11_runs_19 (fun rr m7 H locs hp hR hS => ?_)
    obtain ⟨r8, rfl, hf⟩ := hp
    refine W.eq (g2 := F0 m 22 ls [.long r8]) rfl ?_
    refine lv_ldc2 (v := 1000000000000) hx hb E.2.2.2.2.1 (E.2.2.2.2.2.1 _ ljX11_390) dX11_runs_22 ?_
    refine hw_lif_le (tgt := 31) hx hb dX11_runs_25 dX11_runs_26 (by decide) (fun c9 => ?_) (fun c9 => ?_)
    · replace hf := hf.1 c9
      refine lv_aload_n hx hb dX11_runs_31 rfl (lv_at hl 0 rfl) ?_
      refine hw_callV (d := 8) E hR hS (As := []) (rest := []) cI10 hs0 rfl mcX11_remembers miX11_remembers lmX11_344 (ok_X11_remembers hs0 hf) rfl rfl (by decide) hl.1 (Nat.le_of_ble_eq_true rfl) dX11_runs_32 (fun rr m10 H locs hp hR hS => ?_)
      obtain ⟨rfl, hf⟩ := hp
      refine W.eq (g2 := F0 m 35 ls []) rfl ?_
      refine lv_aload_n hx hb dX11_runs_35 rfl (lv_at hl 0 rfl) ?_
      refine lv_iload_n hx hb dX11_runs_36 rfl (lv_at hl 1 rfl) ?_
      refine lv_sipush (v := 4000) hx hb dX11_runs_37 (by decide) ?_
      refine hw_callV (d := 8) E hR hS (As := [.int x1, .int (4000 : Int32)]) (rest := []) cI10 hs0 rfl mcX11_explores miX11_explores lmX11_347 (ok_X11_explores hs0 hf) rfl rfl (by decide) hl.1 (Nat.le_of_ble_eq_true rfl) dX11_runs_40 (fun rr m11 H locs hp hR hS => ?_)
      obtain ⟨r12, rfl, hf⟩ := hp
      refine W.eq (g2 := F0 m 43 ls [.int r12]) rfl ?_
      refine lv_istore_n (lv' := [(2, .int r12), (0, .ref (ad g a0)), (1, .int x1)]) hx hb dX11_runs_43 rfl hl (by decide) rfl (fun ls hl => ?_)
      refine lv_iload_n hx hb dX11_runs_44 rfl (lv_at hl 0 rfl) ?_
      refine lv_if_eq (tgt := 56) hx hb dX11_runs_45 (by decide) (fun c13 => ?_) (fun c13 => ?_)
      · replace hf := hf.1 c13
        exact w_X11_runs_J56 _ _ _ _ _ E hw hs0 hf _ _ _ hR hS (lv_sub hl [1, 2, 0] rfl)
      · replace hf := hf.2 c13
        refine lv_aload_n hx hb dX11_runs_48 rfl (lv_at hl 1 rfl) ?_
        refine lv_iload_n hx hb dX11_runs_49 rfl (lv_at hl 2 rfl) ?_
        refine lv_bipush (v := -2) hx hb dX11_runs_50 (by decide) ?_
        refine lv_iconst (v := -1) hx hb dX11_runs_52 (by decide) ?_
        refine hw_callV (d := 8) E hR hS (As := [.int x1, .int (-2 : Int32), .int (-1 : Int32)]) (rest := []) cI10 hs0 rfl mcX11_weighs miX11_weighs lmX11_398 (ok_X11_weighs hs0 hf) rfl rfl (by decide) hl.1 (Nat.le_of_ble_eq_true rfl) dX11_runs_53 (fun rr m25 H locs hp hR hS => ?_)
        obtain ⟨rfl, hf⟩ := hp
        refine W.eq (g2 := F0 m 56 ls []) rfl ?_
        exact w_X11_runs_J56 _ _ _ _ _ E hw hs0 hf _ _ _ hR hS (lv_sub hl [1, 2, 0] rfl)
    · replace hf := hf.2 c9
      refine lv_iconst (v := -1) hx hb dX11_runs_29 (by decide) ?_
      exact hw_iret E hR hS ⟨_, rfl, hf⟩ dX11_runs_30
def f_X11_means_J67 (S : Ss) (a0 : Nat) (x3 : Int32) (M : Mm) (K : Int32 → Mm → Prop) : Prop :=
  f_X11_comesBack S a0  M (fun (m17 : Mm) =>
    ((x3 = 0 →
    K (-3 : Int32) m17) ∧
   (¬ x3 = 0 →
    ∀ m19 : Mm, m19 = stI m17 a0 1 (0 : Int32) →
    f_X11_sumOf S a0 (2 : Int32) (2 : Int32) m19 (fun (r21 : Int64) (m20 : Mm) =>
      f_X11_enters S a0 r21 m20 (fun (m22 : Mm) =>
      f_X11_sumOf S a0 (3 : Int32) (3 : Int32) m22 (fun (r24 : Int64) (m23 : Mm) =>
      f_X11_enters S a0 r24 m23 (fun (m25 : Mm) =>
      K (0 : Int32) m25)))))))
set_option maxHeartbeats 4000000 in
set_option maxRecDepth 100000 in
theorem w_X11_means_J67 {p : Program} {l : Launch} {e : Env} {s : State} {m : MethodId} {args : Array Value} {below : List Frame} {meth : Method} {c : Code} {g : Gg} {S : Ss} (a0 : Nat) (x3 : Int32) (M : Mm) (K : Int32 → Mm → Prop) (E : EN p s m args meth c cX11_means 4 (some .int) RX11 g) (hw : ad g 100000 < s.heap.size) (hs0 : S[a0]? = some (10, 0)) (hf : f_X11_means_J67 S a0 x3 M K) (H : Heap) (locs : List Loc) (ls : Array Slot) (hR : RP g S M H) (hS : va_S (gA g) s.heap H locs) (hl : lv_has ls 4 [(0, .ref (ad g a0)), (3, .int x3)]) : W p l e (rmD 8) s m args below meth c H locs 0 0 (MQ below (QA g S (pI K)) args s 0 0 (gA g)) (F0 m 67 ls []) := by
  have hx := E.1
  have hb := E.2.1
  unfold f_X11_means_J67 at hf
  refine lv_aload_n hx hb dX11_means_67 rfl (lv_at hl 0 rfl) ?_
  refine hw_callV (d := 8) E hR hS (As := []) (rest := []) cI10 hs0 rfl mcX11_comesBack miX11_comesBack lmX11_350 (ok_X11_comesBack hs0 hf) rfl rfl (by decide) hl.1 (Nat.le_of_ble_eq_true rfl) dX11_means_68 (fun rr m17 H locs hp hR hS => ?_)
  obtain ⟨rfl, hf⟩ := hp
  refine W.eq (g2 := F0 m 71 ls []) rfl ?_
  refine lv_iload_n hx hb dX11_means_71 rfl (lv_at hl 1 rfl) ?_
  refine lv_if_ne (tgt := 78) hx hb dX11_means_72 (by decide) (fun c18 => ?_) (fun c18 => ?_)
  · replace hf := hf.2 c18
    refine lv_aload_n hx hb dX11_means_78 rfl (lv_at hl 0 rfl) ?_
    refine lv_iconst (v := 0) hx hb dX11_means_79 (by decide) ?_
    refine hw_putI E hR hS hw cI10 hs0 1 (by decide) lfX11_11 rfl (Or.inl rfl) dX11_means_80 (fun m19 H locs em19 hR hS => ?_)
    replace hf := hf m19 em19
    refine lv_aload_n hx hb dX11_means_83 rfl (lv_at hl 0 rfl) ?_
    refine lv_aload_n hx hb dX11_means_84 rfl (lv_at hl 0 rfl) ?_
    refine lv_iconst (v := 2) hx hb dX11_means_85 (by decide) ?_
    refine lv_iconst (v := 2) hx hb dX11_means_86 (by decide) ?_
    refine hw_callV (d := 8) E hR hS (As := [.int (2 : Int32), .int (2 : Int32)]) (rest := [.ref (ad g a0)]) cI10 hs0 rfl mcX11_sumOf miX11_sumOf lmX11_402 (ok_X11_sumOf hs0 hf) rfl rfl (by decide) hl.1 (Nat.le_of_ble_eq_true rfl) dX11_means_87 (fun rr m20 H locs hp hR hS => ?_)
    obtain ⟨r21, rfl, hf⟩ := hp
    refine W.eq (g2 := F0 m 90 ls [.long r21, .ref (ad g a0)]) rfl ?_
    refine hw_callV (d := 8) E hR hS (As := [.long r21]) (rest := []) cI10 hs0 rfl mcX11_enters miX11_enters lmX11_262 (ok_X11_enters hs0 hf) rfl rfl (by decide) hl.1 (Nat.le_of_ble_eq_true rfl) dX11_means_90 (fun rr m22 H locs hp hR hS => ?_)
    obtain ⟨rfl, hf⟩ := hp
    refine W.eq (g2 := F0 m 93 ls []) rfl ?_
    refine lv_aload_n hx hb dX11_means_93 rfl (lv_at hl 0 rfl) ?_
    refine lv_aload_n hx hb dX11_means_94 rfl (lv_at hl 0 rfl) ?_
    refine lv_iconst (v := 3) hx hb dX11_means_95 (by decide) ?_
    refine lv_iconst (v := 3) hx hb dX11_means_96 (by decide) ?_
    refine hw_callV (d := 8) E hR hS (As := [.int (3 : Int32), .int (3 : Int32)]) (rest := [.ref (ad g a0)]) cI10 hs0 rfl mcX11_sumOf miX11_sumOf lmX11_402 (ok_X11_sumOf hs0 hf) rfl rfl (by decide) hl.1 (Nat.le_of_ble_eq_true rfl) dX11_means_97 (fun rr m23 H locs hp hR hS => ?_)
    obtain ⟨r24, rfl, hf⟩ := hp
    refine W.eq (g2 := F0 m 100 ls [.long r24, .ref (ad g a0)]) rfl ?_
    refine hw_callV (d := 8) E hR hS (As := [.long r24]) (rest := []) cI10 hs0 rfl mcX11_enters miX11_enters lmX11_262 (ok_X11_enters hs0 hf) rfl rfl (by decide) hl.1 (Nat.le_of_ble_eq_true rfl) dX11_means_100 (fun rr m25 H locs hp hR hS => ?_)
    obtain ⟨rfl, hf⟩ := hp
    refine W.eq (g2 := F0 m 103 ls []) rfl ?_
    refine lv_iconst (v := 0) hx hb dX11_means_103 (by decide) ?_
    exact hw_iret E hR hS ⟨_, rfl, hf⟩ dX11_means_104
  · replace hf := hf.1 c18
    refine lv_bipush (v := -3) hx hb dX11_means_75 (by decide) ?_
    exact hw_iret E hR hS ⟨_, rfl, hf⟩ dX11_means_77
def f_X11_means (S : Ss) (a0 : Nat) (x1 : Int32) (x2 : Int32) (M : Mm) (K : Int32 → Mm → Prop) : Prop :=
  ∀ m1 : Mm, m1 = stI M a0 0 (0 : Int32) →
  f_X11_isRun S a0 x2 m1 (fun (r3 : Int32) (m2 : Mm) =>
    ((r3 = 0 →
    K (-1 : Int32) m2) ∧
   (¬ r3 = 0 →
    f_X11_in S  x1.toInt64 (0 : Int64) (99 : Int64) m2 (fun (r6 : Int32) (m5 : Mm) =>
      ((r6 = 0 →
      K (-1 : Int32) m5) ∧
     (¬ r6 = 0 →
      f_X11_width S a0  m5 (fun (r9 : Int32) (m8 : Mm) =>
        f_X11_power S  r9.toInt64 x2 m8 (fun (r11 : Int64) (m10 : Mm) =>
        ((r11 ≤ (1000000000000 : Int64) →
        f_X11_remembers S a0  m10 (fun (m13 : Mm) =>
          f_X11_explores S a0 x2 (4000 : Int32) m13 (fun (r15 : Int32) (m14 : Mm) =>
          ((r15 = 0 →
          f_X11_means_J67 S a0 r15 m14 K) ∧
         (¬ r15 = 0 →
          f_X11_weighs S a0 x2 x1 (-1 : Int32) m14 (fun (m26 : Mm) =>
            f_X11_means_J67 S a0 r15 m26 K)))))) ∧
       (¬ r11 ≤ (1000000000000 : Int64) →
        K (-1 : Int32) m10))))))))))
set_option maxHeartbeats 4000000 in
set_option maxRecDepth 100000 in
theorem ok_X11_means {l : Launch} {g : Gg} {S : Ss} {a0 : Nat} {x1 : Int32} {x2 : Int32} {M : Mm} {K : Int32 → Mm → Prop} (hs0 : S[a0]? = some (10, 0)) (hf : f_X11_means S a0 x1 x2 M K) : MT l g S yX11_means cX11_means 4 (some .int) 8 [.ref (ad g a0), .int x1, .int x2] M (pI K) := by
  refine MT.of (by decide +kernel) (Nat.le_of_ble_eq_true rfl) ?_
  intro p e s m below meth c ls E hw hR hS hl
  have hl : lv_has ls 4 [(0, .ref (ad g a0)), (1, .int x1), (2, .int x2)] := hl
  generalize ([.ref (ad g a0), .int x1, .int x2] : List Value).toArray = args at E ⊢
  have E : EN p s m args meth c cX11_means 4 (some .int) RX11 g := E
  have hx := E.1
  have hb := E.2.1
  unfold f_X11_means at hf
  refine lv_aload_n hx hb dX11_means_0 rfl (lv_at hl 0 rfl) ?_
  refine lv_iconst (v := 0) hx hb dX11_means_1 (by decide) ?_
  refine hw_putI E hR hS hw cI10 hs0 0 (by decide) lfX11_3 rfl (Or.inl rfl) dX11_means_2 (fun m1 H locs em1 hR hS => ?_)
  replace hf := hf m1 em1
  refine lv_aload_n hx hb dX11_means_5 rfl (lv_at hl 0 rfl) ?_
  refine lv_iload_n hx hb dX11_means_6 rfl (lv_at hl 2 rfl) ?_
  refine hw_callV (d := 8) E hR hS (As := [.int x2]) (rest := []) cI10 hs0 rfl mcX11_isRun miX11_isRun lmX11_341 (ok_X11_isRun hs0 hf) rfl rfl (by decide) hl.1 (Nat.le_of_ble_eq_true rfl) dX11_means_7 (fun rr m2 H locs hp hR hS => ?_)
  obtain ⟨r3, rfl, hf⟩ := hp
  refine W.eq (g2 := F0 m 10 ls [.int r3]) rfl ?_
  refine lv_if_eq (tgt := 41) hx hb dX11_means_10 (by decide) (fun c4 => ?_) (fun c4 => ?_)
  · replace hf := hf.1 c4
    refine lv_iconst (v := -1) hx hb dX11_means_41 (by decide) ?_
    exact hw_iret E hR hS ⟨_, rfl, hf⟩ dX11_means_42
  · replace hf := hf.2 c4
    refine lv_iload_n hx hb dX11_means_13 rfl (lv_at hl 1 rfl) ?_
    refine lv_i2l hx hb dX11_means_14 rfl ?_
    refine lv_lconst (v := 0) hx hb dX11_means_15 (by decide) ?_
    refine lv_ldc2 (v := 99) hx hb E.2.2.2.2.1 (E.2.2.2.2.2.1 _ ljX11_406) dX11_means_16 ?_
    refine hw_callS (d := 8) E hR hS (As := [.long x1.toInt64, .long (0 : Int64), .long (99 : Int64)]) (rest := []) mcX11_in msX11_in lmX11_21 (ok_X11_in  hf) rfl rfl (by decide) hl.1 (Nat.le_of_ble_eq_true rfl) dX11_means_19 (fun rr m5 H locs hp hR hS => ?_)
    obtain ⟨r6, rfl, hf⟩ := hp
    refine W.eq (g2 := F0 m 22 ls [.int r6]) rfl ?_
    refine lv_if_eq (tgt := 41) hx hb dX11_means_22 (by decide) (fun c7 => ?_) (fun c7 => ?_)
    · replace hf := hf.1 c7
      refine lv_iconst (v := -1) hx hb dX11_means_41 (by decide) ?_
      exact hw_iret E hR hS ⟨_, rfl, hf⟩ dX11_means_42
    · replace hf := hf.2 c7
      refine lv_aload_n hx hb dX11_means_25 rfl (lv_at hl 0 rfl) ?_
      refine hw_callV (d := 8) E hR hS (As := []) (rest := []) cI10 hs0 rfl mcX11_width miX11_width lmX11_251 (ok_X11_width hs0 hf) rfl rfl (by decide) hl.1 (Nat.le_of_ble_eq_true rfl) dX11_means_26 (fun rr m8 H locs hp hR hS => ?_)
      obtain ⟨r9, rfl, hf⟩ := hp
      refine W.eq (g2 := F0 m 29 ls [.int r9]) rfl ?_
      refine lv_i2l hx hb dX11_means_29 rfl ?_
      refine lv_iload_n hx hb dX11_means_30 rfl (lv_at hl 2 rfl) ?_
      refine hw_callS (d := 8) E hR hS (As := [.long r9.toInt64, .int x2]) (rest := []) mcX11_power msX11_power lmX11_394 (ok_X11_power  hf) rfl rfl (by decide) hl.1 (Nat.le_of_ble_eq_true rfl) dX11_means_31 (fun rr m10 H locs hp hR hS => ?_)
      obtain ⟨r11, rfl, hf⟩ := hp
      refine W.eq (g2 := F0 m 34 ls [.long r11]) rfl ?_
      refine lv_ldc2 (v := 1000000000000) hx hb E.2.2.2.2.1 (E.2.2.2.2.2.1 _ ljX11_390) dX11_means_34 ?_
      refine hw_lif_le (tgt := 43) hx hb dX11_means_37 dX11_means_38 (by decide) (fun c12 => ?_) (fun c12 => ?_)
      · replace hf := hf.1 c12
        refine lv_aload_n hx hb dX11_means_43 rfl (lv_at hl 0 rfl) ?_
        refine hw_callV (d := 8) E hR hS (As := []) (rest := []) cI10 hs0 rfl mcX11_remembers miX11_remembers lmX11_344 (ok_X11_remembers hs0 hf) rfl rfl (by decide) hl.1 (Nat.le_of_ble_eq_true rfl) dX11_means_44 (fun rr m13 H locs hp hR hS => ?_)
        obtain ⟨rfl, hf⟩ := hp
        refine W.eq (g2 := F0 m 47 ls []) rfl ?_
        refine lv_aload_n hx hb dX11_means_47 rfl (lv_at hl 0 rfl) ?_
        refine lv_iload_n hx hb dX11_means_48 rfl (lv_at hl 2 rfl) ?_
        refine lv_sipush (v := 4000) hx hb dX11_means_49 (by decide) ?_
        refine hw_callV (d := 8) E hR hS (As := [.int x2, .int (4000 : Int32)]) (rest := []) cI10 hs0 rfl mcX11_explores miX11_explores lmX11_347 (ok_X11_explores hs0 hf) rfl rfl (by decide) hl.1 (Nat.le_of_ble_eq_true rfl) dX11_means_52 (fun rr m14 H locs hp hR hS => ?_)
        obtain ⟨r15, rfl, hf⟩ := hp
        refine W.eq (g2 := F0 m 55 ls [.int r15]) rfl ?_
        refine lv_istore_n (lv' := [(3, .int r15), (0, .ref (ad g a0)), (1, .int x1), (2, .int x2)]) hx hb dX11_means_55 rfl hl (by decide) rfl (fun ls hl => ?_)
        refine lv_iload_n hx hb dX11_means_56 rfl (lv_at hl 0 rfl) ?_
        refine lv_if_eq (tgt := 67) hx hb dX11_means_57 (by decide) (fun c16 => ?_) (fun c16 => ?_)
        · replace hf := hf.1 c16
          exact w_X11_means_J67 _ _ _ _ E hw hs0 hf _ _ _ hR hS (lv_sub hl [1, 0] rfl)
        · replace hf := hf.2 c16
          refine lv_aload_n hx hb dX11_means_60 rfl (lv_at hl 1 rfl) ?_
          refine lv_iload_n hx hb dX11_means_61 rfl (lv_at hl 3 rfl) ?_
          refine lv_iload_n hx hb dX11_means_62 rfl (lv_at hl 2 rfl) ?_
          refine lv_iconst (v := -1) hx hb dX11_means_63 (by decide) ?_
          refine hw_callV (d := 8) E hR hS (As := [.int x2, .int x1, .int (-1 : Int32)]) (rest := []) cI10 hs0 rfl mcX11_weighs miX11_weighs lmX11_398 (ok_X11_weighs hs0 hf) rfl rfl (by decide) hl.1 (Nat.le_of_ble_eq_true rfl) dX11_means_64 (fun rr m26 H locs hp hR hS => ?_)
          obtain ⟨rfl, hf⟩ := hp
          refine W.eq (g2 := F0 m 67 ls []) rfl ?_
          exact w_X11_means_J67 _ _ _ _ E hw hs0 hf _ _ _ hR hS (lv_sub hl [1, 0] rfl)
      · replace hf := hf.2 c12
        refine lv_iconst (v := -1) hx hb dX11_means_41 (by decide) ?_
        exact hw_iret E hR hS ⟨_, rfl, hf⟩ dX11_means_42
