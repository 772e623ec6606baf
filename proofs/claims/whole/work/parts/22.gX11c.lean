def f_X11_weight (S : Ss) (a0 : Nat) (x1 : Int32) (x2 : Int32) (x3 : Int32) (M : Mm) (K : Int32 → Mm → Prop) : Prop :=
  ∀ m1 : Mm, m1 = stI M a0 0 (0 : Int32) →
  f_X11_in S  x1.toInt64 (0 : Int64) (1 : Int64) m1 (fun (r3 : Int32) (m2 : Mm) =>
    ((r3 = 0 →
    K (-1 : Int32) m2) ∧
   (¬ r3 = 0 →
    f_X11_in S  x2.toInt64 (0 : Int64) (4 : Int64) m2 (fun (r6 : Int32) (m5 : Mm) =>
      ((r6 = 0 →
      K (-1 : Int32) m5) ∧
     (¬ r6 = 0 →
      f_X11_in S  x3.toInt64 (0 : Int64) (9 : Int64) m5 (fun (r9 : Int32) (m8 : Mm) =>
        ((r9 = 0 →
        K (-1 : Int32) m8) ∧
       (¬ r9 = 0 →
        ∃ b11 : Nat, m8.2.2 a0 58 = some b11 ∧
        ∃ n12 : Nat, shp S b11 = some (50, n12) ∧ vp_in (((5 : Int32) * x1) + x2) n12 ∧
        ∀ v13 : Int32, v13 = (m8.1 b11 (((5 : Int32) * x1) + x2).toNatClampNeg) →
        ∃ b14 : Nat, m8.2.2 a0 58 = some b14 ∧
        ∃ n15 : Nat, S[b14]? = some (50, n15) ∧ vp_in (((5 : Int32) * x1) + x2) n15 ∧
        ∀ m16 : Mm, m16 = stI m8 b14 (((5 : Int32) * x1) + x2).toNatClampNeg x3 →
        K v13 m16)))))))))
set_option maxHeartbeats 4000000 in
set_option maxRecDepth 100000 in
theorem ok_X11_weight {l : Launch} {g : Gg} {S : Ss} {a0 : Nat} {x1 : Int32} {x2 : Int32} {x3 : Int32} {M : Mm} {K : Int32 → Mm → Prop} (hs0 : S[a0]? = some (10, 0)) (hf : f_X11_weight S a0 x1 x2 x3 M K) : MT l g S yX11_weight cX11_weight 5 (some .int) 1 [.ref (ad g a0), .int x1, .int x2, .int x3] M (pI K) := by
  refine MT.of (by decide +kernel) (Nat.le_of_ble_eq_true rfl) ?_
  intro p e s m below meth c ls E hw hR hS hl
  have hl : lv_has ls 5 [(0, .ref (ad g a0)), (1, .int x1), (2, .int x2), (3, .int x3)] := hl
  generalize ([.ref (ad g a0), .int x1, .int x2, .int x3] : List Value).toArray = args at E ⊢
  have E : EN p s m args meth c cX11_weight 5 (some .int) RX11 g := E
  have hx := E.1
  have hb := E.2.1
  unfold f_X11_weight at hf
  refine lv_aload_n hx hb dX11_weight_0 rfl (lv_at hl 0 rfl) ?_
  refine lv_iconst (v := 0) hx hb dX11_weight_1 (by decide) ?_
  refine hw_putI E hR hS hw cI10 hs0 0 (by decide) lfX11_3 rfl (Or.inl rfl) dX11_weight_2 (fun m1 H locs em1 hR hS => ?_)
  replace hf := hf m1 em1
  refine lv_iload_n hx hb dX11_weight_5 rfl (lv_at hl 1 rfl) ?_
  refine lv_i2l hx hb dX11_weight_6 rfl ?_
  refine lv_lconst (v := 0) hx hb dX11_weight_7 (by decide) ?_
  refine lv_lconst (v := 1) hx hb dX11_weight_8 (by decide) ?_
  refine hw_callS (d := 1) E hR hS (As := [.long x1.toInt64, .long (0 : Int64), .long (1 : Int64)]) (rest := []) mcX11_in msX11_in lmX11_21 (ok_X11_in  hf) rfl rfl (by decide) hl.1 (Nat.le_of_ble_eq_true rfl) dX11_weight_9 (fun rr m2 H locs hp hR hS => ?_)
  obtain ⟨r3, rfl, hf⟩ := hp
  refine W.eq (g2 := F0 m 12 ls [.int r3]) rfl ?_
  refine lv_if_eq (tgt := 39) hx hb dX11_weight_12 (by decide) (fun c4 => ?_) (fun c4 => ?_)
  · replace hf := hf.1 c4
    refine lv_iconst (v := -1) hx hb dX11_weight_39 (by decide) ?_
    exact hw_iret E hR hS ⟨_, rfl, hf⟩ dX11_weight_40
  · replace hf := hf.2 c4
    refine lv_iload_n hx hb dX11_weight_15 rfl (lv_at hl 2 rfl) ?_
    refine lv_i2l hx hb dX11_weight_16 rfl ?_
    refine lv_lconst (v := 0) hx hb dX11_weight_17 (by decide) ?_
    refine lv_ldc2 (v := 4) hx hb E.2.2.2.2.1 (E.2.2.2.2.2.1 _ ljX11_237) dX11_weight_18 ?_
    refine hw_callS (d := 1) E hR hS (As := [.long x2.toInt64, .long (0 : Int64), .long (4 : Int64)]) (rest := []) mcX11_in msX11_in lmX11_21 (ok_X11_in  hf) rfl rfl (by decide) hl.1 (Nat.le_of_ble_eq_true rfl) dX11_weight_21 (fun rr m5 H locs hp hR hS => ?_)
    obtain ⟨r6, rfl, hf⟩ := hp
    refine W.eq (g2 := F0 m 24 ls [.int r6]) rfl ?_
    refine lv_if_eq (tgt := 39) hx hb dX11_weight_24 (by decide) (fun c7 => ?_) (fun c7 => ?_)
    · replace hf := hf.1 c7
      refine lv_iconst (v := -1) hx hb dX11_weight_39 (by decide) ?_
      exact hw_iret E hR hS ⟨_, rfl, hf⟩ dX11_weight_40
    · replace hf := hf.2 c7
      refine lv_iload_n hx hb dX11_weight_27 rfl (lv_at hl 3 rfl) ?_
      refine lv_i2l hx hb dX11_weight_28 rfl ?_
      refine lv_lconst (v := 0) hx hb dX11_weight_29 (by decide) ?_
      refine lv_ldc2 (v := 9) hx hb E.2.2.2.2.1 (E.2.2.2.2.2.1 _ ljX11_408) dX11_weight_30 ?_
      refine hw_callS (d := 1) E hR hS (As := [.long x3.toInt64, .long (0 : Int64), .long (9 : Int64)]) (rest := []) mcX11_in msX11_in lmX11_21 (ok_X11_in  hf) rfl rfl (by decide) hl.1 (Nat.le_of_ble_eq_true rfl) dX11_weight_33 (fun rr m8 H locs hp hR hS => ?_)
      obtain ⟨r9, rfl, hf⟩ := hp
      refine W.eq (g2 := F0 m 36 ls [.int r9]) rfl ?_
      refine lv_if_ne (tgt := 41) hx hb dX11_weight_36 (by decide) (fun c10 => ?_) (fun c10 => ?_)
      · replace hf := hf.2 c10
        refine lv_aload_n hx hb dX11_weight_41 rfl (lv_at hl 0 rfl) ?_
        obtain ⟨b11, hb11, hf⟩ := hf
        refine hw_getR E hR cI10 hs0 58 (by decide) lfX11_387 rfl hb11 dX11_weight_42 ?_
        refine lv_iconst (v := 5) hx hb dX11_weight_45 (by decide) ?_
        refine lv_iload_n hx hb dX11_weight_46 rfl (lv_at hl 1 rfl) ?_
        refine lv_imul hx hb dX11_weight_47 ?_
        refine lv_iload_n hx hb dX11_weight_48 rfl (lv_at hl 2 rfl) ?_
        refine lv_iadd hx hb dX11_weight_49 ?_
        obtain ⟨n12, hn12, in12, hf⟩ := hf
        refine hw_iald E hR hS hn12 in12 dX11_weight_50 ?_
        refine lv_topi (fun v13 ev13 => ?_)
        replace hf := hf v13 ev13
        refine lv_istore (lv' := [(4, .int v13), (0, .ref (ad g a0)), (1, .int x1), (2, .int x2), (3, .int x3)]) hx hb dX11_weight_51 hl (by decide) rfl (fun ls hl => ?_)
        refine lv_aload_n hx hb dX11_weight_53 rfl (lv_at hl 1 rfl) ?_
        obtain ⟨b14, hb14, hf⟩ := hf
        refine hw_getR E hR cI10 hs0 58 (by decide) lfX11_387 rfl hb14 dX11_weight_54 ?_
        refine lv_iconst (v := 5) hx hb dX11_weight_57 (by decide) ?_
        refine lv_iload_n hx hb dX11_weight_58 rfl (lv_at hl 2 rfl) ?_
        refine lv_imul hx hb dX11_weight_59 ?_
        refine lv_iload_n hx hb dX11_weight_60 rfl (lv_at hl 3 rfl) ?_
        refine lv_iadd hx hb dX11_weight_61 ?_
        refine lv_iload_n hx hb dX11_weight_62 rfl (lv_at hl 4 rfl) ?_
        obtain ⟨n15, hn15, in15, hf⟩ := hf
        refine hw_iast E hR hS hw hn15 in15 dX11_weight_63 (fun m16 H locs em16 hR hS => ?_)
        replace hf := hf m16 em16
        refine lv_iload hx hb dX11_weight_64 (lv_at hl 0 rfl) ?_
        exact hw_iret E hR hS ⟨_, rfl, hf⟩ dX11_weight_66
      · replace hf := hf.1 c10
        refine lv_iconst (v := -1) hx hb dX11_weight_39 (by decide) ?_
        exact hw_iret E hR hS ⟨_, rfl, hf⟩ dX11_weight_40
def f_X11_isWeightless_B4 (S : Ss) (a0 : Nat) (x1 : Int32) (x2 : Int32) (x3 : Int32) (M : Mm) (BK4 : Int32 → Int32 → Mm → Prop) (EK4 : Int32 → Mm → Prop) (K : Int32 → Mm → Prop) : Prop :=
  (((M.1 a0 27) < x3 →
    EK4 x2 M) ∧
   (¬ (M.1 a0 27) < x3 →
    ∃ b2 : Nat, M.2.2 a0 58 = some b2 ∧
    ∃ n3 : Nat, shp S b2 = some (50, n3) ∧ vp_in (((5 : Int32) * x1) + x3) n3 ∧
    ∀ v4 : Int32, v4 = (x2 + (M.1 b2 (((5 : Int32) * x1) + x3).toNatClampNeg)) →
    ∀ v5 : Int32, v5 = x3 + (1 : Int32) →
    BK4 v4 v5 M))
set_option maxHeartbeats 4000000 in
set_option maxRecDepth 100000 in
theorem w_X11_isWeightless_B4 {p : Program} {l : Launch} {e : Env} {s : State} {m : MethodId} {args : Array Value} {below : List Frame} {meth : Method} {c : Code} {g : Gg} {S : Ss} (a0 : Nat) (x1 : Int32) (x2 : Int32) (x3 : Int32) (M : Mm) (BK4 : Int32 → Int32 → Mm → Prop) (EK4 : Int32 → Mm → Prop) (K : Int32 → Mm → Prop) (E : EN p s m args meth c cX11_isWeightless 4 (some .boolean) RX11 g) (hw : ad g 100000 < s.heap.size) (hs0 : S[a0]? = some (10, 0)) (hBK4 : ∀ (x2' : Int32) (x3' : Int32) (M' : Mm) (H : Heap) (locs : List Loc) (ls : Array Slot), BK4 x2' x3' M' → RP g S M' H → va_S (gA g) s.heap H locs → lv_has ls 4 [(0, .ref (ad g a0)), (1, .int x1), (2, .int x2'), (3, .int x3')] → W p l e (rmD 0) s m args below meth c H locs 0 0 (MQ below (QA g S (pI K)) args s 0 0 (gA g)) (F0 m 4 ls [])) (hEK4 : ∀ (x2' : Int32) (M' : Mm) (H : Heap) (locs : List Loc) (ls : Array Slot), EK4 x2' M' → RP g S M' H → va_S (gA g) s.heap H locs → lv_has ls 4 [(2, .int x2')] → W p l e (rmD 0) s m args below meth c H locs 0 0 (MQ below (QA g S (pI K)) args s 0 0 (gA g)) (F0 m 31 ls [])) (hf : f_X11_isWeightless_B4 S a0 x1 x2 x3 M BK4 EK4 K) (H : Heap) (locs : List Loc) (ls : Array Slot) (hR : RP g S M H) (hS : va_S (gA g) s.heap H locs) (hl : lv_has ls 4 [(0, .ref (ad g a0)), (1, .int x1), (2, .int x2), (3, .int x3)]) : W p l e (rmD 0) s m args below meth c H locs 0 0 (MQ below (QA g S (pI K)) args s 0 0 (gA g)) (F0 m 4 ls []) := by
  have hx := E.1
  have hb := E.2.1
  unfold f_X11_isWeightless_B4 at hf
  refine lv_iload_n hx hb dX11_isWeightless_4 rfl (lv_at hl 3 rfl) ?_
  refine lv_aload_n hx hb dX11_isWeightless_5 rfl (lv_at hl 0 rfl) ?_
  refine hw_getI E hR cI10 hs0 27 (by decide) lfX11_239 rfl dX11_isWeightless_6 ?_
  refine lv_icmp_gt (tgt := 31) hx hb dX11_isWeightless_9 (by decide) (fun c1 => ?_) (fun c1 => ?_)
  · replace hf := hf.1 c1
    exact hEK4 _ _ _ _ _ hf hR hS (lv_sub hl [2] rfl)
  · replace hf := hf.2 c1
    refine lv_iload_n hx hb dX11_isWeightless_12 rfl (lv_at hl 2 rfl) ?_
    refine lv_aload_n hx hb dX11_isWeightless_13 rfl (lv_at hl 0 rfl) ?_
    obtain ⟨b2, hb2, hf⟩ := hf
    refine hw_getR E hR cI10 hs0 58 (by decide) lfX11_387 rfl hb2 dX11_isWeightless_14 ?_
    refine lv_iconst (v := 5) hx hb dX11_isWeightless_17 (by decide) ?_
    refine lv_iload_n hx hb dX11_isWeightless_18 rfl (lv_at hl 1 rfl) ?_
    refine lv_imul hx hb dX11_isWeightless_19 ?_
    refine lv_iload_n hx hb dX11_isWeightless_20 rfl (lv_at hl 3 rfl) ?_
    refine lv_iadd hx hb dX11_isWeightless_21 ?_
    obtain ⟨n3, hn3, in3, hf⟩ := hf
    refine hw_iald E hR hS hn3 in3 dX11_isWeightless_22 ?_
    refine lv_iadd hx hb dX11_isWeightless_23 ?_
    refine lv_topi (fun v4 ev4 => ?_)
    replace hf := hf v4 ev4
    refine lv_istore_n (lv' := [(2, .int v4), (0, .ref (ad g a0)), (1, .int x1), (3, .int x3)]) hx hb dX11_isWeightless_24 rfl hl (by decide) rfl (fun ls hl => ?_)
    obtain ⟨v5, ev5⟩ : ∃ y : Int32, y = x3 + (1 : Int32) := ⟨_, rfl⟩
    replace hf := hf v5 ev5
    refine lv_iinc (v := v5) (lv' := [(3, .int v5), (2, .int v4), (0, .ref (ad g a0)), (1, .int x1)]) hx hb dX11_isWeightless_25 hl (k := 3) rfl (by rw [ev5]; rfl) (by decide) rfl (fun ls hl => ?_)
    refine lv_goto (tgt := 4) hx hb dX11_isWeightless_28 (by decide) ?_
    exact hBK4 _ _ _ _ _ _ hf hR hS (lv_sub hl [2, 3, 1, 0] rfl)
def f_X11_isWeightless_L4 (S : Ss) (a0 : Nat) (x1 : Int32) (EK4 : Int32 → Mm → Prop) (K : Int32 → Mm → Prop) : Nat → Int32 → Int32 → Mm → Prop
  | 0, _, _, _ => False
  | n + 1, x2, x3, M => f_X11_isWeightless_B4 S a0 x1 x2 x3 M (fun (x2 : Int32) (x3 : Int32) (M : Mm) => f_X11_isWeightless_L4 S a0 x1 EK4 K n x2 x3 M) EK4 K
set_option maxHeartbeats 4000000 in
set_option maxRecDepth 100000 in
theorem w_X11_isWeightless_L4 {p : Program} {l : Launch} {e : Env} {s : State} {m : MethodId} {args : Array Value} {below : List Frame} {meth : Method} {c : Code} {g : Gg} {S : Ss} (a0 : Nat) (x1 : Int32) (EK4 : Int32 → Mm → Prop) (K : Int32 → Mm → Prop) (E : EN p s m args meth c cX11_isWeightless 4 (some .boolean) RX11 g) (hw : ad g 100000 < s.heap.size) (hs0 : S[a0]? = some (10, 0)) (hEK4 : ∀ (x2' : Int32) (M' : Mm) (H : Heap) (locs : List Loc) (ls : Array Slot), EK4 x2' M' → RP g S M' H → va_S (gA g) s.heap H locs → lv_has ls 4 [(2, .int x2')] → W p l e (rmD 0) s m args below meth c H locs 0 0 (MQ below (QA g S (pI K)) args s 0 0 (gA g)) (F0 m 31 ls [])) : ∀ (n : Nat) (x2 : Int32) (x3 : Int32) (M : Mm), f_X11_isWeightless_L4 S a0 x1 EK4 K n x2 x3 M → ∀ (H : Heap) (locs : List Loc) (ls : Array Slot), RP g S M H → va_S (gA g) s.heap H locs → lv_has ls 4 [(0, .ref (ad g a0)), (1, .int x1), (2, .int x2), (3, .int x3)] → W p l e (rmD 0) s m args below meth c H locs 0 0 (MQ below (QA g S (pI K)) args s 0 0 (gA g)) (F0 m 4 ls []) := by
  intro n
  induction n with
  | zero => intro x2 x3 M hf; exact hf.elim
  | succ n ih =>
    intro x2 x3 M hf H locs ls hR hS hl
    exact w_X11_isWeightless_B4 _ _ _ _ _ _ _ _ E hw hs0 (fun _ _ M H locs ls h hR hS hl => ih _ _ M h H locs ls hR hS hl) hEK4 hf H locs ls hR hS hl
def f_X11_isWeightless (S : Ss) (a0 : Nat) (x1 : Int32) (M : Mm) (K : Int32 → Mm → Prop) : Prop :=
  ∃ n9 : Nat, f_X11_isWeightless_L4 S a0 x1 (fun (v6 : Int32) (m7 : Mm) =>
    ((v6 = 0 →
      K (1 : Int32) m7) ∧
     (¬ v6 = 0 →
      K (0 : Int32) m7))) K n9 (0 : Int32) (0 : Int32) M
set_option maxHeartbeats 4000000 in
set_option maxRecDepth 100000 in
theorem ok_X11_isWeightless {l : Launch} {g : Gg} {S : Ss} {a0 : Nat} {x1 : Int32} {M : Mm} {K : Int32 → Mm → Prop} (hs0 : S[a0]? = some (10, 0)) (hf : f_X11_isWeightless S a0 x1 M K) : MT l g S yX11_isWeightless cX11_isWeightless 4 (some .boolean) 0 [.ref (ad g a0), .int x1] M (pI K) := by
  refine MT.of (by decide +kernel) (Nat.le_of_ble_eq_true rfl) ?_
  intro p e s m below meth c ls E hw hR hS hl
  have hl : lv_has ls 4 [(0, .ref (ad g a0)), (1, .int x1)] := hl
  generalize ([.ref (ad g a0), .int x1] : List Value).toArray = args at E ⊢
  have E : EN p s m args meth c cX11_isWeightless 4 (some .boolean) RX11 g := E
  have hx := E.1
  have hb := E.2.1
  unfold f_X11_isWeightless at hf
  refine lv_iconst (v := 0) hx hb dX11_isWeightless_0 (by decide) ?_
  refine lv_istore_n (lv' := [(2, .int (0 : Int32)), (0, .ref (ad g a0)), (1, .int x1)]) hx hb dX11_isWeightless_1 rfl hl (by decide) rfl (fun ls hl => ?_)
  refine lv_iconst (v := 0) hx hb dX11_isWeightless_2 (by decide) ?_
  refine lv_istore_n (lv' := [(3, .int (0 : Int32)), (2, .int (0 : Int32)), (0, .ref (ad g a0)), (1, .int x1)]) hx hb dX11_isWeightless_3 rfl hl (by decide) rfl (fun ls hl => ?_)
  obtain ⟨n9, hf⟩ := hf
  refine w_X11_isWeightless_L4 _ _ _ _ E hw hs0 ?_ n9 _ _ _ hf _ _ _ hR hS (lv_sub hl [2, 3, 1, 0] rfl)
  intro v6 m7 H locs ls hf hR hS hl
  refine lv_iload_n hx hb dX11_isWeightless_31 rfl (lv_at hl 0 rfl) ?_
  refine lv_if_ne (tgt := 39) hx hb dX11_isWeightless_32 (by decide) (fun c8 => ?_) (fun c8 => ?_)
  · replace hf := hf.2 c8
    refine lv_iconst (v := 0) hx hb dX11_isWeightless_39 (by decide) ?_
    exact hw_zret E hR hS (by decide) ⟨_, rfl, hf⟩ dX11_isWeightless_40
  · replace hf := hf.1 c8
    refine lv_iconst (v := 1) hx hb dX11_isWeightless_35 (by decide) ?_
    refine lv_goto (tgt := 40) hx hb dX11_isWeightless_36 (by decide) ?_
    exact hw_zret E hR hS (by decide) ⟨_, rfl, hf⟩ dX11_isWeightless_40
def f_X11_allWeights_B5 (S : Ss) (a0 : Nat) (x1 : Int32) (x2 : Int32) (x3 : Int64) (x5 : Int32) (M : Mm) (BK5 : Int64 → Int32 → Mm → Prop) (EK5 : Int64 → Mm → Prop) (K : Int64 → Mm → Prop) : Prop :=
  (((M.1 a0 27) < x5 →
    EK5 x3 M) ∧
   (¬ (M.1 a0 27) < x5 →
    ∃ b2 : Nat, M.2.2 a0 58 = some b2 ∧
    ∃ n3 : Nat, shp S b2 = some (50, n3) ∧ vp_in (((5 : Int32) * x1) + x5) n3 ∧
    ∀ v4 : Int64, v4 = (x3 + (M.1 b2 (((5 : Int32) * x1) + x5).toNatClampNeg).toInt64) →
    ∀ v5 : Int32, v5 = x5 + (1 : Int32) →
    BK5 v4 v5 M))
set_option maxHeartbeats 4000000 in
set_option maxRecDepth 100000 in
theorem w_X11_allWeights_B5 {p : Program} {l : Launch} {e : Env} {s : State} {m : MethodId} {args : Array Value} {below : List Frame} {meth : Method} {c : Code} {g : Gg} {S : Ss} (a0 : Nat) (x1 : Int32) (x2 : Int32) (x3 : Int64) (x5 : Int32) (M : Mm) (BK5 : Int64 → Int32 → Mm → Prop) (EK5 : Int64 → Mm → Prop) (K : Int64 → Mm → Prop) (E : EN p s m args meth c cX11_allWeights 6 (some .long) RX11 g) (hw : ad g 100000 < s.heap.size) (hs0 : S[a0]? = some (10, 0)) (hBK5 : ∀ (x3' : Int64) (x5' : Int32) (M' : Mm) (H : Heap) (locs : List Loc) (ls : Array Slot), BK5 x3' x5' M' → RP g S M' H → va_S (gA g) s.heap H locs → lv_has ls 6 [(0, .ref (ad g a0)), (1, .int x1), (2, .int x2), (3, .long x3'), (5, .int x5')] → W p l e (rmD 1) s m args below meth c H locs 0 0 (MQ below (QA g S (pJ K)) args s 0 0 (gA g)) (F0 m 5 ls [])) (hEK5 : ∀ (x3' : Int64) (M' : Mm) (H : Heap) (locs : List Loc) (ls : Array Slot), EK5 x3' M' → RP g S M' H → va_S (gA g) s.heap H locs → lv_has ls 6 [(0, .ref (ad g a0)), (2, .int x2), (3, .long x3')] → W p l e (rmD 1) s m args below meth c H locs 0 0 (MQ below (QA g S (pJ K)) args s 0 0 (gA g)) (F0 m 35 ls [])) (hf : f_X11_allWeights_B5 S a0 x1 x2 x3 x5 M BK5 EK5 K) (H : Heap) (locs : List Loc) (ls : Array Slot) (hR : RP g S M H) (hS : va_S (gA g) s.heap H locs) (hl : lv_has ls 6 [(0, .ref (ad g a0)), (1, .int x1), (2, .int x2), (3, .long x3), (5, .int x5)]) : W p l e (rmD 1) s m args below meth c H locs 0 0 (MQ below (QA g S (pJ K)) args s 0 0 (gA g)) (F0 m 5 ls []) := by
  have hx := E.1
  have hb := E.2.1
  unfold f_X11_allWeights_B5 at hf
  refine lv_iload hx hb dX11_allWeights_5 (lv_at hl 4 rfl) ?_
  refine lv_aload_n hx hb dX11_allWeights_7 rfl (lv_at hl 0 rfl) ?_
  refine hw_getI E hR cI10 hs0 27 (by decide) lfX11_239 rfl dX11_allWeights_8 ?_
  refine lv_icmp_gt (tgt := 35) hx hb dX11_allWeights_11 (by decide) (fun c1 => ?_) (fun c1 => ?_)
  · replace hf := hf.1 c1
    exact hEK5 _ _ _ _ _ hf hR hS (lv_sub hl [0, 2, 3] rfl)
  · replace hf := hf.2 c1
    refine lv_lload_n hx hb dX11_allWeights_14 rfl (lv_at hl 3 rfl) ?_
    refine lv_aload_n hx hb dX11_allWeights_15 rfl (lv_at hl 0 rfl) ?_
    obtain ⟨b2, hb2, hf⟩ := hf
    refine hw_getR E hR cI10 hs0 58 (by decide) lfX11_387 rfl hb2 dX11_allWeights_16 ?_
    refine lv_iconst (v := 5) hx hb dX11_allWeights_19 (by decide) ?_
    refine lv_iload_n hx hb dX11_allWeights_20 rfl (lv_at hl 1 rfl) ?_
    refine lv_imul hx hb dX11_allWeights_21 ?_
    refine lv_iload hx hb dX11_allWeights_22 (lv_at hl 4 rfl) ?_
    refine lv_iadd hx hb dX11_allWeights_24 ?_
    obtain ⟨n3, hn3, in3, hf⟩ := hf
    refine hw_iald E hR hS hn3 in3 dX11_allWeights_25 ?_
    refine lv_i2l hx hb dX11_allWeights_26 rfl ?_
    refine lv_ladd hx hb dX11_allWeights_27 ?_
    refine lv_topl (fun v4 ev4 => ?_)
    replace hf := hf v4 ev4
    refine lv_lstore_n (lv' := [(3, .long v4), (0, .ref (ad g a0)), (1, .int x1), (2, .int x2), (5, .int x5)]) hx hb dX11_allWeights_28 rfl hl (by decide) rfl (fun ls hl => ?_)
    obtain ⟨v5, ev5⟩ : ∃ y : Int32, y = x5 + (1 : Int32) := ⟨_, rfl⟩
    replace hf := hf v5 ev5
    refine lv_iinc (v := v5) (lv' := [(5, .int v5), (3, .long v4), (0, .ref (ad g a0)), (1, .int x1), (2, .int x2)]) hx hb dX11_allWeights_29 hl (k := 4) rfl (by rw [ev5]; rfl) (by decide) rfl (fun ls hl => ?_)
    refine lv_goto (tgt := 5) hx hb dX11_allWeights_32 (by decide) ?_
    exact hBK5 _ _ _ _ _ _ hf hR hS (lv_sub hl [2, 3, 4, 1, 0] rfl)
def f_X11_allWeights_L5 (S : Ss) (a0 : Nat) (x1 : Int32) (x2 : Int32) (EK5 : Int64 → Mm → Prop) (K : Int64 → Mm → Prop) : Nat → Int64 → Int32 → Mm → Prop
  | 0, _, _, _ => False
  | n + 1, x3, x5, M => f_X11_allWeights_B5 S a0 x1 x2 x3 x5 M (fun (x3 : Int64) (x5 : Int32) (M : Mm) => f_X11_allWeights_L5 S a0 x1 x2 EK5 K n x3 x5 M) EK5 K
set_option maxHeartbeats 4000000 in
set_option maxRecDepth 100000 in
theorem w_X11_allWeights_L5 {p : Program} {l : Launch} {e : Env} {s : State} {m : MethodId} {args : Array Value} {below : List Frame} {meth : Method} {c : Code} {g : Gg} {S : Ss} (a0 : Nat) (x1 : Int32) (x2 : Int32) (EK5 : Int64 → Mm → Prop) (K : Int64 → Mm → Prop) (E : EN p s m args meth c cX11_allWeights 6 (some .long) RX11 g) (hw : ad g 100000 < s.heap.size) (hs0 : S[a0]? = some (10, 0)) (hEK5 : ∀ (x3' : Int64) (M' : Mm) (H : Heap) (locs : List Loc) (ls : Array Slot), EK5 x3' M' → RP g S M' H → va_S (gA g) s.heap H locs → lv_has ls 6 [(0, .ref (ad g a0)), (2, .int x2), (3, .long x3')] → W p l e (rmD 1) s m args below meth c H locs 0 0 (MQ below (QA g S (pJ K)) args s 0 0 (gA g)) (F0 m 35 ls [])) : ∀ (n : Nat) (x3 : Int64) (x5 : Int32) (M : Mm), f_X11_allWeights_L5 S a0 x1 x2 EK5 K n x3 x5 M → ∀ (H : Heap) (locs : List Loc) (ls : Array Slot), RP g S M H → va_S (gA g) s.heap H locs → lv_has ls 6 [(0, .ref (ad g a0)), (1, .int x1), (2, .int x2), (3, .long x3), (5, .int x5)] → W p l e (rmD 1) s m args below meth c H locs 0 0 (MQ below (QA g S (pJ K)) args s 0 0 (gA g)) (F0 m 5 ls []) := by
  intro n
  induction n with
  | zero => intro x3 x5 M hf; exact hf.elim
  | succ n ih =>
    intro x3 x5 M hf H locs ls hR hS hl
    exact w_X11_allWeights_B5 _ _ _ _ _ _ _ _ _ E hw hs0 (fun _ _ M H locs ls h hR hS hl => ih _ _ M h H locs ls hR hS hl) hEK5 hf H locs ls hR hS hl
def f_X11_allWeights (S : Ss) (a0 : Nat) (x1 : Int32) (x2 : Int32) (M : Mm) (K : Int64 → Mm → Prop) : Prop :=
  ∃ n10 : Nat, f_X11_allWeights_L5 S a0 x1 x2 (fun (v6 : Int64) (m7 : Mm) =>
    f_X11_power S  ((m7.1 a0 15).toInt64 * v6) x2 m7 (fun (r9 : Int64) (m8 : Mm) =>
      K r9 m8)) K n10 (0 : Int64) (0 : Int32) M
set_option maxHeartbeats 4000000 in
set_option maxRecDepth 100000 in
theorem ok_X11_allWeights {l : Launch} {g : Gg} {S : Ss} {a0 : Nat} {x1 : Int32} {x2 : Int32} {M : Mm} {K : Int64 → Mm → Prop} (hs0 : S[a0]? = some (10, 0)) (hf : f_X11_allWeights S a0 x1 x2 M K) : MT l g S yX11_allWeights cX11_allWeights 6 (some .long) 1 [.ref (ad g a0), .int x1, .int x2] M (pJ K) := by
  refine MT.of (by decide +kernel) (Nat.le_of_ble_eq_true rfl) ?_
  intro p e s m below meth c ls E hw hR hS hl
  have hl : lv_has ls 6 [(0, .ref (ad g a0)), (1, .int x1), (2, .int x2)] := hl
  generalize ([.ref (ad g a0), .int x1, .int x2] : List Value).toArray = args at E ⊢
  have E : EN p s m args meth c cX11_allWeights 6 (some .long) RX11 g := E
  have hx := E.1
  have hb := E.2.1
  unfold f_X11_allWeights at hf
  refine lv_lconst (v := 0) hx hb dX11_allWeights_0 (by decide) ?_
  refine lv_lstore_n (lv' := [(3, .long (0 : Int64)), (0, .ref (ad g a0)), (1, .int x1), (2, .int x2)]) hx hb dX11_allWeights_1 rfl hl (by decide) rfl (fun ls hl => ?_)
  refine lv_iconst (v := 0) hx hb dX11_allWeights_2 (by decide) ?_
  refine lv_istore (lv' := [(5, .int (0 : Int32)), (3, .long (0 : Int64)), (0, .ref (ad g a0)), (1, .int x1), (2, .int x2)]) hx hb dX11_allWeights_3 hl (by decide) rfl (fun ls hl => ?_)
  obtain ⟨n10, hf⟩ := hf
  refine w_X11_allWeights_L5 _ _ _ _ _ E hw hs0 ?_ n10 _ _ _ hf _ _ _ hR hS (lv_sub hl [2, 3, 4, 1, 0] rfl)
  intro v6 m7 H locs ls hf hR hS hl
  refine lv_aload_n hx hb dX11_allWeights_35 rfl (lv_at hl 0 rfl) ?_
  refine hw_getI E hR cI10 hs0 15 (by decide) lfX11_121 rfl dX11_allWeights_36 ?_
  refine lv_i2l hx hb dX11_allWeights_39 rfl ?_
  refine lv_lload_n hx hb dX11_allWeights_40 rfl (lv_at hl 2 rfl) ?_
  refine lv_lmul hx hb dX11_allWeights_41 ?_
  refine lv_iload_n hx hb dX11_allWeights_42 rfl (lv_at hl 1 rfl) ?_
  refine hw_callS (d := 1) E hR hS (As := [.long ((m7.1 a0 15).toInt64 * v6), .int x2]) (rest := []) mcX11_power msX11_power lmX11_394 (ok_X11_power  hf) rfl rfl (by decide) hl.1 (Nat.le_of_ble_eq_true rfl) dX11_allWeights_43 (fun rr m8 H locs hp hR hS => ?_)
  obtain ⟨r9, rfl, hf⟩ := hp
  refine W.eq (g2 := F0 m 46 ls [.long r9]) rfl ?_
  exact hw_lret E hR hS ⟨_, rfl, hf⟩ dX11_allWeights_46
def f_X11_common_B6 (S : Ss) (x4 : Int64) (x6 : Int64) (M : Mm) (BK6 : Int64 → Int64 → Mm → Prop) (EK6 : Int64 → Mm → Prop) (K : Int64 → Mm → Prop) : Prop :=
  ((x6 = (0 : Int64) →
    EK6 x4 M) ∧
   (¬ x6 = (0 : Int64) →
    ¬ x6 = 0 ∧
    ∀ v3 : Int64, v3 = (x4 - x4 / x6 * x6) →
    BK6 x6 v3 M))
set_option maxHeartbeats 4000000 in
set_option maxRecDepth 100000 in
theorem w_X11_common_B6 {p : Program} {l : Launch} {e : Env} {s : State} {m : MethodId} {args : Array Value} {below : List Frame} {meth : Method} {c : Code} {g : Gg} {S : Ss} (x4 : Int64) (x6 : Int64) (M : Mm) (BK6 : Int64 → Int64 → Mm → Prop) (EK6 : Int64 → Mm → Prop) (K : Int64 → Mm → Prop) (E : EN p s m args meth c cX11_common 10 (some .long) RX11 g) (hw : ad g 100000 < s.heap.size) (hBK6 : ∀ (x4' : Int64) (x6' : Int64) (M' : Mm) (H : Heap) (locs : List Loc) (ls : Array Slot), BK6 x4' x6' M' → RP g S M' H → va_S (gA g) s.heap H locs → lv_has ls 10 [(4, .long x4'), (6, .long x6')] → W p l e (rmD 0) s m args below meth c H locs 0 0 (MQ below (QA g S (pJ K)) args s 0 0 (gA g)) (F0 m 6 ls [])) (hEK6 : ∀ (x4' : Int64) (M' : Mm) (H : Heap) (locs : List Loc) (ls : Array Slot), EK6 x4' M' → RP g S M' H → va_S (gA g) s.heap H locs → lv_has ls 10 [(4, .long x4')] → W p l e (rmD 0) s m args below meth c H locs 0 0 (MQ below (QA g S (pJ K)) args s 0 0 (gA g)) (F0 m 31 ls [])) (hf : f_X11_common_B6 S x4 x6 M BK6 EK6 K) (H : Heap) (locs : List Loc) (ls : Array Slot) (hR : RP g S M H) (hS : va_S (gA g) s.heap H locs) (hl : lv_has ls 10 [(4, .long x4), (6, .long x6)]) : W p l e (rmD 0) s m args below meth c H locs 0 0 (MQ below (QA g S (pJ K)) args s 0 0 (gA g)) (F0 m 6 ls []) := by
  have hx := E.1
  have hb := E.2.1
  unfold f_X11_common_B6 at hf
  refine lv_lload hx hb dX11_common_6 (lv_at hl 1 rfl) ?_
  refine lv_lconst (v := 0) hx hb dX11_common_8 (by decide) ?_
  refine hw_lif_eq (tgt := 31) hx hb dX11_common_9 dX11_common_10 (by decide) (fun c1 => ?_) (fun c1 => ?_)
  · replace hf := hf.1 c1
    exact hEK6 _ _ _ _ _ hf hR hS (lv_sub hl [0] rfl)
  · replace hf := hf.2 c1
    refine lv_lload hx hb dX11_common_13 (lv_at hl 0 rfl) ?_
    refine lv_lload hx hb dX11_common_15 (lv_at hl 1 rfl) ?_
    obtain ⟨h2, hf⟩ := hf
    refine lv_lrem hx hb dX11_common_17 h2 ?_
    refine lv_topl (fun v3 ev3 => ?_)
    replace hf := hf v3 ev3
    refine lv_lstore (lv' := [(8, .long v3), (4, .long x4), (6, .long x6)]) hx hb dX11_common_18 hl (by decide) rfl (fun ls hl => ?_)
    refine lv_lload hx hb dX11_common_20 (lv_at hl 2 rfl) ?_
    refine lv_lstore (lv' := [(4, .long x6), (8, .long v3), (6, .long x6)]) hx hb dX11_common_22 hl (by decide) rfl (fun ls hl => ?_)
    refine lv_lload hx hb dX11_common_24 (lv_at hl 1 rfl) ?_
    refine lv_lstore (lv' := [(6, .long v3), (4, .long x6), (8, .long v3)]) hx hb dX11_common_26 hl (by decide) rfl (fun ls hl => ?_)
    refine lv_goto (tgt := 6) hx hb dX11_common_28 (by decide) ?_
    exact hBK6 _ _ _ _ _ _ hf hR hS (lv_sub hl [1, 0] rfl)
def f_X11_common_L6 (S : Ss) (EK6 : Int64 → Mm → Prop) (K : Int64 → Mm → Prop) : Nat → Int64 → Int64 → Mm → Prop
  | 0, _, _, _ => False
  | n + 1, x4, x6, M => f_X11_common_B6 S x4 x6 M (fun (x4 : Int64) (x6 : Int64) (M : Mm) => f_X11_common_L6 S EK6 K n x4 x6 M) EK6 K
set_option maxHeartbeats 4000000 in
set_option maxRecDepth 100000 in
theorem w_X11_common_L6 {p : Program} {l : Launch} {e : Env} {s : State} {m : MethodId} {args : Array Value} {below : List Frame} {meth : Method} {c : Code} {g : Gg} {S : Ss} (EK6 : Int64 → Mm → Prop) (K : Int64 → Mm → Prop) (E : EN p s m args meth c cX11_common 10 (some .long) RX11 g) (hw : ad g 100000 < s.heap.size) (hEK6 : ∀ (x4' : Int64) (M' : Mm) (H : Heap) (locs : List Loc) (ls : Array Slot), EK6 x4' M' → RP g S M' H → va_S (gA g) s.heap H locs → lv_has ls 10 [(4, .long x4')] → W p l e (rmD 0) s m args below meth c H locs 0 0 (MQ below (QA g S (pJ K)) args s 0 0 (gA g)) (F0 m 31 ls [])) : ∀ (n : Nat) (x4 : Int64) (x6 : Int64) (M : Mm), f_X11_common_L6 S EK6 K n x4 x6 M → ∀ (H : Heap) (locs : List Loc) (ls : Array Slot), RP g S M H → va_S (gA g) s.heap H locs → lv_has ls 10 [(4, .long x4), (6, .long x6)] → W p l e (rmD 0) s m args below meth c H locs 0 0 (MQ below (QA g S (pJ K)) args s 0 0 (gA g)) (F0 m 6 ls []) := by
  intro n
  induction n with
  | zero => intro x4 x6 M hf; exact hf.elim
  | succ n ih =>
    intro x4 x6 M hf H locs ls hR hS hl
    exact w_X11_common_B6 _ _ _ _ _ _ E hw (fun _ _ M H locs ls h hR hS hl => ih _ _ M h H locs ls hR hS hl) hEK6 hf H locs ls hR hS hl
def f_X11_common (S : Ss) (x0 : Int64) (x2 : Int64) (M : Mm) (K : Int64 → Mm → Prop) : Prop :=
  ∃ n6 : Nat, f_X11_common_L6 S (fun (v4 : Int64) (m5 : Mm) =>
    K v4 m5) K n6 x0 x2 M
set_option maxHeartbeats 4000000 in
set_option maxRecDepth 100000 in
theorem ok_X11_common {l : Launch} {g : Gg} {S : Ss} {x0 : Int64} {x2 : Int64} {M : Mm} {K : Int64 → Mm → Prop} (hf : f_X11_common S x0 x2 M K) : MT l g S yX11_common cX11_common 10 (some .long) 0 [.long x0, .long x2] M (pJ K) := by
  refine MT.of (by decide +kernel) (Nat.le_of_ble_eq_true rfl) ?_
  intro p e s m below meth c ls E hw hR hS hl
  have hl : lv_has ls 10 [(0, .long x0), (2, .long x2)] := hl
  generalize ([.long x0, .long x2] : List Value).toArray = args at E ⊢
  have E : EN p s m args meth c cX11_common 10 (some .long) RX11 g := E
  have hx := E.1
  have hb := E.2.1
  unfold f_X11_common at hf
  refine lv_lload_n hx hb dX11_common_0 rfl (lv_at hl 0 rfl) ?_
  refine lv_lstore (lv' := [(4, .long x0), (0, .long x0), (2, .long x2)]) hx hb dX11_common_1 hl (by decide) rfl (fun ls hl => ?_)
  refine lv_lload_n hx hb dX11_common_3 rfl (lv_at hl 2 rfl) ?_
  refine lv_lstore (lv' := [(6, .long x2), (4, .long x0), (0, .long x0), (2, .long x2)]) hx hb dX11_common_4 hl (by decide) rfl (fun ls hl => ?_)
  obtain ⟨n6, hf⟩ := hf
  refine w_X11_common_L6 _ _ E hw ?_ n6 _ _ _ hf _ _ _ hR hS (lv_sub hl [1, 0] rfl)
  intro v4 m5 H locs ls hf hR hS hl
  refine lv_lload hx hb dX11_common_31 (lv_at hl 0 rfl) ?_
  exact hw_lret E hR hS ⟨_, rfl, hf⟩ dX11_common_33
def f_X11_odds_J87 (S : Ss) (x3 : Int32) (M : Mm) (K : Int32 → Mm → Prop) : Prop :=
  ((x3 = 0 →
    K (-3 : Int32) M) ∧
   (¬ x3 = 0 →
    K (-2 : Int32) M))
set_option maxHeartbeats 4000000 in
set_option maxRecDepth 100000 in
theorem w_X11_odds_J87 {p : Program} {l : Launch} {e : Env} {s : State} {m : MethodId} {args : Array Value} {below : List Frame} {meth : Method} {c : Code} {g : Gg} {S : Ss} (x3 : Int32) (M : Mm) (K : Int32 → Mm → Prop) (E : EN p s m args meth c cX11_odds 10 (some .int) RX11 g) (hw : ad g 100000 < s.heap.size) (hf : f_X11_odds_J87 S x3 M K) (H : Heap) (locs : List Loc) (ls : Array Slot) (hR : RP g S M H) (hS : va_S (gA g) s.heap H locs) (hl : lv_has ls 10 [(3, .int x3)]) : W p l e (rmD 8) s m args below meth c H locs 0 0 (MQ below (QA g S (pI K)) args s 0 0 (gA g)) (F0 m 87 ls []) := by
  have hx := E.1
  have hb := E.2.1
  unfold f_X11_odds_J87 at hf
  refine lv_iload_n hx hb dX11_odds_87 rfl (lv_at hl 0 rfl) ?_
  refine lv_if_eq (tgt := 96) hx hb dX11_odds_88 (by decide) (fun c19 => ?_) (fun c19 => ?_)
  · replace hf := hf.1 c19
    refine lv_bipush (v := -3) hx hb dX11_odds_96 (by decide) ?_
    exact hw_iret E hR hS ⟨_, rfl, hf⟩ dX11_odds_98
  · replace hf := hf.2 c19
    refine lv_bipush (v := -2) hx hb dX11_odds_91 (by decide) ?_
    refine lv_goto (tgt := 98) hx hb dX11_odds_93 (by decide) ?_
    exact hw_iret E hR hS ⟨_, rfl, hf⟩ dX11_odds_98
def f_X11_odds_J63 (S : Ss) (a0 : Nat) (x1 : Int32) (x2 : Int32) (x3 : Int32) (M : Mm) (K : Int32 → Mm → Prop) : Prop :=
  f_X11_comesBack S a0  M (fun (m15 : Mm) =>
    f_X11_allWeights S a0 x1 x2 m15 (fun (r17 : Int64) (m16 : Mm) =>
    ((x3 = 0 →
    f_X11_odds_J87 S x3 m16 K) ∧
   (¬ x3 = 0 →
    f_X11_isWeightless S a0 x1 m16 (fun (r21 : Int32) (m20 : Mm) =>
      ((r21 = 0 →
      f_X11_sumOf S a0 (1 : Int32) (1 : Int32) m20 (fun (r24 : Int64) (m23 : Mm) =>
        f_X11_common S  r24 r17 m23 (fun (r26 : Int64) (m25 : Mm) =>
        ∀ m27 : Mm, m27 = stI m25 a0 1 (0 : Int32) →
      ¬ r26 = 0 ∧
      f_X11_enters S a0 (r24 / r26) m27 (fun (m29 : Mm) =>
        ¬ r26 = 0 ∧
      f_X11_enters S a0 (r17 / r26) m29 (fun (m31 : Mm) =>
        K (0 : Int32) m31))))) ∧
     (¬ r21 = 0 →
      f_X11_odds_J87 S x3 m20 K)))))))
set_option maxHeartbeats 4000000 in
set_option maxRecDepth 100000 in
theorem w_X11_odds_J63 {p : Program} {l : Launch} {e : Env} {s : State} {m : MethodId} {args : Array Value} {below : List Frame} {meth : Method} {c : Code} {g : Gg} {S : Ss} (a0 : Nat) (x1 : Int32) (x2 : Int32) (x3 : Int32) (M : Mm) (K : Int32 → Mm → Prop) (E : EN p s m args meth c cX11_odds 10 (some .int) RX11 g) (hw : ad g 100000 < s.heap.size) (hs0 : S[a0]? = some (10, 0)) (hf : f_X11_odds_J63 S a0 x1 x2 x3 M K) (H : Heap) (locs : List Loc) (ls : Array Slot) (hR : RP g S M H) (hS : va_S (gA g) s.heap H locs) (hl : lv_has ls 10 [(0, .ref (ad g a0)), (1, .int x1), (2, .int x2), (3, .int x3)]) : W p l e (rmD 8) s m args below meth c H locs 0 0 (MQ below (QA g S (pI K)) args s 0 0 (gA g)) (F0 m 63 ls []) := by
  have hx := E.1
  have hb := E.2.1
  unfold f_X11_odds_J63 at hf
  refine lv_aload_n hx hb dX11_odds_63 rfl (lv_at hl 0 rfl) ?_
  refine hw_callV (d := 8) E hR hS (As := []) (rest := []) cI10 hs0 rfl mcX11_comesBack miX11_comesBack lmX11_350 (ok_X11_comesBack hs0 hf) rfl rfl (by decide) hl.1 (Nat.le_of_ble_eq_true rfl) dX11_odds_64 (fun rr m15 H locs hp hR hS => ?_)
  obtain ⟨rfl, hf⟩ := hp
  refine W.eq (g2 := F0 m 67 ls []) rfl ?_
  refine lv_aload_n hx hb dX11_odds_67 rfl (lv_at hl 0 rfl) ?_
  refine lv_iload_n hx hb dX11_odds_68 rfl (lv_at hl 1 rfl) ?_
  refine lv_iload_n hx hb dX11_odds_69 rfl (lv_at hl 2 rfl) ?_
  refine hw_callV (d := 8) E hR hS (As := [.int x1, .int x2]) (rest := []) cI10 hs0 rfl mcX11_allWeights miX11_allWeights lmX11_410 (ok_X11_allWeights hs0 hf) rfl rfl (by decide) hl.1 (Nat.le_of_ble_eq_true rfl) dX11_odds_70 (fun rr m16 H locs hp hR hS => ?_)
  obtain ⟨r17, rfl, hf⟩ := hp
  refine W.eq (g2 := F0 m 73 ls [.long r17]) rfl ?_
  refine lv_lstore (lv' := [(4, .long r17), (0, .ref (ad g a0)), (1, .int x1), (2, .int x2), (3, .int x3)]) hx hb dX11_odds_73 hl (by decide) rfl (fun ls hl => ?_)
  refine lv_iload_n hx hb dX11_odds_75 rfl (lv_at hl 4 rfl) ?_
  refine lv_if_eq (tgt := 87) hx hb dX11_odds_76 (by decide) (fun c18 => ?_) (fun c18 => ?_)
  · replace hf := hf.1 c18
    exact w_X11_odds_J87 _ _ _ E hw hf _ _ _ hR hS (lv_sub hl [4] rfl)
  · replace hf := hf.2 c18
    refine lv_aload_n hx hb dX11_odds_79 rfl (lv_at hl 1 rfl) ?_
    refine lv_iload_n hx hb dX11_odds_80 rfl (lv_at hl 2 rfl) ?_
    refine hw_callV (d := 8) E hR hS (As := [.int x1]) (rest := []) cI10 hs0 rfl mcX11_isWeightless miX11_isWeightless lmX11_413 (ok_X11_isWeightless hs0 hf) rfl rfl (by decide) hl.1 (Nat.le_of_ble_eq_true rfl) dX11_odds_81 (fun rr m20 H locs hp hR hS => ?_)
    obtain ⟨r21, rfl, hf⟩ := hp
    refine W.eq (g2 := F0 m 84 ls [.int r21]) rfl ?_
    refine lv_if_eq (tgt := 99) hx hb dX11_odds_84 (by decide) (fun c22 => ?_) (fun c22 => ?_)
    · replace hf := hf.1 c22
      refine lv_aload_n hx hb dX11_odds_99 rfl (lv_at hl 1 rfl) ?_
      refine lv_iconst (v := 1) hx hb dX11_odds_100 (by decide) ?_
      refine lv_iconst (v := 1) hx hb dX11_odds_101 (by decide) ?_
      refine hw_callV (d := 8) E hR hS (As := [.int (1 : Int32), .int (1 : Int32)]) (rest := []) cI10 hs0 rfl mcX11_sumOf miX11_sumOf lmX11_402 (ok_X11_sumOf hs0 hf) rfl rfl (by decide) hl.1 (Nat.le_of_ble_eq_true rfl) dX11_odds_102 (fun rr m23 H locs hp hR hS => ?_)
      obtain ⟨r24, rfl, hf⟩ := hp
      refine W.eq (g2 := F0 m 105 ls [.long r24]) rfl ?_
      refine lv_lstore (lv' := [(6, .long r24), (4, .long r17), (0, .ref (ad g a0)), (1, .int x1), (2, .int x2), (3, .int x3)]) hx hb dX11_odds_105 hl (by decide) rfl (fun ls hl => ?_)
      refine lv_lload hx hb dX11_odds_107 (lv_at hl 0 rfl) ?_
      refine lv_lload hx hb dX11_odds_109 (lv_at hl 1 rfl) ?_
      refine hw_callS (d := 8) E hR hS (As := [.long r24, .long r17]) (rest := []) mcX11_common msX11_common lmX11_416 (ok_X11_common  hf) rfl rfl (by decide) hl.1 (Nat.le_of_ble_eq_true rfl) dX11_odds_111 (fun rr m25 H locs hp hR hS => ?_)
      obtain ⟨r26, rfl, hf⟩ := hp
      refine W.eq (g2 := F0 m 114 ls [.long r26]) rfl ?_
      refine lv_lstore (lv' := [(8, .long r26), (6, .long r24), (4, .long r17), (0, .ref (ad g a0)), (1, .int x1), (2, .int x2), (3, .int x3)]) hx hb dX11_odds_114 hl (by decide) rfl (fun ls hl => ?_)
      refine lv_aload_n hx hb dX11_odds_116 rfl (lv_at hl 3 rfl) ?_
      refine lv_iconst (v := 0) hx hb dX11_odds_117 (by decide) ?_
      refine hw_putI E hR hS hw cI10 hs0 1 (by decide) lfX11_11 rfl (Or.inl rfl) dX11_odds_118 (fun m27 H locs em27 hR hS => ?_)
      replace hf := hf m27 em27
      refine lv_aload_n hx hb dX11_odds_121 rfl (lv_at hl 3 rfl) ?_
      refine lv_lload hx hb dX11_odds_122 (lv_at hl 1 rfl) ?_
      refine lv_lload hx hb dX11_odds_124 (lv_at hl 0 rfl) ?_
      obtain ⟨h28, hf⟩ := hf
      refine lv_ldiv hx hb dX11_odds_126 h28 ?_
      refine hw_callV (d := 8) E hR hS (As := [.long (r24 / r26)]) (rest := []) cI10 hs0 rfl mcX11_enters miX11_enters lmX11_262 (ok_X11_enters hs0 hf) rfl rfl (by decide) hl.1 (Nat.le_of_ble_eq_true rfl) dX11_odds_127 (fun rr m29 H locs hp hR hS => ?_)
      obtain ⟨rfl, hf⟩ := hp
      refine W.eq (g2 := F0 m 130 ls []) rfl ?_
      refine lv_aload_n hx hb dX11_odds_130 rfl (lv_at hl 3 rfl) ?_
      refine lv_lload hx hb dX11_odds_131 (lv_at hl 2 rfl) ?_
      refine lv_lload hx hb dX11_odds_133 (lv_at hl 0 rfl) ?_
      obtain ⟨h30, hf⟩ := hf
      refine lv_ldiv hx hb dX11_odds_135 h30 ?_
      refine hw_callV (d := 8) E hR hS (As := [.long (r17 / r26)]) (rest := []) cI10 hs0 rfl mcX11_enters miX11_enters lmX11_262 (ok_X11_enters hs0 hf) rfl rfl (by decide) hl.1 (Nat.le_of_ble_eq_true rfl) dX11_odds_136 (fun rr m31 H locs hp hR hS => ?_)
      obtain ⟨rfl, hf⟩ := hp
      refine W.eq (g2 := F0 m 139 ls []) rfl ?_
      refine lv_iconst (v := 0) hx hb dX11_odds_139 (by decide) ?_
      exact hw_iret E hR hS ⟨_, rfl, hf⟩ dX11_odds_140
    · replace hf := hf.2 c22
      exact w_X11_odds_J87 _ _ _ E hw hf _ _ _ hR hS (lv_sub hl [4] rfl)
def f_X11_odds (S : Ss) (a0 : Nat) (x1 : Int32) (x2 : Int32) (M : Mm) (K : Int32 → Mm → Prop) : Prop :=
  ∀ m1 : Mm, m1 = stI M a0 0 (0 : Int32) →
  f_X11_isRun S a0 x2 m1 (fun (r3 : Int32) (m2 : Mm) =>
    ((r3 = 0 →
    K (-1 : Int32) m2) ∧
   (¬ r3 = 0 →
    f_X11_in S  x1.toInt64 (0 : Int64) (1 : Int64) m2 (fun (r6 : Int32) (m5 : Mm) =>
      ((r6 = 0 →
      K (-1 : Int32) m5) ∧
     (¬ r6 = 0 →
      f_X11_allWeights S a0 x1 x2 m5 (fun (r9 : Int64) (m8 : Mm) =>
        ((r9 ≤ (1000000000000 : Int64) →
        f_X11_remembers S a0  m8 (fun (m11 : Mm) =>
          f_X11_explores S a0 x2 (4000 : Int32) m11 (fun (r13 : Int32) (m12 : Mm) =>
          ((r13 = 0 →
          f_X11_odds_J63 S a0 x1 x2 r13 m12 K) ∧
         (¬ r13 = 0 →
          f_X11_weighs S a0 x2 (-2 : Int32) x1 m12 (fun (m32 : Mm) =>
            f_X11_odds_J63 S a0 x1 x2 r13 m32 K)))))) ∧
       (¬ r9 ≤ (1000000000000 : Int64) →
        K (-1 : Int32) m8)))))))))
set_option maxHeartbeats 4000000 in
set_option maxRecDepth 100000 in
theorem ok_X11_odds {l : Launch} {g : Gg} {S : Ss} {a0 : Nat} {x1 : Int32} {x2 : Int32} {M : Mm} {K : Int32 → Mm → Prop} (hs0 : S[a0]? = some (10, 0)) (hf : f_X11_odds S a0 x1 x2 M K) : MT l g S yX11_odds cX11_odds 10 (some .int) 8 [.ref (ad g a0), .int x1, .int x2] M (pI K) := by
  refine MT.of (by decide +kernel) (Nat.le_of_ble_eq_true rfl) ?_
  intro p e s m below meth c ls E hw hR hS hl
  have hl : lv_has ls 10 [(0, .ref (ad g a0)), (1, .int x1), (2, .int x2)] := hl
  generalize ([.ref (ad g a0), .int x1, .int x2] : List Value).toArray = args at E ⊢
  have E : EN p s m args meth c cX11_odds 10 (some .int) RX11 g := E
  have hx := E.1
  have hb := E.2.1
  unfold f_X11_odds at hf
  refine lv_aload_n hx hb dX11_odds_0 rfl (lv_at hl 0 rfl) ?_
  refine lv_iconst (v := 0) hx hb dX11_odds_1 (by decide) ?_
  refine hw_putI E hR hS hw cI10 hs0 0 (by decide) lfX11_3 rfl (Or.inl rfl) dX11_odds_2 (fun m1 H locs em1 hR hS => ?_)
  replace hf := hf m1 em1
  refine lv_aload_n hx hb dX11_odds_5 rfl (lv_at hl 0 rfl) ?_
  refine lv_iload_n hx hb dX11_odds_6 rfl (lv_at hl 2 rfl) ?_
  refine hw_callV (d := 8) E hR hS (As := [.int x2]) (rest := []) cI10 hs0 rfl mcX11_isRun miX11_isRun lmX11_341 (ok_X11_isRun hs0 hf) rfl rfl (by decide) hl.1 (Nat.le_of_ble_eq_true rfl) dX11_odds_7 (fun rr m2 H locs hp hR hS => ?_)
  obtain ⟨r3, rfl, hf⟩ := hp
  refine W.eq (g2 := F0 m 10 ls [.int r3]) rfl ?_
  refine lv_if_eq (tgt := 36) hx hb dX11_odds_10 (by decide) (fun c4 => ?_) (fun c4 => ?_)
  · replace hf := hf.1 c4
    refine lv_iconst (v := -1) hx hb dX11_odds_36 (by decide) ?_
    exact hw_iret E hR hS ⟨_, rfl, hf⟩ dX11_odds_37
  · replace hf := hf.2 c4
    refine lv_iload_n hx hb dX11_odds_13 rfl (lv_at hl 1 rfl) ?_
    refine lv_i2l hx hb dX11_odds_14 rfl ?_
    refine lv_lconst (v := 0) hx hb dX11_odds_15 (by decide) ?_
    refine lv_lconst (v := 1) hx hb dX11_odds_16 (by decide) ?_
    refine hw_callS (d := 8) E hR hS (As := [.long x1.toInt64, .long (0 : Int64), .long (1 : Int64)]) (rest := []) mcX11_in msX11_in lmX11_21 (ok_X11_in  hf) rfl rfl (by decide) hl.1 (Nat.le_of_ble_eq_true rfl) dX11_odds_17 (fun rr m5 H locs hp hR hS => ?_)
    obtain ⟨r6, rfl, hf⟩ := hp
    refine W.eq (g2 := F0 m 20 ls [.int r6]) rfl ?_
    refine lv_if_eq (tgt := 36) hx hb dX11_odds_20 (by decide) (fun c7 => ?_) (fun c7 => ?_)
    · replace hf := hf.1 c7
      refine lv_iconst (v := -1) hx hb dX11_odds_36 (by decide) ?_
      exact hw_iret E hR hS ⟨_, rfl, hf⟩ dX11_odds_37
    · replace hf := hf.2 c7
      refine lv_aload_n hx hb dX11_odds_23 rfl (lv_at hl 0 rfl) ?_
      refine lv_iload_n hx hb dX11_odds_24 rfl (lv_at hl 1 rfl) ?_
      refine lv_iload_n hx hb dX11_odds_25 rfl (lv_at hl 2 rfl) ?_
      refine hw_callV (d := 8) E hR hS (As := [.int x1, .int x2]) (rest := []) cI10 hs0 rfl mcX11_allWeights miX11_allWeights lmX11_410 (ok_X11_allWeights hs0 hf) rfl rfl (by decide) hl.1 (Nat.le_of_ble_eq_true rfl) dX11_odds_26 (fun rr m8 H locs hp hR hS => ?_)
      obtain ⟨r9, rfl, hf⟩ := hp
      refine W.eq (g2 := F0 m 29 ls [.long r9]) rfl ?_
      refine lv_ldc2 (v := 1000000000000) hx hb E.2.2.2.2.1 (E.2.2.2.2.2.1 _ ljX11_390) dX11_odds_29 ?_
      refine hw_lif_le (tgt := 38) hx hb dX11_odds_32 dX11_odds_33 (by decide) (fun c10 => ?_) (fun c10 => ?_)
      · replace hf := hf.1 c10
        refine lv_aload_n hx hb dX11_odds_38 rfl (lv_at hl 0 rfl) ?_
        refine hw_callV (d := 8) E hR hS (As := []) (rest := []) cI10 hs0 rfl mcX11_remembers miX11_remembers lmX11_344 (ok_X11_remembers hs0 hf) rfl rfl (by decide) hl.1 (Nat.le_of_ble_eq_true rfl) dX11_odds_39 (fun rr m11 H locs hp hR hS => ?_)
        obtain ⟨rfl, hf⟩ := hp
        refine W.eq (g2 := F0 m 42 ls []) rfl ?_
        refine lv_aload_n hx hb dX11_odds_42 rfl (lv_at hl 0 rfl) ?_
        refine lv_iload_n hx hb dX11_odds_43 rfl (lv_at hl 2 rfl) ?_
        refine lv_sipush (v := 4000) hx hb dX11_odds_44 (by decide) ?_
        refine hw_callV (d := 8) E hR hS (As := [.int x2, .int (4000 : Int32)]) (rest := []) cI10 hs0 rfl mcX11_explores miX11_explores lmX11_347 (ok_X11_explores hs0 hf) rfl rfl (by decide) hl.1 (Nat.le_of_ble_eq_true rfl) dX11_odds_47 (fun rr m12 H locs hp hR hS => ?_)
        obtain ⟨r13, rfl, hf⟩ := hp
        refine W.eq (g2 := F0 m 50 ls [.int r13]) rfl ?_
        refine lv_istore_n (lv' := [(3, .int r13), (0, .ref (ad g a0)), (1, .int x1), (2, .int x2)]) hx hb dX11_odds_50 rfl hl (by decide) rfl (fun ls hl => ?_)
        refine lv_iload_n hx hb dX11_odds_51 rfl (lv_at hl 0 rfl) ?_
        refine lv_if_eq (tgt := 63) hx hb dX11_odds_52 (by decide) (fun c14 => ?_) (fun c14 => ?_)
        · replace hf := hf.1 c14
          exact w_X11_odds_J63 _ _ _ _ _ _ E hw hs0 hf _ _ _ hR hS (lv_sub hl [1, 2, 3, 0] rfl)
        · replace hf := hf.2 c14
          refine lv_aload_n hx hb dX11_odds_55 rfl (lv_at hl 1 rfl) ?_
          refine lv_iload_n hx hb dX11_odds_56 rfl (lv_at hl 3 rfl) ?_
          refine lv_bipush (v := -2) hx hb dX11_odds_57 (by decide) ?_
          refine lv_iload_n hx hb dX11_odds_59 rfl (lv_at hl 2 rfl) ?_
          refine hw_callV (d := 8) E hR hS (As := [.int x2, .int (-2 : Int32), .int x1]) (rest := []) cI10 hs0 rfl mcX11_weighs miX11_weighs lmX11_398 (ok_X11_weighs hs0 hf) rfl rfl (by decide) hl.1 (Nat.le_of_ble_eq_true rfl) dX11_odds_60 (fun rr m32 H locs hp hR hS => ?_)
          obtain ⟨rfl, hf⟩ := hp
          refine W.eq (g2 := F0 m 63 ls []) rfl ?_
          exact w_X11_odds_J63 _ _ _ _ _ _ E hw hs0 hf _ _ _ hR hS (lv_sub hl [1, 2, 3, 0] rfl)
      · replace hf := hf.2 c10
        refine lv_iconst (v := -1) hx hb dX11_odds_36 (by decide) ?_
        exact hw_iret E hR hS ⟨_, rfl, hf⟩ dX11_odds_37
def f_X11_compares_J84 (S : Ss) (x16 : Int32) (x21 : Int64) (x23 : Int64) (M : Mm) (K : Int32 → Mm → Prop) : Prop :=
  ((x21 = x23 →
    K (0 : Int32) M) ∧
   (¬ x21 = x23 →
    ((x21 = (0 : Int64) →
      K (-x16) M) ∧
     (¬ x21 = (0 : Int64) →
      K x16 M))))
set_option maxHeartbeats 4000000 in
set_option maxRecDepth 100000 in
theorem w_X11_compares_J84 {p : Program} {l : Launch} {e : Env} {s : State} {m : MethodId} {args : Array Value} {below : List Frame} {meth : Method} {c : Code} {g : Gg} {S : Ss} (x16 : Int32) (x21 : Int64) (x23 : Int64) (M : Mm) (K : Int32 → Mm → Prop) (E : EN p s m args meth c cX11_compares 25 (some .int) RX11 g) (hw : ad g 100000 < s.heap.size) (hf : f_X11_compares_J84 S x16 x21 x23 M K) (H : Heap) (locs : List Loc) (ls : Array Slot) (hR : RP g S M H) (hS : va_S (gA g) s.heap H locs) (hl : lv_has ls 25 [(16, .int x16), (21, .long x21), (23, .long x23)]) : W p l e (rmD 0) s m args below meth c H locs 0 0 (MQ below (QA g S (pI K)) args s 0 0 (gA g)) (F0 m 84 ls []) := by
  have hx := E.1
  have hb := E.2.1
  unfold f_X11_compares_J84 at hf
  refine lv_lload hx hb dX11_compares_84 (lv_at hl 1 rfl) ?_
  refine lv_lload hx hb dX11_compares_86 (lv_at hl 2 rfl) ?_
  refine hw_lif_ne (tgt := 96) hx hb dX11_compares_88 dX11_compares_89 (by decide) (fun c11 => ?_) (fun c11 => ?_)
  · replace hf := hf.2 c11
    refine lv_lload hx hb dX11_compares_96 (lv_at hl 1 rfl) ?_
    refine lv_lconst (v := 0) hx hb dX11_compares_98 (by decide) ?_
    refine hw_lif_ne (tgt := 109) hx hb dX11_compares_99 dX11_compares_100 (by decide) (fun c12 => ?_) (fun c12 => ?_)
    · replace hf := hf.2 c12
      refine lv_iload hx hb dX11_compares_109 (lv_at hl 0 rfl) ?_
      exact hw_iret E hR hS ⟨_, rfl, hf⟩ dX11_compares_111
    · replace hf := hf.1 c12
      refine lv_iload hx hb dX11_compares_103 (lv_at hl 0 rfl) ?_
      refine lv_ineg hx hb dX11_compares_105 ?_
      refine lv_goto (tgt := 111) hx hb dX11_compares_106 (by decide) ?_
      exact hw_iret E hR hS ⟨_, rfl, hf⟩ dX11_compares_111
  · replace hf := hf.1 c11
    refine lv_iconst (v := 0) hx hb dX11_compares_92 (by decide) ?_
    refine lv_goto (tgt := 111) hx hb dX11_compares_93 (by decide) ?_
    exact hw_iret E hR hS ⟨_, rfl, hf⟩ dX11_compares_111
def f_X11_compares_B17 (S : Ss) (x8 : Int64) (x10 : Int64) (x12 : Int64) (x14 : Int64) (x16 : Int32) (M : Mm) (BK17 : Int64 → Int64 → Int64 → Int64 → Int32 → Mm → Prop) (K : Int32 → Mm → Prop) : Prop :=
  ¬ x10 = 0 ∧
  ∀ v2 : Int64, v2 = (x8 / x10) →
  ¬ x14 = 0 ∧
  ∀ v4 : Int64, v4 = (x12 / x14) →
  ((v2 = v4 →
    ¬ x10 = 0 ∧
    ∀ v7 : Int64, v7 = (x8 - x8 / x10 * x10) →
    ¬ x14 = 0 ∧
    ∀ v9 : Int64, v9 = (x12 - x12 / x14 * x14) →
    ((v7 = (0 : Int64) →
      f_X11_compares_J84 S x16 v7 v9 M K) ∧
     (¬ v7 = (0 : Int64) →
      ((v9 = (0 : Int64) →
        f_X11_compares_J84 S x16 v7 v9 M K) ∧
       (¬ v9 = (0 : Int64) →
        ∀ v14 : Int32, v14 = (-x16) →
        BK17 x10 v7 x14 v9 v14 M))))) ∧
   (¬ v2 = v4 →
    ((v4 ≤ v2 →
      K x16 M) ∧
     (¬ v4 ≤ v2 →
      K (-x16) M))))
set_option maxHeartbeats 4000000 in
set_option maxRecDepth 100000 in
theorem w_X11_compares_B17 {p : Program} {l : Launch} {e : Env} {s : State} {m : MethodId} {args : Array Value} {below : List Frame} {meth : Method} {c : Code} {g : Gg} {S : Ss} (x8 : Int64) (x10 : Int64) (x12 : Int64) (x14 : Int64) (x16 : Int32) (M : Mm) (BK17 : Int64 → Int64 → Int64 → Int64 → Int32 → Mm → Prop) (K : Int32 → Mm → Prop) (E : EN p s m args meth c cX11_compares 25 (some .int) RX11 g) (hw : ad g 100000 < s.heap.size) (hBK17 : ∀ (x8' : Int64) (x10' : Int64) (x12' : Int64) (x14' : Int64) (x16' : Int32) (M' : Mm) (H : Heap) (locs : List Loc) (ls : Array Slot), BK17 x8' x10' x12' x14' x16' M' → RP g S M' H → va_S (gA g) s.heap H locs → lv_has ls 25 [(8, .long x8'), (10, .long x10'), (12, .long x12'), (14, .long x14'), (16, .int x16')] → W p l e (rmD 0) s m args below meth c H locs 0 0 (MQ below (QA g S (pI K)) args s 0 0 (gA g)) (F0 m 17 ls [])) (hf : f_X11_compares_B17 S x8 x10 x12 x14 x16 M BK17 K) (H : Heap) (locs : List Loc) (ls : Array Slot) (hR : RP g S M H) (hS : va_S (gA g) s.heap H locs) (hl : lv_has ls 25 [(8, .long x8), (10, .long x10), (12, .long x12), (14, .long x14), (16, .int x16)]) : W p l e (rmD 0) s m args below meth c H locs 0 0 (MQ below (QA g S (pI K)) args s 0 0 (gA g)) (F0 m 17 ls []) := by
  have hx := E.1
  have hb := E.2.1
  unfold f_X11_compares_B17 at hf
  refine lv_lload hx hb dX11_compares_17 (lv_at hl 0 rfl) ?_
  refine lv_lload hx hb dX11_compares_19 (lv_at hl 1 rfl) ?_
  obtain ⟨h1, hf⟩ := hf
  refine lv_ldiv hx hb dX11_compares_21 h1 ?_
  refine lv_topl (fun v2 ev2 => ?_)
  replace hf := hf v2 ev2
  refine lv_lstore (lv' := [(17, .long v2), (8, .long x8), (10, .long x10), (12, .long x12), (14, .long x14), (16, .int x16)]) hx hb dX11_compares_22 hl (by decide) rfl (fun ls hl => ?_)
  refine lv_lload hx hb dX11_compares_24 (lv_at hl 3 rfl) ?_
  refine lv_lload hx hb dX11_compares_26 (lv_at hl 4 rfl) ?_
  obtain ⟨h3, hf⟩ := hf
  refine lv_ldiv hx hb dX11_compares_28 h3 ?_
  refine lv_topl (fun v4 ev4 => ?_)
  replace hf := hf v4 ev4
  refine lv_lstore (lv' := [(19, .long v4), (17, .long v2), (8, .long x8), (10, .long x10), (12, .long x12), (14, .long x14), (16, .int x16)]) hx hb dX11_compares_29 hl (by decide) rfl (fun ls hl => ?_)
  refine lv_lload hx hb dX11_compares_31 (lv_at hl 1 rfl) ?_
  refine lv_lload hx hb dX11_compares_33 (lv_at hl 0 rfl) ?_
  refine hw_lif_eq (tgt := 56) hx hb dX11_compares_35 dX11_compares_36 (by decide) (fun c5 => ?_) (fun c5 => ?_)
  · replace hf := hf.1 c5
    refine lv_lload hx hb dX11_compares_56 (lv_at hl 2 rfl) ?_
    refine lv_lload hx hb dX11_compares_58 (lv_at hl 3 rfl) ?_
    obtain ⟨h6, hf⟩ := hf
    refine lv_lrem hx hb dX11_compares_60 h6 ?_
    refine lv_topl (fun v7 ev7 => ?_)
    replace hf := hf v7 ev7
    refine lv_lstore (lv' := [(21, .long v7), (19, .long v4), (17, .long v2), (8, .long x8), (10, .long x10), (12, .long x12), (14, .long x14), (16, .int x16)]) hx hb dX11_compares_61 hl (by decide) rfl (fun ls hl => ?_)
    refine lv_lload hx hb dX11_compares_63 (lv_at hl 5 rfl) ?_
    refine lv_lload hx hb dX11_compares_65 (lv_at hl 6 rfl) ?_
    obtain ⟨h8, hf⟩ := hf
    refine lv_lrem hx hb dX11_compares_67 h8 ?_
    refine lv_topl (fun v9 ev9 => ?_)
    replace hf := hf v9 ev9
    refine lv_lstore (lv' := [(23, .long v9), (21, .long v7), (19, .long v4), (17, .long v2), (8, .long x8), (10, .long x10), (12, .long x12), (14, .long x14), (16, .int x16)]) hx hb dX11_compares_68 hl (by decide) rfl (fun ls hl => ?_)
    refine lv_lload hx hb dX11_compares_70 (lv_at hl 1 rfl) ?_
    refine lv_lconst (v := 0) hx hb dX11_compares_72 (by decide) ?_
    refine hw_lif_eq (tgt := 84) hx hb dX11_compares_73 dX11_compares_74 (by decide) (fun c10 => ?_) (fun c10 => ?_)
    · replace hf := hf.1 c10
      exact w_X11_compares_J84 _ _ _ _ _ E hw hf _ _ _ hR hS (lv_sub hl [8, 1, 0] rfl)
    · replace hf := hf.2 c10
      refine lv_lload hx hb dX11_compares_77 (lv_at hl 0 rfl) ?_
      refine lv_lconst (v := 0) hx hb dX11_compares_79 (by decide) ?_
      refine hw_lif_ne (tgt := 112) hx hb dX11_compares_80 dX11_compares_81 (by decide) (fun c13 => ?_) (fun c13 => ?_)
      · replace hf := hf.2 c13
        refine lv_lload hx hb dX11_compares_112 (lv_at hl 5 rfl) ?_
        refine lv_lstore (lv' := [(8, .long x10), (23, .long v9), (21, .long v7), (19, .long v4), (17, .long v2), (10, .long x10), (12, .long x12), (14, .long x14), (16, .int x16)]) hx hb dX11_compares_114 hl (by decide) rfl (fun ls hl => ?_)
        refine lv_lload hx hb dX11_compares_116 (lv_at hl 2 rfl) ?_
        refine lv_lstore (lv' := [(10, .long v7), (8, .long x10), (23, .long v9), (21, .long v7), (19, .long v4), (17, .long v2), (12, .long x12), (14, .long x14), (16, .int x16)]) hx hb dX11_compares_118 hl (by decide) rfl (fun ls hl => ?_)
        refine lv_lload hx hb dX11_compares_120 (lv_at hl 7 rfl) ?_
        refine lv_lstore (lv' := [(12, .long x14), (10, .long v7), (8, .long x10), (23, .long v9), (21, .long v7), (19, .long v4), (17, .long v2), (14, .long x14), (16, .int x16)]) hx hb dX11_compares_122 hl (by decide) rfl (fun ls hl => ?_)
        refine lv_lload hx hb dX11_compares_124 (lv_at hl 3 rfl) ?_
        refine lv_lstore (lv' := [(14, .long v9), (12, .long x14), (10, .long v7), (8, .long x10), (23, .long v9), (21, .long v7), (19, .long v4), (17, .long v2), (16, .int x16)]) hx hb dX11_compares_126 hl (by decide) rfl (fun ls hl => ?_)
        refine lv_iload hx hb dX11_compares_128 (lv_at hl 8 rfl) ?_
        refine lv_ineg hx hb dX11_compares_130 ?_
        refine lv_topi (fun v14 ev14 => ?_)
        replace hf := hf v14 ev14
        refine lv_istore (lv' := [(16, .int v14), (14, .long v9), (12, .long x14), (10, .long v7), (8, .long x10), (23, .long v9), (21, .long v7), (19, .long v4), (17, .long v2)]) hx hb dX11_compares_131 hl (by decide) rfl (fun ls hl => ?_)
        refine lv_goto (tgt := 17) hx hb dX11_compares_133 (by decide) ?_
        exact hBK17 _ _ _ _ _ _ _ _ _ hf hR hS (lv_sub hl [4, 3, 2, 1, 0] rfl)
      · replace hf := hf.1 c13
        exact w_X11_compares_J84 _ _ _ _ _ E hw hf _ _ _ hR hS (lv_sub hl [8, 1, 0] rfl)
  · replace hf := hf.2 c5
    refine lv_lload hx hb dX11_compares_39 (lv_at hl 1 rfl) ?_
    refine lv_lload hx hb dX11_compares_41 (lv_at hl 0 rfl) ?_
    refine hw_lif_ge (tgt := 53) hx hb dX11_compares_43 dX11_compares_44 (by decide) (fun c15 => ?_) (fun c15 => ?_)
    · replace hf := hf.1 c15
      refine lv_iload hx hb dX11_compares_53 (lv_at hl 6 rfl) ?_
      exact hw_iret E hR hS ⟨_, rfl, hf⟩ dX11_compares_55
    · replace hf := hf.2 c15
      refine lv_iload hx hb dX11_compares_47 (lv_at hl 6 rfl) ?_
      refine lv_ineg hx hb dX11_compares_49 ?_
      refine lv_goto (tgt := 55) hx hb dX11_compares_50 (by decide) ?_
      exact hw_iret E hR hS ⟨_, rfl, hf⟩ dX11_compares_55
def f_X11_compares_L17 (S : Ss) (K : Int32 → Mm → Prop) : Nat → Int64 → Int64 → Int64 → Int64 → Int32 → Mm → Prop
  | 0, _, _, _, _, _, _ => False
  | n + 1, x8, x10, x12, x14, x16, M => f_X11_compares_B17 S x8 x10 x12 x14 x16 M (fun (x8 : Int64) (x10 : Int64) (x12 : Int64) (x14 : Int64) (x16 : Int32) (M : Mm) => f_X11_compares_L17 S K n x8 x10 x12 x14 x16 M) K
set_option maxHeartbeats 4000000 in
set_option maxRecDepth 100000 in
theorem w_X11_compares_L17 {p : Program} {l : Launch} {e : Env} {s : State} {m : MethodId} {args : Array Value} {below : List Frame} {meth : Method} {c : Code} {g : Gg} {S : Ss} (K : Int32 → Mm → Prop) (E : EN p s m args meth c cX11_compares 25 (some .int) RX11 g) (hw : ad g 100000 < s.heap.size) : ∀ (n : Nat) (x8 : Int64) (x10 : Int64) (x12 : Int64) (x14 : Int64) (x16 : Int32) (M : Mm), f_X11_compares_L17 S K n x8 x10 x12 x14 x16 M → ∀ (H : Heap) (locs : List Loc) (ls : Array Slot), RP g S M H → va_S (gA g) s.heap H locs → lv_has ls 25 [(8, .long x8), (10, .long x10), (12, .long x12), (14, .long x14), (16, .int x16)] → W p l e (rmD 0) s m args below meth c H locs 0 0 (MQ below (QA g S (pI K)) args s 0 0 (gA g)) (F0 m 17 ls []) := by
  intro n
  induction n with
  | zero => intro x8 x10 x12 x14 x16 M hf; exact hf.elim
  | succ n ih =>
    intro x8 x10 x12 x14 x16 M hf H locs ls hR hS hl
    exact w_X11_compares_B17 _ _ _ _ _ _ _ _ E hw (fun _ _ _ _ _ M H locs ls h hR hS hl => ih _ _ _ _ _ M h H locs ls hR hS hl) hf H locs ls hR hS hl
def f_X11_compares (S : Ss) (x0 : Int64) (x2 : Int64) (x4 : Int64) (x6 : Int64) (M : Mm) (K : Int32 → Mm → Prop) : Prop :=
  ∃ n16 : Nat, f_X11_compares_L17 S K n16 x0 x2 x4 x6 (1 : Int32) M
set_option maxHeartbeats 4000000 in
set_option maxRecDepth 100000 in
theorem ok_X11_compares {l : Launch} {g : Gg} {S : Ss} {x0 : Int64} {x2 : Int64} {x4 : Int64} {x6 : Int64} {M : Mm} {K : Int32 → Mm → Prop} (hf : f_X11_compares S x0 x2 x4 x6 M K) : MT l g S yX11_compares cX11_compares 25 (some .int) 0 [.long x0, .long x2, .long x4, .long x6] M (pI K) := by
  refine MT.of (by decide +kernel) (Nat.le_of_ble_eq_true rfl) ?_
  intro p e s m below meth c ls E hw hR hS hl
  have hl : lv_has ls 25 [(0, .long x0), (2, .long x2), (4, .long x4), (6, .long x6)] := hl
  generalize ([.long x0, .long x2, .long x4, .long x6] : List Value).toArray = args at E ⊢
  have E : EN p s m args meth c cX11_compares 25 (some .int) RX11 g := E
  have hx := E.1
  have hb := E.2.1
  unfold f_X11_compares at hf
  refine lv_lload_n hx hb dX11_compares_0 rfl (lv_at hl 0 rfl) ?_
  refine lv_lstore (lv' := [(8, .long x0), (0, .long x0), (2, .long x2), (4, .long x4), (6, .long x6)]) hx hb dX11_compares_1 hl (by decide) rfl (fun ls hl => ?_)
  refine lv_lload_n hx hb dX11_compares_3 rfl (lv_at hl 2 rfl) ?_
  refine lv_lstore (lv' := [(10, .long x2), (8, .long x0), (0, .long x0), (2, .long x2), (4, .long x4), (6, .long x6)]) hx hb dX11_compares_4 hl (by decide) rfl (fun ls hl => ?_)
  refine lv_lload hx hb dX11_compares_6 (lv_at hl 4 rfl) ?_
  refine lv_lstore (lv' := [(12, .long x4), (10, .long x2), (8, .long x0), (0, .long x0), (2, .long x2), (4, .long x4), (6, .long x6)]) hx hb dX11_compares_8 hl (by decide) rfl (fun ls hl => ?_)
  refine lv_lload hx hb dX11_compares_10 (lv_at hl 6 rfl) ?_
  refine lv_lstore (lv' := [(14, .long x6), (12, .long x4), (10, .long x2), (8, .long x0), (0, .long x0), (2, .long x2), (4, .long x4), (6, .long x6)]) hx hb dX11_compares_12 hl (by decide) rfl (fun ls hl => ?_)
  refine lv_iconst (v := 1) hx hb dX11_compares_14 (by decide) ?_
  refine lv_istore (lv' := [(16, .int (1 : Int32)), (14, .long x6), (12, .long x4), (10, .long x2), (8, .long x0), (0, .long x0), (2, .long x2), (4, .long x4), (6, .long x6)]) hx hb dX11_compares_15 hl (by decide) rfl (fun ls hl => ?_)
  obtain ⟨n16, hf⟩ := hf
  refine w_X11_compares_L17 _ E hw n16 _ _ _ _ _ _ hf _ _ _ hR hS (lv_sub hl [4, 3, 2, 1, 0] rfl)
def f_X11_quick_J134 (S : Ss) (x2 : Int32) (M : Mm) (K : Int32 → Mm → Prop) : Prop :=
  ((x2 = 0 →
    K (-3 : Int32) M) ∧
   (¬ x2 = 0 →
    K (-2 : Int32) M))
set_option maxHeartbeats 4000000 in
set_option maxRecDepth 100000 in
theorem w_X11_quick_J134 {p : Program} {l : Launch} {e : Env} {s : State} {m : MethodId} {args : Array Value} {below : List Frame} {meth : Method} {c : Code} {g : Gg} {S : Ss} (x2 : Int32) (M : Mm) (K : Int32 → Mm → Prop) (E : EN p s m args meth c cX11_quick 16 (some .int) RX11 g) (hw : ad g 100000 < s.heap.size) (hf : f_X11_quick_J134 S x2 M K) (H : Heap) (locs : List Loc) (ls : Array Slot) (hR : RP g S M H) (hS : va_S (gA g) s.heap H locs) (hl : lv_has ls 16 [(2, .int x2)]) : W p l e (rmD 8) s m args below meth c H locs 0 0 (MQ below (QA g S (pI K)) args s 0 0 (gA g)) (F0 m 134 ls []) := by
  have hx := E.1
  have hb := E.2.1
  unfold f_X11_quick_J134 at hf
  refine lv_iload_n hx hb dX11_quick_134 rfl (lv_at hl 0 rfl) ?_
  refine lv_if_eq (tgt := 143) hx hb dX11_quick_135 (by decide) (fun c21 => ?_) (fun c21 => ?_)
  · replace hf := hf.1 c21
    refine lv_bipush (v := -3) hx hb dX11_quick_143 (by decide) ?_
    exact hw_iret E hR hS ⟨_, rfl, hf⟩ dX11_quick_145
  · replace hf := hf.2 c21
    refine lv_bipush (v := -2) hx hb dX11_quick_138 (by decide) ?_
    refine lv_goto (tgt := 145) hx hb dX11_quick_140 (by decide) ?_
    exact hw_iret E hR hS ⟨_, rfl, hf⟩ dX11_quick_145
def f_X11_quick_J94 (S : Ss) (a0 : Nat) (x1 : Int32) (x2 : Int32) (x3 : Int64) (x5 : Int64) (M : Mm) (K : Int32 → Mm → Prop) : Prop :=
  f_X11_comesBack S a0  M (fun (m15 : Mm) =>
    f_X11_allWeights S a0 (0 : Int32) x1 m15 (fun (r17 : Int64) (m16 : Mm) =>
    f_X11_allWeights S a0 (1 : Int32) x1 m16 (fun (r19 : Int64) (m18 : Mm) =>
    ((x2 = 0 →
    f_X11_quick_J134 S x2 m18 K) ∧
   (¬ x2 = 0 →
    f_X11_isWeightless S a0 (0 : Int32) m18 (fun (r23 : Int32) (m22 : Mm) =>
      ((r23 = 0 →
      f_X11_isWeightless S a0 (1 : Int32) m22 (fun (r26 : Int32) (m25 : Mm) =>
        ((r26 = 0 →
        f_X11_common S  x3 r17 m25 (fun (r29 : Int64) (m28 : Mm) =>
          f_X11_common S  x5 r19 m28 (fun (r31 : Int64) (m30 : Mm) =>
          ¬ r29 = 0 ∧
        ¬ r29 = 0 ∧
        ¬ r31 = 0 ∧
        ¬ r31 = 0 ∧
        f_X11_compares S  (x3 / r29) (r17 / r29) (x5 / r31) (r19 / r31) m30 (fun (r37 : Int32) (m36 : Mm) =>
          ((r37 ≤ 0 →
          ((0 ≤ r37 →
            K (2 : Int32) m36) ∧
           (¬ 0 ≤ r37 →
            K (1 : Int32) m36))) ∧
         (¬ r37 ≤ 0 →
          K (0 : Int32) m36)))))) ∧
       (¬ r26 = 0 →
        f_X11_quick_J134 S x2 m25 K)))) ∧
     (¬ r23 = 0 →
      f_X11_quick_J134 S x2 m22 K))))))))
set_option maxHeartbeats 4000000 in
set_option maxRecDepth 100000 in
theorem w_X11_quick_J94 {p : Program} {l : Launch} {e : Env} {s : State} {m : MethodId} {args : Array Value} {below : List Frame} {meth : Method} {c : Code} {g : Gg} {S : Ss} (a0 : Nat) (x1 : Int32) (x2 : Int32) (x3 : Int64) (x5 : Int64) (M : Mm) (K : Int32 → Mm → Prop) (E : EN p s m args meth c cX11_quick 16 (some .int) RX11 g) (hw : ad g 100000 < s.heap.size) (hs0 : S[a0]? = some (10, 0)) (hf : f_X11_quick_J94 S a0 x1 x2 x3 x5 M K) (H : Heap) (locs : List Loc) (ls : Array Slot) (hR : RP g S M H) (hS : va_S (gA g) s.heap H locs) (hl : lv_has ls 16 [(0, .ref (ad g a0)), (1, .int x1), (2, .int x2), (3, .long x3), (5, .long x5)]) : W p l e (rmD 8) s m args below meth c H locs 0 0 (MQ below (QA g S (pI K)) args s 0 0 (gA g)) (F0 m 94 ls []) := by
  have hx := E.1
  have hb := E.2.1
  unfold f_X11_quick_J94 at hf
  refine lv_aload_n hx hb dX11_quick_94 rfl (lv_at hl 0 rfl) ?_
  refine hw_callV (d := 8) E hR hS (As := []) (rest := []) cI10 hs0 rfl mcX11_comesBack miX11_comesBack lmX11_350 (ok_X11_comesBack hs0 hf) rfl rfl (by decide) hl.1 (Nat.le_of_ble_eq_true rfl) dX11_quick_95 (fun rr m15 H locs hp hR hS => ?_)
  obtain ⟨rfl, hf⟩ := hp
  refine W.eq (g2 := F0 m 98 ls []) rfl ?_
  refine lv_aload_n hx hb dX11_quick_98 rfl (lv_at hl 0 rfl) ?_
  refine lv_iconst (v := 0) hx hb dX11_quick_99 (by decide) ?_
  refine lv_iload_n hx hb dX11_quick_100 rfl (lv_at hl 1 rfl) ?_
  refine hw_callV (d := 8) E hR hS (As := [.int (0 : Int32), .int x1]) (rest := []) cI10 hs0 rfl mcX11_allWeights miX11_allWeights lmX11_410 (ok_X11_allWeights hs0 hf) rfl rfl (by decide) hl.1 (Nat.le_of_ble_eq_true rfl) dX11_quick_101 (fun rr m16 H locs hp hR hS => ?_)
  obtain ⟨r17, rfl, hf⟩ := hp
  refine W.eq (g2 := F0 m 104 ls [.long r17]) rfl ?_
  refine lv_lstore (lv' := [(7, .long r17), (0, .ref (ad g a0)), (1, .int x1), (2, .int x2), (3, .long x3), (5, .long x5)]) hx hb dX11_quick_104 hl (by decide) rfl (fun ls hl => ?_)
  refine lv_aload_n hx hb dX11_quick_106 rfl (lv_at hl 1 rfl) ?_
  refine lv_iconst (v := 1) hx hb dX11_quick_107 (by decide) ?_
  refine lv_iload_n hx hb dX11_quick_108 rfl (lv_at hl 2 rfl) ?_
  refine hw_callV (d := 8) E hR hS (As := [.int (1 : Int32), .int x1]) (rest := []) cI10 hs0 rfl mcX11_allWeights miX11_allWeights lmX11_410 (ok_X11_allWeights hs0 hf) rfl rfl (by decide) hl.1 (Nat.le_of_ble_eq_true rfl) dX11_quick_109 (fun rr m18 H locs hp hR hS => ?_)
  obtain ⟨r19, rfl, hf⟩ := hp
  refine W.eq (g2 := F0 m 112 ls [.long r19]) rfl ?_
  refine lv_lstore (lv' := [(9, .long r19), (7, .long r17), (0, .ref (ad g a0)), (1, .int x1), (2, .int x2), (3, .long x3), (5, .long x5)]) hx hb dX11_quick_112 hl (by decide) rfl (fun ls hl => ?_)
  refine lv_iload_n hx hb dX11_quick_114 rfl (lv_at hl 4 rfl) ?_
  refine lv_if_eq (tgt := 134) hx hb dX11_quick_115 (by decide) (fun c20 => ?_) (fun c20 => ?_)
  · replace hf := hf.1 c20
    exact w_X11_quick_J134 _ _ _ E hw hf _ _ _ hR hS (lv_sub hl [4] rfl)
  · replace hf := hf.2 c20
    refine lv_aload_n hx hb dX11_quick_118 rfl (lv_at hl 2 rfl) ?_
    refine lv_iconst (v := 0) hx hb dX11_quick_119 (by decide) ?_
    refine hw_callV (d := 8) E hR hS (As := [.int (0 : Int32)]) (rest := []) cI10 hs0 rfl mcX11_isWeightless miX11_isWeightless lmX11_413 (ok_X11_isWeightless hs0 hf) rfl rfl (by decide) hl.1 (Nat.le_of_ble_eq_true rfl) dX11_quick_120 (fun rr m22 H locs hp hR hS => ?_)
    obtain ⟨r23, rfl, hf⟩ := hp
    refine W.eq (g2 := F0 m 123 ls [.int r23]) rfl ?_
    refine lv_if_ne (tgt := 134) hx hb dX11_quick_123 (by decide) (fun c24 => ?_) (fun c24 => ?_)
    · replace hf := hf.2 c24
      exact w_X11_quick_J134 _ _ _ E hw hf _ _ _ hR hS (lv_sub hl [4] rfl)
    · replace hf := hf.1 c24
      refine lv_aload_n hx hb dX11_quick_126 rfl (lv_at hl 2 rfl) ?_
      refine lv_iconst (v := 1) hx hb dX11_quick_127 (by decide) ?_
      refine hw_callV (d := 8) E hR hS (As := [.int (1 : Int32)]) (rest := []) cI10 hs0 rfl mcX11_isWeightless miX11_isWeightless lmX11_413 (ok_X11_isWeightless hs0 hf) rfl rfl (by decide) hl.1 (Nat.le_of_ble_eq_true rfl) dX11_quick_128 (fun rr m25 H locs hp hR hS => ?_)
      obtain ⟨r26, rfl, hf⟩ := hp
      refine W.eq (g2 := F0 m 131 ls [.int r26]) rfl ?_
      refine lv_if_eq (tgt := 146) hx hb dX11_quick_131 (by decide) (fun c27 => ?_) (fun c27 => ?_)
      · replace hf := hf.1 c27
        refine lv_lload_n hx hb dX11_quick_146 rfl (lv_at hl 5 rfl) ?_
        refine lv_lload hx hb dX11_quick_147 (lv_at hl 1 rfl) ?_
        refine hw_callS (d := 8) E hR hS (As := [.long x3, .long r17]) (rest := []) mcX11_common msX11_common lmX11_416 (ok_X11_common  hf) rfl rfl (by decide) hl.1 (Nat.le_of_ble_eq_true rfl) dX11_quick_149 (fun rr m28 H locs hp hR hS => ?_)
        obtain ⟨r29, rfl, hf⟩ := hp
        refine W.eq (g2 := F0 m 152 ls [.long r29]) rfl ?_
        refine lv_lstore (lv' := [(11, .long r29), (9, .long r19), (7, .long r17), (0, .ref (ad g a0)), (1, .int x1), (2, .int x2), (3, .long x3), (5, .long x5)]) hx hb dX11_quick_152 hl (by decide) rfl (fun ls hl => ?_)
        refine lv_lload hx hb dX11_quick_154 (lv_at hl 7 rfl) ?_
        refine lv_lload hx hb dX11_quick_156 (lv_at hl 1 rfl) ?_
        refine hw_callS (d := 8) E hR hS (As := [.long x5, .long r19]) (rest := []) mcX11_common msX11_common lmX11_416 (ok_X11_common  hf) rfl rfl (by decide) hl.1 (Nat.le_of_ble_eq_true rfl) dX11_quick_158 (fun rr m30 H locs hp hR hS => ?_)
        obtain ⟨r31, rfl, hf⟩ := hp
        refine W.eq (g2 := F0 m 161 ls [.long r31]) rfl ?_
        refine lv_lstore (lv' := [(13, .long r31), (11, .long r29), (9, .long r19), (7, .long r17), (0, .ref (ad g a0)), (1, .int x1), (2, .int x2), (3, .long x3), (5, .long x5)]) hx hb dX11_quick_161 hl (by decide) rfl (fun ls hl => ?_)
        refine lv_lload_n hx hb dX11_quick_163 rfl (lv_at hl 7 rfl) ?_
        refine lv_lload hx hb dX11_quick_164 (lv_at hl 1 rfl) ?_
        obtain ⟨h32, hf⟩ := hf
        refine lv_ldiv hx hb dX11_quick_166 h32 ?_
        refine lv_lload hx hb dX11_quick_167 (lv_at hl 3 rfl) ?_
        refine lv_lload hx hb dX11_quick_169 (lv_at hl 1 rfl) ?_
        obtain ⟨h33, hf⟩ := hf
        refine lv_ldiv hx hb dX11_quick_171 h33 ?_
        refine lv_lload hx hb dX11_quick_172 (lv_at hl 8 rfl) ?_
        refine lv_lload hx hb dX11_quick_174 (lv_at hl 0 rfl) ?_
        obtain ⟨h34, hf⟩ := hf
        refine lv_ldiv hx hb dX11_quick_176 h34 ?_
        refine lv_lload hx hb dX11_quick_177 (lv_at hl 2 rfl) ?_
        refine lv_lload hx hb dX11_quick_179 (lv_at hl 0 rfl) ?_
        obtain ⟨h35, hf⟩ := hf
        refine lv_ldiv hx hb dX11_quick_181 h35 ?_
        refine hw_callS (d := 8) E hR hS (As := [.long (x3 / r29), .long (r17 / r29), .long (x5 / r31), .long (r19 / r31)]) (rest := []) mcX11_compares msX11_compares lmX11_420 (ok_X11_compares  hf) rfl rfl (by decide) hl.1 (Nat.le_of_ble_eq_true rfl) dX11_quick_182 (fun rr m36 H locs hp hR hS => ?_)
        obtain ⟨r37, rfl, hf⟩ := hp
        refine W.eq (g2 := F0 m 185 ls [.int r37]) rfl ?_
        refine lv_istore (lv' := [(15, .int r37), (13, .long r31), (11, .long r29), (9, .long r19), (7, .long r17), (0, .ref (ad g a0)), (1, .int x1), (2, .int x2), (3, .long x3), (5, .long x5)]) hx hb dX11_quick_185 hl (by decide) rfl (fun ls hl => ?_)
        refine lv_iload hx hb dX11_quick_187 (lv_at hl 0 rfl) ?_
        refine lv_if_le (tgt := 196) hx hb dX11_quick_189 (by decide) (fun c38 => ?_) (fun c38 => ?_)
        · replace hf := hf.1 c38
          refine lv_iload hx hb dX11_quick_196 (lv_at hl 0 rfl) ?_
          refine lv_if_ge (tgt := 205) hx hb dX11_quick_198 (by decide) (fun c39 => ?_) (fun c39 => ?_)
          · replace hf := hf.1 c39
            refine lv_iconst (v := 2) hx hb dX11_quick_205 (by decide) ?_
            exact hw_iret E hR hS ⟨_, rfl, hf⟩ dX11_quick_206
          · replace hf := hf.2 c39
            refine lv_iconst (v := 1) hx hb dX11_quick_201 (by decide) ?_
            refine lv_goto (tgt := 206) hx hb dX11_quick_202 (by decide) ?_
            exact hw_iret E hR hS ⟨_, rfl, hf⟩ dX11_quick_206
        · replace hf := hf.2 c38
          refine lv_iconst (v := 0) hx hb dX11_quick_192 (by decide) ?_
          refine lv_goto (tgt := 206) hx hb dX11_quick_193 (by decide) ?_
          exact hw_iret E hR hS ⟨_, rfl, hf⟩ dX11_quick_206
      · replace hf := hf.2 c27
        exact w_X11_quick_J134 _ _ _ E hw hf _ _ _ hR hS (lv_sub hl [4] rfl)
def f_X11_quick (S : Ss) (a0 : Nat) (x1 : Int32) (M : Mm) (K : Int32 → Mm → Prop) : Prop :=
  ∀ m1 : Mm, m1 = stI M a0 0 (0 : Int32) →
  f_X11_isRun S a0 x1 m1 (fun (r3 : Int32) (m2 : Mm) =>
    ((r3 = 0 →
    K (-1 : Int32) m2) ∧
   (¬ r3 = 0 →
    f_X11_allWeights S a0 (0 : Int32) x1 m2 (fun (r6 : Int64) (m5 : Mm) =>
      (((1000000000000 : Int64) < r6 →
      K (-1 : Int32) m5) ∧
     (¬ (1000000000000 : Int64) < r6 →
      f_X11_allWeights S a0 (1 : Int32) x1 m5 (fun (r9 : Int64) (m8 : Mm) =>
        ((r9 ≤ (1000000000000 : Int64) →
        f_X11_remembers S a0  m8 (fun (m11 : Mm) =>
          f_X11_explores S a0 x1 (4000 : Int32) m11 (fun (r13 : Int32) (m12 : Mm) =>
          ((r13 = 0 →
          f_X11_quick_J94 S a0 x1 r13 (0 : Int64) (0 : Int64) m12 K) ∧
         (¬ r13 = 0 →
          f_X11_weighs S a0 x1 (-2 : Int32) (0 : Int32) m12 (fun (m40 : Mm) =>
            f_X11_sumOf S a0 (1 : Int32) (1 : Int32) m40 (fun (r42 : Int64) (m41 : Mm) =>
            f_X11_weighs S a0 x1 (-2 : Int32) (1 : Int32) m41 (fun (m43 : Mm) =>
            f_X11_sumOf S a0 (1 : Int32) (1 : Int32) m43 (fun (r45 : Int64) (m44 : Mm) =>
            f_X11_quick_J94 S a0 x1 r13 r42 r45 m44 K))))))))) ∧
       (¬ r9 ≤ (1000000000000 : Int64) →
        K (-1 : Int32) m8)))))))))
set_option maxHeartbeats 4000000 in
set_option maxRecDepth 100000 in
theorem ok_X11_quick {l : Launch} {g : Gg} {S : Ss} {a0 : Nat} {x1 : Int32} {M : Mm} {K : Int32 → Mm → Prop} (hs0 : S[a0]? = some (10, 0)) (hf : f_X11_quick S a0 x1 M K) : MT l g S yX11_quick cX11_quick 16 (some .int) 8 [.ref (ad g a0), .int x1] M (pI K) := by
  refine MT.of (by decide +kernel) (Nat.le_of_ble_eq_true rfl) ?_
  intro p e s m below meth c ls E hw hR hS hl
  have hl : lv_has ls 16 [(0, .ref (ad g a0)), (1, .int x1)] := hl
  generalize ([.ref (ad g a0), .int x1] : List Value).toArray = args at E ⊢
  have E : EN p s m args meth c cX11_quick 16 (some .int) RX11 g := E
  have hx := E.1
  have hb := E.2.1
  unfold f_X11_quick at hf
  refine lv_aload_n hx hb dX11_quick_0 rfl (lv_at hl 0 rfl) ?_
  refine lv_iconst (v := 0) hx hb dX11_quick_1 (by decide) ?_
  refine hw_putI E hR hS hw cI10 hs0 0 (by decide) lfX11_3 rfl (Or.inl rfl) dX11_quick_2 (fun m1 H locs em1 hR hS => ?_)
  replace hf := hf m1 em1
  refine lv_aload_n hx hb dX11_quick_5 rfl (lv_at hl 0 rfl) ?_
  refine lv_iload_n hx hb dX11_quick_6 rfl (lv_at hl 1 rfl) ?_
  refine hw_callV (d := 8) E hR hS (As := [.int x1]) (rest := []) cI10 hs0 rfl mcX11_isRun miX11_isRun lmX11_341 (ok_X11_isRun hs0 hf) rfl rfl (by decide) hl.1 (Nat.le_of_ble_eq_true rfl) dX11_quick_7 (fun rr m2 H locs hp hR hS => ?_)
  obtain ⟨r3, rfl, hf⟩ := hp
  refine W.eq (g2 := F0 m 10 ls [.int r3]) rfl ?_
  refine lv_if_eq (tgt := 39) hx hb dX11_quick_10 (by decide) (fun c4 => ?_) (fun c4 => ?_)
  · replace hf := hf.1 c4
    refine lv_iconst (v := -1) hx hb dX11_quick_39 (by decide) ?_
    exact hw_iret E hR hS ⟨_, rfl, hf⟩ dX11_quick_40
  · replace hf := hf.2 c4
    refine lv_aload_n hx hb dX11_quick_13 rfl (lv_at hl 0 rfl) ?_
    refine lv_iconst (v := 0) hx hb dX11_quick_14 (by decide) ?_
    refine lv_iload_n hx hb dX11_quick_15 rfl (lv_at hl 1 rfl) ?_
    refine hw_callV (d := 8) E hR hS (As := [.int (0 : Int32), .int x1]) (rest := []) cI10 hs0 rfl mcX11_allWeights miX11_allWeights lmX11_410 (ok_X11_allWeights hs0 hf) rfl rfl (by decide) hl.1 (Nat.le_of_ble_eq_true rfl) dX11_quick_16 (fun rr m5 H locs hp hR hS => ?_)
    obtain ⟨r6, rfl, hf⟩ := hp
    refine W.eq (g2 := F0 m 19 ls [.long r6]) rfl ?_
    refine lv_ldc2 (v := 1000000000000) hx hb E.2.2.2.2.1 (E.2.2.2.2.2.1 _ ljX11_390) dX11_quick_19 ?_
    refine hw_lif_gt (tgt := 39) hx hb dX11_quick_22 dX11_quick_23 (by decide) (fun c7 => ?_) (fun c7 => ?_)
    · replace hf := hf.1 c7
      refine lv_iconst (v := -1) hx hb dX11_quick_39 (by decide) ?_
      exact hw_iret E hR hS ⟨_, rfl, hf⟩ dX11_quick_40
    · replace hf := hf.2 c7
      refine lv_aload_n hx hb dX11_quick_26 rfl (lv_at hl 0 rfl) ?_
      refine lv_iconst (v := 1) hx hb dX11_quick_27 (by decide) ?_
      refine lv_iload_n hx hb dX11_quick_28 rfl (lv_at hl 1 rfl) ?_
      refine hw_callV (d := 8) E hR hS (As := [.int (1 : Int32), .int x1]) (rest := []) cI10 hs0 rfl mcX11_allWeights miX11_allWeights lmX11_410 (ok_X11_allWeights hs0 hf) rfl rfl (by decide) hl.1 (Nat.le_of_ble_eq_true rfl) dX11_quick_29 (fun rr m8 H locs hp hR hS => ?_)
      obtain ⟨r9, rfl, hf⟩ := hp
      refine W.eq (g2 := F0 m 32 ls [.long r9]) rfl ?_
      refine lv_ldc2 (v := 1000000000000) hx hb E.2.2.2.2.1 (E.2.2.2.2.2.1 _ ljX11_390) dX11_quick_32 ?_
      refine hw_lif_le (tgt := 41) hx hb dX11_quick_35 dX11_quick_36 (by decide) (fun c10 => ?_) (fun c10 => ?_)
      · replace hf := hf.1 c10
        refine lv_aload_n hx hb dX11_quick_41 rfl (lv_at hl 0 rfl) ?_
        refine hw_callV (d := 8) E hR hS (As := []) (rest := []) cI10 hs0 rfl mcX11_remembers miX11_remembers lmX11_344 (ok_X11_remembers hs0 hf) rfl rfl (by decide) hl.1 (Nat.le_of_ble_eq_true rfl) dX11_quick_42 (fun rr m11 H locs hp hR hS => ?_)
        obtain ⟨rfl, hf⟩ := hp
        refine W.eq (g2 := F0 m 45 ls []) rfl ?_
        refine lv_aload_n hx hb dX11_quick_45 rfl (lv_at hl 0 rfl) ?_
        refine lv_iload_n hx hb dX11_quick_46 rfl (lv_at hl 1 rfl) ?_
        refine lv_sipush (v := 4000) hx hb dX11_quick_47 (by decide) ?_
        refine hw_callV (d := 8) E hR hS (As := [.int x1, .int (4000 : Int32)]) (rest := []) cI10 hs0 rfl mcX11_explores miX11_explores lmX11_347 (ok_X11_explores hs0 hf) rfl rfl (by decide) hl.1 (Nat.le_of_ble_eq_true rfl) dX11_quick_50 (fun rr m12 H locs hp hR hS => ?_)
        obtain ⟨r13, rfl, hf⟩ := hp
        refine W.eq (g2 := F0 m 53 ls [.int r13]) rfl ?_
        refine lv_istore_n (lv' := [(2, .int r13), (0, .ref (ad g a0)), (1, .int x1)]) hx hb dX11_quick_53 rfl hl (by decide) rfl (fun ls hl => ?_)
        refine lv_lconst (v := 0) hx hb dX11_quick_54 (by decide) ?_
        refine lv_lstore_n (lv' := [(3, .long (0 : Int64)), (2, .int r13), (0, .ref (ad g a0)), (1, .int x1)]) hx hb dX11_quick_55 rfl hl (by decide) rfl (fun ls hl => ?_)
        refine lv_lconst (v := 0) hx hb dX11_quick_56 (by decide) ?_
        refine lv_lstore (lv' := [(5, .long (0 : Int64)), (3, .long (0 : Int64)), (2, .int r13), (0, .ref (ad g a0)), (1, .int x1)]) hx hb dX11_quick_57 hl (by decide) rfl (fun ls hl => ?_)
        refine lv_iload_n hx hb dX11_quick_59 rfl (lv_at hl 2 rfl) ?_
        refine lv_if_eq (tgt := 94) hx hb dX11_quick_60 (by decide) (fun c14 => ?_) (fun c14 => ?_)
        · replace hf := hf.1 c14
          exact w_X11_quick_J94 _ _ _ _ _ _ _ E hw hs0 hf _ _ _ hR hS (lv_sub hl [3, 4, 2, 1, 0] rfl)
        · replace hf := hf.2 c14
          refine lv_aload_n hx hb dX11_quick_63 rfl (lv_at hl 3 rfl) ?_
          refine lv_iload_n hx hb dX11_quick_64 rfl (lv_at hl 4 rfl) ?_
          refine lv_bipush (v := -2) hx hb dX11_quick_65 (by decide) ?_
          refine lv_iconst (v := 0) hx hb dX11_quick_67 (by decide) ?_
          refine hw_callV (d := 8) E hR hS (As := [.int x1, .int (-2 : Int32), .int (0 : Int32)]) (rest := []) cI10 hs0 rfl mcX11_weighs miX11_weighs lmX11_398 (ok_X11_weighs hs0 hf) rfl rfl (by decide) hl.1 (Nat.le_of_ble_eq_true rfl) dX11_quick_68 (fun rr m40 H locs hp hR hS => ?_)
          obtain ⟨rfl, hf⟩ := hp
          refine W.eq (g2 := F0 m 71 ls []) rfl ?_
          refine lv_aload_n hx hb dX11_quick_71 rfl (lv_at hl 3 rfl) ?_
          refine lv_iconst (v := 1) hx hb dX11_quick_72 (by decide) ?_
          refine lv_iconst (v := 1) hx hb dX11_quick_73 (by decide) ?_
          refine hw_callV (d := 8) E hR hS (As := [.int (1 : Int32), .int (1 : Int32)]) (rest := []) cI10 hs0 rfl mcX11_sumOf miX11_sumOf lmX11_402 (ok_X11_sumOf hs0 hf) rfl rfl (by decide) hl.1 (Nat.le_of_ble_eq_true rfl) dX11_quick_74 (fun rr m41 H locs hp hR hS => ?_)
          obtain ⟨r42, rfl, hf⟩ := hp
          refine W.eq (g2 := F0 m 77 ls [.long r42]) rfl ?_
          refine lv_lstore_n (lv' := [(3, .long r42), (5, .long (0 : Int64)), (2, .int r13), (0, .ref (ad g a0)), (1, .int x1)]) hx hb dX11_quick_77 rfl hl (by decide) rfl (fun ls hl => ?_)
          refine lv_aload_n hx hb dX11_quick_78 rfl (lv_at hl 3 rfl) ?_
          refine lv_iload_n hx hb dX11_quick_79 rfl (lv_at hl 4 rfl) ?_
          refine lv_bipush (v := -2) hx hb dX11_quick_80 (by decide) ?_
          refine lv_iconst (v := 1) hx hb dX11_quick_82 (by decide) ?_
          refine hw_callV (d := 8) E hR hS (As := [.int x1, .int (-2 : Int32), .int (1 : Int32)]) (rest := []) cI10 hs0 rfl mcX11_weighs miX11_weighs lmX11_398 (ok_X11_weighs hs0 hf) rfl rfl (by decide) hl.1 (Nat.le_of_ble_eq_true rfl) dX11_quick_83 (fun rr m43 H locs hp hR hS => ?_)
          obtain ⟨rfl, hf⟩ := hp
          refine W.eq (g2 := F0 m 86 ls []) rfl ?_
          refine lv_aload_n hx hb dX11_quick_86 rfl (lv_at hl 3 rfl) ?_
          refine lv_iconst (v := 1) hx hb dX11_quick_87 (by decide) ?_
          refine lv_iconst (v := 1) hx hb dX11_quick_88 (by decide) ?_
          refine hw_callV (d := 8) E hR hS (As := [.int (1 : Int32), .int (1 : Int32)]) (rest := []) cI10 hs0 rfl mcX11_sumOf miX11_sumOf lmX11_402 (ok_X11_sumOf hs0 hf) rfl rfl (by decide) hl.1 (Nat.le_of_ble_eq_true rfl) dX11_quick_89 (fun rr m44 H locs hp hR hS => ?_)
          obtain ⟨r45, rfl, hf⟩ := hp
          refine W.eq (g2 := F0 m 92 ls [.long r45]) rfl ?_
          refine lv_lstore (lv' := [(5, .long r45), (3, .long r42), (2, .int r13), (0, .ref (ad g a0)), (1, .int x1)]) hx hb dX11_quick_92 hl (by decide) rfl (fun ls hl => ?_)
          exact w_X11_quick_J94 _ _ _ _ _ _ _ E hw hs0 hf _ _ _ hR hS (lv_sub hl [3, 4, 2, 1, 0] rfl)
      · replace hf := hf.2 c10
        refine lv_iconst (v := -1) hx hb dX11_quick_39 (by decide) ?_
        exact hw_iret E hR hS ⟨_, rfl, hf⟩ dX11_quick_40
def f_X11_someBreaks_B29 (S : Ss) (a0 : Nat) (x1 : Int32) (x3 : Int32) (x4 : Int32) (x5 : Int32) (M : Mm) (BK29 : Int32 → Mm → Prop) (EK29 : Mm → Prop) (K : Int32 → Mm → Prop) : Prop :=
  f_X11_width S a0  M (fun (r7 : Int32) (m6 : Mm) =>
    ((r7 ≤ x5 →
    EK29 m6) ∧
   (¬ r7 ≤ x5 →
    ∃ b9 : Nat, m6.2.2 a0 42 = some b9 ∧
    ∃ n10 : Nat, shp S b9 = some (50, n10) ∧ vp_in x4 n10 ∧
    ((x1 ≤ (m6.1 b9 x4.toNatClampNeg) →
      EK29 m6) ∧
     (¬ x1 ≤ (m6.1 b9 x4.toNatClampNeg) →
      f_X11_goesTo S a0 x4 x5 m6 (fun (m12 : Mm) =>
        f_X11_breaks S a0  m12 (fun (r14 : Int32) (m13 : Mm) =>
        ((r14 = 0 →
        ∀ v16 : Int32, v16 = x5 + (1 : Int32) →
        BK29 v16 m13) ∧
       (¬ r14 = 0 →
        K (1 : Int32) m13)))))))))
set_option maxHeartbeats 4000000 in
set_option maxRecDepth 100000 in
theorem w_X11_someBreaks_B29 {p : Program} {l : Launch} {e : Env} {s : State} {m : MethodId} {args : Array Value} {below : List Frame} {meth : Method} {c : Code} {g : Gg} {S : Ss} (a0 : Nat) (x1 : Int32) (x3 : Int32) (x4 : Int32) (x5 : Int32) (M : Mm) (BK29 : Int32 → Mm → Prop) (EK29 : Mm → Prop) (K : Int32 → Mm → Prop) (E : EN p s m args meth c cX11_someBreaks 6 (some .int) RX11 g) (hw : ad g 100000 < s.heap.size) (hs0 : S[a0]? = some (10, 0)) (hBK29 : ∀ (x5' : Int32) (M' : Mm) (H : Heap) (locs : List Loc) (ls : Array Slot), BK29 x5' M' → RP g S M' H → va_S (gA g) s.heap H locs → lv_has ls 6 [(0, .ref (ad g a0)), (1, .int x1), (3, .int x3), (4, .int x4), (5, .int x5')] → W p l e (rmD 8) s m args below meth c H locs 0 0 (MQ below (QA g S (pI K)) args s 0 0 (gA g)) (F0 m 29 ls [])) (hEK29 : ∀ (M' : Mm) (H : Heap) (locs : List Loc) (ls : Array Slot), EK29 M' → RP g S M' H → va_S (gA g) s.heap H locs → lv_has ls 6 [(0, .ref (ad g a0)), (1, .int x1), (3, .int x3), (4, .int x4)] → W p l e (rmD 8) s m args below meth c H locs 0 0 (MQ below (QA g S (pI K)) args s 0 0 (gA g)) (F0 m 72 ls [])) (hf : f_X11_someBreaks_B29 S a0 x1 x3 x4 x5 M BK29 EK29 K) (H : Heap) (locs : List Loc) (ls : Array Slot) (hR : RP g S M H) (hS : va_S (gA g) s.heap H locs) (hl : lv_has ls 6 [(0, .ref (ad g a0)), (1, .int x1), (3, .int x3), (4, .int x4), (5, .int x5)]) : W p l e (rmD 8) s m args below meth c H locs 0 0 (MQ below (QA g S (pI K)) args s 0 0 (gA g)) (F0 m 29 ls []) := by
  have hx := E.1
  have hb := E.2.1
  unfold f_X11_someBreaks_B29 at hf
  refine lv_iload hx hb dX11_someBreaks_29 (lv_at hl 4 rfl) ?_
  refine lv_aload_n hx hb dX11_someBreaks_31 rfl (lv_at hl 0 rfl) ?_
  refine hw_callV (d := 8) E hR hS (As := []) (rest := [.int x5]) cI10 hs0 rfl mcX11_width miX11_width lmX11_251 (ok_X11_width hs0 hf) rfl rfl (by decide) hl.1 (Nat.le_of_ble_eq_true rfl) dX11_someBreaks_32 (fun rr m6 H locs hp hR hS => ?_)
  obtain ⟨r7, rfl, hf⟩ := hp
  refine W.eq (g2 := F0 m 35 ls [.int r7, .int x5]) rfl ?_
  refine lv_icmp_ge (tgt := 72) hx hb dX11_someBreaks_35 (by decide) (fun c8 => ?_) (fun c8 => ?_)
  · replace hf := hf.1 c8
    exact hEK29  _ _ _ _ hf hR hS (lv_sub hl [0, 1, 2, 3] rfl)
  · replace hf := hf.2 c8
    refine lv_aload_n hx hb dX11_someBreaks_38 rfl (lv_at hl 0 rfl) ?_
    obtain ⟨b9, hb9, hf⟩ := hf
    refine hw_getR E hR cI10 hs0 42 (by decide) lfX11_327 rfl hb9 dX11_someBreaks_39 ?_
    refine lv_iload hx hb dX11_someBreaks_42 (lv_at hl 3 rfl) ?_
    obtain ⟨n10, hn10, in10, hf⟩ := hf
    refine hw_iald E hR hS hn10 in10 dX11_someBreaks_44 ?_
    refine lv_iload_n hx hb dX11_someBreaks_45 rfl (lv_at hl 1 rfl) ?_
    refine lv_icmp_ge (tgt := 72) hx hb dX11_someBreaks_46 (by decide) (fun c11 => ?_) (fun c11 => ?_)
    · replace hf := hf.1 c11
      exact hEK29  _ _ _ _ hf hR hS (lv_sub hl [0, 1, 2, 3] rfl)
    · replace hf := hf.2 c11
      refine lv_aload_n hx hb dX11_someBreaks_49 rfl (lv_at hl 0 rfl) ?_
      refine lv_iload hx hb dX11_someBreaks_50 (lv_at hl 3 rfl) ?_
      refine lv_iload hx hb dX11_someBreaks_52 (lv_at hl 4 rfl) ?_
      refine hw_callV (d := 8) E hR hS (As := [.int x4, .int x5]) (rest := []) cI10 hs0 rfl mcX11_goesTo miX11_goesTo lmX11_318 (ok_X11_goesTo hs0 hf) rfl rfl (by decide) hl.1 (Nat.le_of_ble_eq_true rfl) dX11_someBreaks_54 (fun rr m12 H locs hp hR hS => ?_)
      obtain ⟨rfl, hf⟩ := hp
      refine W.eq (g2 := F0 m 57 ls []) rfl ?_
      refine lv_aload_n hx hb dX11_someBreaks_57 rfl (lv_at hl 0 rfl) ?_
      refine hw_callV (d := 8) E hR hS (As := []) (rest := []) cI10 hs0 rfl mcX11_breaks miX11_breaks lmX11_356 (ok_X11_breaks hs0 hf) rfl rfl (by decide) hl.1 (Nat.le_of_ble_eq_true rfl) dX11_someBreaks_58 (fun rr m13 H locs hp hR hS => ?_)
      obtain ⟨r14, rfl, hf⟩ := hp
      refine W.eq (g2 := F0 m 61 ls [.int r14]) rfl ?_
      refine lv_if_eq (tgt := 66) hx hb dX11_someBreaks_61 (by decide) (fun c15 => ?_) (fun c15 => ?_)
      · replace hf := hf.1 c15
        obtain ⟨v16, ev16⟩ : ∃ y : Int32, y = x5 + (1 : Int32) := ⟨_, rfl⟩
        replace hf := hf v16 ev16
        refine lv_iinc (v := v16) (lv' := [(5, .int v16), (0, .ref (ad g a0)), (1, .int x1), (3, .int x3), (4, .int x4)]) hx hb dX11_someBreaks_66 hl (k := 4) rfl (by rw [ev16]; rfl) (by decide) rfl (fun ls hl => ?_)
        refine lv_goto (tgt := 29) hx hb dX11_someBreaks_69 (by decide) ?_
        exact hBK29 _ _ _ _ _ hf hR hS (lv_sub hl [1, 2, 3, 4, 0] rfl)
      · replace hf := hf.2 c15
        refine lv_iconst (v := 1) hx hb dX11_someBreaks_64 (by decide) ?_
        exact hw_iret E hR hS ⟨_, rfl, hf⟩ dX11_someBreaks_65
def f_X11_someBreaks_L29 (S : Ss) (a0 : Nat) (x1 : Int32) (x3 : Int32) (x4 : Int32) (EK29 : Mm → Prop) (K : Int32 → Mm → Prop) : Nat → Int32 → Mm → Prop
  | 0, _, _ => False
  | n + 1, x5, M => f_X11_someBreaks_B29 S a0 x1 x3 x4 x5 M (fun (x5 : Int32) (M : Mm) => f_X11_someBreaks_L29 S a0 x1 x3 x4 EK29 K n x5 M) EK29 K
set_option maxHeartbeats 4000000 in
set_option maxRecDepth 100000 in
theorem w_X11_someBreaks_L29 {p : Program} {l : Launch} {e : Env} {s : State} {m : MethodId} {args : Array Value} {below : List Frame} {meth : Method} {c : Code} {g : Gg} {S : Ss} (a0 : Nat) (x1 : Int32) (x3 : Int32) (x4 : Int32) (EK29 : Mm → Prop) (K : Int32 → Mm → Prop) (E : EN p s m args meth c cX11_someBreaks 6 (some .int) RX11 g) (hw : ad g 100000 < s.heap.size) (hs0 : S[a0]? = some (10, 0)) (hEK29 : ∀ (M' : Mm) (H : Heap) (locs : List Loc) (ls : Array Slot), EK29 M' → RP g S M' H → va_S (gA g) s.heap H locs → lv_has ls 6 [(0, .ref (ad g a0)), (1, .int x1), (3, .int x3), (4, .int x4)] → W p l e (rmD 8) s m args below meth c H locs 0 0 (MQ below (QA g S (pI K)) args s 0 0 (gA g)) (F0 m 72 ls [])) : ∀ (n : Nat) (x5 : Int32) (M : Mm), f_X11_someBreaks_L29 S a0 x1 x3 x4 EK29 K n x5 M → ∀ (H : Heap) (locs : List Loc) (ls : Array Slot), RP g S M H → va_S (gA g) s.heap H locs → lv_has ls 6 [(0, .ref (ad g a0)), (1, .int x1), (3, .int x3), (4, .int x4), (5, .int x5)] → W p l e (rmD 8) s m args below meth c H locs 0 0 (MQ below (QA g S (pI K)) args s 0 0 (gA g)) (F0 m 29 ls []) := by
  intro n
  induction n with
  | zero => intro x5 M hf; exact hf.elim
  | succ n ih =>
    intro x5 M hf H locs ls hR hS hl
    exact w_X11_someBreaks_B29 _ _ _ _ _ _ _ _ _ E hw hs0 (fun _ M H locs ls h hR hS hl => ih _ M h H locs ls hR hS hl) hEK29 hf H locs ls hR hS hl
def f_X11_someBreaks_B20 (S : Ss) (a0 : Nat) (x1 : Int32) (x3 : Int32) (x4 : Int32) (M : Mm) (BK20 : Int32 → Mm → Prop) (EK20 : Mm → Prop) (K : Int32 → Mm → Prop) : Prop :=
  ((x3 ≤ x4 →
    EK20 M) ∧
   (¬ x3 ≤ x4 →
    ∃ n19 : Nat, f_X11_someBreaks_L29 S a0 x1 x3 x4 (fun (m17 : Mm) =>
      ∀ v18 : Int32, v18 = x4 + (1 : Int32) →
      BK20 v18 m17) K n19 (0 : Int32) M))
set_option maxHeartbeats 4000000 in
set_option maxRecDepth 100000 in
theorem w_X11_someBreaks_B20 {p : Program} {l : Launch} {e : Env} {s : State} {m : MethodId} {args : Array Value} {below : List Frame} {meth : Method} {c : Code} {g : Gg} {S : Ss} (a0 : Nat) (x1 : Int32) (x3 : Int32) (x4 : Int32) (M : Mm) (BK20 : Int32 → Mm → Prop) (EK20 : Mm → Prop) (K : Int32 → Mm → Prop) (E : EN p s m args meth c cX11_someBreaks 6 (some .int) RX11 g) (hw : ad g 100000 < s.heap.size) (hs0 : S[a0]? = some (10, 0)) (hBK20 : ∀ (x4' : Int32) (M' : Mm) (H : Heap) (locs : List Loc) (ls : Array Slot), BK20 x4' M' → RP g S M' H → va_S (gA g) s.heap H locs → lv_has ls 6 [(0, .ref (ad g a0)), (1, .int x1), (3, .int x3), (4, .int x4')] → W p l e (rmD 8) s m args below meth c H locs 0 0 (MQ below (QA g S (pI K)) args s 0 0 (gA g)) (F0 m 20 ls [])) (hEK20 : ∀ (M' : Mm) (H : Heap) (locs : List Loc) (ls : Array Slot), EK20 M' → RP g S M' H → va_S (gA g) s.heap H locs → lv_has ls 6 [] → W p l e (rmD 8) s m args below meth c H locs 0 0 (MQ below (QA g S (pI K)) args s 0 0 (gA g)) (F0 m 78 ls [])) (hf : f_X11_someBreaks_B20 S a0 x1 x3 x4 M BK20 EK20 K) (H : Heap) (locs : List Loc) (ls : Array Slot) (hR : RP g S M H) (hS : va_S (gA g) s.heap H locs) (hl : lv_has ls 6 [(0, .ref (ad g a0)), (1, .int x1), (3, .int x3), (4, .int x4)]) : W p l e (rmD 8) s m args below meth c H locs 0 0 (MQ below (QA g S (pI K)) args s 0 0 (gA g)) (F0 m 20 ls []) := by
  have hx := E.1
  have hb := E.2.1
  unfold f_X11_someBreaks_B20 at hf
  refine lv_iload hx hb dX11_someBreaks_20 (lv_at hl 3 rfl) ?_
  refine lv_iload_n hx hb dX11_someBreaks_22 rfl (lv_at hl 2 rfl) ?_
  refine lv_icmp_ge (tgt := 78) hx hb dX11_someBreaks_23 (by decide) (fun c5 => ?_) (fun c5 => ?_)
  · replace hf := hf.1 c5
    exact hEK20  _ _ _ _ hf hR hS (lv_sub hl [] rfl)
  · replace hf := hf.2 c5
    refine lv_iconst (v := 0) hx hb dX11_someBreaks_26 (by decide) ?_
    refine lv_istore (lv' := [(5, .int (0 : Int32)), (0, .ref (ad g a0)), (1, .int x1), (3, .int x3), (4, .int x4)]) hx hb dX11_someBreaks_27 hl (by decide) rfl (fun ls hl => ?_)
    obtain ⟨n19, hf⟩ := hf
    refine w_X11_someBreaks_L29 _ _ _ _ _ _ E hw hs0 ?_ n19 _ _ hf _ _ _ hR hS (lv_sub hl [1, 2, 3, 4, 0] rfl)
    intro m17 H locs ls hf hR hS hl
    obtain ⟨v18, ev18⟩ : ∃ y : Int32, y = x4 + (1 : Int32) := ⟨_, rfl⟩
    replace hf := hf v18 ev18
    refine lv_iinc (v := v18) (lv' := [(4, .int v18), (0, .ref (ad g a0)), (1, .int x1), (3, .int x3)]) hx hb dX11_someBreaks_72 hl (k := 3) rfl (by rw [ev18]; rfl) (by decide) rfl (fun ls hl => ?_)
    refine lv_goto (tgt := 20) hx hb dX11_someBreaks_75 (by decide) ?_
    exact hBK20 _ _ _ _ _ hf hR hS (lv_sub hl [1, 2, 3, 0] rfl)
def f_X11_someBreaks_L20 (S : Ss) (a0 : Nat) (x1 : Int32) (x3 : Int32) (EK20 : Mm → Prop) (K : Int32 → Mm → Prop) : Nat → Int32 → Mm → Prop
  | 0, _, _ => False
  | n + 1, x4, M => f_X11_someBreaks_B20 S a0 x1 x3 x4 M (fun (x4 : Int32) (M : Mm) => f_X11_someBreaks_L20 S a0 x1 x3 EK20 K n x4 M) EK20 K
set_option maxHeartbeats 4000000 in
set_option maxRecDepth 100000 in
theorem w_X11_someBreaks_L20 {p : Program} {l : Launch} {e : Env} {s : State} {m : MethodId} {args : Array Value} {below : List Frame} {meth : Method} {c : Code} {g : Gg} {S : Ss} (a0 : Nat) (x1 : Int32) (x3 : Int32) (EK20 : Mm → Prop) (K : Int32 → Mm → Prop) (E : EN p s m args meth c cX11_someBreaks 6 (some .int) RX11 g) (hw : ad g 100000 < s.heap.size) (hs0 : S[a0]? = some (10, 0)) (hEK20 : ∀ (M' : Mm) (H : Heap) (locs : List Loc) (ls : Array Slot), EK20 M' → RP g S M' H → va_S (gA g) s.heap H locs → lv_has ls 6 [] → W p l e (rmD 8) s m args below meth c H locs 0 0 (MQ below (QA g S (pI K)) args s 0 0 (gA g)) (F0 m 78 ls [])) : ∀ (n : Nat) (x4 : Int32) (M : Mm), f_X11_someBreaks_L20 S a0 x1 x3 EK20 K n x4 M → ∀ (H : Heap) (locs : List Loc) (ls : Array Slot), RP g S M H → va_S (gA g) s.heap H locs → lv_has ls 6 [(0, .ref (ad g a0)), (1, .int x1), (3, .int x3), (4, .int x4)] → W p l e (rmD 8) s m args below meth c H locs 0 0 (MQ below (QA g S (pI K)) args s 0 0 (gA g)) (F0 m 20 ls []) := by
  intro n
  induction n with
  | zero => intro x4 M hf; exact hf.elim
  | succ n ih =>
    intro x4 M hf H locs ls hR hS hl
    exact w_X11_someBreaks_B20 _ _ _ _ _ _ _ _ E hw hs0 (fun _ M H locs ls h hR hS hl => ih _ M h H locs ls hR hS hl) hEK20 hf H locs ls hR hS hl
def f_X11_someBreaks (S : Ss) (a0 : Nat) (x1 : Int32) (x2 : Int32) (M : Mm) (K : Int32 → Mm → Prop) : Prop :=
  f_X11_explores S a0 x1 x2 M (fun (r2 : Int32) (m1 : Mm) =>
    ((r2 = 0 →
    K (-3 : Int32) m1) ∧
   (¬ r2 = 0 →
    ∀ v4 : Int32, v4 = (m1.1 a0 44) →
    ∃ n21 : Nat, f_X11_someBreaks_L20 S a0 x1 v4 (fun (m20 : Mm) =>
      K (0 : Int32) m20) K n21 (0 : Int32) m1)))
set_option maxHeartbeats 4000000 in
set_option maxRecDepth 100000 in
theorem ok_X11_someBreaks {l : Launch} {g : Gg} {S : Ss} {a0 : Nat} {x1 : Int32} {x2 : Int32} {M : Mm} {K : Int32 → Mm → Prop} (hs0 : S[a0]? = some (10, 0)) (hf : f_X11_someBreaks S a0 x1 x2 M K) : MT l g S yX11_someBreaks cX11_someBreaks 6 (some .int) 8 [.ref (ad g a0), .int x1, .int x2] M (pI K) := by
  refine MT.of (by decide +kernel) (Nat.le_of_ble_eq_true rfl) ?_
  intro p e s m below meth c ls E hw hR hS hl
  have hl : lv_has ls 6 [(0, .ref (ad g a0)), (1, .int x1), (2, .int x2)] := hl
  generalize ([.ref (ad g a0), .int x1, .int x2] : List Value).toArray = args at E ⊢
  have E : EN p s m args meth c cX11_someBreaks 6 (some .int) RX11 g := E
  have hx := E.1
  have hb := E.2.1
  unfold f_X11_someBreaks at hf
  refine lv_aload_n hx hb dX11_someBreaks_0 rfl (lv_at hl 0 rfl) ?_
  refine lv_iload_n hx hb dX11_someBreaks_1 rfl (lv_at hl 1 rfl) ?_
  refine lv_iload_n hx hb dX11_someBreaks_2 rfl (lv_at hl 2 rfl) ?_
  refine hw_callV (d := 8) E hR hS (As := [.int x1, .int x2]) (rest := []) cI10 hs0 rfl mcX11_explores miX11_explores lmX11_347 (ok_X11_explores hs0 hf) rfl rfl (by decide) hl.1 (Nat.le_of_ble_eq_true rfl) dX11_someBreaks_3 (fun rr m1 H locs hp hR hS => ?_)
  obtain ⟨r2, rfl, hf⟩ := hp
  refine W.eq (g2 := F0 m 6 ls [.int r2]) rfl ?_
  refine lv_if_ne (tgt := 12) hx hb dX11_someBreaks_6 (by decide) (fun c3 => ?_) (fun c3 => ?_)
  · replace hf := hf.2 c3
    refine lv_aload_n hx hb dX11_someBreaks_12 rfl (lv_at hl 0 rfl) ?_
    refine hw_getI E hR cI10 hs0 44 (by decide) lfX11_296 rfl dX11_someBreaks_13 ?_
    refine lv_topi (fun v4 ev4 => ?_)
    replace hf := hf v4 ev4
    refine lv_istore_n (lv' := [(3, .int v4), (0, .ref (ad g a0)), (1, .int x1), (2, .int x2)]) hx hb dX11_someBreaks_16 rfl hl (by decide) rfl (fun ls hl => ?_)
    refine lv_iconst (v := 0) hx hb dX11_someBreaks_17 (by decide) ?_
    refine lv_istore (lv' := [(4, .int (0 : Int32)), (3, .int v4), (0, .ref (ad g a0)), (1, .int x1), (2, .int x2)]) hx hb dX11_someBreaks_18 hl (by decide) rfl (fun ls hl => ?_)
    obtain ⟨n21, hf⟩ := hf
    refine w_X11_someBreaks_L20 _ _ _ _ _ E hw hs0 ?_ n21 _ _ hf _ _ _ hR hS (lv_sub hl [2, 3, 1, 0] rfl)
    intro m20 H locs ls hf hR hS hl
    refine lv_iconst (v := 0) hx hb dX11_someBreaks_78 (by decide) ?_
    exact hw_iret E hR hS ⟨_, rfl, hf⟩ dX11_someBreaks_79
  · replace hf := hf.1 c3
    refine lv_bipush (v := -3) hx hb dX11_someBreaks_9 (by decide) ?_
    exact hw_iret E hR hS ⟨_, rfl, hf⟩ dX11_someBreaks_11
def f_X11_round_J160 (S : Ss) (a0 : Nat) (x1 : Int32) (x2 : Int32) (x3 : Int64) (x5 : Int32) (x7 : Int32) (t0 : Int32) (t1 : Int32) (M : Mm) (BK56 : Int32 → Int32 → Int32 → Mm → Prop) (K : Int32 → Mm → Prop) : Prop :=
  f_X11_truth S  t0 M (fun (r20 : Int32) (m19 : Mm) =>
    ∀ v21 : Int32, v21 = (t1 + r20) →
  ∀ v22 : Int32, v22 = x7 + (1 : Int32) →
  BK56 x5 v21 v22 m19)
set_option maxHeartbeats 4000000 in
set_option maxRecDepth 100000 in
theorem w_X11_round_J160 {p : Program} {l : Launch} {e : Env} {s : State} {m : MethodId} {args : Array Value} {below : List Frame} {meth : Method} {c : Code} {g : Gg} {S : Ss} (a0 : Nat) (x1 : Int32) (x2 : Int32) (x3 : Int64) (x5 : Int32) (x7 : Int32) (t0 : Int32) (t1 : Int32) (M : Mm) (BK56 : Int32 → Int32 → Int32 → Mm → Prop) (K : Int32 → Mm → Prop) (E : EN p s m args meth c cX11_round 10 (some .int) RX11 g) (hw : ad g 100000 < s.heap.size) (hs0 : S[a0]? = some (10, 0)) (hBK56 : ∀ (x5' : Int32) (x6' : Int32) (x7' : Int32) (M' : Mm) (H : Heap) (locs : List Loc) (ls : Array Slot), BK56 x5' x6' x7' M' → RP g S M' H → va_S (gA g) s.heap H locs → lv_has ls 10 [(0, .ref (ad g a0)), (1, .int x1), (2, .int x2), (3, .long x3), (5, .int x5'), (6, .int x6'), (7, .int x7')] → W p l e (rmD 9) s m args below meth c H locs 0 0 (MQ below (QA g S (pI K)) args s 0 0 (gA g)) (F0 m 56 ls [])) (hf : f_X11_round_J160 S a0 x1 x2 x3 x5 x7 t0 t1 M BK56 K) (H : Heap) (locs : List Loc) (ls : Array Slot) (hR : RP g S M H) (hS : va_S (gA g) s.heap H locs) (hl : lv_has ls 10 [(0, .ref (ad g a0)), (1, .int x1), (2, .int x2), (3, .long x3), (5, .int x5), (7, .int x7)]) : W p l e (rmD 9) s m args below meth c H locs 0 0 (MQ below (QA g S (pI K)) args s 0 0 (gA g)) (F0 m 160 ls [.int t0, .int t1]) := by
  have hx := E.1
  have hb := E.2.1
  unfold f_X11_round_J160 at hf
  refine hw_callS (d := 9) E hR hS (As := [.int t0]) (rest := [.int t1]) mcX11_truth msX11_truth lmX11_35 (ok_X11_truth  hf) rfl rfl (by decide) hl.1 (Nat.le_of_ble_eq_true rfl) dX11_round_160 (fun rr m19 H locs hp hR hS => ?_)
  obtain ⟨r20, rfl, hf⟩ := hp
  refine W.eq (g2 := F0 m 163 ls [.int r20, .int t1]) rfl ?_
  refine lv_iadd hx hb dX11_round_163 ?_
  refine lv_topi (fun v21 ev21 => ?_)
  replace hf := hf v21 ev21
  refine lv_istore (lv' := [(6, .int v21), (0, .ref (ad g a0)), (1, .int x1), (2, .int x2), (3, .long x3), (5, .int x5), (7, .int x7)]) hx hb dX11_round_164 hl (by decide) rfl (fun ls hl => ?_)
  obtain ⟨v22, ev22⟩ : ∃ y : Int32, y = x7 + (1 : Int32) := ⟨_, rfl⟩
  replace hf := hf v22 ev22
  refine lv_iinc (v := v22) (lv' := [(7, .int v22), (6, .int v21), (0, .ref (ad g a0)), (1, .int x1), (2, .int x2), (3, .long x3), (5, .int x5)]) hx hb dX11_round_166 hl (k := 6) rfl (by rw [ev22]; rfl) (by decide) rfl (fun ls hl => ?_)
  refine lv_goto (tgt := 56) hx hb dX11_round_169 (by decide) ?_
  exact hBK56 _ _ _ _ _ _ _ hf hR hS (lv_sub hl [2, 3, 4, 5, 6, 1, 0] rfl)
def f_X11_round_J147 (S : Ss) (a0 : Nat) (x1 : Int32) (x2 : Int32) (x3 : Int64) (x5 : Int32) (x6 : Int32) (x7 : Int32) (x9 : Int32) (M : Mm) (BK56 : Int32 → Int32 → Int32 → Mm → Prop) (K : Int32 → Mm → Prop) : Prop :=
  ((x9 = (1 : Int32) →
    f_X11_round_J160 S a0 x1 x2 x3 x5 x7 (1 : Int32) x6 M BK56 K) ∧
   (¬ x9 = (1 : Int32) →
    f_X11_round_J160 S a0 x1 x2 x3 x5 x7 (0 : Int32) x6 M BK56 K))
set_option maxHeartbeats 4000000 in
set_option maxRecDepth 100000 in
theorem w_X11_round_J147 {p : Program} {l : Launch} {e : Env} {s : State} {m : MethodId} {args : Array Value} {below : List Frame} {meth : Method} {c : Code} {g : Gg} {S : Ss} (a0 : Nat) (x1 : Int32) (x2 : Int32) (x3 : Int64) (x5 : Int32) (x6 : Int32) (x7 : Int32) (x9 : Int32) (M : Mm) (BK56 : Int32 → Int32 → Int32 → Mm → Prop) (K : Int32 → Mm → Prop) (E : EN p s m args meth c cX11_round 10 (some .int) RX11 g) (hw : ad g 100000 < s.heap.size) (hs0 : S[a0]? = some (10, 0)) (hBK56 : ∀ (x5' : Int32) (x6' : Int32) (x7' : Int32) (M' : Mm) (H : Heap) (locs : List Loc) (ls : Array Slot), BK56 x5' x6' x7' M' → RP g S M' H → va_S (gA g) s.heap H locs → lv_has ls 10 [(0, .ref (ad g a0)), (1, .int x1), (2, .int x2), (3, .long x3), (5, .int x5'), (6, .int x6'), (7, .int x7')] → W p l e (rmD 9) s m args below meth c H locs 0 0 (MQ below (QA g S (pI K)) args s 0 0 (gA g)) (F0 m 56 ls [])) (hf : f_X11_round_J147 S a0 x1 x2 x3 x5 x6 x7 x9 M BK56 K) (H : Heap) (locs : List Loc) (ls : Array Slot) (hR : RP g S M H) (hS : va_S (gA g) s.heap H locs) (hl : lv_has ls 10 [(0, .ref (ad g a0)), (1, .int x1), (2, .int x2), (3, .long x3), (5, .int x5), (6, .int x6), (7, .int x7), (9, .int x9)]) : W p l e (rmD 9) s m args below meth c H locs 0 0 (MQ below (QA g S (pI K)) args s 0 0 (gA g)) (F0 m 147 ls []) := by
  have hx := E.1
  have hb := E.2.1
  unfold f_X11_round_J147 at hf
  refine lv_iload hx hb dX11_round_147 (lv_at hl 5 rfl) ?_
  refine lv_iload hx hb dX11_round_149 (lv_at hl 7 rfl) ?_
  refine lv_iconst (v := 1) hx hb dX11_round_151 (by decide) ?_
  refine lv_icmp_ne (tgt := 159) hx hb dX11_round_152 (by decide) (fun c18 => ?_) (fun c18 => ?_)
  · replace hf := hf.2 c18
    refine lv_iconst (v := 0) hx hb dX11_round_159 (by decide) ?_
    exact w_X11_round_J160 _ _ _ _ _ _ _ _ _ _ _ E hw hs0 hBK56 hf _ _ _ hR hS (lv_sub hl [0, 1, 2, 3, 4, 6] rfl)
  · replace hf := hf.1 c18
    refine lv_iconst (v := 1) hx hb dX11_round_155 (by decide) ?_
    refine lv_goto (tgt := 160) hx hb dX11_round_156 (by decide) ?_
    exact w_X11_round_J160 _ _ _ _ _ _ _ _ _ _ _ E hw hs0 hBK56 hf _ _ _ hR hS (lv_sub hl [0, 1, 2, 3, 4, 6] rfl)
def f_X11_round_J123 (S : Ss) (a0 : Nat) (x1 : Int32) (x2 : Int32) (x3 : Int64) (x6 : Int32) (x7 : Int32) (x9 : Int32) (t0 : Int32) (M : Mm) (BK56 : Int32 → Int32 → Int32 → Mm → Prop) (K : Int32 → Mm → Prop) : Prop :=
  ((x9 = (1 : Int32) →
    (((20 : Int32) ≤ x6 →
      f_X11_round_J147 S a0 x1 x2 x3 t0 x6 x7 x9 M BK56 K) ∧
     (¬ (20 : Int32) ≤ x6 →
      ∃ b24 : Nat, M.2.2 a0 59 = some b24 ∧
      ∃ n25 : Nat, S[b24]? = some (50, n25) ∧ vp_in x6 n25 ∧
      ∀ m26 : Mm, m26 = stI M b24 x6.toNatClampNeg x7 →
      f_X11_round_J147 S a0 x1 x2 x3 t0 x6 x7 x9 m26 BK56 K))) ∧
   (¬ x9 = (1 : Int32) →
    f_X11_round_J147 S a0 x1 x2 x3 t0 x6 x7 x9 M BK56 K))
set_option maxHeartbeats 4000000 in
set_option maxRecDepth 100000 in
theorem w_X11_round_J123 {p : Program} {l : Launch} {e : Env} {s : State} {m : MethodId} {args : Array Value} {below : List Frame} {meth : Method} {c : Code} {g : Gg} {S : Ss} (a0 : Nat) (x1 : Int32) (x2 : Int32) (x3 : Int64) (x6 : Int32) (x7 : Int32) (x9 : Int32) (t0 : Int32) (M : Mm) (BK56 : Int32 → Int32 → Int32 → Mm → Prop) (K : Int32 → Mm → Prop) (E : EN p s m args meth c cX11_round 10 (some .int) RX11 g) (hw : ad g 100000 < s.heap.size) (hs0 : S[a0]? = some (10, 0)) (hBK56 : ∀ (x5' : Int32) (x6' : Int32) (x7' : Int32) (M' : Mm) (H : Heap) (locs : List Loc) (ls : Array Slot), BK56 x5' x6' x7' M' → RP g S M' H → va_S (gA g) s.heap H locs → lv_has ls 10 [(0, .ref (ad g a0)), (1, .int x1), (2, .int x2), (3, .long x3), (5, .int x5'), (6, .int x6'), (7, .int x7')] → W p l e (rmD 9) s m args below meth c H locs 0 0 (MQ below (QA g S (pI K)) args s 0 0 (gA g)) (F0 m 56 ls [])) (hf : f_X11_round_J123 S a0 x1 x2 x3 x6 x7 x9 t0 M BK56 K) (H : Heap) (locs : List Loc) (ls : Array Slot) (hR : RP g S M H) (hS : va_S (gA g) s.heap H locs) (hl : lv_has ls 10 [(0, .ref (ad g a0)), (1, .int x1), (2, .int x2), (3, .long x3), (6, .int x6), (7, .int x7), (9, .int x9)]) : W p l e (rmD 9) s m args below meth c H locs 0 0 (MQ below (QA g S (pI K)) args s 0 0 (gA g)) (F0 m 123 ls [.int t0]) := by
  have hx := E.1
  have hb := E.2.1
  unfold f_X11_round_J123 at hf
  refine lv_istore (lv' := [(5, .int t0), (0, .ref (ad g a0)), (1, .int x1), (2, .int x2), (3, .long x3), (6, .int x6), (7, .int x7), (9, .int x9)]) hx hb dX11_round_123 hl (by decide) rfl (fun ls hl => ?_)
  refine lv_iload hx hb dX11_round_125 (lv_at hl 7 rfl) ?_
  refine lv_iconst (v := 1) hx hb dX11_round_127 (by decide) ?_
  refine lv_icmp_ne (tgt := 147) hx hb dX11_round_128 (by decide) (fun c17 => ?_) (fun c17 => ?_)
  · replace hf := hf.2 c17
    exact w_X11_round_J147 _ _ _ _ _ _ _ _ _ _ _ E hw hs0 hBK56 hf _ _ _ hR hS (lv_sub hl [1, 2, 3, 4, 0, 5, 6, 7] rfl)
  · replace hf := hf.1 c17
    refine lv_iload hx hb dX11_round_131 (lv_at hl 5 rfl) ?_
    refine lv_bipush (v := 20) hx hb dX11_round_133 (by decide) ?_
    refine lv_icmp_ge (tgt := 147) hx hb dX11_round_135 (by decide) (fun c23 => ?_) (fun c23 => ?_)
    · replace hf := hf.1 c23
      exact w_X11_round_J147 _ _ _ _ _ _ _ _ _ _ _ E hw hs0 hBK56 hf _ _ _ hR hS (lv_sub hl [1, 2, 3, 4, 0, 5, 6, 7] rfl)
    · replace hf := hf.2 c23
      refine lv_aload_n hx hb dX11_round_138 rfl (lv_at hl 1 rfl) ?_
      obtain ⟨b24, hb24, hf⟩ := hf
      refine hw_getR E hR cI10 hs0 59 (by decide) lfX11_431 rfl hb24 dX11_round_139 ?_
      refine lv_iload hx hb dX11_round_142 (lv_at hl 5 rfl) ?_
      refine lv_iload hx hb dX11_round_144 (lv_at hl 6 rfl) ?_
      obtain ⟨n25, hn25, in25, hf⟩ := hf
      refine hw_iast E hR hS hw hn25 in25 dX11_round_146 (fun m26 H locs em26 hR hS => ?_)
      replace hf := hf m26 em26
      exact w_X11_round_J147 _ _ _ _ _ _ _ _ _ _ _ E hw hs0 hBK56 hf _ _ _ hR hS (lv_sub hl [1, 2, 3, 4, 0, 5, 6, 7] rfl)
def f_X11_round_J118 (S : Ss) (a0 : Nat) (x1 : Int32) (x2 : Int32) (x3 : Int64) (x6 : Int32) (x7 : Int32) (x9 : Int32) (M : Mm) (BK56 : Int32 → Int32 → Int32 → Mm → Prop) (K : Int32 → Mm → Prop) : Prop :=
  f_X11_round_J123 S a0 x1 x2 x3 x6 x7 x9 (1 : Int32) M BK56 K
set_option maxHeartbeats 4000000 in
set_option maxRecDepth 100000 in
theorem w_X11_round_J118 {p : Program} {l : Launch} {e : Env} {s : State} {m : MethodId} {args : Array Value} {below : List Frame} {meth : Method} {c : Code} {g : Gg} {S : Ss} (a0 : Nat) (x1 : Int32) (x2 : Int32) (x3 : Int64) (x6 : Int32) (x7 : Int32) (x9 : Int32) (M : Mm) (BK56 : Int32 → Int32 → Int32 → Mm → Prop) (K : Int32 → Mm → Prop) (E : EN p s m args meth c cX11_round 10 (some .int) RX11 g) (hw : ad g 100000 < s.heap.size) (hs0 : S[a0]? = some (10, 0)) (hBK56 : ∀ (x5' : Int32) (x6' : Int32) (x7' : Int32) (M' : Mm) (H : Heap) (locs : List Loc) (ls : Array Slot), BK56 x5' x6' x7' M' → RP g S M' H → va_S (gA g) s.heap H locs → lv_has ls 10 [(0, .ref (ad g a0)), (1, .int x1), (2, .int x2), (3, .long x3), (5, .int x5'), (6, .int x6'), (7, .int x7')] → W p l e (rmD 9) s m args below meth c H locs 0 0 (MQ below (QA g S (pI K)) args s 0 0 (gA g)) (F0 m 56 ls [])) (hf : f_X11_round_J118 S a0 x1 x2 x3 x6 x7 x9 M BK56 K) (H : Heap) (locs : List Loc) (ls : Array Slot) (hR : RP g S M H) (hS : va_S (gA g) s.heap H locs) (hl : lv_has ls 10 [(0, .ref (ad g a0)), (1, .int x1), (2, .int x2), (3, .long x3), (6, .int x6), (7, .int x7), (9, .int x9)]) : W p l e (rmD 9) s m args below meth c H locs 0 0 (MQ below (QA g S (pI K)) args s 0 0 (gA g)) (F0 m 118 ls []) := by
  have hx := E.1
  have hb := E.2.1
  unfold f_X11_round_J118 at hf
  refine lv_iconst (v := 1) hx hb dX11_round_118 (by decide) ?_
  refine lv_goto (tgt := 123) hx hb dX11_round_119 (by decide) ?_
  exact w_X11_round_J123 _ _ _ _ _ _ _ _ _ _ _ E hw hs0 hBK56 hf _ _ _ hR hS (lv_sub hl [0, 1, 2, 3, 4, 5, 6] rfl)
def f_X11_round_B56 (S : Ss) (a0 : Nat) (x1 : Int32) (x2 : Int32) (x3 : Int64) (x5 : Int32) (x6 : Int32) (x7 : Int32) (M : Mm) (BK56 : Int32 → Int32 → Int32 → Mm → Prop) (EK56 : Int32 → Int32 → Mm → Prop) (K : Int32 → Mm → Prop) : Prop :=
  (((256 : Int32) ≤ x7 →
    EK56 x5 x6 M) ∧
   (¬ (256 : Int32) ≤ x7 →
    ∀ v12 : Int32, v12 = ((8 : Int32) * ((7 : Int32) - x1)) →
    ∀ m13 : Mm, m13 = stJ M a0 45 ((x3 &&& (((255 : Int64) <<< (v12.toInt64 &&& 63)) ^^^ (-1 : Int64))) ||| (x7.toInt64 <<< (v12.toInt64 &&& 63))) →
    f_X11_someBreaks S a0 x2 (300 : Int32) m13 (fun (r15 : Int32) (m14 : Mm) =>
      ((x5 = 0 →
      ((r15 = (-3 : Int32) →
        f_X11_round_J118 S a0 x1 x2 x3 x6 x7 r15 m14 BK56 K) ∧
       (¬ r15 = (-3 : Int32) →
        f_X11_round_J123 S a0 x1 x2 x3 x6 x7 r15 (0 : Int32) m14 BK56 K))) ∧
     (¬ x5 = 0 →
      f_X11_round_J118 S a0 x1 x2 x3 x6 x7 r15 m14 BK56 K)))))
set_option maxHeartbeats 4000000 in
set_option maxRecDepth 100000 in
theorem w_X11_round_B56 {p : Program} {l : Launch} {e : Env} {s : State} {m : MethodId} {args : Array Value} {below : List Frame} {meth : Method} {c : Code} {g : Gg} {S : Ss} (a0 : Nat) (x1 : Int32) (x2 : Int32) (x3 : Int64) (x5 : Int32) (x6 : Int32) (x7 : Int32) (M : Mm) (BK56 : Int32 → Int32 → Int32 → Mm → Prop) (EK56 : Int32 → Int32 → Mm → Prop) (K : Int32 → Mm → Prop) (E : EN p s m args meth c cX11_round 10 (some .int) RX11 g) (hw : ad g 100000 < s.heap.size) (hs0 : S[a0]? = some (10, 0)) (hBK56 : ∀ (x5' : Int32) (x6' : Int32) (x7' : Int32) (M' : Mm) (H : Heap) (locs : List Loc) (ls : Array Slot), BK56 x5' x6' x7' M' → RP g S M' H → va_S (gA g) s.heap H locs → lv_has ls 10 [(0, .ref (ad g a0)), (1, .int x1), (2, .int x2), (3, .long x3), (5, .int x5'), (6, .int x6'), (7, .int x7')] → W p l e (rmD 9) s m args below meth c H locs 0 0 (MQ below (QA g S (pI K)) args s 0 0 (gA g)) (F0 m 56 ls [])) (hEK56 : ∀ (x5' : Int32) (x6' : Int32) (M' : Mm) (H : Heap) (locs : List Loc) (ls : Array Slot), EK56 x5' x6' M' → RP g S M' H → va_S (gA g) s.heap H locs → lv_has ls 10 [(0, .ref (ad g a0)), (3, .long x3), (5, .int x5'), (6, .int x6')] → W p l e (rmD 9) s m args below meth c H locs 0 0 (MQ below (QA g S (pI K)) args s 0 0 (gA g)) (F0 m 172 ls [])) (hf : f_X11_round_B56 S a0 x1 x2 x3 x5 x6 x7 M BK56 EK56 K) (H : Heap) (locs : List Loc) (ls : Array Slot) (hR : RP g S M H) (hS : va_S (gA g) s.heap H locs) (hl : lv_has ls 10 [(0, .ref (ad g a0)), (1, .int x1), (2, .int x2), (3, .long x3), (5, .int x5), (6, .int x6), (7, .int x7)]) : W p l e (rmD 9) s m args below meth c H locs 0 0 (MQ below (QA g S (pI K)) args s 0 0 (gA g)) (F0 m 56 ls []) := by
  have hx := E.1
  have hb := E.2.1
  unfold f_X11_round_B56 at hf
  refine lv_iload hx hb dX11_round_56 (lv_at hl 6 rfl) ?_
  refine lv_sipush (v := 256) hx hb dX11_round_58 (by decide) ?_
  refine lv_icmp_ge (tgt := 172) hx hb dX11_round_61 (by decide) (fun c11 => ?_) (fun c11 => ?_)
  · replace hf := hf.1 c11
    exact hEK56 _ _ _ _ _ _ hf hR hS (lv_sub hl [0, 3, 4, 5] rfl)
  · replace hf := hf.2 c11
    refine lv_bipush (v := 8) hx hb dX11_round_64 (by decide) ?_
    refine lv_bipush (v := 7) hx hb dX11_round_66 (by decide) ?_
    refine lv_iload_n hx hb dX11_round_68 rfl (lv_at hl 1 rfl) ?_
    refine lv_isub hx hb dX11_round_69 ?_
    refine lv_imul hx hb dX11_round_70 ?_
    refine lv_topi (fun v12 ev12 => ?_)
    replace hf := hf v12 ev12
    refine lv_istore (lv' := [(8, .int v12), (0, .ref (ad g a0)), (1, .int x1), (2, .int x2), (3, .long x3), (5, .int x5), (6, .int x6), (7, .int x7)]) hx hb dX11_round_71 hl (by decide) rfl (fun ls hl => ?_)
    refine lv_aload_n hx hb dX11_round_73 rfl (lv_at hl 1 rfl) ?_
    refine lv_lload_n hx hb dX11_round_74 rfl (lv_at hl 4 rfl) ?_
    refine lv_ldc2 (v := 255) hx hb E.2.2.2.2.1 (E.2.2.2.2.2.1 _ ljX11_231) dX11_round_75 ?_
    refine lv_iload hx hb dX11_round_78 (lv_at hl 0 rfl) ?_
    refine lv_lshl hx hb dX11_round_80 rfl ?_
    refine lv_ldc2 (v := -1) hx hb E.2.2.2.2.1 (E.2.2.2.2.2.1 _ ljX11_426) dX11_round_81 ?_
    refine lv_lxor hx hb dX11_round_84 ?_
    refine lv_land hx hb dX11_round_85 ?_
    refine lv_iload hx hb dX11_round_86 (lv_at hl 7 rfl) ?_
    refine lv_i2l hx hb dX11_round_88 rfl ?_
    refine lv_iload hx hb dX11_round_89 (lv_at hl 0 rfl) ?_
    refine lv_lshl hx hb dX11_round_91 rfl ?_
    refine lv_lor hx hb dX11_round_92 ?_
    refine hw_putJ E hR hS hw cI10 hs0 45 (by decide) lfX11_270 rfl rfl dX11_round_93 (fun m13 H locs em13 hR hS => ?_)
    replace hf := hf m13 em13
    refine lv_aload_n hx hb dX11_round_96 rfl (lv_at hl 1 rfl) ?_
    refine lv_iload_n hx hb dX11_round_97 rfl (lv_at hl 3 rfl) ?_
    refine lv_sipush (v := 300) hx hb dX11_round_98 (by decide) ?_
    refine hw_callV (d := 9) E hR hS (As := [.int x2, .int (300 : Int32)]) (rest := []) cI10 hs0 rfl mcX11_someBreaks miX11_someBreaks lmX11_428 (ok_X11_someBreaks hs0 hf) rfl rfl (by decide) hl.1 (Nat.le_of_ble_eq_true rfl) dX11_round_101 (fun rr m14 H locs hp hR hS => ?_)
    obtain ⟨r15, rfl, hf⟩ := hp
    refine W.eq (g2 := F0 m 104 ls [.int r15]) rfl ?_
    refine lv_istore (lv' := [(9, .int r15), (8, .int v12), (0, .ref (ad g a0)), (1, .int x1), (2, .int x2), (3, .long x3), (5, .int x5), (6, .int x6), (7, .int x7)]) hx hb dX11_round_104 hl (by decide) rfl (fun ls hl => ?_)
    refine lv_iload hx hb dX11_round_106 (lv_at hl 6 rfl) ?_
    refine lv_if_ne (tgt := 118) hx hb dX11_round_108 (by decide) (fun c16 => ?_) (fun c16 => ?_)
    · replace hf := hf.2 c16
      exact w_X11_round_J118 _ _ _ _ _ _ _ _ _ _ E hw hs0 hBK56 hf _ _ _ hR hS (lv_sub hl [2, 3, 4, 5, 7, 8, 0] rfl)
    · replace hf := hf.1 c16
      refine lv_iload hx hb dX11_round_111 (lv_at hl 0 rfl) ?_
      refine lv_bipush (v := -3) hx hb dX11_round_113 (by decide) ?_
      refine lv_icmp_ne (tgt := 122) hx hb dX11_round_115 (by decide) (fun c27 => ?_) (fun c27 => ?_)
      · replace hf := hf.2 c27
        refine lv_iconst (v := 0) hx hb dX11_round_122 (by decide) ?_
        exact w_X11_round_J123 _ _ _ _ _ _ _ _ _ _ _ E hw hs0 hBK56 hf _ _ _ hR hS (lv_sub hl [2, 3, 4, 5, 7, 8, 0] rfl)
      · replace hf := hf.1 c27
        exact w_X11_round_J118 _ _ _ _ _ _ _ _ _ _ E hw hs0 hBK56 hf _ _ _ hR hS (lv_sub hl [2, 3, 4, 5, 7, 8, 0] rfl)
def f_X11_round_L56 (S : Ss) (a0 : Nat) (x1 : Int32) (x2 : Int32) (x3 : Int64) (EK56 : Int32 → Int32 → Mm → Prop) (K : Int32 → Mm → Prop) : Nat → Int32 → Int32 → Int32 → Mm → Prop
  | 0, _, _, _, _ => False
  | n + 1, x5, x6, x7, M => f_X11_round_B56 S a0 x1 x2 x3 x5 x6 x7 M (fun (x5 : Int32) (x6 : Int32) (x7 : Int32) (M : Mm) => f_X11_round_L56 S a0 x1 x2 x3 EK56 K n x5 x6 x7 M) EK56 K
set_option maxHeartbeats 4000000 in
set_option maxRecDepth 100000 in
theorem w_X11_round_L56 {p : Program} {l : Launch} {e : Env} {s : State} {m : MethodId} {args : Array Value} {below : List Frame} {meth : Method} {c : Code} {g : Gg} {S : Ss} (a0 : Nat) (x1 : Int32) (x2 : Int32) (x3 : Int64) (EK56 : Int32 → Int32 → Mm → Prop) (K : Int32 → Mm → Prop) (E : EN p s m args meth c cX11_round 10 (some .int) RX11 g) (hw : ad g 100000 < s.heap.size) (hs0 : S[a0]? = some (10, 0)) (hEK56 : ∀ (x5' : Int32) (x6' : Int32) (M' : Mm) (H : Heap) (locs : List Loc) (ls : Array Slot), EK56 x5' x6' M' → RP g S M' H → va_S (gA g) s.heap H locs → lv_has ls 10 [(0, .ref (ad g a0)), (3, .long x3), (5, .int x5'), (6, .int x6')] → W p l e (rmD 9) s m args below meth c H locs 0 0 (MQ below (QA g S (pI K)) args s 0 0 (gA g)) (F0 m 172 ls [])) : ∀ (n : Nat) (x5 : Int32) (x6 : Int32) (x7 : Int32) (M : Mm), f_X11_round_L56 S a0 x1 x2 x3 EK56 K n x5 x6 x7 M → ∀ (H : Heap) (locs : List Loc) (ls : Array Slot), RP g S M H → va_S (gA g) s.heap H locs → lv_has ls 10 [(0, .ref (ad g a0)), (1, .int x1), (2, .int x2), (3, .long x3), (5, .int x5), (6, .int x6), (7, .int x7)] → W p l e (rmD 9) s m args below meth c H locs 0 0 (MQ below (QA g S (pI K)) args s 0 0 (gA g)) (F0 m 56 ls []) := by
  intro n
  induction n with
  | zero => intro x5 x6 x7 M hf; exact hf.elim
  | succ n ih =>
    intro x5 x6 x7 M hf H locs ls hR hS hl
    exact w_X11_round_B56 _ _ _ _ _ _ _ _ _ _ _ E hw hs0 (fun _ _ _ M H locs ls h hR hS hl => ih _ _ _ M h H locs ls hR hS hl) hEK56 hf H locs ls hR hS hl
def f_X11_round_B197 (S : Ss) (a0 : Nat) (x6 : Int32) (x7 : Int32) (M : Mm) (BK197 : Int32 → Mm → Prop) (EK197 : Mm → Prop) (K : Int32 → Mm → Prop) : Prop :=
  ((x6 ≤ x7 →
    EK197 M) ∧
   (¬ x6 ≤ x7 →
    (((20 : Int32) ≤ x7 →
      EK197 M) ∧
     (¬ (20 : Int32) ≤ x7 →
      ∃ b37 : Nat, M.2.2 a0 59 = some b37 ∧
      ∃ n38 : Nat, shp S b37 = some (50, n38) ∧ vp_in x7 n38 ∧
      f_X11_enters S a0 (M.1 b37 x7.toNatClampNeg).toInt64 M (fun (m39 : Mm) =>
        ∀ v40 : Int32, v40 = x7 + (1 : Int32) →
      BK197 v40 m39)))))
set_option maxHeartbeats 4000000 in
set_option maxRecDepth 100000 in
theorem w_X11_round_B197 {p : Program} {l : Launch} {e : Env} {s : State} {m : MethodId} {args : Array Value} {below : List Frame} {meth : Method} {c : Code} {g : Gg} {S : Ss} (a0 : Nat) (x6 : Int32) (x7 : Int32) (M : Mm) (BK197 : Int32 → Mm → Prop) (EK197 : Mm → Prop) (K : Int32 → Mm → Prop) (E : EN p s m args meth c cX11_round 10 (some .int) RX11 g) (hw : ad g 100000 < s.heap.size) (hs0 : S[a0]? = some (10, 0)) (hBK197 : ∀ (x7' : Int32) (M' : Mm) (H : Heap) (locs : List Loc) (ls : Array Slot), BK197 x7' M' → RP g S M' H → va_S (gA g) s.heap H locs → lv_has ls 10 [(0, .ref (ad g a0)), (6, .int x6), (7, .int x7')] → W p l e (rmD 9) s m args below meth c H locs 0 0 (MQ below (QA g S (pI K)) args s 0 0 (gA g)) (F0 m 197 ls [])) (hEK197 : ∀ (M' : Mm) (H : Heap) (locs : List Loc) (ls : Array Slot), EK197 M' → RP g S M' H → va_S (gA g) s.heap H locs → lv_has ls 10 [(6, .int x6)] → W p l e (rmD 9) s m args below meth c H locs 0 0 (MQ below (QA g S (pI K)) args s 0 0 (gA g)) (F0 m 229 ls [])) (hf : f_X11_round_B197 S a0 x6 x7 M BK197 EK197 K) (H : Heap) (locs : List Loc) (ls : Array Slot) (hR : RP g S M H) (hS : va_S (gA g) s.heap H locs) (hl : lv_has ls 10 [(0, .ref (ad g a0)), (6, .int x6), (7, .int x7)]) : W p l e (rmD 9) s m args below meth c H locs 0 0 (MQ below (QA g S (pI K)) args s 0 0 (gA g)) (F0 m 197 ls []) := by
  have hx := E.1
  have hb := E.2.1
  unfold f_X11_round_B197 at hf
  refine lv_iload hx hb dX11_round_197 (lv_at hl 2 rfl) ?_
  refine lv_iload hx hb dX11_round_199 (lv_at hl 1 rfl) ?_
  refine lv_icmp_ge (tgt := 229) hx hb dX11_round_201 (by decide) (fun c35 => ?_) (fun c35 => ?_)
  · replace hf := hf.1 c35
    exact hEK197  _ _ _ _ hf hR hS (lv_sub hl [1] rfl)
  · replace hf := hf.2 c35
    refine lv_iload hx hb dX11_round_204 (lv_at hl 2 rfl) ?_
    refine lv_bipush (v := 20) hx hb dX11_round_206 (by decide) ?_
    refine lv_icmp_ge (tgt := 229) hx hb dX11_round_208 (by decide) (fun c36 => ?_) (fun c36 => ?_)
    · replace hf := hf.1 c36
      exact hEK197  _ _ _ _ hf hR hS (lv_sub hl [1] rfl)
    · replace hf := hf.2 c36
      refine lv_aload_n hx hb dX11_round_211 rfl (lv_at hl 0 rfl) ?_
      refine lv_aload_n hx hb dX11_round_212 rfl (lv_at hl 0 rfl) ?_
      obtain ⟨b37, hb37, hf⟩ := hf
      refine hw_getR E hR cI10 hs0 59 (by decide) lfX11_431 rfl hb37 dX11_round_213 ?_
      refine lv_iload hx hb dX11_round_216 (lv_at hl 2 rfl) ?_
      obtain ⟨n38, hn38, in38, hf⟩ := hf
      refine hw_iald E hR hS hn38 in38 dX11_round_218 ?_
      refine lv_i2l hx hb dX11_round_219 rfl ?_
      refine hw_callV (d := 9) E hR hS (As := [.long (M.1 b37 x7.toNatClampNeg).toInt64]) (rest := []) cI10 hs0 rfl mcX11_enters miX11_enters lmX11_262 (ok_X11_enters hs0 hf) rfl rfl (by decide) hl.1 (Nat.le_of_ble_eq_true rfl) dX11_round_220 (fun rr m39 H locs hp hR hS => ?_)
      obtain ⟨rfl, hf⟩ := hp
      refine W.eq (g2 := F0 m 223 ls []) rfl ?_
      obtain ⟨v40, ev40⟩ : ∃ y : Int32, y = x7 + (1 : Int32) := ⟨_, rfl⟩
      replace hf := hf v40 ev40
      refine lv_iinc (v := v40) (lv' := [(7, .int v40), (0, .ref (ad g a0)), (6, .int x6)]) hx hb dX11_round_223 hl (k := 2) rfl (by rw [ev40]; rfl) (by decide) rfl (fun ls hl => ?_)
      refine lv_goto (tgt := 197) hx hb dX11_round_226 (by decide) ?_
      exact hBK197 _ _ _ _ _ hf hR hS (lv_sub hl [1, 2, 0] rfl)
def f_X11_round_L197 (S : Ss) (a0 : Nat) (x6 : Int32) (EK197 : Mm → Prop) (K : Int32 → Mm → Prop) : Nat → Int32 → Mm → Prop
  | 0, _, _ => False
  | n + 1, x7, M => f_X11_round_B197 S a0 x6 x7 M (fun (x7 : Int32) (M : Mm) => f_X11_round_L197 S a0 x6 EK197 K n x7 M) EK197 K
set_option maxHeartbeats 4000000 in
set_option maxRecDepth 100000 in
theorem w_X11_round_L197 {p : Program} {l : Launch} {e : Env} {s : State} {m : MethodId} {args : Array Value} {below : List Frame} {meth : Method} {c : Code} {g : Gg} {S : Ss} (a0 : Nat) (x6 : Int32) (EK197 : Mm → Prop) (K : Int32 → Mm → Prop) (E : EN p s m args meth c cX11_round 10 (some .int) RX11 g) (hw : ad g 100000 < s.heap.size) (hs0 : S[a0]? = some (10, 0)) (hEK197 : ∀ (M' : Mm) (H : Heap) (locs : List Loc) (ls : Array Slot), EK197 M' → RP g S M' H → va_S (gA g) s.heap H locs → lv_has ls 10 [(6, .int x6)] → W p l e (rmD 9) s m args below meth c H locs 0 0 (MQ below (QA g S (pI K)) args s 0 0 (gA g)) (F0 m 229 ls [])) : ∀ (n : Nat) (x7 : Int32) (M : Mm), f_X11_round_L197 S a0 x6 EK197 K n x7 M → ∀ (H : Heap) (locs : List Loc) (ls : Array Slot), RP g S M H → va_S (gA g) s.heap H locs → lv_has ls 10 [(0, .ref (ad g a0)), (6, .int x6), (7, .int x7)] → W p l e (rmD 9) s m args below meth c H locs 0 0 (MQ below (QA g S (pI K)) args s 0 0 (gA g)) (F0 m 197 ls []) := by
  intro n
  induction n with
  | zero => intro x7 M hf; exact hf.elim
  | succ n ih =>
    intro x7 M hf H locs ls hR hS hl
    exact w_X11_round_B197 _ _ _ _ _ _ _ E hw hs0 (fun _ M H locs ls h hR hS hl => ih _ M h H locs ls hR hS hl) hEK197 hf H locs ls hR hS hl
def f_X11_round (S : Ss) (a0 : Nat) (x1 : Int32) (x2 : Int32) (M : Mm) (K : Int32 → Mm → Prop) : Prop :=
  ∀ m1 : Mm, m1 = stI M a0 0 (0 : Int32) →
  f_X11_in S  x1.toInt64 (0 : Int64) (7 : Int64) m1 (fun (r3 : Int32) (m2 : Mm) =>
    ((r3 = 0 →
    K (-1 : Int32) m2) ∧
   (¬ r3 = 0 →
    f_X11_in S  x2.toInt64 (0 : Int64) (6 : Int64) m2 (fun (r6 : Int32) (m5 : Mm) =>
      ((r6 = 0 →
      K (-1 : Int32) m5) ∧
     (¬ r6 = 0 →
      (((m5.1 a0 15) = 0 →
        K (-1 : Int32) m5) ∧
       (¬ (m5.1 a0 15) = 0 →
        f_X11_remembers S a0  m5 (fun (m9 : Mm) =>
          ∀ v10 : Int64, v10 = (m9.2.1 a0 45) →
        ∃ n43 : Nat, f_X11_round_L56 S a0 x1 x2 v10 (fun (v28 : Int32) (v29 : Int32) (m30 : Mm) =>
          ∀ m31 : Mm, m31 = stJ m30 a0 45 v10 →
          f_X11_comesBack S a0  m31 (fun (m32 : Mm) =>
            ((v28 = 0 →
            ∀ m34 : Mm, m34 = stI m32 a0 1 (0 : Int32) →
            ∃ n42 : Nat, f_X11_round_L197 S a0 v29 (fun (m41 : Mm) =>
              K v29 m41) K n42 (0 : Int32) m34) ∧
           (¬ v28 = 0 →
            K (-3 : Int32) m32)))) K n43 (0 : Int32) (0 : Int32) (0 : Int32) m9)))))))))
set_option maxHeartbeats 4000000 in
set_option maxRecDepth 100000 in
theorem ok_X11_round {l : Launch} {g : Gg} {S : Ss} {a0 : Nat} {x1 : Int32} {x2 : Int32} {M : Mm} {K : Int32 → Mm → Prop} (hs0 : S[a0]? = some (10, 0)) (hf : f_X11_round S a0 x1 x2 M K) : MT l g S yX11_round cX11_round 10 (some .int) 9 [.ref (ad g a0), .int x1, .int x2] M (pI K) := by
  refine MT.of (by decide +kernel) (Nat.le_of_ble_eq_true rfl) ?_
  intro p e s m below meth c ls E hw hR hS hl
  have hl : lv_has ls 10 [(0, .ref (ad g a0)), (1, .int x1), (2, .int x2)] := hl
  generalize ([.ref (ad g a0), .int x1, .int x2] : List Value).toArray = args at E ⊢
  have E : EN p s m args meth c cX11_round 10 (some .int) RX11 g := E
  have hx := E.1
  have hb := E.2.1
  unfold f_X11_round at hf
  refine lv_aload_n hx hb dX11_round_0 rfl (lv_at hl 0 rfl) ?_
  refine lv_iconst (v := 0) hx hb dX11_round_1 (by decide) ?_
  refine hw_putI E hR hS hw cI10 hs0 0 (by decide) lfX11_3 rfl (Or.inl rfl) dX11_round_2 (fun m1 H locs em1 hR hS => ?_)
  replace hf := hf m1 em1
  refine lv_iload_n hx hb dX11_round_5 rfl (lv_at hl 1 rfl) ?_
  refine lv_i2l hx hb dX11_round_6 rfl ?_
  refine lv_lconst (v := 0) hx hb dX11_round_7 (by decide) ?_
  refine lv_ldc2 (v := 7) hx hb E.2.2.2.2.1 (E.2.2.2.2.2.1 _ ljX11_229) dX11_round_8 ?_
  refine hw_callS (d := 9) E hR hS (As := [.long x1.toInt64, .long (0 : Int64), .long (7 : Int64)]) (rest := []) mcX11_in msX11_in lmX11_21 (ok_X11_in  hf) rfl rfl (by decide) hl.1 (Nat.le_of_ble_eq_true rfl) dX11_round_11 (fun rr m2 H locs hp hR hS => ?_)
  obtain ⟨r3, rfl, hf⟩ := hp
  refine W.eq (g2 := F0 m 14 ls [.int r3]) rfl ?_
  refine lv_if_eq (tgt := 36) hx hb dX11_round_14 (by decide) (fun c4 => ?_) (fun c4 => ?_)
  · replace hf := hf.1 c4
    refine lv_iconst (v := -1) hx hb dX11_round_36 (by decide) ?_
    exact hw_iret E hR hS ⟨_, rfl, hf⟩ dX11_round_37
  · replace hf := hf.2 c4
    refine lv_iload_n hx hb dX11_round_17 rfl (lv_at hl 2 rfl) ?_
    refine lv_i2l hx hb dX11_round_18 rfl ?_
    refine lv_lconst (v := 0) hx hb dX11_round_19 (by decide) ?_
    refine lv_ldc2 (v := 6) hx hb E.2.2.2.2.1 (E.2.2.2.2.2.1 _ ljX11_424) dX11_round_20 ?_
    refine hw_callS (d := 9) E hR hS (As := [.long x2.toInt64, .long (0 : Int64), .long (6 : Int64)]) (rest := []) mcX11_in msX11_in lmX11_21 (ok_X11_in  hf) rfl rfl (by decide) hl.1 (Nat.le_of_ble_eq_true rfl) dX11_round_23 (fun rr m5 H locs hp hR hS => ?_)
    obtain ⟨r6, rfl, hf⟩ := hp
    refine W.eq (g2 := F0 m 26 ls [.int r6]) rfl ?_
    refine lv_if_eq (tgt := 36) hx hb dX11_round_26 (by decide) (fun c7 => ?_) (fun c7 => ?_)
    · replace hf := hf.1 c7
      refine lv_iconst (v := -1) hx hb dX11_round_36 (by decide) ?_
      exact hw_iret E hR hS ⟨_, rfl, hf⟩ dX11_round_37
    · replace hf := hf.2 c7
      refine lv_aload_n hx hb dX11_round_29 rfl (lv_at hl 0 rfl) ?_
      refine hw_getI E hR cI10 hs0 15 (by decide) lfX11_121 rfl dX11_round_30 ?_
      refine lv_if_ne (tgt := 38) hx hb dX11_round_33 (by decide) (fun c8 => ?_) (fun c8 => ?_)
      · replace hf := hf.2 c8
        refine lv_aload_n hx hb dX11_round_38 rfl (lv_at hl 0 rfl) ?_
        refine hw_callV (d := 9) E hR hS (As := []) (rest := []) cI10 hs0 rfl mcX11_remembers miX11_remembers lmX11_344 (ok_X11_remembers hs0 hf) rfl rfl (by decide) hl.1 (Nat.le_of_ble_eq_true rfl) dX11_round_39 (fun rr m9 H locs hp hR hS => ?_)
        obtain ⟨rfl, hf⟩ := hp
        refine W.eq (g2 := F0 m 42 ls []) rfl ?_
        refine lv_aload_n hx hb dX11_round_42 rfl (lv_at hl 0 rfl) ?_
        refine hw_getJ E hR cI10 hs0 45 (by decide) lfX11_270 rfl dX11_round_43 ?_
        refine lv_topl (fun v10 ev10 => ?_)
        replace hf := hf v10 ev10
        refine lv_lstore_n (lv' := [(3, .long v10), (0, .ref (ad g a0)), (1, .int x1), (2, .int x2)]) hx hb dX11_round_46 rfl hl (by decide) rfl (fun ls hl => ?_)
        refine lv_iconst (v := 0) hx hb dX11_round_47 (by decide) ?_
        refine lv_istore (lv' := [(5, .int (0 : Int32)), (3, .long v10), (0, .ref (ad g a0)), (1, .int x1), (2, .int x2)]) hx hb dX11_round_48 hl (by decide) rfl (fun ls hl => ?_)
        refine lv_iconst (v := 0) hx hb dX11_round_50 (by decide) ?_
        refine lv_istore (lv' := [(6, .int (0 : Int32)), (5, .int (0 : Int32)), (3, .long v10), (0, .ref (ad g a0)), (1, .int x1), (2, .int x2)]) hx hb dX11_round_51 hl (by decide) rfl (fun ls hl => ?_)
        refine lv_iconst (v := 0) hx hb dX11_round_53 (by decide) ?_
        refine lv_istore (lv' := [(7, .int (0 : Int32)), (6, .int (0 : Int32)), (5, .int (0 : Int32)), (3, .long v10), (0, .ref (ad g a0)), (1, .int x1), (2, .int x2)]) hx hb dX11_round_54 hl (by decide) rfl (fun ls hl => ?_)
        obtain ⟨n43, hf⟩ := hf
        refine w_X11_round_L56 _ _ _ _ _ _ E hw hs0 ?_ n43 _ _ _ _ hf _ _ _ hR hS (lv_sub hl [4, 5, 6, 3, 2, 1, 0] rfl)
        intro v28 v29 m30 H locs ls hf hR hS hl
        refine lv_aload_n hx hb dX11_round_172 rfl (lv_at hl 0 rfl) ?_
        refine lv_lload_n hx hb dX11_round_173 rfl (lv_at hl 1 rfl) ?_
        refine hw_putJ E hR hS hw cI10 hs0 45 (by decide) lfX11_270 rfl rfl dX11_round_174 (fun m31 H locs em31 hR hS => ?_)
        replace hf := hf m31 em31
        refine lv_aload_n hx hb dX11_round_177 rfl (lv_at hl 0 rfl) ?_
        refine hw_callV (d := 9) E hR hS (As := []) (rest := []) cI10 hs0 rfl mcX11_comesBack miX11_comesBack lmX11_350 (ok_X11_comesBack hs0 hf) rfl rfl (by decide) hl.1 (Nat.le_of_ble_eq_true rfl) dX11_round_178 (fun rr m32 H locs hp hR hS => ?_)
        obtain ⟨rfl, hf⟩ := hp
        refine W.eq (g2 := F0 m 181 ls []) rfl ?_
        refine lv_iload hx hb dX11_round_181 (lv_at hl 2 rfl) ?_
        refine lv_if_eq (tgt := 189) hx hb dX11_round_183 (by decide) (fun c33 => ?_) (fun c33 => ?_)
        · replace hf := hf.1 c33
          refine lv_aload_n hx hb dX11_round_189 rfl (lv_at hl 0 rfl) ?_
          refine lv_iconst (v := 0) hx hb dX11_round_190 (by decide) ?_
          refine hw_putI E hR hS hw cI10 hs0 1 (by decide) lfX11_11 rfl (Or.inl rfl) dX11_round_191 (fun m34 H locs em34 hR hS => ?_)
          replace hf := hf m34 em34
          refine lv_iconst (v := 0) hx hb dX11_round_194 (by decide) ?_
          refine lv_istore (lv' := [(7, .int (0 : Int32)), (0, .ref (ad g a0)), (3, .long v10), (5, .int v28), (6, .int v29)]) hx hb dX11_round_195 hl (by decide) rfl (fun ls hl => ?_)
          obtain ⟨n42, hf⟩ := hf
          refine w_X11_round_L197 _ _ _ _ E hw hs0 ?_ n42 _ _ hf _ _ _ hR hS (lv_sub hl [1, 4, 0] rfl)
          intro m41 H locs ls hf hR hS hl
          refine lv_iload hx hb dX11_round_229 (lv_at hl 0 rfl) ?_
          exact hw_iret E hR hS ⟨_, rfl, hf⟩ dX11_round_231
        · replace hf := hf.2 c33
          refine lv_bipush (v := -3) hx hb dX11_round_186 (by decide) ?_
          exact hw_iret E hR hS ⟨_, rfl, hf⟩ dX11_round_188
      · replace hf := hf.1 c8
        refine lv_iconst (v := -1) hx hb dX11_round_36 (by decide) ?_
        exact hw_iret E hR hS ⟨_, rfl, hf⟩ dX11_round_37
def f_X11_hid (S : Ss) (a0 : Nat) (x1 : Int32) (x2 : Int32) (M : Mm) (K : Int32 → Mm → Prop) : Prop :=
  ∀ m1 : Mm, m1 = stI M a0 0 (0 : Int32) →
  f_X11_isRun S a0 x2 m1 (fun (r3 : Int32) (m2 : Mm) =>
    ((r3 = 0 →
    K (-1 : Int32) m2) ∧
   (¬ r3 = 0 →
    f_X11_in S  x1.toInt64 (0 : Int64) ((m2.1 a0 20) - (1 : Int32)).toInt64 m2 (fun (r6 : Int32) (m5 : Mm) =>
      ((r6 = 0 →
      K (-1 : Int32) m5) ∧
     (¬ r6 = 0 →
      f_X11_has S  (m5.1 a0 21) x1 m5 (fun (r9 : Int32) (m8 : Mm) =>
        ((r9 = 0 →
        K (-1 : Int32) m8) ∧
       (¬ r9 = 0 →
        f_X11_remembers S a0  m8 (fun (m11 : Mm) =>
          ∀ m12 : Mm, m12 = stI m11 a0 51 (2 : Int32) →
        ∀ m13 : Mm, m13 = stI m12 a0 52 x1 →
        f_X11_finds S a0 x2 m13 (fun (r15 : Int32) (m14 : Mm) =>
          f_X11_comesBack S a0  m14 (fun (m16 : Mm) =>
          K r15 m16))))))))))))
set_option maxHeartbeats 4000000 in
set_option maxRecDepth 100000 in
theorem ok_X11_hid {l : Launch} {g : Gg} {S : Ss} {a0 : Nat} {x1 : Int32} {x2 : Int32} {M : Mm} {K : Int32 → Mm → Prop} (hs0 : S[a0]? = some (10, 0)) (hf : f_X11_hid S a0 x1 x2 M K) : MT l g S yX11_hid cX11_hid 4 (some .int) 9 [.ref (ad g a0), .int x1, .int x2] M (pI K) := by
  refine MT.of (by decide +kernel) (Nat.le_of_ble_eq_true rfl) ?_
  intro p e s m below meth c ls E hw hR hS hl
  have hl : lv_has ls 4 [(0, .ref (ad g a0)), (1, .int x1), (2, .int x2)] := hl
  generalize ([.ref (ad g a0), .int x1, .int x2] : List Value).toArray = args at E ⊢
  have E : EN p s m args meth c cX11_hid 4 (some .int) RX11 g := E
  have hx := E.1
  have hb := E.2.1
  unfold f_X11_hid at hf
  refine lv_aload_n hx hb dX11_hid_0 rfl (lv_at hl 0 rfl) ?_
  refine lv_iconst (v := 0) hx hb dX11_hid_1 (by decide) ?_
  refine hw_putI E hR hS hw cI10 hs0 0 (by decide) lfX11_3 rfl (Or.inl rfl) dX11_hid_2 (fun m1 H locs em1 hR hS => ?_)
  replace hf := hf m1 em1
  refine lv_aload_n hx hb dX11_hid_5 rfl (lv_at hl 0 rfl) ?_
  refine lv_iload_n hx hb dX11_hid_6 rfl (lv_at hl 2 rfl) ?_
  refine hw_callV (d := 9) E hR hS (As := [.int x2]) (rest := []) cI10 hs0 rfl mcX11_isRun miX11_isRun lmX11_341 (ok_X11_isRun hs0 hf) rfl rfl (by decide) hl.1 (Nat.le_of_ble_eq_true rfl) dX11_hid_7 (fun rr m2 H locs hp hR hS => ?_)
  obtain ⟨r3, rfl, hf⟩ := hp
  refine W.eq (g2 := F0 m 10 ls [.int r3]) rfl ?_
  refine lv_if_eq (tgt := 40) hx hb dX11_hid_10 (by decide) (fun c4 => ?_) (fun c4 => ?_)
  · replace hf := hf.1 c4
    refine lv_iconst (v := -1) hx hb dX11_hid_40 (by decide) ?_
    exact hw_iret E hR hS ⟨_, rfl, hf⟩ dX11_hid_41
  · replace hf := hf.2 c4
    refine lv_iload_n hx hb dX11_hid_13 rfl (lv_at hl 1 rfl) ?_
    refine lv_i2l hx hb dX11_hid_14 rfl ?_
    refine lv_lconst (v := 0) hx hb dX11_hid_15 (by decide) ?_
    refine lv_aload_n hx hb dX11_hid_16 rfl (lv_at hl 0 rfl) ?_
    refine hw_getI E hR cI10 hs0 20 (by decide) lfX11_158 rfl dX11_hid_17 ?_
    refine lv_iconst (v := 1) hx hb dX11_hid_20 (by decide) ?_
    refine lv_isub hx hb dX11_hid_21 ?_
    refine lv_i2l hx hb dX11_hid_22 rfl ?_
    refine hw_callS (d := 9) E hR hS (As := [.long x1.toInt64, .long (0 : Int64), .long ((m2.1 a0 20) - (1 : Int32)).toInt64]) (rest := []) mcX11_in msX11_in lmX11_21 (ok_X11_in  hf) rfl rfl (by decide) hl.1 (Nat.le_of_ble_eq_true rfl) dX11_hid_23 (fun rr m5 H locs hp hR hS => ?_)
    obtain ⟨r6, rfl, hf⟩ := hp
    refine W.eq (g2 := F0 m 26 ls [.int r6]) rfl ?_
    refine lv_if_eq (tgt := 40) hx hb dX11_hid_26 (by decide) (fun c7 => ?_) (fun c7 => ?_)
    · replace hf := hf.1 c7
      refine lv_iconst (v := -1) hx hb dX11_hid_40 (by decide) ?_
      exact hw_iret E hR hS ⟨_, rfl, hf⟩ dX11_hid_41
    · replace hf := hf.2 c7
      refine lv_aload_n hx hb dX11_hid_29 rfl (lv_at hl 0 rfl) ?_
      refine hw_getI E hR cI10 hs0 21 (by decide) lfX11_161 rfl dX11_hid_30 ?_
      refine lv_iload_n hx hb dX11_hid_33 rfl (lv_at hl 1 rfl) ?_
      refine hw_callS (d := 9) E hR hS (As := [.int (m5.1 a0 21), .int x1]) (rest := []) mcX11_has msX11_has lmX11_204 (ok_X11_has  hf) rfl rfl (by decide) hl.1 (Nat.le_of_ble_eq_true rfl) dX11_hid_34 (fun rr m8 H locs hp hR hS => ?_)
      obtain ⟨r9, rfl, hf⟩ := hp
      refine W.eq (g2 := F0 m 37 ls [.int r9]) rfl ?_
      refine lv_if_ne (tgt := 42) hx hb dX11_hid_37 (by decide) (fun c10 => ?_) (fun c10 => ?_)
      · replace hf := hf.2 c10
        refine lv_aload_n hx hb dX11_hid_42 rfl (lv_at hl 0 rfl) ?_
        refine hw_callV (d := 9) E hR hS (As := []) (rest := []) cI10 hs0 rfl mcX11_remembers miX11_remembers lmX11_344 (ok_X11_remembers hs0 hf) rfl rfl (by decide) hl.1 (Nat.le_of_ble_eq_true rfl) dX11_hid_43 (fun rr m11 H locs hp hR hS => ?_)
        obtain ⟨rfl, hf⟩ := hp
        refine W.eq (g2 := F0 m 46 ls []) rfl ?_
        refine lv_aload_n hx hb dX11_hid_46 rfl (lv_at hl 0 rfl) ?_
        refine lv_iconst (v := 2) hx hb dX11_hid_47 (by decide) ?_
        refine hw_putI E hR hS hw cI10 hs0 51 (by decide) lfX11_353 rfl (Or.inl rfl) dX11_hid_48 (fun m12 H locs em12 hR hS => ?_)
        replace hf := hf m12 em12
        refine lv_aload_n hx hb dX11_hid_51 rfl (lv_at hl 0 rfl) ?_
        refine lv_iload_n hx hb dX11_hid_52 rfl (lv_at hl 1 rfl) ?_
        refine hw_putI E hR hS hw cI10 hs0 52 (by decide) lfX11_359 rfl (Or.inl rfl) dX11_hid_53 (fun m13 H locs em13 hR hS => ?_)
        replace hf := hf m13 em13
        refine lv_aload_n hx hb dX11_hid_56 rfl (lv_at hl 0 rfl) ?_
        refine lv_iload_n hx hb dX11_hid_57 rfl (lv_at hl 2 rfl) ?_
        refine hw_callV (d := 9) E hR hS (As := [.int x2]) (rest := []) cI10 hs0 rfl mcX11_finds miX11_finds lmX11_368 (ok_X11_finds hs0 hf) rfl rfl (by decide) hl.1 (Nat.le_of_ble_eq_true rfl) dX11_hid_58 (fun rr m14 H locs hp hR hS => ?_)
        obtain ⟨r15, rfl, hf⟩ := hp
        refine W.eq (g2 := F0 m 61 ls [.int r15]) rfl ?_
        refine lv_istore_n (lv' := [(3, .int r15), (0, .ref (ad g a0)), (1, .int x1), (2, .int x2)]) hx hb dX11_hid_61 rfl hl (by decide) rfl (fun ls hl => ?_)
        refine lv_aload_n hx hb dX11_hid_62 rfl (lv_at hl 1 rfl) ?_
        refine hw_callV (d := 9) E hR hS (As := []) (rest := []) cI10 hs0 rfl mcX11_comesBack miX11_comesBack lmX11_350 (ok_X11_comesBack hs0 hf) rfl rfl (by decide) hl.1 (Nat.le_of_ble_eq_true rfl) dX11_hid_63 (fun rr m16 H locs hp hR hS => ?_)
        obtain ⟨rfl, hf⟩ := hp
        refine W.eq (g2 := F0 m 66 ls []) rfl ?_
        refine lv_iload_n hx hb dX11_hid_66 rfl (lv_at hl 0 rfl) ?_
        exact hw_iret E hR hS ⟨_, rfl, hf⟩ dX11_hid_67
      · replace hf := hf.1 c10
        refine lv_iconst (v := -1) hx hb dX11_hid_40 (by decide) ?_
        exact hw_iret E hR hS ⟨_, rfl, hf⟩ dX11_hid_41
def f_X11_nextSet_B9 (S : Ss) (x1 : Int32) (x2 : Int32) (x3 : Int32) (M : Mm) (BK9 : Int32 → Mm → Prop) (EK9 : Mm → Prop) (K : Int32 → Mm → Prop) : Prop :=
  ((((1 : Int32) <<< (x1 &&& 31)) ≤ x3 →
    EK9 M) ∧
   (¬ ((1 : Int32) <<< (x1 &&& 31)) ≤ x3 →
    f_J6_bitCount_0f7a4 S  x3 M (fun (r6 : Int32) (m5 : Mm) =>
      ((r6 = x2 →
      K x3 m5) ∧
     (¬ r6 = x2 →
      ∀ v8 : Int32, v8 = x3 + (1 : Int32) →
      BK9 v8 m5)))))
set_option maxHeartbeats 4000000 in
set_option maxRecDepth 100000 in
theorem w_X11_nextSet_B9 {p : Program} {l : Launch} {e : Env} {s : State} {m : MethodId} {args : Array Value} {below : List Frame} {meth : Method} {c : Code} {g : Gg} {S : Ss} (x1 : Int32) (x2 : Int32) (x3 : Int32) (M : Mm) (BK9 : Int32 → Mm → Prop) (EK9 : Mm → Prop) (K : Int32 → Mm → Prop) (E : EN p s m args meth c cX11_nextSet 4 (some .int) RX11 g) (hw : ad g 100000 < s.heap.size) (hBK9 : ∀ (x3' : Int32) (M' : Mm) (H : Heap) (locs : List Loc) (ls : Array Slot), BK9 x3' M' → RP g S M' H → va_S (gA g) s.heap H locs → lv_has ls 4 [(1, .int x1), (2, .int x2), (3, .int x3')] → W p l e (rmD 1) s m args below meth c H locs 0 0 (MQ below (QA g S (pI K)) args s 0 0 (gA g)) (F0 m 9 ls [])) (hEK9 : ∀ (M' : Mm) (H : Heap) (locs : List Loc) (ls : Array Slot), EK9 M' → RP g S M' H → va_S (gA g) s.heap H locs → lv_has ls 4 [(1, .int x1), (2, .int x2)] → W p l e (rmD 1) s m args below meth c H locs 0 0 (MQ below (QA g S (pI K)) args s 0 0 (gA g)) (F0 m 32 ls [])) (hf : f_X11_nextSet_B9 S x1 x2 x3 M BK9 EK9 K) (H : Heap) (locs : List Loc) (ls : Array Slot) (hR : RP g S M H) (hS : va_S (gA g) s.heap H locs) (hl : lv_has ls 4 [(1, .int x1), (2, .int x2), (3, .int x3)]) : W p l e (rmD 1) s m args below meth c H locs 0 0 (MQ below (QA g S (pI K)) args s 0 0 (gA g)) (F0 m 9 ls []) := by
  have hx := E.1
  have hb := E.2.1
  unfold f_X11_nextSet_B9 at hf
  refine lv_iload_n hx hb dX11_nextSet_9 rfl (lv_at hl 2 rfl) ?_
  refine lv_iconst (v := 1) hx hb dX11_nextSet_10 (by decide) ?_
  refine lv_iload_n hx hb dX11_nextSet_11 rfl (lv_at hl 0 rfl) ?_
  refine lv_ishl hx hb dX11_nextSet_12 ?_
  refine lv_icmp_ge (tgt := 32) hx hb dX11_nextSet_13 (by decide) (fun c4 => ?_) (fun c4 => ?_)
  · replace hf := hf.1 c4
    exact hEK9  _ _ _ _ hf hR hS (lv_sub hl [0, 1] rfl)
  · replace hf := hf.2 c4
    refine lv_iload_n hx hb dX11_nextSet_16 rfl (lv_at hl 2 rfl) ?_
    refine hw_callS (d := 1) E hR hS (As := [.int x3]) (rest := []) mcJ6_bitCount_0f7a4 msJ6_bitCount_0f7a4 lmX11_434 (ok_J6_bitCount_0f7a4  hf) rfl rfl (by decide) hl.1 (Nat.le_of_ble_eq_true rfl) dX11_nextSet_17 (fun rr m5 H locs hp hR hS => ?_)
    obtain ⟨r6, rfl, hf⟩ := hp
    refine W.eq (g2 := F0 m 20 ls [.int r6]) rfl ?_
    refine lv_iload_n hx hb dX11_nextSet_20 rfl (lv_at hl 1 rfl) ?_
    refine lv_icmp_ne (tgt := 26) hx hb dX11_nextSet_21 (by decide) (fun c7 => ?_) (fun c7 => ?_)
    · replace hf := hf.2 c7
      obtain ⟨v8, ev8⟩ : ∃ y : Int32, y = x3 + (1 : Int32) := ⟨_, rfl⟩
      replace hf := hf v8 ev8
      refine lv_iinc (v := v8) (lv' := [(3, .int v8), (1, .int x1), (2, .int x2)]) hx hb dX11_nextSet_26 hl (k := 2) rfl (by rw [ev8]; rfl) (by decide) rfl (fun ls hl => ?_)
      refine lv_goto (tgt := 9) hx hb dX11_nextSet_29 (by decide) ?_
      exact hBK9 _ _ _ _ _ hf hR hS (lv_sub hl [1, 2, 0] rfl)
    · replace hf := hf.1 c7
      refine lv_iload_n hx hb dX11_nextSet_24 rfl (lv_at hl 2 rfl) ?_
      exact hw_iret E hR hS ⟨_, rfl, hf⟩ dX11_nextSet_25
def f_X11_nextSet_L9 (S : Ss) (x1 : Int32) (x2 : Int32) (EK9 : Mm → Prop) (K : Int32 → Mm → Prop) : Nat → Int32 → Mm → Prop
  | 0, _, _ => False
  | n + 1, x3, M => f_X11_nextSet_B9 S x1 x2 x3 M (fun (x3 : Int32) (M : Mm) => f_X11_nextSet_L9 S x1 x2 EK9 K n x3 M) EK9 K
set_option maxHeartbeats 4000000 in
set_option maxRecDepth 100000 in
theorem w_X11_nextSet_L9 {p : Program} {l : Launch} {e : Env} {s : State} {m : MethodId} {args : Array Value} {below : List Frame} {meth : Method} {c : Code} {g : Gg} {S : Ss} (x1 : Int32) (x2 : Int32) (EK9 : Mm → Prop) (K : Int32 → Mm → Prop) (E : EN p s m args meth c cX11_nextSet 4 (some .int) RX11 g) (hw : ad g 100000 < s.heap.size) (hEK9 : ∀ (M' : Mm) (H : Heap) (locs : List Loc) (ls : Array Slot), EK9 M' → RP g S M' H → va_S (gA g) s.heap H locs → lv_has ls 4 [(1, .int x1), (2, .int x2)] → W p l e (rmD 1) s m args below meth c H locs 0 0 (MQ below (QA g S (pI K)) args s 0 0 (gA g)) (F0 m 32 ls [])) : ∀ (n : Nat) (x3 : Int32) (M : Mm), f_X11_nextSet_L9 S x1 x2 EK9 K n x3 M → ∀ (H : Heap) (locs : List Loc) (ls : Array Slot), RP g S M H → va_S (gA g) s.heap H locs → lv_has ls 4 [(1, .int x1), (2, .int x2), (3, .int x3)] → W p l e (rmD 1) s m args below meth c H locs 0 0 (MQ below (QA g S (pI K)) args s 0 0 (gA g)) (F0 m 9 ls []) := by
  intro n
  induction n with
  | zero => intro x3 M hf; exact hf.elim
  | succ n ih =>
    intro x3 M hf H locs ls hR hS hl
    exact w_X11_nextSet_B9 _ _ _ _ _ _ _ E hw (fun _ M H locs ls h hR hS hl => ih _ M h H locs ls hR hS hl) hEK9 hf H locs ls hR hS hl
def f_X11_nextSet (S : Ss) (x0 : Int32) (x1 : Int32) (M : Mm) (K : Int32 → Mm → Prop) : Prop :=
  f_J6_bitCount_0f7a4 S  x0 M (fun (r2 : Int32) (m1 : Mm) =>
    ∀ v3 : Int32, v3 = (x0 + (1 : Int32)) →
  ∃ n11 : Nat, f_X11_nextSet_L9 S x1 r2 (fun (m9 : Mm) =>
    ((r2 = x1 →
      K (-1 : Int32) m9) ∧
     (¬ r2 = x1 →
      K (((1 : Int32) <<< ((r2 + (1 : Int32)) &&& 31)) - (1 : Int32)) m9))) K n11 v3 m1)
set_option maxHeartbeats 4000000 in
set_option maxRecDepth 100000 in
theorem ok_X11_nextSet {l : Launch} {g : Gg} {S : Ss} {x0 : Int32} {x1 : Int32} {M : Mm} {K : Int32 → Mm → Prop} (hf : f_X11_nextSet S x0 x1 M K) : MT l g S yX11_nextSet cX11_nextSet 4 (some .int) 1 [.int x0, .int x1] M (pI K) := by
  refine MT.of (by decide +kernel) (Nat.le_of_ble_eq_true rfl) ?_
  intro p e s m below meth c ls E hw hR hS hl
  have hl : lv_has ls 4 [(0, .int x0), (1, .int x1)] := hl
  generalize ([.int x0, .int x1] : List Value).toArray = args at E ⊢
  have E : EN p s m args meth c cX11_nextSet 4 (some .int) RX11 g := E
  have hx := E.1
  have hb := E.2.1
  unfold f_X11_nextSet at hf
  refine lv_iload_n hx hb dX11_nextSet_0 rfl (lv_at hl 0 rfl) ?_
  refine hw_callS (d := 1) E hR hS (As := [.int x0]) (rest := []) mcJ6_bitCount_0f7a4 msJ6_bitCount_0f7a4 lmX11_434 (ok_J6_bitCount_0f7a4  hf) rfl rfl (by decide) hl.1 (Nat.le_of_ble_eq_true rfl) dX11_nextSet_1 (fun rr m1 H locs hp hR hS => ?_)
  obtain ⟨r2, rfl, hf⟩ := hp
  refine W.eq (g2 := F0 m 4 ls [.int r2]) rfl ?_
  refine lv_istore_n (lv' := [(2, .int r2), (0, .int x0), (1, .int x1)]) hx hb dX11_nextSet_4 rfl hl (by decide) rfl (fun ls hl => ?_)
  refine lv_iload_n hx hb dX11_nextSet_5 rfl (lv_at hl 1 rfl) ?_
  refine lv_iconst (v := 1) hx hb dX11_nextSet_6 (by decide) ?_
  refine lv_iadd hx hb dX11_nextSet_7 ?_
  refine lv_topi (fun v3 ev3 => ?_)
  replace hf := hf v3 ev3
  refine lv_istore_n (lv' := [(3, .int v3), (2, .int r2), (0, .int x0), (1, .int x1)]) hx hb dX11_nextSet_8 rfl hl (by decide) rfl (fun ls hl => ?_)
  obtain ⟨n11, hf⟩ := hf
  refine w_X11_nextSet_L9 _ _ _ _ E hw ?_ n11 _ _ hf _ _ _ hR hS (lv_sub hl [3, 1, 0] rfl)
  intro m9 H locs ls hf hR hS hl
  refine lv_iload_n hx hb dX11_nextSet_32 rfl (lv_at hl 1 rfl) ?_
  refine lv_iload_n hx hb dX11_nextSet_33 rfl (lv_at hl 0 rfl) ?_
  refine lv_icmp_ne (tgt := 41) hx hb dX11_nextSet_34 (by decide) (fun c10 => ?_) (fun c10 => ?_)
  · replace hf := hf.2 c10
    refine lv_iconst (v := 1) hx hb dX11_nextSet_41 (by decide) ?_
    refine lv_iload_n hx hb dX11_nextSet_42 rfl (lv_at hl 1 rfl) ?_
    refine lv_iconst (v := 1) hx hb dX11_nextSet_43 (by decide) ?_
    refine lv_iadd hx hb dX11_nextSet_44 ?_
    refine lv_ishl hx hb dX11_nextSet_45 ?_
    refine lv_iconst (v := 1) hx hb dX11_nextSet_46 (by decide) ?_
    refine lv_isub hx hb dX11_nextSet_47 ?_
    exact hw_iret E hR hS ⟨_, rfl, hf⟩ dX11_nextSet_48
  · replace hf := hf.1 c10
    refine lv_iconst (v := -1) hx hb dX11_nextSet_37 (by decide) ?_
    refine lv_goto (tgt := 48) hx hb dX11_nextSet_38 (by decide) ?_
    exact hw_iret E hR hS ⟨_, rfl, hf⟩ dX11_nextSet_48
def f_X11_iron_B32 (S : Ss) (a0 : Nat) (x1 : Int32) (x2 : Int32) (x3 : Int32) (x4 : Int32) (x5 : Int32) (M : Mm) (BK32 : Int32 → Int32 → Int32 → Mm → Prop) (EK32 : Int32 → Int32 → Mm → Prop) (K : Int32 → Mm → Prop) : Prop :=
  ((x3 < 0 →
    EK32 x4 x5 M) ∧
   (¬ x3 < 0 →
    ((x4 = (1 : Int32) →
      ∀ m9 : Mm, m9 = stI M a0 21 x3 →
      f_X11_someBreaks S a0 x1 (4000 : Int32) m9 (fun (r11 : Int32) (m10 : Mm) =>
        f_X11_nextSet S  x3 (m10.1 a0 20) m10 (fun (r13 : Int32) (m12 : Mm) =>
        BK32 r13 r11 x3 m12))) ∧
     (¬ x4 = (1 : Int32) →
      EK32 x4 x5 M))))
set_option maxHeartbeats 4000000 in
set_option maxRecDepth 100000 in
theorem w_X11_iron_B32 {p : Program} {l : Launch} {e : Env} {s : State} {m : MethodId} {args : Array Value} {below : List Frame} {meth : Method} {c : Code} {g : Gg} {S : Ss} (a0 : Nat) (x1 : Int32) (x2 : Int32) (x3 : Int32) (x4 : Int32) (x5 : Int32) (M : Mm) (BK32 : Int32 → Int32 → Int32 → Mm → Prop) (EK32 : Int32 → Int32 → Mm → Prop) (K : Int32 → Mm → Prop) (E : EN p s m args meth c cX11_iron 6 (some .int) RX11 g) (hw : ad g 100000 < s.heap.size) (hs0 : S[a0]? = some (10, 0)) (hBK32 : ∀ (x3' : Int32) (x4' : Int32) (x5' : Int32) (M' : Mm) (H : Heap) (locs : List Loc) (ls : Array Slot), BK32 x3' x4' x5' M' → RP g S M' H → va_S (gA g) s.heap H locs → lv_has ls 6 [(0, .ref (ad g a0)), (1, .int x1), (2, .int x2), (3, .int x3'), (4, .int x4'), (5, .int x5')] → W p l e (rmD 9) s m args below meth c H locs 0 0 (MQ below (QA g S (pI K)) args s 0 0 (gA g)) (F0 m 32 ls [])) (hEK32 : ∀ (x4' : Int32) (x5' : Int32) (M' : Mm) (H : Heap) (locs : List Loc) (ls : Array Slot), EK32 x4' x5' M' → RP g S M' H → va_S (gA g) s.heap H locs → lv_has ls 6 [(0, .ref (ad g a0)), (2, .int x2), (4, .int x4'), (5, .int x5')] → W p l e (rmD 9) s m args below meth c H locs 0 0 (MQ below (QA g S (pI K)) args s 0 0 (gA g)) (F0 m 72 ls [])) (hf : f_X11_iron_B32 S a0 x1 x2 x3 x4 x5 M BK32 EK32 K) (H : Heap) (locs : List Loc) (ls : Array Slot) (hR : RP g S M H) (hS : va_S (gA g) s.heap H locs) (hl : lv_has ls 6 [(0, .ref (ad g a0)), (1, .int x1), (2, .int x2), (3, .int x3), (4, .int x4), (5, .int x5)]) : W p l e (rmD 9) s m args below meth c H locs 0 0 (MQ below (QA g S (pI K)) args s 0 0 (gA g)) (F0 m 32 ls []) := by
  have hx := E.1
  have hb := E.2.1
  unfold f_X11_iron_B32 at hf
  refine lv_iload_n hx hb dX11_iron_32 rfl (lv_at hl 3 rfl) ?_
  refine lv_if_lt (tgt := 72) hx hb dX11_iron_33 (by decide) (fun c7 => ?_) (fun c7 => ?_)
  · replace hf := hf.1 c7
    exact hEK32 _ _ _ _ _ _ hf hR hS (lv_sub hl [0, 2, 4, 5] rfl)
  · replace hf := hf.2 c7
    refine lv_iload hx hb dX11_iron_36 (lv_at hl 4 rfl) ?_
    refine lv_iconst (v := 1) hx hb dX11_iron_38 (by decide) ?_
    refine lv_icmp_ne (tgt := 72) hx hb dX11_iron_39 (by decide) (fun c8 => ?_) (fun c8 => ?_)
    · replace hf := hf.2 c8
      exact hEK32 _ _ _ _ _ _ hf hR hS (lv_sub hl [0, 2, 4, 5] rfl)
    · replace hf := hf.1 c8
      refine lv_aload_n hx hb dX11_iron_42 rfl (lv_at hl 0 rfl) ?_
      refine lv_iload_n hx hb dX11_iron_43 rfl (lv_at hl 3 rfl) ?_
      refine hw_putI E hR hS hw cI10 hs0 21 (by decide) lfX11_161 rfl (Or.inl rfl) dX11_iron_44 (fun m9 H locs em9 hR hS => ?_)
      replace hf := hf m9 em9
      refine lv_aload_n hx hb dX11_iron_47 rfl (lv_at hl 0 rfl) ?_
      refine lv_iload_n hx hb dX11_iron_48 rfl (lv_at hl 1 rfl) ?_
      refine lv_sipush (v := 4000) hx hb dX11_iron_49 (by decide) ?_
      refine hw_callV (d := 9) E hR hS (As := [.int x1, .int (4000 : Int32)]) (rest := []) cI10 hs0 rfl mcX11_someBreaks miX11_someBreaks lmX11_428 (ok_X11_someBreaks hs0 hf) rfl rfl (by decide) hl.1 (Nat.le_of_ble_eq_true rfl) dX11_iron_52 (fun rr m10 H locs hp hR hS => ?_)
      obtain ⟨r11, rfl, hf⟩ := hp
      refine W.eq (g2 := F0 m 55 ls [.int r11]) rfl ?_
      refine lv_istore (lv' := [(4, .int r11), (0, .ref (ad g a0)), (1, .int x1), (2, .int x2), (3, .int x3), (5, .int x5)]) hx hb dX11_iron_55 hl (by decide) rfl (fun ls hl => ?_)
      refine lv_iload_n hx hb dX11_iron_57 rfl (lv_at hl 4 rfl) ?_
      refine lv_istore (lv' := [(5, .int x3), (4, .int r11), (0, .ref (ad g a0)), (1, .int x1), (2, .int x2), (3, .int x3)]) hx hb dX11_iron_58 hl (by decide) rfl (fun ls hl => ?_)
      refine lv_iload_n hx hb dX11_iron_60 rfl (lv_at hl 5 rfl) ?_
      refine lv_aload_n hx hb dX11_iron_61 rfl (lv_at hl 2 rfl) ?_
      refine hw_getI E hR cI10 hs0 20 (by decide) lfX11_158 rfl dX11_iron_62 ?_
      refine hw_callS (d := 9) E hR hS (As := [.int x3, .int (m10.1 a0 20)]) (rest := []) mcX11_nextSet msX11_nextSet lmX11_439 (ok_X11_nextSet  hf) rfl rfl (by decide) hl.1 (Nat.le_of_ble_eq_true rfl) dX11_iron_65 (fun rr m12 H locs hp hR hS => ?_)
      obtain ⟨r13, rfl, hf⟩ := hp
      refine W.eq (g2 := F0 m 68 ls [.int r13]) rfl ?_
      refine lv_istore_n (lv' := [(3, .int r13), (5, .int x3), (4, .int r11), (0, .ref (ad g a0)), (1, .int x1), (2, .int x2)]) hx hb dX11_iron_68 rfl hl (by decide) rfl (fun ls hl => ?_)
      refine lv_goto (tgt := 32) hx hb dX11_iron_69 (by decide) ?_
      exact hBK32 _ _ _ _ _ _ _ hf hR hS (lv_sub hl [3, 4, 5, 0, 2, 1] rfl)
def f_X11_iron_L32 (S : Ss) (a0 : Nat) (x1 : Int32) (x2 : Int32) (EK32 : Int32 → Int32 → Mm → Prop) (K : Int32 → Mm → Prop) : Nat → Int32 → Int32 → Int32 → Mm → Prop
  | 0, _, _, _, _ => False
  | n + 1, x3, x4, x5, M => f_X11_iron_B32 S a0 x1 x2 x3 x4 x5 M (fun (x3 : Int32) (x4 : Int32) (x5 : Int32) (M : Mm) => f_X11_iron_L32 S a0 x1 x2 EK32 K n x3 x4 x5 M) EK32 K
set_option maxHeartbeats 4000000 in
set_option maxRecDepth 100000 in
theorem w_X11_iron_L32 {p : Program} {l : Launch} {e : Env} {s : State} {m : MethodId} {args : Array Value} {below : List Frame} {meth : Method} {c : Code} {g : Gg} {S : Ss} (a0 : Nat) (x1 : Int32) (x2 : Int32) (EK32 : Int32 → Int32 → Mm → Prop) (K : Int32 → Mm → Prop) (E : EN p s m args meth c cX11_iron 6 (some .int) RX11 g) (hw : ad g 100000 < s.heap.size) (hs0 : S[a0]? = some (10, 0)) (hEK32 : ∀ (x4' : Int32) (x5' : Int32) (M' : Mm) (H : Heap) (locs : List Loc) (ls : Array Slot), EK32 x4' x5' M' → RP g S M' H → va_S (gA g) s.heap H locs → lv_has ls 6 [(0, .ref (ad g a0)), (2, .int x2), (4, .int x4'), (5, .int x5')] → W p l e (rmD 9) s m args below meth c H locs 0 0 (MQ below (QA g S (pI K)) args s 0 0 (gA g)) (F0 m 72 ls [])) : ∀ (n : Nat) (x3 : Int32) (x4 : Int32) (x5 : Int32) (M : Mm), f_X11_iron_L32 S a0 x1 x2 EK32 K n x3 x4 x5 M → ∀ (H : Heap) (locs : List Loc) (ls : Array Slot), RP g S M H → va_S (gA g) s.heap H locs → lv_has ls 6 [(0, .ref (ad g a0)), (1, .int x1), (2, .int x2), (3, .int x3), (4, .int x4), (5, .int x5)] → W p l e (rmD 9) s m args below meth c H locs 0 0 (MQ below (QA g S (pI K)) args s 0 0 (gA g)) (F0 m 32 ls []) := by
  intro n
  induction n with
  | zero => intro x3 x4 x5 M hf; exact hf.elim
  | succ n ih =>
    intro x3 x4 x5 M hf H locs ls hR hS hl
    exact w_X11_iron_B32 _ _ _ _ _ _ _ _ _ _ E hw hs0 (fun _ _ _ M H locs ls h hR hS hl => ih _ _ _ M h H locs ls hR hS hl) hEK32 hf H locs ls hR hS hl
def f_X11_iron (S : Ss) (a0 : Nat) (x1 : Int32) (M : Mm) (K : Int32 → Mm → Prop) : Prop :=
  ∀ m1 : Mm, m1 = stI M a0 0 (0 : Int32) →
  f_X11_isRun S a0 x1 m1 (fun (r3 : Int32) (m2 : Mm) =>
    ((r3 = 0 →
    K (-1 : Int32) m2) ∧
   (¬ r3 = 0 →
    f_X11_remembers S a0  m2 (fun (m5 : Mm) =>
      ∀ v6 : Int32, v6 = (m5.1 a0 21) →
    ∃ n25 : Nat, f_X11_iron_L32 S a0 x1 v6 (fun (v14 : Int32) (v15 : Int32) (m16 : Mm) =>
      ∀ m17 : Mm, m17 = stI m16 a0 21 v6 →
      f_X11_comesBack S a0  m17 (fun (m18 : Mm) =>
        ((v14 = 0 →
        ∀ m20 : Mm, m20 = stI m18 a0 1 (0 : Int32) →
        f_X11_enters S a0 v15.toInt64 m20 (fun (m21 : Mm) =>
          f_J6_bitCount_0f7a4 S  v15 m21 (fun (r23 : Int32) (m22 : Mm) =>
          K r23 m22))) ∧
       (¬ v14 = 0 →
        ((v14 = (1 : Int32) →
          K (-2 : Int32) m18) ∧
         (¬ v14 = (1 : Int32) →
          K (-3 : Int32) m18)))))) K n25 (0 : Int32) (1 : Int32) (0 : Int32) m5))))
set_option maxHeartbeats 4000000 in
set_option maxRecDepth 100000 in
theorem ok_X11_iron {l : Launch} {g : Gg} {S : Ss} {a0 : Nat} {x1 : Int32} {M : Mm} {K : Int32 → Mm → Prop} (hs0 : S[a0]? = some (10, 0)) (hf : f_X11_iron S a0 x1 M K) : MT l g S yX11_iron cX11_iron 6 (some .int) 9 [.ref (ad g a0), .int x1] M (pI K) := by
  refine MT.of (by decide +kernel) (Nat.le_of_ble_eq_true rfl) ?_
  intro p e s m below meth c ls E hw hR hS hl
  have hl : lv_has ls 6 [(0, .ref (ad g a0)), (1, .int x1)] := hl
  generalize ([.ref (ad g a0), .int x1] : List Value).toArray = args at E ⊢
  have E : EN p s m args meth c cX11_iron 6 (some .int) RX11 g := E
  have hx := E.1
  have hb := E.2.1
  unfold f_X11_iron at hf
  refine lv_aload_n hx hb dX11_iron_0 rfl (lv_at hl 0 rfl) ?_
  refine lv_iconst (v := 0) hx hb dX11_iron_1 (by decide) ?_
  refine hw_putI E hR hS hw cI10 hs0 0 (by decide) lfX11_3 rfl (Or.inl rfl) dX11_iron_2 (fun m1 H locs em1 hR hS => ?_)
  replace hf := hf m1 em1
  refine lv_aload_n hx hb dX11_iron_5 rfl (lv_at hl 0 rfl) ?_
  refine lv_iload_n hx hb dX11_iron_6 rfl (lv_at hl 1 rfl) ?_
  refine hw_callV (d := 9) E hR hS (As := [.int x1]) (rest := []) cI10 hs0 rfl mcX11_isRun miX11_isRun lmX11_341 (ok_X11_isRun hs0 hf) rfl rfl (by decide) hl.1 (Nat.le_of_ble_eq_true rfl) dX11_iron_7 (fun rr m2 H locs hp hR hS => ?_)
  obtain ⟨r3, rfl, hf⟩ := hp
  refine W.eq (g2 := F0 m 10 ls [.int r3]) rfl ?_
  refine lv_if_ne (tgt := 15) hx hb dX11_iron_10 (by decide) (fun c4 => ?_) (fun c4 => ?_)
  · replace hf := hf.2 c4
    refine lv_aload_n hx hb dX11_iron_15 rfl (lv_at hl 0 rfl) ?_
    refine hw_callV (d := 9) E hR hS (As := []) (rest := []) cI10 hs0 rfl mcX11_remembers miX11_remembers lmX11_344 (ok_X11_remembers hs0 hf) rfl rfl (by decide) hl.1 (Nat.le_of_ble_eq_true rfl) dX11_iron_16 (fun rr m5 H locs hp hR hS => ?_)
    obtain ⟨rfl, hf⟩ := hp
    refine W.eq (g2 := F0 m 19 ls []) rfl ?_
    refine lv_aload_n hx hb dX11_iron_19 rfl (lv_at hl 0 rfl) ?_
    refine hw_getI E hR cI10 hs0 21 (by decide) lfX11_161 rfl dX11_iron_20 ?_
    refine lv_topi (fun v6 ev6 => ?_)
    replace hf := hf v6 ev6
    refine lv_istore_n (lv' := [(2, .int v6), (0, .ref (ad g a0)), (1, .int x1)]) hx hb dX11_iron_23 rfl hl (by decide) rfl (fun ls hl => ?_)
    refine lv_iconst (v := 0) hx hb dX11_iron_24 (by decide) ?_
    refine lv_istore_n (lv' := [(3, .int (0 : Int32)), (2, .int v6), (0, .ref (ad g a0)), (1, .int x1)]) hx hb dX11_iron_25 rfl hl (by decide) rfl (fun ls hl => ?_)
    refine lv_iconst (v := 1) hx hb dX11_iron_26 (by decide) ?_
    refine lv_istore (lv' := [(4, .int (1 : Int32)), (3, .int (0 : Int32)), (2, .int v6), (0, .ref (ad g a0)), (1, .int x1)]) hx hb dX11_iron_27 hl (by decide) rfl (fun ls hl => ?_)
    refine lv_iconst (v := 0) hx hb dX11_iron_29 (by decide) ?_
    refine lv_istore (lv' := [(5, .int (0 : Int32)), (4, .int (1 : Int32)), (3, .int (0 : Int32)), (2, .int v6), (0, .ref (ad g a0)), (1, .int x1)]) hx hb dX11_iron_30 hl (by decide) rfl (fun ls hl => ?_)
    obtain ⟨n25, hf⟩ := hf
    refine w_X11_iron_L32 _ _ _ _ _ E hw hs0 ?_ n25 _ _ _ _ hf _ _ _ hR hS (lv_sub hl [4, 5, 3, 2, 1, 0] rfl)
    intro v14 v15 m16 H locs ls hf hR hS hl
    refine lv_aload_n hx hb dX11_iron_72 rfl (lv_at hl 0 rfl) ?_
    refine lv_iload_n hx hb dX11_iron_73 rfl (lv_at hl 1 rfl) ?_
    refine hw_putI E hR hS hw cI10 hs0 21 (by decide) lfX11_161 rfl (Or.inl rfl) dX11_iron_74 (fun m17 H locs em17 hR hS => ?_)
    replace hf := hf m17 em17
    refine lv_aload_n hx hb dX11_iron_77 rfl (lv_at hl 0 rfl) ?_
    refine hw_callV (d := 9) E hR hS (As := []) (rest := []) cI10 hs0 rfl mcX11_comesBack miX11_comesBack lmX11_350 (ok_X11_comesBack hs0 hf) rfl rfl (by decide) hl.1 (Nat.le_of_ble_eq_true rfl) dX11_iron_78 (fun rr m18 H locs hp hR hS => ?_)
    obtain ⟨rfl, hf⟩ := hp
    refine W.eq (g2 := F0 m 81 ls []) rfl ?_
    refine lv_iload hx hb dX11_iron_81 (lv_at hl 2 rfl) ?_
    refine lv_if_eq (tgt := 100) hx hb dX11_iron_83 (by decide) (fun c19 => ?_) (fun c19 => ?_)
    · replace hf := hf.1 c19
      refine lv_aload_n hx hb dX11_iron_100 rfl (lv_at hl 0 rfl) ?_
      refine lv_iconst (v := 0) hx hb dX11_iron_101 (by decide) ?_
      refine hw_putI E hR hS hw cI10 hs0 1 (by decide) lfX11_11 rfl (Or.inl rfl) dX11_iron_102 (fun m20 H locs em20 hR hS => ?_)
      replace hf := hf m20 em20
      refine lv_aload_n hx hb dX11_iron_105 rfl (lv_at hl 0 rfl) ?_
      refine lv_iload hx hb dX11_iron_106 (lv_at hl 3 rfl) ?_
      refine lv_i2l hx hb dX11_iron_108 rfl ?_
      refine hw_callV (d := 9) E hR hS (As := [.long v15.toInt64]) (rest := []) cI10 hs0 rfl mcX11_enters miX11_enters lmX11_262 (ok_X11_enters hs0 hf) rfl rfl (by decide) hl.1 (Nat.le_of_ble_eq_true rfl) dX11_iron_109 (fun rr m21 H locs hp hR hS => ?_)
      obtain ⟨rfl, hf⟩ := hp
      refine W.eq (g2 := F0 m 112 ls []) rfl ?_
      refine lv_iload hx hb dX11_iron_112 (lv_at hl 3 rfl) ?_
      refine hw_callS (d := 9) E hR hS (As := [.int v15]) (rest := []) mcJ6_bitCount_0f7a4 msJ6_bitCount_0f7a4 lmX11_434 (ok_J6_bitCount_0f7a4  hf) rfl rfl (by decide) hl.1 (Nat.le_of_ble_eq_true rfl) dX11_iron_114 (fun rr m22 H locs hp hR hS => ?_)
      obtain ⟨r23, rfl, hf⟩ := hp
      refine W.eq (g2 := F0 m 117 ls [.int r23]) rfl ?_
      exact hw_iret E hR hS ⟨_, rfl, hf⟩ dX11_iron_117
    · replace hf := hf.2 c19
      refine lv_iload hx hb dX11_iron_86 (lv_at hl 2 rfl) ?_
      refine lv_iconst (v := 1) hx hb dX11_iron_88 (by decide) ?_
      refine lv_icmp_ne (tgt := 97) hx hb dX11_iron_89 (by decide) (fun c24 => ?_) (fun c24 => ?_)
      · replace hf := hf.2 c24
        refine lv_bipush (v := -3) hx hb dX11_iron_97 (by decide) ?_
        exact hw_iret E hR hS ⟨_, rfl, hf⟩ dX11_iron_99
      · replace hf := hf.1 c24
        refine lv_bipush (v := -2) hx hb dX11_iron_92 (by decide) ?_
        refine lv_goto (tgt := 99) hx hb dX11_iron_94 (by decide) ?_
        exact hw_iret E hR hS ⟨_, rfl, hf⟩ dX11_iron_99
  · replace hf := hf.1 c4
    refine lv_iconst (v := -1) hx hb dX11_iron_13 (by decide) ?_
    exact hw_iret E hR hS ⟨_, rfl, hf⟩ dX11_iron_14
def f_X11_mend_B26 (S : Ss) (a0 : Nat) (x1 : Int32) (x2 : Int32) (x3 : Int32) (x4 : Int32) (M : Mm) (BK26 : Int32 → Int32 → Int32 → Mm → Prop) (EK26 : Int32 → Int32 → Mm → Prop) (K : Int32 → Mm → Prop) : Prop :=
  ((x2 < 0 →
    EK26 x3 x4 M) ∧
   (¬ x2 < 0 →
    ((x3 = (1 : Int32) →
      ∀ m8 : Mm, m8 = stI M a0 33 x2 →
      f_X11_someBreaks S a0 x1 (4000 : Int32) m8 (fun (r10 : Int32) (m9 : Mm) =>
        f_X11_nextSet S  x2 (m9.1 a0 34) m9 (fun (r12 : Int32) (m11 : Mm) =>
        BK26 r12 r10 x2 m11))) ∧
     (¬ x3 = (1 : Int32) →
      EK26 x3 x4 M))))
set_option maxHeartbeats 4000000 in
set_option maxRecDepth 100000 in
theorem w_X11_mend_B26 {p : Program} {l : Launch} {e : Env} {s : State} {m : MethodId} {args : Array Value} {below : List Frame} {meth : Method} {c : Code} {g : Gg} {S : Ss} (a0 : Nat) (x1 : Int32) (x2 : Int32) (x3 : Int32) (x4 : Int32) (M : Mm) (BK26 : Int32 → Int32 → Int32 → Mm → Prop) (EK26 : Int32 → Int32 → Mm → Prop) (K : Int32 → Mm → Prop) (E : EN p s m args meth c cX11_mend 5 (some .int) RX11 g) (hw : ad g 100000 < s.heap.size) (hs0 : S[a0]? = some (10, 0)) (hBK26 : ∀ (x2' : Int32) (x3' : Int32) (x4' : Int32) (M' : Mm) (H : Heap) (locs : List Loc) (ls : Array Slot), BK26 x2' x3' x4' M' → RP g S M' H → va_S (gA g) s.heap H locs → lv_has ls 5 [(0, .ref (ad g a0)), (1, .int x1), (2, .int x2'), (3, .int x3'), (4, .int x4')] → W p l e (rmD 9) s m args below meth c H locs 0 0 (MQ below (QA g S (pI K)) args s 0 0 (gA g)) (F0 m 26 ls [])) (hEK26 : ∀ (x3' : Int32) (x4' : Int32) (M' : Mm) (H : Heap) (locs : List Loc) (ls : Array Slot), EK26 x3' x4' M' → RP g S M' H → va_S (gA g) s.heap H locs → lv_has ls 5 [(0, .ref (ad g a0)), (3, .int x3'), (4, .int x4')] → W p l e (rmD 9) s m args below meth c H locs 0 0 (MQ below (QA g S (pI K)) args s 0 0 (gA g)) (F0 m 64 ls [])) (hf : f_X11_mend_B26 S a0 x1 x2 x3 x4 M BK26 EK26 K) (H : Heap) (locs : List Loc) (ls : Array Slot) (hR : RP g S M H) (hS : va_S (gA g) s.heap H locs) (hl : lv_has ls 5 [(0, .ref (ad g a0)), (1, .int x1), (2, .int x2), (3, .int x3), (4, .int x4)]) : W p l e (rmD 9) s m args below meth c H locs 0 0 (MQ below (QA g S (pI K)) args s 0 0 (gA g)) (F0 m 26 ls []) := by
  have hx := E.1
  have hb := E.2.1
  unfold f_X11_mend_B26 at hf
  refine lv_iload_n hx hb dX11_mend_26 rfl (lv_at hl 2 rfl) ?_
  refine lv_if_lt (tgt := 64) hx hb dX11_mend_27 (by decide) (fun c6 => ?_) (fun c6 => ?_)
  · replace hf := hf.1 c6
    exact hEK26 _ _ _ _ _ _ hf hR hS (lv_sub hl [0, 3, 4] rfl)
  · replace hf := hf.2 c6
    refine lv_iload_n hx hb dX11_mend_30 rfl (lv_at hl 3 rfl) ?_
    refine lv_iconst (v := 1) hx hb dX11_mend_31 (by decide) ?_
    refine lv_icmp_ne (tgt := 64) hx hb dX11_mend_32 (by decide) (fun c7 => ?_) (fun c7 => ?_)
    · replace hf := hf.2 c7
      exact hEK26 _ _ _ _ _ _ hf hR hS (lv_sub hl [0, 3, 4] rfl)
    · replace hf := hf.1 c7
      refine lv_aload_n hx hb dX11_mend_35 rfl (lv_at hl 0 rfl) ?_
      refine lv_iload_n hx hb dX11_mend_36 rfl (lv_at hl 2 rfl) ?_
      refine hw_putI E hR hS hw cI10 hs0 33 (by decide) lfX11_201 rfl (Or.inl rfl) dX11_mend_37 (fun m8 H locs em8 hR hS => ?_)
      replace hf := hf m8 em8
      refine lv_aload_n hx hb dX11_mend_40 rfl (lv_at hl 0 rfl) ?_
      refine lv_iload_n hx hb dX11_mend_41 rfl (lv_at hl 1 rfl) ?_
      refine lv_sipush (v := 4000) hx hb dX11_mend_42 (by decide) ?_
      refine hw_callV (d := 9) E hR hS (As := [.int x1, .int (4000 : Int32)]) (rest := []) cI10 hs0 rfl mcX11_someBreaks miX11_someBreaks lmX11_428 (ok_X11_someBreaks hs0 hf) rfl rfl (by decide) hl.1 (Nat.le_of_ble_eq_true rfl) dX11_mend_45 (fun rr m9 H locs hp hR hS => ?_)
      obtain ⟨r10, rfl, hf⟩ := hp
      refine W.eq (g2 := F0 m 48 ls [.int r10]) rfl ?_
      refine lv_istore_n (lv' := [(3, .int r10), (0, .ref (ad g a0)), (1, .int x1), (2, .int x2), (4, .int x4)]) hx hb dX11_mend_48 rfl hl (by decide) rfl (fun ls hl => ?_)
      refine lv_iload_n hx hb dX11_mend_49 rfl (lv_at hl 3 rfl) ?_
      refine lv_istore (lv' := [(4, .int x2), (3, .int r10), (0, .ref (ad g a0)), (1, .int x1), (2, .int x2)]) hx hb dX11_mend_50 hl (by decide) rfl (fun ls hl => ?_)
      refine lv_iload_n hx hb dX11_mend_52 rfl (lv_at hl 4 rfl) ?_
      refine lv_aload_n hx hb dX11_mend_53 rfl (lv_at hl 2 rfl) ?_
      refine hw_getI E hR cI10 hs0 34 (by decide) lfX11_198 rfl dX11_mend_54 ?_
      refine hw_callS (d := 9) E hR hS (As := [.int x2, .int (m9.1 a0 34)]) (rest := []) mcX11_nextSet msX11_nextSet lmX11_439 (ok_X11_nextSet  hf) rfl rfl (by decide) hl.1 (Nat.le_of_ble_eq_true rfl) dX11_mend_57 (fun rr m11 H locs hp hR hS => ?_)
      obtain ⟨r12, rfl, hf⟩ := hp
      refine W.eq (g2 := F0 m 60 ls [.int r12]) rfl ?_
      refine lv_istore_n (lv' := [(2, .int r12), (4, .int x2), (3, .int r10), (0, .ref (ad g a0)), (1, .int x1)]) hx hb dX11_mend_60 rfl hl (by decide) rfl (fun ls hl => ?_)
      refine lv_goto (tgt := 26) hx hb dX11_mend_61 (by decide) ?_
      exact hBK26 _ _ _ _ _ _ _ hf hR hS (lv_sub hl [3, 4, 0, 2, 1] rfl)
def f_X11_mend_L26 (S : Ss) (a0 : Nat) (x1 : Int32) (EK26 : Int32 → Int32 → Mm → Prop) (K : Int32 → Mm → Prop) : Nat → Int32 → Int32 → Int32 → Mm → Prop
  | 0, _, _, _, _ => False
  | n + 1, x2, x3, x4, M => f_X11_mend_B26 S a0 x1 x2 x3 x4 M (fun (x2 : Int32) (x3 : Int32) (x4 : Int32) (M : Mm) => f_X11_mend_L26 S a0 x1 EK26 K n x2 x3 x4 M) EK26 K
set_option maxHeartbeats 4000000 in
set_option maxRecDepth 100000 in
theorem w_X11_mend_L26 {p : Program} {l : Launch} {e : Env} {s : State} {m : MethodId} {args : Array Value} {below : List Frame} {meth : Method} {c : Code} {g : Gg} {S : Ss} (a0 : Nat) (x1 : Int32) (EK26 : Int32 → Int32 → Mm → Prop) (K : Int32 → Mm → Prop) (E : EN p s m args meth c cX11_mend 5 (some .int) RX11 g) (hw : ad g 100000 < s.heap.size) (hs0 : S[a0]? = some (10, 0)) (hEK26 : ∀ (x3' : Int32) (x4' : Int32) (M' : Mm) (H : Heap) (locs : List Loc) (ls : Array Slot), EK26 x3' x4' M' → RP g S M' H → va_S (gA g) s.heap H locs → lv_has ls 5 [(0, .ref (ad g a0)), (3, .int x3'), (4, .int x4')] → W p l e (rmD 9) s m args below meth c H locs 0 0 (MQ below (QA g S (pI K)) args s 0 0 (gA g)) (F0 m 64 ls [])) : ∀ (n : Nat) (x2 : Int32) (x3 : Int32) (x4 : Int32) (M : Mm), f_X11_mend_L26 S a0 x1 EK26 K n x2 x3 x4 M → ∀ (H : Heap) (locs : List Loc) (ls : Array Slot), RP g S M H → va_S (gA g) s.heap H locs → lv_has ls 5 [(0, .ref (ad g a0)), (1, .int x1), (2, .int x2), (3, .int x3), (4, .int x4)] → W p l e (rmD 9) s m args below meth c H locs 0 0 (MQ below (QA g S (pI K)) args s 0 0 (gA g)) (F0 m 26 ls []) := by
  intro n
  induction n with
  | zero => intro x2 x3 x4 M hf; exact hf.elim
  | succ n ih =>
    intro x2 x3 x4 M hf H locs ls hR hS hl
    exact w_X11_mend_B26 _ _ _ _ _ _ _ _ _ E hw hs0 (fun _ _ _ M H locs ls h hR hS hl => ih _ _ _ M h H locs ls hR hS hl) hEK26 hf H locs ls hR hS hl
def f_X11_mend (S : Ss) (a0 : Nat) (x1 : Int32) (M : Mm) (K : Int32 → Mm → Prop) : Prop :=
  ∀ m1 : Mm, m1 = stI M a0 0 (0 : Int32) →
  f_X11_isRun S a0 x1 m1 (fun (r3 : Int32) (m2 : Mm) =>
    ((r3 = 0 →
    K (-1 : Int32) m2) ∧
   (¬ r3 = 0 →
    f_X11_remembers S a0  m2 (fun (m5 : Mm) =>
      ∃ n23 : Nat, f_X11_mend_L26 S a0 x1 (fun (v13 : Int32) (v14 : Int32) (m15 : Mm) =>
      f_X11_comesBack S a0  m15 (fun (m16 : Mm) =>
        ((v13 = 0 →
        ∀ m18 : Mm, m18 = stI m16 a0 1 (0 : Int32) →
        f_X11_enters S a0 v14.toInt64 m18 (fun (m19 : Mm) =>
          f_J6_bitCount_0f7a4 S  v14 m19 (fun (r21 : Int32) (m20 : Mm) =>
          K r21 m20))) ∧
       (¬ v13 = 0 →
        ((v13 = (1 : Int32) →
          K (-2 : Int32) m16) ∧
         (¬ v13 = (1 : Int32) →
          K (-3 : Int32) m16)))))) K n23 (0 : Int32) (1 : Int32) (0 : Int32) m5))))
set_option maxHeartbeats 4000000 in
set_option maxRecDepth 100000 in
theorem ok_X11_mend {l : Launch} {g : Gg} {S : Ss} {a0 : Nat} {x1 : Int32} {M : Mm} {K : Int32 → Mm → Prop} (hs0 : S[a0]? = some (10, 0)) (hf : f_X11_mend S a0 x1 M K) : MT l g S yX11_mend cX11_mend 5 (some .int) 9 [.ref (ad g a0), .int x1] M (pI K) := by
  refine MT.of (by decide +kernel) (Nat.le_of_ble_eq_true rfl) ?_
  intro p e s m below meth c ls E hw hR hS hl
  have hl : lv_has ls 5 [(0, .ref (ad g a0)), (1, .int x1)] := hl
  generalize ([.ref (ad g a0), .int x1] : List Value).toArray = args at E ⊢
  have E : EN p s m args meth c cX11_mend 5 (some .int) RX11 g := E
  have hx := E.1
  have hb := E.2.1
  unfold f_X11_mend at hf
  refine lv_aload_n hx hb dX11_mend_0 rfl (lv_at hl 0 rfl) ?_
  refine lv_iconst (v := 0) hx hb dX11_mend_1 (by decide) ?_
  refine hw_putI E hR hS hw cI10 hs0 0 (by decide) lfX11_3 rfl (Or.inl rfl) dX11_mend_2 (fun m1 H locs em1 hR hS => ?_)
  replace hf := hf m1 em1
  refine lv_aload_n hx hb dX11_mend_5 rfl (lv_at hl 0 rfl) ?_
  refine lv_iload_n hx hb dX11_mend_6 rfl (lv_at hl 1 rfl) ?_
  refine hw_callV (d := 9) E hR hS (As := [.int x1]) (rest := []) cI10 hs0 rfl mcX11_isRun miX11_isRun lmX11_341 (ok_X11_isRun hs0 hf) rfl rfl (by decide) hl.1 (Nat.le_of_ble_eq_true rfl) dX11_mend_7 (fun rr m2 H locs hp hR hS => ?_)
  obtain ⟨r3, rfl, hf⟩ := hp
  refine W.eq (g2 := F0 m 10 ls [.int r3]) rfl ?_
  refine lv_if_ne (tgt := 15) hx hb dX11_mend_10 (by decide) (fun c4 => ?_) (fun c4 => ?_)
  · replace hf := hf.2 c4
    refine lv_aload_n hx hb dX11_mend_15 rfl (lv_at hl 0 rfl) ?_
    refine hw_callV (d := 9) E hR hS (As := []) (rest := []) cI10 hs0 rfl mcX11_remembers miX11_remembers lmX11_344 (ok_X11_remembers hs0 hf) rfl rfl (by decide) hl.1 (Nat.le_of_ble_eq_true rfl) dX11_mend_16 (fun rr m5 H locs hp hR hS => ?_)
    obtain ⟨rfl, hf⟩ := hp
    refine W.eq (g2 := F0 m 19 ls []) rfl ?_
    refine lv_iconst (v := 0) hx hb dX11_mend_19 (by decide) ?_
    refine lv_istore_n (lv' := [(2, .int (0 : Int32)), (0, .ref (ad g a0)), (1, .int x1)]) hx hb dX11_mend_20 rfl hl (by decide) rfl (fun ls hl => ?_)
    refine lv_iconst (v := 1) hx hb dX11_mend_21 (by decide) ?_
    refine lv_istore_n (lv' := [(3, .int (1 : Int32)), (2, .int (0 : Int32)), (0, .ref (ad g a0)), (1, .int x1)]) hx hb dX11_mend_22 rfl hl (by decide) rfl (fun ls hl => ?_)
    refine lv_iconst (v := 0) hx hb dX11_mend_23 (by decide) ?_
    refine lv_istore (lv' := [(4, .int (0 : Int32)), (3, .int (1 : Int32)), (2, .int (0 : Int32)), (0, .ref (ad g a0)), (1, .int x1)]) hx hb dX11_mend_24 hl (by decide) rfl (fun ls hl => ?_)
    obtain ⟨n23, hf⟩ := hf
    refine w_X11_mend_L26 _ _ _ _ E hw hs0 ?_ n23 _ _ _ _ hf _ _ _ hR hS (lv_sub hl [3, 4, 2, 1, 0] rfl)
    intro v13 v14 m15 H locs ls hf hR hS hl
    refine lv_aload_n hx hb dX11_mend_64 rfl (lv_at hl 0 rfl) ?_
    refine hw_callV (d := 9) E hR hS (As := []) (rest := []) cI10 hs0 rfl mcX11_comesBack miX11_comesBack lmX11_350 (ok_X11_comesBack hs0 hf) rfl rfl (by decide) hl.1 (Nat.le_of_ble_eq_true rfl) dX11_mend_65 (fun rr m16 H locs hp hR hS => ?_)
    obtain ⟨rfl, hf⟩ := hp
    refine W.eq (g2 := F0 m 68 ls []) rfl ?_
    refine lv_iload_n hx hb dX11_mend_68 rfl (lv_at hl 1 rfl) ?_
    refine lv_if_eq (tgt := 85) hx hb dX11_mend_69 (by decide) (fun c17 => ?_) (fun c17 => ?_)
    · replace hf := hf.1 c17
      refine lv_aload_n hx hb dX11_mend_85 rfl (lv_at hl 0 rfl) ?_
      refine lv_iconst (v := 0) hx hb dX11_mend_86 (by decide) ?_
      refine hw_putI E hR hS hw cI10 hs0 1 (by decide) lfX11_11 rfl (Or.inl rfl) dX11_mend_87 (fun m18 H locs em18 hR hS => ?_)
      replace hf := hf m18 em18
      refine lv_aload_n hx hb dX11_mend_90 rfl (lv_at hl 0 rfl) ?_
      refine lv_iload hx hb dX11_mend_91 (lv_at hl 2 rfl) ?_
      refine lv_i2l hx hb dX11_mend_93 rfl ?_
      refine hw_callV (d := 9) E hR hS (As := [.long v14.toInt64]) (rest := []) cI10 hs0 rfl mcX11_enters miX11_enters lmX11_262 (ok_X11_enters hs0 hf) rfl rfl (by decide) hl.1 (Nat.le_of_ble_eq_true rfl) dX11_mend_94 (fun rr m19 H locs hp hR hS => ?_)
      obtain ⟨rfl, hf⟩ := hp
      refine W.eq (g2 := F0 m 97 ls []) rfl ?_
      refine lv_iload hx hb dX11_mend_97 (lv_at hl 2 rfl) ?_
      refine hw_callS (d := 9) E hR hS (As := [.int v14]) (rest := []) mcJ6_bitCount_0f7a4 msJ6_bitCount_0f7a4 lmX11_434 (ok_J6_bitCount_0f7a4  hf) rfl rfl (by decide) hl.1 (Nat.le_of_ble_eq_true rfl) dX11_mend_99 (fun rr m20 H locs hp hR hS => ?_)
      obtain ⟨r21, rfl, hf⟩ := hp
      refine W.eq (g2 := F0 m 102 ls [.int r21]) rfl ?_
      exact hw_iret E hR hS ⟨_, rfl, hf⟩ dX11_mend_102
    · replace hf := hf.2 c17
      refine lv_iload_n hx hb dX11_mend_72 rfl (lv_at hl 1 rfl) ?_
      refine lv_iconst (v := 1) hx hb dX11_mend_73 (by decide) ?_
      refine lv_icmp_ne (tgt := 82) hx hb dX11_mend_74 (by decide) (fun c22 => ?_) (fun c22 => ?_)
      · replace hf := hf.2 c22
        refine lv_bipush (v := -3) hx hb dX11_mend_82 (by decide) ?_
        exact hw_iret E hR hS ⟨_, rfl, hf⟩ dX11_mend_84
      · replace hf := hf.1 c22
        refine lv_bipush (v := -2) hx hb dX11_mend_77 (by decide) ?_
        refine lv_goto (tgt := 84) hx hb dX11_mend_79 (by decide) ?_
        exact hw_iret E hR hS ⟨_, rfl, hf⟩ dX11_mend_84
  · replace hf := hf.1 c4
    refine lv_iconst (v := -1) hx hb dX11_mend_13 (by decide) ?_
    exact hw_iret E hR hS ⟨_, rfl, hf⟩ dX11_mend_14
def f_X11_drop (S : Ss) (a0 : Nat) (M : Mm) (K : Int32 → Mm → Prop) : Prop :=
  ∀ m1 : Mm, m1 = stI M a0 0 (0 : Int32) →
  ∀ v2 : Int32, v2 = (m1.1 a0 34) →
  ∀ m3 : Mm, m3 = stI m1 a0 34 (0 : Int32) →
  K v2 m3
set_option maxHeartbeats 4000000 in
set_option maxRecDepth 100000 in
theorem ok_X11_drop {l : Launch} {g : Gg} {S : Ss} {a0 : Nat} {M : Mm} {K : Int32 → Mm → Prop} (hs0 : S[a0]? = some (10, 0)) (hf : f_X11_drop S a0 M K) : MT l g S yX11_drop cX11_drop 2 (some .int) 0 [.ref (ad g a0)] M (pI K) := by
  refine MT.of (by decide +kernel) (Nat.le_of_ble_eq_true rfl) ?_
  intro p e s m below meth c ls E hw hR hS hl
  have hl : lv_has ls 2 [(0, .ref (ad g a0))] := hl
  generalize ([.ref (ad g a0)] : List Value).toArray = args at E ⊢
  have E : EN p s m args meth c cX11_drop 2 (some .int) RX11 g := E
  have hx := E.1
  have hb := E.2.1
  unfold f_X11_drop at hf
  refine lv_aload_n hx hb dX11_drop_0 rfl (lv_at hl 0 rfl) ?_
  refine lv_iconst (v := 0) hx hb dX11_drop_1 (by decide) ?_
  refine hw_putI E hR hS hw cI10 hs0 0 (by decide) lfX11_3 rfl (Or.inl rfl) dX11_drop_2 (fun m1 H locs em1 hR hS => ?_)
  replace hf := hf m1 em1
  refine lv_aload_n hx hb dX11_drop_5 rfl (lv_at hl 0 rfl) ?_
  refine hw_getI E hR cI10 hs0 34 (by decide) lfX11_198 rfl dX11_drop_6 ?_
  refine lv_topi (fun v2 ev2 => ?_)
  replace hf := hf v2 ev2
  refine lv_istore_n (lv' := [(1, .int v2), (0, .ref (ad g a0))]) hx hb dX11_drop_9 rfl hl (by decide) rfl (fun ls hl => ?_)
  refine lv_aload_n hx hb dX11_drop_10 rfl (lv_at hl 1 rfl) ?_
  refine lv_iconst (v := 0) hx hb dX11_drop_11 (by decide) ?_
  refine hw_putI E hR hS hw cI10 hs0 34 (by decide) lfX11_198 rfl (Or.inl rfl) dX11_drop_12 (fun m3 H locs em3 hR hS => ?_)
  replace hf := hf m3 em3
  refine lv_iload_n hx hb dX11_drop_15 rfl (lv_at hl 0 rfl) ?_
  exact hw_iret E hR hS ⟨_, rfl, hf⟩ dX11_drop_16
def f_X11_type (S : Ss) (a0 : Nat) (x1 : Int32) (M : Mm) (K : Int32 → Mm → Prop) : Prop :=
  ∀ m1 : Mm, m1 = stI M a0 0 (0 : Int32) →
  f_X11_in S  x1.toInt64 (0 : Int64) (4 : Int64) m1 (fun (r3 : Int32) (m2 : Mm) =>
    ((r3 = 0 →
    K (-1 : Int32) m2) ∧
   (¬ r3 = 0 →
    (((m2.1 a0 60) = (8 : Int32) →
      K (-1 : Int32) m2) ∧
     (¬ (m2.1 a0 60) = (8 : Int32) →
      ∃ b6 : Nat, m2.2.2 a0 61 = some b6 ∧
      ∃ n7 : Nat, S[b6]? = some (50, n7) ∧ vp_in (m2.1 a0 60) n7 ∧
      ∀ m8 : Mm, m8 = stI m2 b6 (m2.1 a0 60).toNatClampNeg x1 →
      ∀ m9 : Mm, m9 = stI m8 a0 60 ((m8.1 a0 60) + (1 : Int32)) →
      K (m9.1 a0 60) m9)))))
set_option maxHeartbeats 4000000 in
set_option maxRecDepth 100000 in
theorem ok_X11_type {l : Launch} {g : Gg} {S : Ss} {a0 : Nat} {x1 : Int32} {M : Mm} {K : Int32 → Mm → Prop} (hs0 : S[a0]? = some (10, 0)) (hf : f_X11_type S a0 x1 M K) : MT l g S yX11_type cX11_type 2 (some .int) 1 [.ref (ad g a0), .int x1] M (pI K) := by
  refine MT.of (by decide +kernel) (Nat.le_of_ble_eq_true rfl) ?_
  intro p e s m below meth c ls E hw hR hS hl
  have hl : lv_has ls 2 [(0, .ref (ad g a0)), (1, .int x1)] := hl
  generalize ([.ref (ad g a0), .int x1] : List Value).toArray = args at E ⊢
  have E : EN p s m args meth c cX11_type 2 (some .int) RX11 g := E
  have hx := E.1
  have hb := E.2.1
  unfold f_X11_type at hf
  refine lv_aload_n hx hb dX11_type_0 rfl (lv_at hl 0 rfl) ?_
  refine lv_iconst (v := 0) hx hb dX11_type_1 (by decide) ?_
  refine hw_putI E hR hS hw cI10 hs0 0 (by decide) lfX11_3 rfl (Or.inl rfl) dX11_type_2 (fun m1 H locs em1 hR hS => ?_)
  replace hf := hf m1 em1
  refine lv_iload_n hx hb dX11_type_5 rfl (lv_at hl 1 rfl) ?_
  refine lv_i2l hx hb dX11_type_6 rfl ?_
  refine lv_lconst (v := 0) hx hb dX11_type_7 (by decide) ?_
  refine lv_ldc2 (v := 4) hx hb E.2.2.2.2.1 (E.2.2.2.2.2.1 _ ljX11_237) dX11_type_8 ?_
  refine hw_callS (d := 1) E hR hS (As := [.long x1.toInt64, .long (0 : Int64), .long (4 : Int64)]) (rest := []) mcX11_in msX11_in lmX11_21 (ok_X11_in  hf) rfl rfl (by decide) hl.1 (Nat.le_of_ble_eq_true rfl) dX11_type_11 (fun rr m2 H locs hp hR hS => ?_)
  obtain ⟨r3, rfl, hf⟩ := hp
  refine W.eq (g2 := F0 m 14 ls [.int r3]) rfl ?_
  refine lv_if_eq (tgt := 26) hx hb dX11_type_14 (by decide) (fun c4 => ?_) (fun c4 => ?_)
  · replace hf := hf.1 c4
    refine lv_iconst (v := -1) hx hb dX11_type_26 (by decide) ?_
    exact hw_iret E hR hS ⟨_, rfl, hf⟩ dX11_type_27
  · replace hf := hf.2 c4
    refine lv_aload_n hx hb dX11_type_17 rfl (lv_at hl 0 rfl) ?_
    refine hw_getI E hR cI10 hs0 60 (by decide) lfX11_442 rfl dX11_type_18 ?_
    refine lv_bipush (v := 8) hx hb dX11_type_21 (by decide) ?_
    refine lv_icmp_ne (tgt := 28) hx hb dX11_type_23 (by decide) (fun c5 => ?_) (fun c5 => ?_)
    · replace hf := hf.2 c5
      refine lv_aload_n hx hb dX11_type_28 rfl (lv_at hl 0 rfl) ?_
      obtain ⟨b6, hb6, hf⟩ := hf
      refine hw_getR E hR cI10 hs0 61 (by decide) lfX11_445 rfl hb6 dX11_type_29 ?_
      refine lv_aload_n hx hb dX11_type_32 rfl (lv_at hl 0 rfl) ?_
      refine hw_getI E hR cI10 hs0 60 (by decide) lfX11_442 rfl dX11_type_33 ?_
      refine lv_iload_n hx hb dX11_type_36 rfl (lv_at hl 1 rfl) ?_
      obtain ⟨n7, hn7, in7, hf⟩ := hf
      refine hw_iast E hR hS hw hn7 in7 dX11_type_37 (fun m8 H locs em8 hR hS => ?_)
      replace hf := hf m8 em8
      refine lv_aload_n hx hb dX11_type_38 rfl (lv_at hl 0 rfl) ?_
      refine lv_dup hx hb dX11_type_39 rfl ?_
      refine hw_getI E hR cI10 hs0 60 (by decide) lfX11_442 rfl dX11_type_40 ?_
      refine lv_iconst (v := 1) hx hb dX11_type_43 (by decide) ?_
      refine lv_iadd hx hb dX11_type_44 ?_
      refine hw_putI E hR hS hw cI10 hs0 60 (by decide) lfX11_442 rfl (Or.inl rfl) dX11_type_45 (fun m9 H locs em9 hR hS => ?_)
      replace hf := hf m9 em9
      refine lv_aload_n hx hb dX11_type_48 rfl (lv_at hl 0 rfl) ?_
      refine hw_getI E hR cI10 hs0 60 (by decide) lfX11_442 rfl dX11_type_49 ?_
      exact hw_iret E hR hS ⟨_, rfl, hf⟩ dX11_type_52
    · replace hf := hf.1 c5
      refine lv_iconst (v := -1) hx hb dX11_type_26 (by decide) ?_
      exact hw_iret E hR hS ⟨_, rfl, hf⟩ dX11_type_27
def f_X11_wipe (S : Ss) (a0 : Nat) (M : Mm) (K : Int32 → Mm → Prop) : Prop :=
  ∀ m1 : Mm, m1 = stI M a0 0 (0 : Int32) →
  ∀ v2 : Int32, v2 = (m1.1 a0 60) →
  ∀ m3 : Mm, m3 = stI m1 a0 60 (0 : Int32) →
  K v2 m3
set_option maxHeartbeats 4000000 in
set_option maxRecDepth 100000 in
theorem ok_X11_wipe {l : Launch} {g : Gg} {S : Ss} {a0 : Nat} {M : Mm} {K : Int32 → Mm → Prop} (hs0 : S[a0]? = some (10, 0)) (hf : f_X11_wipe S a0 M K) : MT l g S yX11_wipe cX11_wipe 2 (some .int) 0 [.ref (ad g a0)] M (pI K) := by
  refine MT.of (by decide +kernel) (Nat.le_of_ble_eq_true rfl) ?_
  intro p e s m below meth c ls E hw hR hS hl
  have hl : lv_has ls 2 [(0, .ref (ad g a0))] := hl
  generalize ([.ref (ad g a0)] : List Value).toArray = args at E ⊢
  have E : EN p s m args meth c cX11_wipe 2 (some .int) RX11 g := E
  have hx := E.1
  have hb := E.2.1
  unfold f_X11_wipe at hf
  refine lv_aload_n hx hb dX11_wipe_0 rfl (lv_at hl 0 rfl) ?_
  refine lv_iconst (v := 0) hx hb dX11_wipe_1 (by decide) ?_
  refine hw_putI E hR hS hw cI10 hs0 0 (by decide) lfX11_3 rfl (Or.inl rfl) dX11_wipe_2 (fun m1 H locs em1 hR hS => ?_)
  replace hf := hf m1 em1
  refine lv_aload_n hx hb dX11_wipe_5 rfl (lv_at hl 0 rfl) ?_
  refine hw_getI E hR cI10 hs0 60 (by decide) lfX11_442 rfl dX11_wipe_6 ?_
  refine lv_topi (fun v2 ev2 => ?_)
  replace hf := hf v2 ev2
  refine lv_istore_n (lv' := [(1, .int v2), (0, .ref (ad g a0))]) hx hb dX11_wipe_9 rfl hl (by decide) rfl (fun ls hl => ?_)
  refine lv_aload_n hx hb dX11_wipe_10 rfl (lv_at hl 1 rfl) ?_
  refine lv_iconst (v := 0) hx hb dX11_wipe_11 (by decide) ?_
  refine hw_putI E hR hS hw cI10 hs0 60 (by decide) lfX11_442 rfl (Or.inl rfl) dX11_wipe_12 (fun m3 H locs em3 hR hS => ?_)
  replace hf := hf m3 em3
  refine lv_iload_n hx hb dX11_wipe_15 rfl (lv_at hl 0 rfl) ?_
  exact hw_iret E hR hS ⟨_, rfl, hf⟩ dX11_wipe_16
def f_X11_types_B105 (S : Ss) (a0 : Nat) (x1 : Int32) (x2 : Int32) (x3 : Int32) (x4 : Int32) (x5 : Int32) (x6 : Int32) (M : Mm) (BK105 : Int32 → Mm → Prop) (EK105 : Mm → Prop) (K : Mm → Prop) : Prop :=
  (((16384 : Int32) ≤ x6 →
    EK105 M) ∧
   (¬ (16384 : Int32) ≤ x6 →
    ∃ b18 : Nat, M.2.2 a0 43 = some b18 ∧
    ∃ n19 : Nat, S[b18]? = some (50, n19) ∧ vp_in x6 n19 ∧
    ∀ m20 : Mm, m20 = stI M b18 x6.toNatClampNeg (-1 : Int32) →
    ∀ v21 : Int32, v21 = x6 + (1 : Int32) →
    BK105 v21 m20))
set_option maxHeartbeats 4000000 in
set_option maxRecDepth 100000 in
theorem w_X11_types_B105 {p : Program} {l : Launch} {e : Env} {s : State} {m : MethodId} {args : Array Value} {below : List Frame} {meth : Method} {c : Code} {g : Gg} {S : Ss} (a0 : Nat) (x1 : Int32) (x2 : Int32) (x3 : Int32) (x4 : Int32) (x5 : Int32) (x6 : Int32) (M : Mm) (BK105 : Int32 → Mm → Prop) (EK105 : Mm → Prop) (K : Mm → Prop) (E : EN p s m args meth c cX11_types 10 none RX11 g) (hw : ad g 100000 < s.heap.size) (hs0 : S[a0]? = some (10, 0)) (hBK105 : ∀ (x6' : Int32) (M' : Mm) (H : Heap) (locs : List Loc) (ls : Array Slot), BK105 x6' M' → RP g S M' H → va_S (gA g) s.heap H locs → lv_has ls 10 [(0, .ref (ad g a0)), (1, .int x1), (2, .int x2), (3, .int x3), (4, .int x4), (5, .int x5), (6, .int x6')] → W p l e (rmD 6) s m args below meth c H locs 0 0 (MQ below (QA g S (pV K)) args s 0 0 (gA g)) (F0 m 105 ls [])) (hEK105 : ∀ (M' : Mm) (H : Heap) (locs : List Loc) (ls : Array Slot), EK105 M' → RP g S M' H → va_S (gA g) s.heap H locs → lv_has ls 10 [(0, .ref (ad g a0)), (1, .int x1), (2, .int x2), (3, .int x3), (4, .int x4), (5, .int x5)] → W p l e (rmD 6) s m args below meth c H locs 0 0 (MQ below (QA g S (pV K)) args s 0 0 (gA g)) (F0 m 127 ls [])) (hf : f_X11_types_B105 S a0 x1 x2 x3 x4 x5 x6 M BK105 EK105 K) (H : Heap) (locs : List Loc) (ls : Array Slot) (hR : RP g S M H) (hS : va_S (gA g) s.heap H locs) (hl : lv_has ls 10 [(0, .ref (ad g a0)), (1, .int x1), (2, .int x2), (3, .int x3), (4, .int x4), (5, .int x5), (6, .int x6)]) : W p l e (rmD 6) s m args below meth c H locs 0 0 (MQ below (QA g S (pV K)) args s 0 0 (gA g)) (F0 m 105 ls []) := by
  have hx := E.1
  have hb := E.2.1
  unfold f_X11_types_B105 at hf
  refine lv_iload hx hb dX11_types_105 (lv_at hl 6 rfl) ?_
  refine lv_sipush (v := 16384) hx hb dX11_types_107 (by decide) ?_
  refine lv_icmp_ge (tgt := 127) hx hb dX11_types_110 (by decide) (fun c17 => ?_) (fun c17 => ?_)
  · replace hf := hf.1 c17
    exact hEK105  _ _ _ _ hf hR hS (lv_sub hl [0, 1, 2, 3, 4, 5] rfl)
  · replace hf := hf.2 c17
    refine lv_aload_n hx hb dX11_types_113 rfl (lv_at hl 0 rfl) ?_
    obtain ⟨b18, hb18, hf⟩ := hf
    refine hw_getR E hR cI10 hs0 43 (by decide) lfX11_299 rfl hb18 dX11_types_114 ?_
    refine lv_iload hx hb dX11_types_117 (lv_at hl 6 rfl) ?_
    refine lv_iconst (v := -1) hx hb dX11_types_119 (by decide) ?_
    obtain ⟨n19, hn19, in19, hf⟩ := hf
    refine hw_iast E hR hS hw hn19 in19 dX11_types_120 (fun m20 H locs em20 hR hS => ?_)
    replace hf := hf m20 em20
    obtain ⟨v21, ev21⟩ : ∃ y : Int32, y = x6 + (1 : Int32) := ⟨_, rfl⟩
    replace hf := hf v21 ev21
    refine lv_iinc (v := v21) (lv' := [(6, .int v21), (0, .ref (ad g a0)), (1, .int x1), (2, .int x2), (3, .int x3), (4, .int x4), (5, .int x5)]) hx hb dX11_types_121 hl (k := 6) rfl (by rw [ev21]; rfl) (by decide) rfl (fun ls hl => ?_)
    refine lv_goto (tgt := 105) hx hb dX11_types_124 (by decide) ?_
    exact hBK105 _ _ _ _ _ hf hR hS (lv_sub hl [1, 2, 3, 4, 5, 6, 0] rfl)
def f_X11_types_L105 (S : Ss) (a0 : Nat) (x1 : Int32) (x2 : Int32) (x3 : Int32) (x4 : Int32) (x5 : Int32) (EK105 : Mm → Prop) (K : Mm → Prop) : Nat → Int32 → Mm → Prop
  | 0, _, _ => False
  | n + 1, x6, M => f_X11_types_B105 S a0 x1 x2 x3 x4 x5 x6 M (fun (x6 : Int32) (M : Mm) => f_X11_types_L105 S a0 x1 x2 x3 x4 x5 EK105 K n x6 M) EK105 K
set_option maxHeartbeats 4000000 in
set_option maxRecDepth 100000 in
theorem w_X11_types_L105 {p : Program} {l : Launch} {e : Env} {s : State} {m : MethodId} {args : Array Value} {below : List Frame} {meth : Method} {c : Code} {g : Gg} {S : Ss} (a0 : Nat) (x1 : Int32) (x2 : Int32) (x3 : Int32) (x4 : Int32) (x5 : Int32) (EK105 : Mm → Prop) (K : Mm → Prop) (E : EN p s m args meth c cX11_types 10 none RX11 g) (hw : ad g 100000 < s.heap.size) (hs0 : S[a0]? = some (10, 0)) (hEK105 : ∀ (M' : Mm) (H : Heap) (locs : List Loc) (ls : Array Slot), EK105 M' → RP g S M' H → va_S (gA g) s.heap H locs → lv_has ls 10 [(0, .ref (ad g a0)), (1, .int x1), (2, .int x2), (3, .int x3), (4, .int x4), (5, .int x5)] → W p l e (rmD 6) s m args below meth c H locs 0 0 (MQ below (QA g S (pV K)) args s 0 0 (gA g)) (F0 m 127 ls [])) : ∀ (n : Nat) (x6 : Int32) (M : Mm), f_X11_types_L105 S a0 x1 x2 x3 x4 x5 EK105 K n x6 M → ∀ (H : Heap) (locs : List Loc) (ls : Array Slot), RP g S M H → va_S (gA g) s.heap H locs → lv_has ls 10 [(0, .ref (ad g a0)), (1, .int x1), (2, .int x2), (3, .int x3), (4, .int x4), (5, .int x5), (6, .int x6)] → W p l e (rmD 6) s m args below meth c H locs 0 0 (MQ below (QA g S (pV K)) args s 0 0 (gA g)) (F0 m 105 ls []) := by
  intro n
  induction n with
  | zero => intro x6 M hf; exact hf.elim
  | succ n ih =>
    intro x6 M hf H locs ls hR hS hl
    exact w_X11_types_B105 _ _ _ _ _ _ _ _ _ _ _ E hw hs0 (fun _ M H locs ls h hR hS hl => ih _ M h H locs ls hR hS hl) hEK105 hf H locs ls hR hS hl
def f_X11_types_J315 (S : Ss) (a0 : Nat) (x1 : Int32) (x3 : Int32) (x4 : Int32) (x5 : Int32) (x6 : Int32) (x7 : Int32) (x9 : Int32) (M : Mm) (BK147 : Int32 → Mm → Prop) (K : Mm → Prop) : Prop :=
  ∃ b39 : Nat, M.2.2 a0 67 = some b39 ∧
  ∃ n40 : Nat, S[b39]? = some (53, n40) ∧ vp_in x9 n40 ∧
  ∃ b41 : Nat, M.2.2 a0 67 = some b41 ∧
  ∃ n42 : Nat, S[b41]? = some (53, n42) ∧ vp_in x6 n42 ∧
  ∃ n43 : Nat, S[b39]? = some (53, n43) ∧ vp_in x9 n43 ∧
  ∀ m44 : Mm, m44 = stJ M b39 x9.toNatClampNeg ((M.2.1 b39 x9.toNatClampNeg) + (M.2.1 b41 x6.toNatClampNeg)) →
  (((m44.1 a0 44) ≤ (4000 : Int32) →
    ∀ m46 : Mm, m46 = stI m44 a0 62 (0 : Int32) →
    ∀ v47 : Int32, v47 = x7 + (1 : Int32) →
    BK147 v47 m46) ∧
   (¬ (m44.1 a0 44) ≤ (4000 : Int32) →
    ∀ m48 : Mm, m48 = stI m44 a0 62 (1 : Int32) →
    ∀ v49 : Int32, v49 = x7 + (1 : Int32) →
    BK147 v49 m48))
set_option maxHeartbeats 4000000 in
set_option maxRecDepth 100000 in
theorem w_X11_types_J315 {p : Program} {l : Launch} {e : Env} {s : State} {m : MethodId} {args : Array Value} {below : List Frame} {meth : Method} {c : Code} {g : Gg} {S : Ss} (a0 : Nat) (x1 : Int32) (x3 : Int32) (x4 : Int32) (x5 : Int32) (x6 : Int32) (x7 : Int32) (x9 : Int32) (M : Mm) (BK147 : Int32 → Mm → Prop) (K : Mm → Prop) (E : EN p s m args meth c cX11_types 10 none RX11 g) (hw : ad g 100000 < s.heap.size) (hs0 : S[a0]? = some (10, 0)) (hBK147 : ∀ (x7' : Int32) (M' : Mm) (H : Heap) (locs : List Loc) (ls : Array Slot), BK147 x7' M' → RP g S M' H → va_S (gA g) s.heap H locs → lv_has ls 10 [(0, .ref (ad g a0)), (1, .int x1), (3, .int x3), (4, .int x4), (5, .int x5), (6, .int x6), (7, .int x7')] → W p l e (rmD 6) s m args below meth c H locs 0 0 (MQ below (QA g S (pV K)) args s 0 0 (gA g)) (F0 m 147 ls [])) (hf : f_X11_types_J315 S a0 x1 x3 x4 x5 x6 x7 x9 M BK147 K) (H : Heap) (locs : List Loc) (ls : Array Slot) (hR : RP g S M H) (hS : va_S (gA g) s.heap H locs) (hl : lv_has ls 10 [(0, .ref (ad g a0)), (1, .int x1), (3, .int x3), (4, .int x4), (5, .int x5), (6, .int x6), (7, .int x7), (9, .int x9)]) : W p l e (rmD 6) s m args below meth c H locs 0 0 (MQ below (QA g S (pV K)) args s 0 0 (gA g)) (F0 m 315 ls []) := by
  have hx := E.1
  have hb := E.2.1
  unfold f_X11_types_J315 at hf
  refine lv_aload_n hx hb dX11_types_315 rfl (lv_at hl 0 rfl) ?_
  obtain ⟨b39, hb39, hf⟩ := hf
  refine hw_getR E hR cI10 hs0 67 (by decide) lfX11_448 rfl hb39 dX11_types_316 ?_
  refine lv_iload hx hb dX11_types_319 (lv_at hl 7 rfl) ?_
  refine lv_dup2_11 hx hb dX11_types_321 rfl rfl ?_
  obtain ⟨n40, hn40, in40, hf⟩ := hf
  refine hw_lald E hR hn40 in40 dX11_types_322 ?_
  refine lv_aload_n hx hb dX11_types_323 rfl (lv_at hl 0 rfl) ?_
  obtain ⟨b41, hb41, hf⟩ := hf
  refine hw_getR E hR cI10 hs0 67 (by decide) lfX11_448 rfl hb41 dX11_types_324 ?_
  refine lv_iload hx hb dX11_types_327 (lv_at hl 5 rfl) ?_
  obtain ⟨n42, hn42, in42, hf⟩ := hf
  refine hw_lald E hR hn42 in42 dX11_types_329 ?_
  refine lv_ladd hx hb dX11_types_330 ?_
  obtain ⟨n43, hn43, in43, hf⟩ := hf
  refine hw_last E hR hS hw hn43 in43 dX11_types_331 (fun m44 H locs em44 hR hS => ?_)
  replace hf := hf m44 em44
  refine lv_aload_n hx hb dX11_types_332 rfl (lv_at hl 0 rfl) ?_
  refine lv_aload_n hx hb dX11_types_333 rfl (lv_at hl 0 rfl) ?_
  refine hw_getI E hR cI10 hs0 44 (by decide) lfX11_296 rfl dX11_types_334 ?_
  refine lv_sipush (v := 4000) hx hb dX11_types_337 (by decide) ?_
  refine lv_icmp_le (tgt := 347) hx hb dX11_types_340 (by decide) (fun c45 => ?_) (fun c45 => ?_)
  · replace hf := hf.1 c45
    refine lv_iconst (v := 0) hx hb dX11_types_347 (by decide) ?_
    refine hw_putI E hR hS hw cI10 hs0 62 (by decide) lfX11_451 rfl (Or.inr ⟨rfl, by decide⟩) dX11_types_348 (fun m46 H locs em46 hR hS => ?_)
    replace hf := hf m46 em46
    obtain ⟨v47, ev47⟩ : ∃ y : Int32, y = x7 + (1 : Int32) := ⟨_, rfl⟩
    replace hf := hf v47 ev47
    refine lv_iinc (v := v47) (lv' := [(7, .int v47), (0, .ref (ad g a0)), (1, .int x1), (3, .int x3), (4, .int x4), (5, .int x5), (6, .int x6), (9, .int x9)]) hx hb dX11_types_351 hl (k := 6) rfl (by rw [ev47]; rfl) (by decide) rfl (fun ls hl => ?_)
    refine lv_goto (tgt := 147) hx hb dX11_types_354 (by decide) ?_
    exact hBK147 _ _ _ _ _ hf hR hS (lv_sub hl [1, 2, 3, 4, 5, 6, 0] rfl)
  · replace hf := hf.2 c45
    refine lv_iconst (v := 1) hx hb dX11_types_343 (by decide) ?_
    refine lv_goto (tgt := 348) hx hb dX11_types_344 (by decide) ?_
    refine hw_putI E hR hS hw cI10 hs0 62 (by decide) lfX11_451 rfl (Or.inr ⟨rfl, by decide⟩) dX11_types_348 (fun m48 H locs em48 hR hS => ?_)
    replace hf := hf m48 em48
    obtain ⟨v49, ev49⟩ : ∃ y : Int32, y = x7 + (1 : Int32) := ⟨_, rfl⟩
    replace hf := hf v49 ev49
    refine lv_iinc (v := v49) (lv' := [(7, .int v49), (0, .ref (ad g a0)), (1, .int x1), (3, .int x3), (4, .int x4), (5, .int x5), (6, .int x6), (9, .int x9)]) hx hb dX11_types_351 hl (k := 6) rfl (by rw [ev49]; rfl) (by decide) rfl (fun ls hl => ?_)
    refine lv_goto (tgt := 147) hx hb dX11_types_354 (by decide) ?_
    exact hBK147 _ _ _ _ _ hf hR hS (lv_sub hl [1, 2, 3, 4, 5, 6, 0] rfl)
def f_X11_types_J231 (S : Ss) (a0 : Nat) (x1 : Int32) (x3 : Int32) (x4 : Int32) (x5 : Int32) (x6 : Int32) (x7 : Int32) (x8 : Int32) (t0 : Int64) (t1 : Int64) (b02 : Nat) (M : Mm) (BK147 : Int32 → Mm → Prop) (K : Mm → Prop) : Prop :=
  S[b02]? = some (10, 0) ∧
  ∀ m63 : Mm, m63 = stJ M b02 64 (t1 + t0) →
  ((x8 = 0 →
    ∀ v65 : Int32, v65 = x7 + (1 : Int32) →
    BK147 v65 m63) ∧
   (¬ x8 = 0 →
    ((0 ≤ (m63.1 a0 65) →
      ∀ v67 : Int32, v67 = x7 + (1 : Int32) →
      BK147 v67 m63) ∧
     (¬ 0 ≤ (m63.1 a0 65) →
      ∀ m68 : Mm, m68 = stI m63 a0 65 x6 →
      ∀ m69 : Mm, m69 = stI m68 a0 66 x7 →
      ∀ v70 : Int32, v70 = x7 + (1 : Int32) →
      BK147 v70 m69))))
set_option maxHeartbeats 4000000 in
set_option maxRecDepth 100000 in
theorem w_X11_types_J231 {p : Program} {l : Launch} {e : Env} {s : State} {m : MethodId} {args : Array Value} {below : List Frame} {meth : Method} {c : Code} {g : Gg} {S : Ss} (a0 : Nat) (x1 : Int32) (x3 : Int32) (x4 : Int32) (x5 : Int32) (x6 : Int32) (x7 : Int32) (x8 : Int32) (t0 : Int64) (t1 : Int64) (b02 : Nat) (M : Mm) (BK147 : Int32 → Mm → Prop) (K : Mm → Prop) (E : EN p s m args meth c cX11_types 10 none RX11 g) (hw : ad g 100000 < s.heap.size) (hs0 : S[a0]? = some (10, 0)) (hBK147 : ∀ (x7' : Int32) (M' : Mm) (H : Heap) (locs : List Loc) (ls : Array Slot), BK147 x7' M' → RP g S M' H → va_S (gA g) s.heap H locs → lv_has ls 10 [(0, .ref (ad g a0)), (1, .int x1), (3, .int x3), (4, .int x4), (5, .int x5), (6, .int x6), (7, .int x7')] → W p l e (rmD 6) s m args below meth c H locs 0 0 (MQ below (QA g S (pV K)) args s 0 0 (gA g)) (F0 m 147 ls [])) (hf : f_X11_types_J231 S a0 x1 x3 x4 x5 x6 x7 x8 t0 t1 b02 M BK147 K) (H : Heap) (locs : List Loc) (ls : Array Slot) (hR : RP g S M H) (hS : va_S (gA g) s.heap H locs) (hl : lv_has ls 10 [(0, .ref (ad g a0)), (1, .int x1), (3, .int x3), (4, .int x4), (5, .int x5), (6, .int x6), (7, .int x7), (8, .int x8)]) : W p l e (rmD 6) s m args below meth c H locs 0 0 (MQ below (QA g S (pV K)) args s 0 0 (gA g)) (F0 m 231 ls [.long t0, .long t1, .ref (ad g b02)]) := by
  have hx := E.1
  have hb := E.2.1
  unfold f_X11_types_J231 at hf
  refine lv_ladd hx hb dX11_types_231 ?_
  obtain ⟨h62, hf⟩ := hf
  refine hw_putJ E hR hS hw cI10 h62 64 (by decide) lfX11_457 rfl rfl dX11_types_232 (fun m63 H locs em63 hR hS => ?_)
  replace hf := hf m63 em63
  refine lv_iload hx hb dX11_types_235 (lv_at hl 7 rfl) ?_
  refine lv_if_eq (tgt := 351) hx hb dX11_types_237 (by decide) (fun c64 => ?_) (fun c64 => ?_)
  · replace hf := hf.1 c64
    obtain ⟨v65, ev65⟩ : ∃ y : Int32, y = x7 + (1 : Int32) := ⟨_, rfl⟩
    replace hf := hf v65 ev65
    refine lv_iinc (v := v65) (lv' := [(7, .int v65), (0, .ref (ad g a0)), (1, .int x1), (3, .int x3), (4, .int x4), (5, .int x5), (6, .int x6), (8, .int x8)]) hx hb dX11_types_351 hl (k := 6) rfl (by rw [ev65]; rfl) (by decide) rfl (fun ls hl => ?_)
    refine lv_goto (tgt := 147) hx hb dX11_types_354 (by decide) ?_
    exact hBK147 _ _ _ _ _ hf hR hS (lv_sub hl [1, 2, 3, 4, 5, 6, 0] rfl)
  · replace hf := hf.2 c64
    refine lv_aload_n hx hb dX11_types_240 rfl (lv_at hl 0 rfl) ?_
    refine hw_getI E hR cI10 hs0 65 (by decide) lfX11_460 rfl dX11_types_241 ?_
    refine lv_if_ge (tgt := 351) hx hb dX11_types_244 (by decide) (fun c66 => ?_) (fun c66 => ?_)
    · replace hf := hf.1 c66
      obtain ⟨v67, ev67⟩ : ∃ y : Int32, y = x7 + (1 : Int32) := ⟨_, rfl⟩
      replace hf := hf v67 ev67
      refine lv_iinc (v := v67) (lv' := [(7, .int v67), (0, .ref (ad g a0)), (1, .int x1), (3, .int x3), (4, .int x4), (5, .int x5), (6, .int x6), (8, .int x8)]) hx hb dX11_types_351 hl (k := 6) rfl (by rw [ev67]; rfl) (by decide) rfl (fun ls hl => ?_)
      refine lv_goto (tgt := 147) hx hb dX11_types_354 (by decide) ?_
      exact hBK147 _ _ _ _ _ hf hR hS (lv_sub hl [1, 2, 3, 4, 5, 6, 0] rfl)
    · replace hf := hf.2 c66
      refine lv_aload_n hx hb dX11_types_247 rfl (lv_at hl 0 rfl) ?_
      refine lv_iload hx hb dX11_types_248 (lv_at hl 5 rfl) ?_
      refine hw_putI E hR hS hw cI10 hs0 65 (by decide) lfX11_460 rfl (Or.inl rfl) dX11_types_250 (fun m68 H locs em68 hR hS => ?_)
      replace hf := hf m68 em68
      refine lv_aload_n hx hb dX11_types_253 rfl (lv_at hl 0 rfl) ?_
      refine lv_iload hx hb dX11_types_254 (lv_at hl 6 rfl) ?_
      refine hw_putI E hR hS hw cI10 hs0 66 (by decide) lfX11_463 rfl (Or.inl rfl) dX11_types_256 (fun m69 H locs em69 hR hS => ?_)
      replace hf := hf m69 em69
      refine lv_goto (tgt := 351) hx hb dX11_types_259 (by decide) ?_
      obtain ⟨v70, ev70⟩ : ∃ y : Int32, y = x7 + (1 : Int32) := ⟨_, rfl⟩
      replace hf := hf v70 ev70
      refine lv_iinc (v := v70) (lv' := [(7, .int v70), (0, .ref (ad g a0)), (1, .int x1), (3, .int x3), (4, .int x4), (5, .int x5), (6, .int x6), (8, .int x8)]) hx hb dX11_types_351 hl (k := 6) rfl (by rw [ev70]; rfl) (by decide) rfl (fun ls hl => ?_)
      refine lv_goto (tgt := 147) hx hb dX11_types_354 (by decide) ?_
      exact hBK147 _ _ _ _ _ hf hR hS (lv_sub hl [1, 2, 3, 4, 5, 6, 0] rfl)
def f_X11_types_J208 (S : Ss) (a0 : Nat) (x1 : Int32) (x3 : Int32) (x4 : Int32) (x5 : Int32) (x6 : Int32) (x7 : Int32) (t0 : Int32) (M : Mm) (BK147 : Int32 → Mm → Prop) (K : Mm → Prop) : Prop :=
  ((t0 = 0 →
    f_X11_types_J231 S a0 x1 x3 x4 x5 x6 x7 t0 (0 : Int64) (M.2.1 a0 64) a0 M BK147 K) ∧
   (¬ t0 = 0 →
    ∃ b71 : Nat, M.2.2 a0 67 = some b71 ∧
    ∃ n72 : Nat, S[b71]? = some (53, n72) ∧ vp_in x6 n72 ∧
    f_X11_types_J231 S a0 x1 x3 x4 x5 x6 x7 t0 (M.2.1 b71 x6.toNatClampNeg) (M.2.1 a0 64) a0 M BK147 K))
set_option maxHeartbeats 4000000 in
set_option maxRecDepth 100000 in
theorem w_X11_types_J208 {p : Program} {l : Launch} {e : Env} {s : State} {m : MethodId} {args : Array Value} {below : List Frame} {meth : Method} {c : Code} {g : Gg} {S : Ss} (a0 : Nat) (x1 : Int32) (x3 : Int32) (x4 : Int32) (x5 : Int32) (x6 : Int32) (x7 : Int32) (t0 : Int32) (M : Mm) (BK147 : Int32 → Mm → Prop) (K : Mm → Prop) (E : EN p s m args meth c cX11_types 10 none RX11 g) (hw : ad g 100000 < s.heap.size) (hs0 : S[a0]? = some (10, 0)) (hBK147 : ∀ (x7' : Int32) (M' : Mm) (H : Heap) (locs : List Loc) (ls : Array Slot), BK147 x7' M' → RP g S M' H → va_S (gA g) s.heap H locs → lv_has ls 10 [(0, .ref (ad g a0)), (1, .int x1), (3, .int x3), (4, .int x4), (5, .int x5), (6, .int x6), (7, .int x7')] → W p l e (rmD 6) s m args below meth c H locs 0 0 (MQ below (QA g S (pV K)) args s 0 0 (gA g)) (F0 m 147 ls [])) (hf : f_X11_types_J208 S a0 x1 x3 x4 x5 x6 x7 t0 M BK147 K) (H : Heap) (locs : List Loc) (ls : Array Slot) (hR : RP g S M H) (hS : va_S (gA g) s.heap H locs) (hl : lv_has ls 10 [(0, .ref (ad g a0)), (1, .int x1), (3, .int x3), (4, .int x4), (5, .int x5), (6, .int x6), (7, .int x7)]) : W p l e (rmD 6) s m args below meth c H locs 0 0 (MQ below (QA g S (pV K)) args s 0 0 (gA g)) (F0 m 208 ls [.int t0]) := by
  have hx := E.1
  have hb := E.2.1
  unfold f_X11_types_J208 at hf
  refine lv_istore (lv' := [(8, .int t0), (0, .ref (ad g a0)), (1, .int x1), (3, .int x3), (4, .int x4), (5, .int x5), (6, .int x6), (7, .int x7)]) hx hb dX11_types_208 hl (by decide) rfl (fun ls hl => ?_)
  refine lv_aload_n hx hb dX11_types_210 rfl (lv_at hl 1 rfl) ?_
  refine lv_dup hx hb dX11_types_211 rfl ?_
  refine hw_getJ E hR cI10 hs0 64 (by decide) lfX11_457 rfl dX11_types_212 ?_
  refine lv_iload hx hb dX11_types_215 (lv_at hl 0 rfl) ?_
  refine lv_if_eq (tgt := 230) hx hb dX11_types_217 (by decide) (fun c61 => ?_) (fun c61 => ?_)
  · replace hf := hf.1 c61
    refine lv_lconst (v := 0) hx hb dX11_types_230 (by decide) ?_
    exact w_X11_types_J231 _ _ _ _ _ _ _ _ _ _ _ _ _ _ E hw hs0 hBK147 hf _ _ _ hR hS (lv_sub hl [1, 2, 3, 4, 5, 6, 7, 0] rfl)
  · replace hf := hf.2 c61
    refine lv_aload_n hx hb dX11_types_220 rfl (lv_at hl 1 rfl) ?_
    obtain ⟨b71, hb71, hf⟩ := hf
    refine hw_getR E hR cI10 hs0 67 (by decide) lfX11_448 rfl hb71 dX11_types_221 ?_
    refine lv_iload hx hb dX11_types_224 (lv_at hl 6 rfl) ?_
    obtain ⟨n72, hn72, in72, hf⟩ := hf
    refine hw_lald E hR hn72 in72 dX11_types_226 ?_
    refine lv_goto (tgt := 231) hx hb dX11_types_227 (by decide) ?_
    exact w_X11_types_J231 _ _ _ _ _ _ _ _ _ _ _ _ _ _ E hw hs0 hBK147 hf _ _ _ hR hS (lv_sub hl [1, 2, 3, 4, 5, 6, 7, 0] rfl)
def f_X11_types_B147 (S : Ss) (a0 : Nat) (x1 : Int32) (x3 : Int32) (x4 : Int32) (x5 : Int32) (x6 : Int32) (x7 : Int32) (M : Mm) (BK147 : Int32 → Mm → Prop) (EK147 : Mm → Prop) (K : Mm → Prop) : Prop :=
  (((M.1 a0 15) ≤ x7 →
    EK147 M) ∧
   (¬ (M.1 a0 15) ≤ x7 →
    (((M.1 a0 62) = 0 →
      f_X11_goesTo S a0 x6 ((x7 * ((M.1 a0 27) + (1 : Int32))) + x4) M (fun (m27 : Mm) =>
        f_X11_breaks S a0  m27 (fun (r29 : Int32) (m28 : Mm) =>
        ((r29 = 0 →
        ∀ v31 : Int32, v31 = (m28.1 a0 44) →
        f_X11_packsSlots S a0  m28 (fun (r33 : Int64) (m32 : Mm) =>
          f_X11_packsRest S a0  m32 (fun (r35 : Int64) (m34 : Mm) =>
          f_X11_placeOf S a0 r33 r35 m34 (fun (r37 : Int32) (m36 : Mm) =>
          ((r37 = v31 →
          ∃ b50 : Nat, m36.2.2 a0 67 = some b50 ∧
          ∃ n51 : Nat, S[b50]? = some (53, n51) ∧ vp_in r37 n51 ∧
          ∀ m52 : Mm, m52 = stJ m36 b50 r37.toNatClampNeg (0 : Int64) →
          ∃ b53 : Nat, m52.2.2 a0 40 = some b53 ∧
          ∃ n54 : Nat, S[b53]? = some (50, n54) ∧ vp_in r37 n54 ∧
          ∀ m55 : Mm, m55 = stI m52 b53 r37.toNatClampNeg x6 →
          ∃ b56 : Nat, m55.2.2 a0 41 = some b56 ∧
          ∃ n57 : Nat, S[b56]? = some (50, n57) ∧ vp_in r37 n57 ∧
          ∀ m58 : Mm, m58 = stI m55 b56 r37.toNatClampNeg x7 →
          f_X11_types_J315 S a0 x1 x3 x4 x5 x6 x7 r37 m58 BK147 K) ∧
         (¬ r37 = v31 →
          f_X11_types_J315 S a0 x1 x3 x4 x5 x6 x7 r37 m36 BK147 K)))))) ∧
       (¬ r29 = 0 →
        ∀ m59 : Mm, m59 = stI m28 a0 63 (1 : Int32) →
        ((x3 = ((m59.1 a0 60) - (1 : Int32)) →
          f_X11_types_J208 S a0 x1 x3 x4 x5 x6 x7 (1 : Int32) m59 BK147 K) ∧
         (¬ x3 = ((m59.1 a0 60) - (1 : Int32)) →
          f_X11_types_J208 S a0 x1 x3 x4 x5 x6 x7 (0 : Int32) m59 BK147 K))))))) ∧
     (¬ (M.1 a0 62) = 0 →
      EK147 M))))
set_option maxHeartbeats 4000000 in
set_option maxRecDepth 100000 in
theorem w_X11_types_B147 {p : Program} {l : Launch} {e : Env} {s : State} {m : MethodId} {args : Array Value} {below : List Frame} {meth : Method} {c : Code} {g : Gg} {S : Ss} (a0 : Nat) (x1 : Int32) (x3 : Int32) (x4 : Int32) (x5 : Int32) (x6 : Int32) (x7 : Int32) (M : Mm) (BK147 : Int32 → Mm → Prop) (EK147 : Mm → Prop) (K : Mm → Prop) (E : EN p s m args meth c cX11_types 10 none RX11 g) (hw : ad g 100000 < s.heap.size) (hs0 : S[a0]? = some (10, 0)) (hBK147 : ∀ (x7' : Int32) (M' : Mm) (H : Heap) (locs : List Loc) (ls : Array Slot), BK147 x7' M' → RP g S M' H → va_S (gA g) s.heap H locs → lv_has ls 10 [(0, .ref (ad g a0)), (1, .int x1), (3, .int x3), (4, .int x4), (5, .int x5), (6, .int x6), (7, .int x7')] → W p l e (rmD 6) s m args below meth c H locs 0 0 (MQ below (QA g S (pV K)) args s 0 0 (gA g)) (F0 m 147 ls [])) (hEK147 : ∀ (M' : Mm) (H : Heap) (locs : List Loc) (ls : Array Slot), EK147 M' → RP g S M' H → va_S (gA g) s.heap H locs → lv_has ls 10 [(0, .ref (ad g a0)), (1, .int x1), (3, .int x3), (4, .int x4), (5, .int x5), (6, .int x6)] → W p l e (rmD 6) s m args below meth c H locs 0 0 (MQ below (QA g S (pV K)) args s 0 0 (gA g)) (F0 m 357 ls [])) (hf : f_X11_types_B147 S a0 x1 x3 x4 x5 x6 x7 M BK147 EK147 K) (H : Heap) (locs : List Loc) (ls : Array Slot) (hR : RP g S M H) (hS : va_S (gA g) s.heap H locs) (hl : lv_has ls 10 [(0, .ref (ad g a0)), (1, .int x1), (3, .int x3), (4, .int x4), (5, .int x5), (6, .int x6), (7, .int x7)]) : W p l e (rmD 6) s m args below meth c H locs 0 0 (MQ below (QA g S (pV K)) args s 0 0 (gA g)) (F0 m 147 ls []) := by
  have hx := E.1
  have hb := E.2.1
  unfold f_X11_types_B147 at hf
  refine lv_iload hx hb dX11_types_147 (lv_at hl 6 rfl) ?_
  refine lv_aload_n hx hb dX11_types_149 rfl (lv_at hl 0 rfl) ?_
  refine hw_getI E hR cI10 hs0 15 (by decide) lfX11_121 rfl dX11_types_150 ?_
  refine lv_icmp_ge (tgt := 357) hx hb dX11_types_153 (by decide) (fun c25 => ?_) (fun c25 => ?_)
  · replace hf := hf.1 c25
    exact hEK147  _ _ _ _ hf hR hS (lv_sub hl [0, 1, 2, 3, 4, 5] rfl)
  · replace hf := hf.2 c25
    refine lv_aload_n hx hb dX11_types_156 rfl (lv_at hl 0 rfl) ?_
    refine hw_getI E hR cI10 hs0 62 (by decide) lfX11_451 rfl dX11_types_157 ?_
    refine lv_if_ne (tgt := 357) hx hb dX11_types_160 (by decide) (fun c26 => ?_) (fun c26 => ?_)
    · replace hf := hf.2 c26
      exact hEK147  _ _ _ _ hf hR hS (lv_sub hl [0, 1, 2, 3, 4, 5] rfl)
    · replace hf := hf.1 c26
      refine lv_aload_n hx hb dX11_types_163 rfl (lv_at hl 0 rfl) ?_
      refine lv_iload hx hb dX11_types_164 (lv_at hl 5 rfl) ?_
      refine lv_iload hx hb dX11_types_166 (lv_at hl 6 rfl) ?_
      refine lv_aload_n hx hb dX11_types_168 rfl (lv_at hl 0 rfl) ?_
      refine hw_getI E hR cI10 hs0 27 (by decide) lfX11_239 rfl dX11_types_169 ?_
      refine lv_iconst (v := 1) hx hb dX11_types_172 (by decide) ?_
      refine lv_iadd hx hb dX11_types_173 ?_
      refine lv_imul hx hb dX11_types_174 ?_
      refine lv_iload hx hb dX11_types_175 (lv_at hl 3 rfl) ?_
      refine lv_iadd hx hb dX11_types_177 ?_
      refine hw_callV (d := 6) E hR hS (As := [.int x6, .int ((x7 * ((M.1 a0 27) + (1 : Int32))) + x4)]) (rest := []) cI10 hs0 rfl mcX11_goesTo miX11_goesTo lmX11_318 (ok_X11_goesTo hs0 hf) rfl rfl (by decide) hl.1 (Nat.le_of_ble_eq_true rfl) dX11_types_178 (fun rr m27 H locs hp hR hS => ?_)
      obtain ⟨rfl, hf⟩ := hp
      refine W.eq (g2 := F0 m 181 ls []) rfl ?_
      refine lv_aload_n hx hb dX11_types_181 rfl (lv_at hl 0 rfl) ?_
      refine hw_callV (d := 6) E hR hS (As := []) (rest := []) cI10 hs0 rfl mcX11_breaks miX11_breaks lmX11_356 (ok_X11_breaks hs0 hf) rfl rfl (by decide) hl.1 (Nat.le_of_ble_eq_true rfl) dX11_types_182 (fun rr m28 H locs hp hR hS => ?_)
      obtain ⟨r29, rfl, hf⟩ := hp
      refine W.eq (g2 := F0 m 185 ls [.int r29]) rfl ?_
      refine lv_if_eq (tgt := 262) hx hb dX11_types_185 (by decide) (fun c30 => ?_) (fun c30 => ?_)
      · replace hf := hf.1 c30
        refine lv_aload_n hx hb dX11_types_262 rfl (lv_at hl 0 rfl) ?_
        refine hw_getI E hR cI10 hs0 44 (by decide) lfX11_296 rfl dX11_types_263 ?_
        refine lv_topi (fun v31 ev31 => ?_)
        replace hf := hf v31 ev31
        refine lv_istore (lv' := [(8, .int v31), (0, .ref (ad g a0)), (1, .int x1), (3, .int x3), (4, .int x4), (5, .int x5), (6, .int x6), (7, .int x7)]) hx hb dX11_types_266 hl (by decide) rfl (fun ls hl => ?_)
        refine lv_aload_n hx hb dX11_types_268 rfl (lv_at hl 1 rfl) ?_
        refine lv_aload_n hx hb dX11_types_269 rfl (lv_at hl 1 rfl) ?_
        refine hw_callV (d := 6) E hR hS (As := []) (rest := [.ref (ad g a0)]) cI10 hs0 rfl mcX11_packsSlots miX11_packsSlots lmX11_266 (ok_X11_packsSlots hs0 hf) rfl rfl (by decide) hl.1 (Nat.le_of_ble_eq_true rfl) dX11_types_270 (fun rr m32 H locs hp hR hS => ?_)
        obtain ⟨r33, rfl, hf⟩ := hp
        refine W.eq (g2 := F0 m 273 ls [.long r33, .ref (ad g a0)]) rfl ?_
        refine lv_aload_n hx hb dX11_types_273 rfl (lv_at hl 1 rfl) ?_
        refine hw_callV (d := 6) E hR hS (As := []) (rest := [.long r33, .ref (ad g a0)]) cI10 hs0 rfl mcX11_packsRest miX11_packsRest lmX11_274 (ok_X11_packsRest hs0 hf) rfl rfl (by decide) hl.1 (Nat.le_of_ble_eq_true rfl) dX11_types_274 (fun rr m34 H locs hp hR hS => ?_)
        obtain ⟨r35, rfl, hf⟩ := hp
        refine W.eq (g2 := F0 m 277 ls [.long r35, .long r33, .ref (ad g a0)]) rfl ?_
        refine hw_callV (d := 6) E hR hS (As := [.long r33, .long r35]) (rest := []) cI10 hs0 rfl mcX11_placeOf miX11_placeOf lmX11_321 (ok_X11_placeOf hs0 hf) rfl rfl (by decide) hl.1 (Nat.le_of_ble_eq_true rfl) dX11_types_277 (fun rr m36 H locs hp hR hS => ?_)
        obtain ⟨r37, rfl, hf⟩ := hp
        refine W.eq (g2 := F0 m 280 ls [.int r37]) rfl ?_
        refine lv_istore (lv' := [(9, .int r37), (8, .int v31), (0, .ref (ad g a0)), (1, .int x1), (3, .int x3), (4, .int x4), (5, .int x5), (6, .int x6), (7, .int x7)]) hx hb dX11_types_280 hl (by decide) rfl (fun ls hl => ?_)
        refine lv_iload hx hb dX11_types_282 (lv_at hl 0 rfl) ?_
        refine lv_iload hx hb dX11_types_284 (lv_at hl 1 rfl) ?_
        refine lv_icmp_ne (tgt := 315) hx hb dX11_types_286 (by decide) (fun c38 => ?_) (fun c38 => ?_)
        · replace hf := hf.2 c38
          exact w_X11_types_J315 _ _ _ _ _ _ _ _ _ _ _ E hw hs0 hBK147 hf _ _ _ hR hS (lv_sub hl [2, 3, 4, 5, 6, 7, 8, 0] rfl)
        · replace hf := hf.1 c38
          refine lv_aload_n hx hb dX11_types_289 rfl (lv_at hl 2 rfl) ?_
          obtain ⟨b50, hb50, hf⟩ := hf
          refine hw_getR E hR cI10 hs0 67 (by decide) lfX11_448 rfl hb50 dX11_types_290 ?_
          refine lv_iload hx hb dX11_types_293 (lv_at hl 0 rfl) ?_
          refine lv_lconst (v := 0) hx hb dX11_types_295 (by decide) ?_
          obtain ⟨n51, hn51, in51, hf⟩ := hf
          refine hw_last E hR hS hw hn51 in51 dX11_types_296 (fun m52 H locs em52 hR hS => ?_)
          replace hf := hf m52 em52
          refine lv_aload_n hx hb dX11_types_297 rfl (lv_at hl 2 rfl) ?_
          obtain ⟨b53, hb53, hf⟩ := hf
          refine hw_getR E hR cI10 hs0 40 (by decide) lfX11_330 rfl hb53 dX11_types_298 ?_
          refine lv_iload hx hb dX11_types_301 (lv_at hl 0 rfl) ?_
          refine lv_iload hx hb dX11_types_303 (lv_at hl 7 rfl) ?_
          obtain ⟨n54, hn54, in54, hf⟩ := hf
          refine hw_iast E hR hS hw hn54 in54 dX11_types_305 (fun m55 H locs em55 hR hS => ?_)
          replace hf := hf m55 em55
          refine lv_aload_n hx hb dX11_types_306 rfl (lv_at hl 2 rfl) ?_
          obtain ⟨b56, hb56, hf⟩ := hf
          refine hw_getR E hR cI10 hs0 41 (by decide) lfX11_336 rfl hb56 dX11_types_307 ?_
          refine lv_iload hx hb dX11_types_310 (lv_at hl 0 rfl) ?_
          refine lv_iload hx hb dX11_types_312 (lv_at hl 8 rfl) ?_
          obtain ⟨n57, hn57, in57, hf⟩ := hf
          refine hw_iast E hR hS hw hn57 in57 dX11_types_314 (fun m58 H locs em58 hR hS => ?_)
          replace hf := hf m58 em58
          exact w_X11_types_J315 _ _ _ _ _ _ _ _ _ _ _ E hw hs0 hBK147 hf _ _ _ hR hS (lv_sub hl [2, 3, 4, 5, 6, 7, 8, 0] rfl)
      · replace hf := hf.2 c30
        refine lv_aload_n hx hb dX11_types_188 rfl (lv_at hl 0 rfl) ?_
        refine lv_iconst (v := 1) hx hb dX11_types_189 (by decide) ?_
        refine hw_putI E hR hS hw cI10 hs0 63 (by decide) lfX11_454 rfl (Or.inr ⟨rfl, by decide⟩) dX11_types_190 (fun m59 H locs em59 hR hS => ?_)
        replace hf := hf m59 em59
        refine lv_iload_n hx hb dX11_types_193 rfl (lv_at hl 2 rfl) ?_
        refine lv_aload_n hx hb dX11_types_194 rfl (lv_at hl 0 rfl) ?_
        refine hw_getI E hR cI10 hs0 60 (by decide) lfX11_442 rfl dX11_types_195 ?_
        refine lv_iconst (v := 1) hx hb dX11_types_198 (by decide) ?_
        refine lv_isub hx hb dX11_types_199 ?_
        refine lv_icmp_ne (tgt := 207) hx hb dX11_types_200 (by decide) (fun c60 => ?_) (fun c60 => ?_)
        · replace hf := hf.2 c60
          refine lv_iconst (v := 0) hx hb dX11_types_207 (by decide) ?_
          exact w_X11_types_J208 _ _ _ _ _ _ _ _ _ _ _ E hw hs0 hBK147 hf _ _ _ hR hS (lv_sub hl [0, 1, 2, 3, 4, 5, 6] rfl)
        · replace hf := hf.1 c60
          refine lv_iconst (v := 1) hx hb dX11_types_203 (by decide) ?_
          refine lv_goto (tgt := 208) hx hb dX11_types_204 (by decide) ?_
          exact w_X11_types_J208 _ _ _ _ _ _ _ _ _ _ _ E hw hs0 hBK147 hf _ _ _ hR hS (lv_sub hl [0, 1, 2, 3, 4, 5, 6] rfl)
def f_X11_types_L147 (S : Ss) (a0 : Nat) (x1 : Int32) (x3 : Int32) (x4 : Int32) (x5 : Int32) (x6 : Int32) (EK147 : Mm → Prop) (K : Mm → Prop) : Nat → Int32 → Mm → Prop
  | 0, _, _ => False
  | n + 1, x7, M => f_X11_types_B147 S a0 x1 x3 x4 x5 x6 x7 M (fun (x7 : Int32) (M : Mm) => f_X11_types_L147 S a0 x1 x3 x4 x5 x6 EK147 K n x7 M) EK147 K
set_option maxHeartbeats 4000000 in
set_option maxRecDepth 100000 in
theorem w_X11_types_L147 {p : Program} {l : Launch} {e : Env} {s : State} {m : MethodId} {args : Array Value} {below : List Frame} {meth : Method} {c : Code} {g : Gg} {S : Ss} (a0 : Nat) (x1 : Int32) (x3 : Int32) (x4 : Int32) (x5 : Int32) (x6 : Int32) (EK147 : Mm → Prop) (K : Mm → Prop) (E : EN p s m args meth c cX11_types 10 none RX11 g) (hw : ad g 100000 < s.heap.size) (hs0 : S[a0]? = some (10, 0)) (hEK147 : ∀ (M' : Mm) (H : Heap) (locs : List Loc) (ls : Array Slot), EK147 M' → RP g S M' H → va_S (gA g) s.heap H locs → lv_has ls 10 [(0, .ref (ad g a0)), (1, .int x1), (3, .int x3), (4, .int x4), (5, .int x5), (6, .int x6)] → W p l e (rmD 6) s m args below meth c H locs 0 0 (MQ below (QA g S (pV K)) args s 0 0 (gA g)) (F0 m 357 ls [])) : ∀ (n : Nat) (x7 : Int32) (M : Mm), f_X11_types_L147 S a0 x1 x3 x4 x5 x6 EK147 K n x7 M → ∀ (H : Heap) (locs : List Loc) (ls : Array Slot), RP g S M H → va_S (gA g) s.heap H locs → lv_has ls 10 [(0, .ref (ad g a0)), (1, .int x1), (3, .int x3), (4, .int x4), (5, .int x5), (6, .int x6), (7, .int x7)] → W p l e (rmD 6) s m args below meth c H locs 0 0 (MQ below (QA g S (pV K)) args s 0 0 (gA g)) (F0 m 147 ls []) := by
  intro n
  induction n with
  | zero => intro x7 M hf; exact hf.elim
  | succ n ih =>
    intro x7 M hf H locs ls hR hS hl
    exact w_X11_types_B147 _ _ _ _ _ _ _ _ _ _ _ E hw hs0 (fun _ M H locs ls h hR hS hl => ih _ M h H locs ls hR hS hl) hEK147 hf H locs ls hR hS hl
def f_X11_types_B130 (S : Ss) (a0 : Nat) (x1 : Int32) (x3 : Int32) (x4 : Int32) (x5 : Int32) (x6 : Int32) (M : Mm) (BK130 : Int32 → Mm → Prop) (EK130 : Mm → Prop) (K : Mm → Prop) : Prop :=
  ((x5 ≤ x6 →
    EK130 M) ∧
   (¬ x5 ≤ x6 →
    (((M.1 a0 62) = 0 →
      ∃ n75 : Nat, f_X11_types_L147 S a0 x1 x3 x4 x5 x6 (fun (m73 : Mm) =>
        ∀ v74 : Int32, v74 = x6 + (1 : Int32) →
        BK130 v74 m73) K n75 (0 : Int32) M) ∧
     (¬ (M.1 a0 62) = 0 →
      EK130 M))))
set_option maxHeartbeats 4000000 in
set_option maxRecDepth 100000 in
theorem w_X11_types_B130 {p : Program} {l : Launch} {e : Env} {s : State} {m : MethodId} {args : Array Value} {below : List Frame} {meth : Method} {c : Code} {g : Gg} {S : Ss} (a0 : Nat) (x1 : Int32) (x3 : Int32) (x4 : Int32) (x5 : Int32) (x6 : Int32) (M : Mm) (BK130 : Int32 → Mm → Prop) (EK130 : Mm → Prop) (K : Mm → Prop) (E : EN p s m args meth c cX11_types 10 none RX11 g) (hw : ad g 100000 < s.heap.size) (hs0 : S[a0]? = some (10, 0)) (hBK130 : ∀ (x6' : Int32) (M' : Mm) (H : Heap) (locs : List Loc) (ls : Array Slot), BK130 x6' M' → RP g S M' H → va_S (gA g) s.heap H locs → lv_has ls 10 [(0, .ref (ad g a0)), (1, .int x1), (3, .int x3), (4, .int x4), (5, .int x5), (6, .int x6')] → W p l e (rmD 6) s m args below meth c H locs 0 0 (MQ below (QA g S (pV K)) args s 0 0 (gA g)) (F0 m 130 ls [])) (hEK130 : ∀ (M' : Mm) (H : Heap) (locs : List Loc) (ls : Array Slot), EK130 M' → RP g S M' H → va_S (gA g) s.heap H locs → lv_has ls 10 [(0, .ref (ad g a0)), (1, .int x1), (3, .int x3), (5, .int x5)] → W p l e (rmD 6) s m args below meth c H locs 0 0 (MQ below (QA g S (pV K)) args s 0 0 (gA g)) (F0 m 363 ls [])) (hf : f_X11_types_B130 S a0 x1 x3 x4 x5 x6 M BK130 EK130 K) (H : Heap) (locs : List Loc) (ls : Array Slot) (hR : RP g S M H) (hS : va_S (gA g) s.heap H locs) (hl : lv_has ls 10 [(0, .ref (ad g a0)), (1, .int x1), (3, .int x3), (4, .int x4), (5, .int x5), (6, .int x6)]) : W p l e (rmD 6) s m args below meth c H locs 0 0 (MQ below (QA g S (pV K)) args s 0 0 (gA g)) (F0 m 130 ls []) := by
  have hx := E.1
  have hb := E.2.1
  unfold f_X11_types_B130 at hf
  refine lv_iload hx hb dX11_types_130 (lv_at hl 5 rfl) ?_
  refine lv_iload hx hb dX11_types_132 (lv_at hl 4 rfl) ?_
  refine lv_icmp_ge (tgt := 363) hx hb dX11_types_134 (by decide) (fun c23 => ?_) (fun c23 => ?_)
  · replace hf := hf.1 c23
    exact hEK130  _ _ _ _ hf hR hS (lv_sub hl [0, 1, 2, 4] rfl)
  · replace hf := hf.2 c23
    refine lv_aload_n hx hb dX11_types_137 rfl (lv_at hl 0 rfl) ?_
    refine hw_getI E hR cI10 hs0 62 (by decide) lfX11_451 rfl dX11_types_138 ?_
    refine lv_if_ne (tgt := 363) hx hb dX11_types_141 (by decide) (fun c24 => ?_) (fun c24 => ?_)
    · replace hf := hf.2 c24
      exact hEK130  _ _ _ _ hf hR hS (lv_sub hl [0, 1, 2, 4] rfl)
    · replace hf := hf.1 c24
      refine lv_iconst (v := 0) hx hb dX11_types_144 (by decide) ?_
      refine lv_istore (lv' := [(7, .int (0 : Int32)), (0, .ref (ad g a0)), (1, .int x1), (3, .int x3), (4, .int x4), (5, .int x5), (6, .int x6)]) hx hb dX11_types_145 hl (by decide) rfl (fun ls hl => ?_)
      obtain ⟨n75, hf⟩ := hf
      refine w_X11_types_L147 _ _ _ _ _ _ _ _ E hw hs0 ?_ n75 _ _ hf _ _ _ hR hS (lv_sub hl [1, 2, 3, 4, 5, 6, 0] rfl)
      intro m73 H locs ls hf hR hS hl
      obtain ⟨v74, ev74⟩ : ∃ y : Int32, y = x6 + (1 : Int32) := ⟨_, rfl⟩
      replace hf := hf v74 ev74
      refine lv_iinc (v := v74) (lv' := [(6, .int v74), (0, .ref (ad g a0)), (1, .int x1), (3, .int x3), (4, .int x4), (5, .int x5)]) hx hb dX11_types_357 hl (k := 5) rfl (by rw [ev74]; rfl) (by decide) rfl (fun ls hl => ?_)
      refine lv_goto (tgt := 130) hx hb dX11_types_360 (by decide) ?_
      exact hBK130 _ _ _ _ _ hf hR hS (lv_sub hl [1, 2, 3, 4, 5, 0] rfl)
def f_X11_types_L130 (S : Ss) (a0 : Nat) (x1 : Int32) (x3 : Int32) (x4 : Int32) (x5 : Int32) (EK130 : Mm → Prop) (K : Mm → Prop) : Nat → Int32 → Mm → Prop
  | 0, _, _ => False
  | n + 1, x6, M => f_X11_types_B130 S a0 x1 x3 x4 x5 x6 M (fun (x6 : Int32) (M : Mm) => f_X11_types_L130 S a0 x1 x3 x4 x5 EK130 K n x6 M) EK130 K
set_option maxHeartbeats 4000000 in
set_option maxRecDepth 100000 in
theorem w_X11_types_L130 {p : Program} {l : Launch} {e : Env} {s : State} {m : MethodId} {args : Array Value} {below : List Frame} {meth : Method} {c : Code} {g : Gg} {S : Ss} (a0 : Nat) (x1 : Int32) (x3 : Int32) (x4 : Int32) (x5 : Int32) (EK130 : Mm → Prop) (K : Mm → Prop) (E : EN p s m args meth c cX11_types 10 none RX11 g) (hw : ad g 100000 < s.heap.size) (hs0 : S[a0]? = some (10, 0)) (hEK130 : ∀ (M' : Mm) (H : Heap) (locs : List Loc) (ls : Array Slot), EK130 M' → RP g S M' H → va_S (gA g) s.heap H locs → lv_has ls 10 [(0, .ref (ad g a0)), (1, .int x1), (3, .int x3), (5, .int x5)] → W p l e (rmD 6) s m args below meth c H locs 0 0 (MQ below (QA g S (pV K)) args s 0 0 (gA g)) (F0 m 363 ls [])) : ∀ (n : Nat) (x6 : Int32) (M : Mm), f_X11_types_L130 S a0 x1 x3 x4 x5 EK130 K n x6 M → ∀ (H : Heap) (locs : List Loc) (ls : Array Slot), RP g S M H → va_S (gA g) s.heap H locs → lv_has ls 10 [(0, .ref (ad g a0)), (1, .int x1), (3, .int x3), (4, .int x4), (5, .int x5), (6, .int x6)] → W p l e (rmD 6) s m args below meth c H locs 0 0 (MQ below (QA g S (pV K)) args s 0 0 (gA g)) (F0 m 130 ls []) := by
  intro n
  induction n with
  | zero => intro x6 M hf; exact hf.elim
  | succ n ih =>
    intro x6 M hf H locs ls hR hS hl
    exact w_X11_types_B130 _ _ _ _ _ _ _ _ _ _ E hw hs0 (fun _ M H locs ls h hR hS hl => ih _ M h H locs ls hR hS hl) hEK130 hf H locs ls hR hS hl
def f_X11_types_J84 (S : Ss) (a0 : Nat) (x1 : Int32) (x2 : Int32) (x3 : Int32) (M : Mm) (BK48 : Int32 → Int32 → Mm → Prop) (K : Mm → Prop) : Prop :=
  ∀ v16 : Int32, v16 = (M.1 a0 44) →
  ∃ n79 : Nat, f_X11_types_L105 S a0 x1 x2 x3 (0 : Int32) v16 (fun (m22 : Mm) =>
    ∃ n78 : Nat, f_X11_types_L130 S a0 x1 x3 (0 : Int32) v16 (fun (m76 : Mm) =>
      ∀ v77 : Int32, v77 = x3 + (1 : Int32) →
      BK48 v16 v77 m76) K n78 x2 m22) K n79 (0 : Int32) M
set_option maxHeartbeats 4000000 in
set_option maxRecDepth 100000 in
theorem w_X11_types_J84 {p : Program} {l : Launch} {e : Env} {s : State} {m : MethodId} {args : Array Value} {below : List Frame} {meth : Method} {c : Code} {g : Gg} {S : Ss} (a0 : Nat) (x1 : Int32) (x2 : Int32) (x3 : Int32) (M : Mm) (BK48 : Int32 → Int32 → Mm → Prop) (K : Mm → Prop) (E : EN p s m args meth c cX11_types 10 none RX11 g) (hw : ad g 100000 < s.heap.size) (hs0 : S[a0]? = some (10, 0)) (hBK48 : ∀ (x2' : Int32) (x3' : Int32) (M' : Mm) (H : Heap) (locs : List Loc) (ls : Array Slot), BK48 x2' x3' M' → RP g S M' H → va_S (gA g) s.heap H locs → lv_has ls 10 [(0, .ref (ad g a0)), (1, .int x1), (2, .int x2'), (3, .int x3')] → W p l e (rmD 6) s m args below meth c H locs 0 0 (MQ below (QA g S (pV K)) args s 0 0 (gA g)) (F0 m 48 ls [])) (hf : f_X11_types_J84 S a0 x1 x2 x3 M BK48 K) (H : Heap) (locs : List Loc) (ls : Array Slot) (hR : RP g S M H) (hS : va_S (gA g) s.heap H locs) (hl : lv_has ls 10 [(0, .ref (ad g a0)), (1, .int x1), (2, .int x2), (3, .int x3)]) : W p l e (rmD 6) s m args below meth c H locs 0 0 (MQ below (QA g S (pV K)) args s 0 0 (gA g)) (F0 m 84 ls []) := by
  have hx := E.1
  have hb := E.2.1
  unfold f_X11_types_J84 at hf
  refine lv_iconst (v := 0) hx hb dX11_types_84 (by decide) ?_
  refine lv_goto (tgt := 94) hx hb dX11_types_85 (by decide) ?_
  refine lv_istore (lv' := [(4, .int (0 : Int32)), (0, .ref (ad g a0)), (1, .int x1), (2, .int x2), (3, .int x3)]) hx hb dX11_types_94 hl (by decide) rfl (fun ls hl => ?_)
  refine lv_aload_n hx hb dX11_types_96 rfl (lv_at hl 1 rfl) ?_
  refine hw_getI E hR cI10 hs0 44 (by decide) lfX11_296 rfl dX11_types_97 ?_
  refine lv_topi (fun v16 ev16 => ?_)
  replace hf := hf v16 ev16
  refine lv_istore (lv' := [(5, .int v16), (4, .int (0 : Int32)), (0, .ref (ad g a0)), (1, .int x1), (2, .int x2), (3, .int x3)]) hx hb dX11_types_100 hl (by decide) rfl (fun ls hl => ?_)
  refine lv_iconst (v := 0) hx hb dX11_types_102 (by decide) ?_
  refine lv_istore (lv' := [(6, .int (0 : Int32)), (5, .int v16), (4, .int (0 : Int32)), (0, .ref (ad g a0)), (1, .int x1), (2, .int x2), (3, .int x3)]) hx hb dX11_types_103 hl (by decide) rfl (fun ls hl => ?_)
  obtain ⟨n79, hf⟩ := hf
  refine w_X11_types_L105 _ _ _ _ _ _ _ _ E hw hs0 ?_ n79 _ _ hf _ _ _ hR hS (lv_sub hl [3, 4, 5, 6, 2, 1, 0] rfl)
  intro m22 H locs ls hf hR hS hl
  refine lv_iload_n hx hb dX11_types_127 rfl (lv_at hl 2 rfl) ?_
  refine lv_istore (lv' := [(6, .int x2), (0, .ref (ad g a0)), (1, .int x1), (2, .int x2), (3, .int x3), (4, .int (0 : Int32)), (5, .int v16)]) hx hb dX11_types_128 hl (by decide) rfl (fun ls hl => ?_)
  obtain ⟨n78, hf⟩ := hf
  refine w_X11_types_L130 _ _ _ _ _ _ _ E hw hs0 ?_ n78 _ _ hf _ _ _ hR hS (lv_sub hl [1, 2, 4, 5, 6, 0] rfl)
  intro m76 H locs ls hf hR hS hl
  refine lv_iload hx hb dX11_types_363 (lv_at hl 3 rfl) ?_
  refine lv_istore_n (lv' := [(2, .int v16), (0, .ref (ad g a0)), (1, .int x1), (3, .int x3), (5, .int v16)]) hx hb dX11_types_365 rfl hl (by decide) rfl (fun ls hl => ?_)
  obtain ⟨v77, ev77⟩ : ∃ y : Int32, y = x3 + (1 : Int32) := ⟨_, rfl⟩
  replace hf := hf v77 ev77
  refine lv_iinc (v := v77) (lv' := [(3, .int v77), (2, .int v16), (0, .ref (ad g a0)), (1, .int x1), (5, .int v16)]) hx hb dX11_types_366 hl (k := 3) rfl (by rw [ev77]; rfl) (by decide) rfl (fun ls hl => ?_)
  refine lv_goto (tgt := 48) hx hb dX11_types_369 (by decide) ?_
  exact hBK48 _ _ _ _ _ _ hf hR hS (lv_sub hl [2, 3, 1, 0] rfl)
def f_X11_types_B48 (S : Ss) (a0 : Nat) (x1 : Int32) (x2 : Int32) (x3 : Int32) (M : Mm) (BK48 : Int32 → Int32 → Mm → Prop) (EK48 : Mm → Prop) (K : Mm → Prop) : Prop :=
  (((M.1 a0 60) ≤ x3 →
    EK48 M) ∧
   (¬ (M.1 a0 60) ≤ x3 →
    (((M.1 a0 62) = 0 →
      f_X11_has S  x1 x3 M (fun (r14 : Int32) (m13 : Mm) =>
        ((r14 = 0 →
        ∃ b80 : Nat, m13.2.2 a0 61 = some b80 ∧
        ∃ n81 : Nat, shp S b80 = some (50, n81) ∧ vp_in x3 n81 ∧
        (((m13.1 b80 x3.toNatClampNeg) ≤ (m13.1 a0 27) →
          ∃ b83 : Nat, m13.2.2 a0 61 = some b83 ∧
          ∃ n84 : Nat, shp S b83 = some (50, n84) ∧ vp_in x3 n84 ∧
          ∀ v85 : Int32, v85 = (m13.1 b83 x3.toNatClampNeg) →
          ∀ v86 : Int32, v86 = (m13.1 a0 44) →
          ∃ n91 : Nat, f_X11_types_L105 S a0 x1 x2 x3 v85 v86 (fun (m87 : Mm) =>
            ∃ n90 : Nat, f_X11_types_L130 S a0 x1 x3 v85 v86 (fun (m88 : Mm) =>
              ∀ v89 : Int32, v89 = x3 + (1 : Int32) →
              BK48 v86 v89 m88) K n90 x2 m87) K n91 (0 : Int32) m13) ∧
         (¬ (m13.1 b80 x3.toNatClampNeg) ≤ (m13.1 a0 27) →
          f_X11_types_J84 S a0 x1 x2 x3 m13 BK48 K))) ∧
       (¬ r14 = 0 →
        f_X11_types_J84 S a0 x1 x2 x3 m13 BK48 K)))) ∧
     (¬ (M.1 a0 62) = 0 →
      EK48 M))))
set_option maxHeartbeats 4000000 in
set_option maxRecDepth 100000 in
theorem w_X11_types_B48 {p : Program} {l : Launch} {e : Env} {s : State} {m : MethodId} {args : Array Value} {below : List Frame} {meth : Method} {c : Code} {g : Gg} {S : Ss} (a0 : Nat) (x1 : Int32) (x2 : Int32) (x3 : Int32) (M : Mm) (BK48 : Int32 → Int32 → Mm → Prop) (EK48 : Mm → Prop) (K : Mm → Prop) (E : EN p s m args meth c cX11_types 10 none RX11 g) (hw : ad g 100000 < s.heap.size) (hs0 : S[a0]? = some (10, 0)) (hBK48 : ∀ (x2' : Int32) (x3' : Int32) (M' : Mm) (H : Heap) (locs : List Loc) (ls : Array Slot), BK48 x2' x3' M' → RP g S M' H → va_S (gA g) s.heap H locs → lv_has ls 10 [(0, .ref (ad g a0)), (1, .int x1), (2, .int x2'), (3, .int x3')] → W p l e (rmD 6) s m args below meth c H locs 0 0 (MQ below (QA g S (pV K)) args s 0 0 (gA g)) (F0 m 48 ls [])) (hEK48 : ∀ (M' : Mm) (H : Heap) (locs : List Loc) (ls : Array Slot), EK48 M' → RP g S M' H → va_S (gA g) s.heap H locs → lv_has ls 10 [] → W p l e (rmD 6) s m args below meth c H locs 0 0 (MQ below (QA g S (pV K)) args s 0 0 (gA g)) (F0 m 372 ls [])) (hf : f_X11_types_B48 S a0 x1 x2 x3 M BK48 EK48 K) (H : Heap) (locs : List Loc) (ls : Array Slot) (hR : RP g S M H) (hS : va_S (gA g) s.heap H locs) (hl : lv_has ls 10 [(0, .ref (ad g a0)), (1, .int x1), (2, .int x2), (3, .int x3)]) : W p l e (rmD 6) s m args below meth c H locs 0 0 (MQ below (QA g S (pV K)) args s 0 0 (gA g)) (F0 m 48 ls []) := by
  have hx := E.1
  have hb := E.2.1
  unfold f_X11_types_B48 at hf
  refine lv_iload_n hx hb dX11_types_48 rfl (lv_at hl 3 rfl) ?_
  refine lv_aload_n hx hb dX11_types_49 rfl (lv_at hl 0 rfl) ?_
  refine hw_getI E hR cI10 hs0 60 (by decide) lfX11_442 rfl dX11_types_50 ?_
  refine lv_icmp_ge (tgt := 372) hx hb dX11_types_53 (by decide) (fun c11 => ?_) (fun c11 => ?_)
  · replace hf := hf.1 c11
    exact hEK48  _ _ _ _ hf hR hS (lv_sub hl [] rfl)
  · replace hf := hf.2 c11
    refine lv_aload_n hx hb dX11_types_56 rfl (lv_at hl 0 rfl) ?_
    refine hw_getI E hR cI10 hs0 62 (by decide) lfX11_451 rfl dX11_types_57 ?_
    refine lv_if_ne (tgt := 372) hx hb dX11_types_60 (by decide) (fun c12 => ?_) (fun c12 => ?_)
    · replace hf := hf.2 c12
      exact hEK48  _ _ _ _ hf hR hS (lv_sub hl [] rfl)
    · replace hf := hf.1 c12
      refine lv_iload_n hx hb dX11_types_63 rfl (lv_at hl 1 rfl) ?_
      refine lv_iload_n hx hb dX11_types_64 rfl (lv_at hl 3 rfl) ?_
      refine hw_callS (d := 6) E hR hS (As := [.int x1, .int x3]) (rest := []) mcX11_has msX11_has lmX11_204 (ok_X11_has  hf) rfl rfl (by decide) hl.1 (Nat.le_of_ble_eq_true rfl) dX11_types_65 (fun rr m13 H locs hp hR hS => ?_)
      obtain ⟨r14, rfl, hf⟩ := hp
      refine W.eq (g2 := F0 m 68 ls [.int r14]) rfl ?_
      refine lv_if_ne (tgt := 84) hx hb dX11_types_68 (by decide) (fun c15 => ?_) (fun c15 => ?_)
      · replace hf := hf.2 c15
        exact w_X11_types_J84 _ _ _ _ _ _ _ E hw hs0 hBK48 hf _ _ _ hR hS (lv_sub hl [0, 1, 2, 3] rfl)
      · replace hf := hf.1 c15
        refine lv_aload_n hx hb dX11_types_71 rfl (lv_at hl 0 rfl) ?_
        obtain ⟨b80, hb80, hf⟩ := hf
        refine hw_getR E hR cI10 hs0 61 (by decide) lfX11_445 rfl hb80 dX11_types_72 ?_
        refine lv_iload_n hx hb dX11_types_75 rfl (lv_at hl 3 rfl) ?_
        obtain ⟨n81, hn81, in81, hf⟩ := hf
        refine hw_iald E hR hS hn81 in81 dX11_types_76 ?_
        refine lv_aload_n hx hb dX11_types_77 rfl (lv_at hl 0 rfl) ?_
        refine hw_getI E hR cI10 hs0 27 (by decide) lfX11_239 rfl dX11_types_78 ?_
        refine lv_icmp_le (tgt := 88) hx hb dX11_types_81 (by decide) (fun c82 => ?_) (fun c82 => ?_)
        · replace hf := hf.1 c82
          refine lv_aload_n hx hb dX11_types_88 rfl (lv_at hl 0 rfl) ?_
          obtain ⟨b83, hb83, hf⟩ := hf
          refine hw_getR E hR cI10 hs0 61 (by decide) lfX11_445 rfl hb83 dX11_types_89 ?_
          refine lv_iload_n hx hb dX11_types_92 rfl (lv_at hl 3 rfl) ?_
          obtain ⟨n84, hn84, in84, hf⟩ := hf
          refine hw_iald E hR hS hn84 in84 dX11_types_93 ?_
          refine lv_topi (fun v85 ev85 => ?_)
          replace hf := hf v85 ev85
          refine lv_istore (lv' := [(4, .int v85), (0, .ref (ad g a0)), (1, .int x1), (2, .int x2), (3, .int x3)]) hx hb dX11_types_94 hl (by decide) rfl (fun ls hl => ?_)
          refine lv_aload_n hx hb dX11_types_96 rfl (lv_at hl 1 rfl) ?_
          refine hw_getI E hR cI10 hs0 44 (by decide) lfX11_296 rfl dX11_types_97 ?_
          refine lv_topi (fun v86 ev86 => ?_)
          replace hf := hf v86 ev86
          refine lv_istore (lv' := [(5, .int v86), (4, .int v85), (0, .ref (ad g a0)), (1, .int x1), (2, .int x2), (3, .int x3)]) hx hb dX11_types_100 hl (by decide) rfl (fun ls hl => ?_)
          refine lv_iconst (v := 0) hx hb dX11_types_102 (by decide) ?_
          refine lv_istore (lv' := [(6, .int (0 : Int32)), (5, .int v86), (4, .int v85), (0, .ref (ad g a0)), (1, .int x1), (2, .int x2), (3, .int x3)]) hx hb dX11_types_103 hl (by decide) rfl (fun ls hl => ?_)
          obtain ⟨n91, hf⟩ := hf
          refine w_X11_types_L105 _ _ _ _ _ _ _ _ E hw hs0 ?_ n91 _ _ hf _ _ _ hR hS (lv_sub hl [3, 4, 5, 6, 2, 1, 0] rfl)
          intro m87 H locs ls hf hR hS hl
          refine lv_iload_n hx hb dX11_types_127 rfl (lv_at hl 2 rfl) ?_
          refine lv_istore (lv' := [(6, .int x2), (0, .ref (ad g a0)), (1, .int x1), (2, .int x2), (3, .int x3), (4, .int v85), (5, .int v86)]) hx hb dX11_types_128 hl (by decide) rfl (fun ls hl => ?_)
          obtain ⟨n90, hf⟩ := hf
          refine w_X11_types_L130 _ _ _ _ _ _ _ E hw hs0 ?_ n90 _ _ hf _ _ _ hR hS (lv_sub hl [1, 2, 4, 5, 6, 0] rfl)
          intro m88 H locs ls hf hR hS hl
          refine lv_iload hx hb dX11_types_363 (lv_at hl 3 rfl) ?_
          refine lv_istore_n (lv' := [(2, .int v86), (0, .ref (ad g a0)), (1, .int x1), (3, .int x3), (5, .int v86)]) hx hb dX11_types_365 rfl hl (by decide) rfl (fun ls hl => ?_)
          obtain ⟨v89, ev89⟩ : ∃ y : Int32, y = x3 + (1 : Int32) := ⟨_, rfl⟩
          replace hf := hf v89 ev89
          refine lv_iinc (v := v89) (lv' := [(3, .int v89), (2, .int v86), (0, .ref (ad g a0)), (1, .int x1), (5, .int v86)]) hx hb dX11_types_366 hl (k := 3) rfl (by rw [ev89]; rfl) (by decide) rfl (fun ls hl => ?_)
          refine lv_goto (tgt := 48) hx hb dX11_types_369 (by decide) ?_
          exact hBK48 _ _ _ _ _ _ hf hR hS (lv_sub hl [2, 3, 1, 0] rfl)
        · replace hf := hf.2 c82
          exact w_X11_types_J84 _ _ _ _ _ _ _ E hw hs0 hBK48 hf _ _ _ hR hS (lv_sub hl [0, 1, 2, 3] rfl)
def f_X11_types_L48 (S : Ss) (a0 : Nat) (x1 : Int32) (EK48 : Mm → Prop) (K : Mm → Prop) : Nat → Int32 → Int32 → Mm → Prop
  | 0, _, _, _ => False
  | n + 1, x2, x3, M => f_X11_types_B48 S a0 x1 x2 x3 M (fun (x2 : Int32) (x3 : Int32) (M : Mm) => f_X11_types_L48 S a0 x1 EK48 K n x2 x3 M) EK48 K
set_option maxHeartbeats 4000000 in
set_option maxRecDepth 100000 in
theorem w_X11_types_L48 {p : Program} {l : Launch} {e : Env} {s : State} {m : MethodId} {args : Array Value} {below : List Frame} {meth : Method} {c : Code} {g : Gg} {S : Ss} (a0 : Nat) (x1 : Int32) (EK48 : Mm → Prop) (K : Mm → Prop) (E : EN p s m args meth c cX11_types 10 none RX11 g) (hw : ad g 100000 < s.heap.size) (hs0 : S[a0]? = some (10, 0)) (hEK48 : ∀ (M' : Mm) (H : Heap) (locs : List Loc) (ls : Array Slot), EK48 M' → RP g S M' H → va_S (gA g) s.heap H locs → lv_has ls 10 [] → W p l e (rmD 6) s m args below meth c H locs 0 0 (MQ below (QA g S (pV K)) args s 0 0 (gA g)) (F0 m 372 ls [])) : ∀ (n : Nat) (x2 : Int32) (x3 : Int32) (M : Mm), f_X11_types_L48 S a0 x1 EK48 K n x2 x3 M → ∀ (H : Heap) (locs : List Loc) (ls : Array Slot), RP g S M H → va_S (gA g) s.heap H locs → lv_has ls 10 [(0, .ref (ad g a0)), (1, .int x1), (2, .int x2), (3, .int x3)] → W p l e (rmD 6) s m args below meth c H locs 0 0 (MQ below (QA g S (pV K)) args s 0 0 (gA g)) (F0 m 48 ls []) := by
  intro n
  induction n with
  | zero => intro x2 x3 M hf; exact hf.elim
  | succ n ih =>
    intro x2 x3 M hf H locs ls hR hS hl
    exact w_X11_types_B48 _ _ _ _ _ _ _ _ E hw hs0 (fun _ _ M H locs ls h hR hS hl => ih _ _ M h H locs ls hR hS hl) hEK48 hf H locs ls hR hS hl
def f_X11_types (S : Ss) (a0 : Nat) (x1 : Int32) (M : Mm) (K : Mm → Prop) : Prop :=
  f_X11_empties S a0  M (fun (m1 : Mm) =>
    f_X11_placeOf S a0 (m1.2.1 a0 45) (m1.2.1 a0 46) m1 (fun (r3 : Int32) (m2 : Mm) =>
    ∃ b4 : Nat, m2.2.2 a0 67 = some b4 ∧
  ∃ n5 : Nat, S[b4]? = some (53, n5) ∧ vp_in (0 : Int32) n5 ∧
  ∀ m6 : Mm, m6 = stJ m2 b4 (0 : Int32).toNatClampNeg (1 : Int64) →
  ∀ m7 : Mm, m7 = stI m6 a0 62 (0 : Int32) →
  ∀ m8 : Mm, m8 = stI m7 a0 63 (0 : Int32) →
  ∀ m9 : Mm, m9 = stJ m8 a0 64 (0 : Int64) →
  ∀ m10 : Mm, m10 = stI m9 a0 65 (-1 : Int32) →
  ∃ n93 : Nat, f_X11_types_L48 S a0 x1 (fun (m92 : Mm) =>
    K m92) K n93 (0 : Int32) (0 : Int32) m10))
set_option maxHeartbeats 4000000 in
set_option maxRecDepth 100000 in
theorem ok_X11_types {l : Launch} {g : Gg} {S : Ss} {a0 : Nat} {x1 : Int32} {M : Mm} {K : Mm → Prop} (hs0 : S[a0]? = some (10, 0)) (hf : f_X11_types S a0 x1 M K) : MT l g S yX11_types cX11_types 10 none 6 [.ref (ad g a0), .int x1] M (pV K) := by
  refine MT.of (by decide +kernel) (Nat.le_of_ble_eq_true rfl) ?_
  intro p e s m below meth c ls E hw hR hS hl
  have hl : lv_has ls 10 [(0, .ref (ad g a0)), (1, .int x1)] := hl
  generalize ([.ref (ad g a0), .int x1] : List Value).toArray = args at E ⊢
  have E : EN p s m args meth c cX11_types 10 none RX11 g := E
  have hx := E.1
  have hb := E.2.1
  unfold f_X11_types at hf
  refine lv_aload_n hx hb dX11_types_0 rfl (lv_at hl 0 rfl) ?_
  refine hw_callV (d := 6) E hR hS (As := []) (rest := []) cI10 hs0 rfl mcX11_empties miX11_empties lmX11_324 (ok_X11_empties hs0 hf) rfl rfl (by decide) hl.1 (Nat.le_of_ble_eq_true rfl) dX11_types_1 (fun rr m1 H locs hp hR hS => ?_)
  obtain ⟨rfl, hf⟩ := hp
  refine W.eq (g2 := F0 m 4 ls []) rfl ?_
  refine lv_aload_n hx hb dX11_types_4 rfl (lv_at hl 0 rfl) ?_
  refine lv_aload_n hx hb dX11_types_5 rfl (lv_at hl 0 rfl) ?_
  refine hw_getJ E hR cI10 hs0 45 (by decide) lfX11_270 rfl dX11_types_6 ?_
  refine lv_aload_n hx hb dX11_types_9 rfl (lv_at hl 0 rfl) ?_
  refine hw_getJ E hR cI10 hs0 46 (by decide) lfX11_277 rfl dX11_types_10 ?_
  refine hw_callV (d := 6) E hR hS (As := [.long (m1.2.1 a0 45), .long (m1.2.1 a0 46)]) (rest := []) cI10 hs0 rfl mcX11_placeOf miX11_placeOf lmX11_321 (ok_X11_placeOf hs0 hf) rfl rfl (by decide) hl.1 (Nat.le_of_ble_eq_true rfl) dX11_types_13 (fun rr m2 H locs hp hR hS => ?_)
  obtain ⟨r3, rfl, hf⟩ := hp
  refine W.eq (g2 := F0 m 16 ls [.int r3]) rfl ?_
  refine lv_pop hx hb dX11_types_16 rfl ?_
  refine lv_aload_n hx hb dX11_types_17 rfl (lv_at hl 0 rfl) ?_
  obtain ⟨b4, hb4, hf⟩ := hf
  refine hw_getR E hR cI10 hs0 67 (by decide) lfX11_448 rfl hb4 dX11_types_18 ?_
  refine lv_iconst (v := 0) hx hb dX11_types_21 (by decide) ?_
  refine lv_lconst (v := 1) hx hb dX11_types_22 (by decide) ?_
  obtain ⟨n5, hn5, in5, hf⟩ := hf
  refine hw_last E hR hS hw hn5 in5 dX11_types_23 (fun m6 H locs em6 hR hS => ?_)
  replace hf := hf m6 em6
  refine lv_aload_n hx hb dX11_types_24 rfl (lv_at hl 0 rfl) ?_
  refine lv_iconst (v := 0) hx hb dX11_types_25 (by decide) ?_
  refine hw_putI E hR hS hw cI10 hs0 62 (by decide) lfX11_451 rfl (Or.inr ⟨rfl, by decide⟩) dX11_types_26 (fun m7 H locs em7 hR hS => ?_)
  replace hf := hf m7 em7
  refine lv_aload_n hx hb dX11_types_29 rfl (lv_at hl 0 rfl) ?_
  refine lv_iconst (v := 0) hx hb dX11_types_30 (by decide) ?_
  refine hw_putI E hR hS hw cI10 hs0 63 (by decide) lfX11_454 rfl (Or.inr ⟨rfl, by decide⟩) dX11_types_31 (fun m8 H locs em8 hR hS => ?_)
  replace hf := hf m8 em8
  refine lv_aload_n hx hb dX11_types_34 rfl (lv_at hl 0 rfl) ?_
  refine lv_lconst (v := 0) hx hb dX11_types_35 (by decide) ?_
  refine hw_putJ E hR hS hw cI10 hs0 64 (by decide) lfX11_457 rfl rfl dX11_types_36 (fun m9 H locs em9 hR hS => ?_)
  replace hf := hf m9 em9
  refine lv_aload_n hx hb dX11_types_39 rfl (lv_at hl 0 rfl) ?_
  refine lv_iconst (v := -1) hx hb dX11_types_40 (by decide) ?_
  refine hw_putI E hR hS hw cI10 hs0 65 (by decide) lfX11_460 rfl (Or.inl rfl) dX11_types_41 (fun m10 H locs em10 hR hS => ?_)
  replace hf := hf m10 em10
  refine lv_iconst (v := 0) hx hb dX11_types_44 (by decide) ?_
  refine lv_istore_n (lv' := [(2, .int (0 : Int32)), (0, .ref (ad g a0)), (1, .int x1)]) hx hb dX11_types_45 rfl hl (by decide) rfl (fun ls hl => ?_)
  refine lv_iconst (v := 0) hx hb dX11_types_46 (by decide) ?_
  refine lv_istore_n (lv' := [(3, .int (0 : Int32)), (2, .int (0 : Int32)), (0, .ref (ad g a0)), (1, .int x1)]) hx hb dX11_types_47 rfl hl (by decide) rfl (fun ls hl => ?_)
  obtain ⟨n93, hf⟩ := hf
  refine w_X11_types_L48 _ _ _ _ E hw hs0 ?_ n93 _ _ _ hf _ _ _ hR hS (lv_sub hl [2, 3, 1, 0] rfl)
  intro m92 H locs ls hf hR hS hl
  exact hw_vret E hR hS ⟨rfl, hf⟩ dX11_types_372
def f_X11_fits_B65 (S : Ss) (a0 : Nat) (x1 : Int32) (x2 : Int32) (M : Mm) (BK65 : Int32 → Int32 → Mm → Prop) (EK65 : Mm → Prop) (K : Int32 → Mm → Prop) : Prop :=
  ((x2 < 0 →
    EK65 M) ∧
   (¬ x2 < 0 →
    ∃ b12 : Nat, M.2.2 a0 2 = some b12 ∧
    ∃ b13 : Nat, M.2.2 a0 41 = some b13 ∧
    ∃ n14 : Nat, shp S b13 = some (50, n14) ∧ vp_in x1 n14 ∧
    ∃ n15 : Nat, S[b12]? = some (53, n15) ∧ vp_in x2 n15 ∧
    ∀ m16 : Mm, m16 = stJ M b12 x2.toNatClampNeg (M.1 b13 x1.toNatClampNeg).toInt64 →
    ∃ b17 : Nat, m16.2.2 a0 40 = some b17 ∧
    ∃ n18 : Nat, shp S b17 = some (50, n18) ∧ vp_in x1 n18 ∧
    ∀ v19 : Int32, v19 = (m16.1 b17 x1.toNatClampNeg) →
    ∀ v20 : Int32, v20 = x2 + (-1 : Int32) →
    BK65 v19 v20 m16))
set_option maxHeartbeats 4000000 in
set_option maxRecDepth 100000 in
theorem w_X11_fits_B65 {p : Program} {l : Launch} {e : Env} {s : State} {m : MethodId} {args : Array Value} {below : List Frame} {meth : Method} {c : Code} {g : Gg} {S : Ss} (a0 : Nat) (x1 : Int32) (x2 : Int32) (M : Mm) (BK65 : Int32 → Int32 → Mm → Prop) (EK65 : Mm → Prop) (K : Int32 → Mm → Prop) (E : EN p s m args meth c cX11_fits 3 (some .int) RX11 g) (hw : ad g 100000 < s.heap.size) (hs0 : S[a0]? = some (10, 0)) (hBK65 : ∀ (x1' : Int32) (x2' : Int32) (M' : Mm) (H : Heap) (locs : List Loc) (ls : Array Slot), BK65 x1' x2' M' → RP g S M' H → va_S (gA g) s.heap H locs → lv_has ls 3 [(0, .ref (ad g a0)), (1, .int x1'), (2, .int x2')] → W p l e (rmD 7) s m args below meth c H locs 0 0 (MQ below (QA g S (pI K)) args s 0 0 (gA g)) (F0 m 65 ls [])) (hEK65 : ∀ (M' : Mm) (H : Heap) (locs : List Loc) (ls : Array Slot), EK65 M' → RP g S M' H → va_S (gA g) s.heap H locs → lv_has ls 3 [(0, .ref (ad g a0))] → W p l e (rmD 7) s m args below meth c H locs 0 0 (MQ below (QA g S (pI K)) args s 0 0 (gA g)) (F0 m 95 ls [])) (hf : f_X11_fits_B65 S a0 x1 x2 M BK65 EK65 K) (H : Heap) (locs : List Loc) (ls : Array Slot) (hR : RP g S M H) (hS : va_S (gA g) s.heap H locs) (hl : lv_has ls 3 [(0, .ref (ad g a0)), (1, .int x1), (2, .int x2)]) : W p l e (rmD 7) s m args below meth c H locs 0 0 (MQ below (QA g S (pI K)) args s 0 0 (gA g)) (F0 m 65 ls []) := by
  have hx := E.1
  have hb := E.2.1
  unfold f_X11_fits_B65 at hf
  refine lv_iload_n hx hb dX11_fits_65 rfl (lv_at hl 2 rfl) ?_
  refine lv_if_lt (tgt := 95) hx hb dX11_fits_66 (by decide) (fun c11 => ?_) (fun c11 => ?_)
  · replace hf := hf.1 c11
    exact hEK65  _ _ _ _ hf hR hS (lv_sub hl [0] rfl)
  · replace hf := hf.2 c11
    refine lv_aload_n hx hb dX11_fits_69 rfl (lv_at hl 0 rfl) ?_
    obtain ⟨b12, hb12, hf⟩ := hf
    refine hw_getR E hR cI10 hs0 2 (by decide) lfX11_7 rfl hb12 dX11_fits_70 ?_
    refine lv_iload_n hx hb dX11_fits_73 rfl (lv_at hl 2 rfl) ?_
    refine lv_aload_n hx hb dX11_fits_74 rfl (lv_at hl 0 rfl) ?_
    obtain ⟨b13, hb13, hf⟩ := hf
    refine hw_getR E hR cI10 hs0 41 (by decide) lfX11_336 rfl hb13 dX11_fits_75 ?_
    refine lv_iload_n hx hb dX11_fits_78 rfl (lv_at hl 1 rfl) ?_
    obtain ⟨n14, hn14, in14, hf⟩ := hf
    refine hw_iald E hR hS hn14 in14 dX11_fits_79 ?_
    refine lv_i2l hx hb dX11_fits_80 rfl ?_
    obtain ⟨n15, hn15, in15, hf⟩ := hf
    refine hw_last E hR hS hw hn15 in15 dX11_fits_81 (fun m16 H locs em16 hR hS => ?_)
    replace hf := hf m16 em16
    refine lv_aload_n hx hb dX11_fits_82 rfl (lv_at hl 0 rfl) ?_
    obtain ⟨b17, hb17, hf⟩ := hf
    refine hw_getR E hR cI10 hs0 40 (by decide) lfX11_330 rfl hb17 dX11_fits_83 ?_
    refine lv_iload_n hx hb dX11_fits_86 rfl (lv_at hl 1 rfl) ?_
    obtain ⟨n18, hn18, in18, hf⟩ := hf
    refine hw_iald E hR hS hn18 in18 dX11_fits_87 ?_
    refine lv_topi (fun v19 ev19 => ?_)
    replace hf := hf v19 ev19
    refine lv_istore_n (lv' := [(1, .int v19), (0, .ref (ad g a0)), (2, .int x2)]) hx hb dX11_fits_88 rfl hl (by decide) rfl (fun ls hl => ?_)
    obtain ⟨v20, ev20⟩ : ∃ y : Int32, y = x2 + (-1 : Int32) := ⟨_, rfl⟩
    replace hf := hf v20 ev20
    refine lv_iinc (v := v20) (lv' := [(2, .int v20), (1, .int v19), (0, .ref (ad g a0))]) hx hb dX11_fits_89 hl (k := 2) rfl (by rw [ev20]; rfl) (by decide) rfl (fun ls hl => ?_)
    refine lv_goto (tgt := 65) hx hb dX11_fits_92 (by decide) ?_
    exact hBK65 _ _ _ _ _ _ hf hR hS (lv_sub hl [2, 1, 0] rfl)
def f_X11_fits_L65 (S : Ss) (a0 : Nat) (EK65 : Mm → Prop) (K : Int32 → Mm → Prop) : Nat → Int32 → Int32 → Mm → Prop
  | 0, _, _, _ => False
  | n + 1, x1, x2, M => f_X11_fits_B65 S a0 x1 x2 M (fun (x1 : Int32) (x2 : Int32) (M : Mm) => f_X11_fits_L65 S a0 EK65 K n x1 x2 M) EK65 K
set_option maxHeartbeats 4000000 in
set_option maxRecDepth 100000 in
theorem w_X11_fits_L65 {p : Program} {l : Launch} {e : Env} {s : State} {m : MethodId} {args : Array Value} {below : List Frame} {meth : Method} {c : Code} {g : Gg} {S : Ss} (a0 : Nat) (EK65 : Mm → Prop) (K : Int32 → Mm → Prop) (E : EN p s m args meth c cX11_fits 3 (some .int) RX11 g) (hw : ad g 100000 < s.heap.size) (hs0 : S[a0]? = some (10, 0)) (hEK65 : ∀ (M' : Mm) (H : Heap) (locs : List Loc) (ls : Array Slot), EK65 M' → RP g S M' H → va_S (gA g) s.heap H locs → lv_has ls 3 [(0, .ref (ad g a0))] → W p l e (rmD 7) s m args below meth c H locs 0 0 (MQ below (QA g S (pI K)) args s 0 0 (gA g)) (F0 m 95 ls [])) : ∀ (n : Nat) (x1 : Int32) (x2 : Int32) (M : Mm), f_X11_fits_L65 S a0 EK65 K n x1 x2 M → ∀ (H : Heap) (locs : List Loc) (ls : Array Slot), RP g S M H → va_S (gA g) s.heap H locs → lv_has ls 3 [(0, .ref (ad g a0)), (1, .int x1), (2, .int x2)] → W p l e (rmD 7) s m args below meth c H locs 0 0 (MQ below (QA g S (pI K)) args s 0 0 (gA g)) (F0 m 65 ls []) := by
  intro n
  induction n with
  | zero => intro x1 x2 M hf; exact hf.elim
  | succ n ih =>
    intro x1 x2 M hf H locs ls hR hS hl
    exact w_X11_fits_B65 _ _ _ _ _ _ _ E hw hs0 (fun _ _ M H locs ls h hR hS hl => ih _ _ M h H locs ls hR hS hl) hEK65 hf H locs ls hR hS hl
def f_X11_fits (S : Ss) (a0 : Nat) (M : Mm) (K : Int32 → Mm → Prop) : Prop :=
  ∀ m1 : Mm, m1 = stI M a0 0 (0 : Int32) →
  (((m1.1 a0 15) = 0 →
    K (-1 : Int32) m1) ∧
   (¬ (m1.1 a0 15) = 0 →
    (((m1.1 a0 60) = 0 →
      K (-1 : Int32) m1) ∧
     (¬ (m1.1 a0 60) = 0 →
      f_X11_remembers S a0  m1 (fun (m4 : Mm) =>
        f_X11_types S a0 (0 : Int32) m4 (fun (m5 : Mm) =>
        f_X11_comesBack S a0  m5 (fun (m6 : Mm) =>
        (((m6.1 a0 62) = 0 →
        ((0 ≤ (m6.1 a0 65) →
          ∀ v9 : Int32, v9 = (m6.1 a0 65) →
          ∀ v10 : Int32, v10 = ((m6.1 a0 60) - (2 : Int32)) →
          ∃ n24 : Nat, f_X11_fits_L65 S a0 (fun (m21 : Mm) =>
            ∀ m22 : Mm, m22 = stI m21 a0 1 ((m21.1 a0 60) - (1 : Int32)) →
            f_X11_enters S a0 (m22.1 a0 66).toInt64 m22 (fun (m23 : Mm) =>
              K (1 : Int32) m23)) K n24 v9 v10 m6) ∧
         (¬ 0 ≤ (m6.1 a0 65) →
          K (0 : Int32) m6))) ∧
       (¬ (m6.1 a0 62) = 0 →
        K (-3 : Int32) m6)))))))))
set_option maxHeartbeats 4000000 in
set_option maxRecDepth 100000 in
theorem ok_X11_fits {l : Launch} {g : Gg} {S : Ss} {a0 : Nat} {M : Mm} {K : Int32 → Mm → Prop} (hs0 : S[a0]? = some (10, 0)) (hf : f_X11_fits S a0 M K) : MT l g S yX11_fits cX11_fits 3 (some .int) 7 [.ref (ad g a0)] M (pI K) := by
  refine MT.of (by decide +kernel) (Nat.le_of_ble_eq_true rfl) ?_
  intro p e s m below meth c ls E hw hR hS hl
  have hl : lv_has ls 3 [(0, .ref (ad g a0))] := hl
  generalize ([.ref (ad g a0)] : List Value).toArray = args at E ⊢
  have E : EN p s m args meth c cX11_fits 3 (some .int) RX11 g := E
  have hx := E.1
  have hb := E.2.1
  unfold f_X11_fits at hf
  refine lv_aload_n hx hb dX11_fits_0 rfl (lv_at hl 0 rfl) ?_
  refine lv_iconst (v := 0) hx hb dX11_fits_1 (by decide) ?_
  refine hw_putI E hR hS hw cI10 hs0 0 (by decide) lfX11_3 rfl (Or.inl rfl) dX11_fits_2 (fun m1 H locs em1 hR hS => ?_)
  replace hf := hf m1 em1
  refine lv_aload_n hx hb dX11_fits_5 rfl (lv_at hl 0 rfl) ?_
  refine hw_getI E hR cI10 hs0 15 (by decide) lfX11_121 rfl dX11_fits_6 ?_
  refine lv_if_eq (tgt := 19) hx hb dX11_fits_9 (by decide) (fun c2 => ?_) (fun c2 => ?_)
  · replace hf := hf.1 c2
    refine lv_iconst (v := -1) hx hb dX11_fits_19 (by decide) ?_
    exact hw_iret E hR hS ⟨_, rfl, hf⟩ dX11_fits_20
  · replace hf := hf.2 c2
    refine lv_aload_n hx hb dX11_fits_12 rfl (lv_at hl 0 rfl) ?_
    refine hw_getI E hR cI10 hs0 60 (by decide) lfX11_442 rfl dX11_fits_13 ?_
    refine lv_if_ne (tgt := 21) hx hb dX11_fits_16 (by decide) (fun c3 => ?_) (fun c3 => ?_)
    · replace hf := hf.2 c3
      refine lv_aload_n hx hb dX11_fits_21 rfl (lv_at hl 0 rfl) ?_
      refine hw_callV (d := 7) E hR hS (As := []) (rest := []) cI10 hs0 rfl mcX11_remembers miX11_remembers lmX11_344 (ok_X11_remembers hs0 hf) rfl rfl (by decide) hl.1 (Nat.le_of_ble_eq_true rfl) dX11_fits_22 (fun rr m4 H locs hp hR hS => ?_)
      obtain ⟨rfl, hf⟩ := hp
      refine W.eq (g2 := F0 m 25 ls []) rfl ?_
      refine lv_aload_n hx hb dX11_fits_25 rfl (lv_at hl 0 rfl) ?_
      refine lv_iconst (v := 0) hx hb dX11_fits_26 (by decide) ?_
      refine hw_callV (d := 7) E hR hS (As := [.int (0 : Int32)]) (rest := []) cI10 hs0 rfl mcX11_types miX11_types lmX11_466 (ok_X11_types hs0 hf) rfl rfl (by decide) hl.1 (Nat.le_of_ble_eq_true rfl) dX11_fits_27 (fun rr m5 H locs hp hR hS => ?_)
      obtain ⟨rfl, hf⟩ := hp
      refine W.eq (g2 := F0 m 30 ls []) rfl ?_
      refine lv_aload_n hx hb dX11_fits_30 rfl (lv_at hl 0 rfl) ?_
      refine hw_callV (d := 7) E hR hS (As := []) (rest := []) cI10 hs0 rfl mcX11_comesBack miX11_comesBack lmX11_350 (ok_X11_comesBack hs0 hf) rfl rfl (by decide) hl.1 (Nat.le_of_ble_eq_true rfl) dX11_fits_31 (fun rr m6 H locs hp hR hS => ?_)
      obtain ⟨rfl, hf⟩ := hp
      refine W.eq (g2 := F0 m 34 ls []) rfl ?_
      refine lv_aload_n hx hb dX11_fits_34 rfl (lv_at hl 0 rfl) ?_
      refine hw_getI E hR cI10 hs0 62 (by decide) lfX11_451 rfl dX11_fits_35 ?_
      refine lv_if_eq (tgt := 44) hx hb dX11_fits_38 (by decide) (fun c7 => ?_) (fun c7 => ?_)
      · replace hf := hf.1 c7
        refine lv_aload_n hx hb dX11_fits_44 rfl (lv_at hl 0 rfl) ?_
        refine hw_getI E hR cI10 hs0 65 (by decide) lfX11_460 rfl dX11_fits_45 ?_
        refine lv_if_ge (tgt := 53) hx hb dX11_fits_48 (by decide) (fun c8 => ?_) (fun c8 => ?_)
        · replace hf := hf.1 c8
          refine lv_aload_n hx hb dX11_fits_53 rfl (lv_at hl 0 rfl) ?_
          refine hw_getI E hR cI10 hs0 65 (by decide) lfX11_460 rfl dX11_fits_54 ?_
          refine lv_topi (fun v9 ev9 => ?_)
          replace hf := hf v9 ev9
          refine lv_istore_n (lv' := [(1, .int v9), (0, .ref (ad g a0))]) hx hb dX11_fits_57 rfl hl (by decide) rfl (fun ls hl => ?_)
          refine lv_aload_n hx hb dX11_fits_58 rfl (lv_at hl 1 rfl) ?_
          refine hw_getI E hR cI10 hs0 60 (by decide) lfX11_442 rfl dX11_fits_59 ?_
          refine lv_iconst (v := 2) hx hb dX11_fits_62 (by decide) ?_
          refine lv_isub hx hb dX11_fits_63 ?_
          refine lv_topi (fun v10 ev10 => ?_)
          replace hf := hf v10 ev10
          refine lv_istore_n (lv' := [(2, .int v10), (1, .int v9), (0, .ref (ad g a0))]) hx hb dX11_fits_64 rfl hl (by decide) rfl (fun ls hl => ?_)
          obtain ⟨n24, hf⟩ := hf
          refine w_X11_fits_L65 _ _ _ E hw hs0 ?_ n24 _ _ _ hf _ _ _ hR hS (lv_sub hl [2, 1, 0] rfl)
          intro m21 H locs ls hf hR hS hl
          refine lv_aload_n hx hb dX11_fits_95 rfl (lv_at hl 0 rfl) ?_
          refine lv_aload_n hx hb dX11_fits_96 rfl (lv_at hl 0 rfl) ?_
          refine hw_getI E hR cI10 hs0 60 (by decide) lfX11_442 rfl dX11_fits_97 ?_
          refine lv_iconst (v := 1) hx hb dX11_fits_100 (by decide) ?_
          refine lv_isub hx hb dX11_fits_101 ?_
          refine hw_putI E hR hS hw cI10 hs0 1 (by decide) lfX11_11 rfl (Or.inl rfl) dX11_fits_102 (fun m22 H locs em22 hR hS => ?_)
          replace hf := hf m22 em22
          refine lv_aload_n hx hb dX11_fits_105 rfl (lv_at hl 0 rfl) ?_
          refine lv_aload_n hx hb dX11_fits_106 rfl (lv_at hl 0 rfl) ?_
          refine hw_getI E hR cI10 hs0 66 (by decide) lfX11_463 rfl dX11_fits_107 ?_
          refine lv_i2l hx hb dX11_fits_110 rfl ?_
          refine hw_callV (d := 7) E hR hS (As := [.long (m22.1 a0 66).toInt64]) (rest := []) cI10 hs0 rfl mcX11_enters miX11_enters lmX11_262 (ok_X11_enters hs0 hf) rfl rfl (by decide) hl.1 (Nat.le_of_ble_eq_true rfl) dX11_fits_111 (fun rr m23 H locs hp hR hS => ?_)
          obtain ⟨rfl, hf⟩ := hp
          refine W.eq (g2 := F0 m 114 ls []) rfl ?_
          refine lv_iconst (v := 1) hx hb dX11_fits_114 (by decide) ?_
          exact hw_iret E hR hS ⟨_, rfl, hf⟩ dX11_fits_115
        · replace hf := hf.2 c8
          refine lv_iconst (v := 0) hx hb dX11_fits_51 (by decide) ?_
          exact hw_iret E hR hS ⟨_, rfl, hf⟩ dX11_fits_52
      · replace hf := hf.2 c7
        refine lv_bipush (v := -3) hx hb dX11_fits_41 (by decide) ?_
        exact hw_iret E hR hS ⟨_, rfl, hf⟩ dX11_fits_43
    · replace hf := hf.1 c3
      refine lv_iconst (v := -1) hx hb dX11_fits_19 (by decide) ?_
      exact hw_iret E hR hS ⟨_, rfl, hf⟩ dX11_fits_20
def f_X11_many (S : Ss) (a0 : Nat) (M : Mm) (K : Int32 → Mm → Prop) : Prop :=
  ∀ m1 : Mm, m1 = stI M a0 0 (0 : Int32) →
  (((m1.1 a0 15) = 0 →
    K (-1 : Int32) m1) ∧
   (¬ (m1.1 a0 15) = 0 →
    (((m1.1 a0 60) = 0 →
      K (-1 : Int32) m1) ∧
     (¬ (m1.1 a0 60) = 0 →
      f_X11_remembers S a0  m1 (fun (m4 : Mm) =>
        f_X11_types S a0 (0 : Int32) m4 (fun (m5 : Mm) =>
        f_X11_comesBack S a0  m5 (fun (m6 : Mm) =>
        (((m6.1 a0 62) = 0 →
        ∀ m8 : Mm, m8 = stI m6 a0 1 (0 : Int32) →
        f_X11_enters S a0 (m8.2.1 a0 64) m8 (fun (m9 : Mm) =>
          f_X11_power S  (m9.1 a0 15).toInt64 (m9.1 a0 60) m9 (fun (r11 : Int64) (m10 : Mm) =>
          f_X11_enters S a0 r11 m10 (fun (m12 : Mm) =>
          K (0 : Int32) m12)))) ∧
       (¬ (m6.1 a0 62) = 0 →
        K (-3 : Int32) m6)))))))))
set_option maxHeartbeats 4000000 in
set_option maxRecDepth 100000 in
theorem ok_X11_many {l : Launch} {g : Gg} {S : Ss} {a0 : Nat} {M : Mm} {K : Int32 → Mm → Prop} (hs0 : S[a0]? = some (10, 0)) (hf : f_X11_many S a0 M K) : MT l g S yX11_many cX11_many 1 (some .int) 7 [.ref (ad g a0)] M (pI K) := by
  refine MT.of (by decide +kernel) (Nat.le_of_ble_eq_true rfl) ?_
  intro p e s m below meth c ls E hw hR hS hl
  have hl : lv_has ls 1 [(0, .ref (ad g a0))] := hl
  generalize ([.ref (ad g a0)] : List Value).toArray = args at E ⊢
  have E : EN p s m args meth c cX11_many 1 (some .int) RX11 g := E
  have hx := E.1
  have hb := E.2.1
  unfold f_X11_many at hf
  refine lv_aload_n hx hb dX11_many_0 rfl (lv_at hl 0 rfl) ?_
  refine lv_iconst (v := 0) hx hb dX11_many_1 (by decide) ?_
  refine hw_putI E hR hS hw cI10 hs0 0 (by decide) lfX11_3 rfl (Or.inl rfl) dX11_many_2 (fun m1 H locs em1 hR hS => ?_)
  replace hf := hf m1 em1
  refine lv_aload_n hx hb dX11_many_5 rfl (lv_at hl 0 rfl) ?_
  refine hw_getI E hR cI10 hs0 15 (by decide) lfX11_121 rfl dX11_many_6 ?_
  refine lv_if_eq (tgt := 19) hx hb dX11_many_9 (by decide) (fun c2 => ?_) (fun c2 => ?_)
  · replace hf := hf.1 c2
    refine lv_iconst (v := -1) hx hb dX11_many_19 (by decide) ?_
    exact hw_iret E hR hS ⟨_, rfl, hf⟩ dX11_many_20
  · replace hf := hf.2 c2
    refine lv_aload_n hx hb dX11_many_12 rfl (lv_at hl 0 rfl) ?_
    refine hw_getI E hR cI10 hs0 60 (by decide) lfX11_442 rfl dX11_many_13 ?_
    refine lv_if_ne (tgt := 21) hx hb dX11_many_16 (by decide) (fun c3 => ?_) (fun c3 => ?_)
    · replace hf := hf.2 c3
      refine lv_aload_n hx hb dX11_many_21 rfl (lv_at hl 0 rfl) ?_
      refine hw_callV (d := 7) E hR hS (As := []) (rest := []) cI10 hs0 rfl mcX11_remembers miX11_remembers lmX11_344 (ok_X11_remembers hs0 hf) rfl rfl (by decide) hl.1 (Nat.le_of_ble_eq_true rfl) dX11_many_22 (fun rr m4 H locs hp hR hS => ?_)
      obtain ⟨rfl, hf⟩ := hp
      refine W.eq (g2 := F0 m 25 ls []) rfl ?_
      refine lv_aload_n hx hb dX11_many_25 rfl (lv_at hl 0 rfl) ?_
      refine lv_iconst (v := 0) hx hb dX11_many_26 (by decide) ?_
      refine hw_callV (d := 7) E hR hS (As := [.int (0 : Int32)]) (rest := []) cI10 hs0 rfl mcX11_types miX11_types lmX11_466 (ok_X11_types hs0 hf) rfl rfl (by decide) hl.1 (Nat.le_of_ble_eq_true rfl) dX11_many_27 (fun rr m5 H locs hp hR hS => ?_)
      obtain ⟨rfl, hf⟩ := hp
      refine W.eq (g2 := F0 m 30 ls []) rfl ?_
      refine lv_aload_n hx hb dX11_many_30 rfl (lv_at hl 0 rfl) ?_
      refine hw_callV (d := 7) E hR hS (As := []) (rest := []) cI10 hs0 rfl mcX11_comesBack miX11_comesBack lmX11_350 (ok_X11_comesBack hs0 hf) rfl rfl (by decide) hl.1 (Nat.le_of_ble_eq_true rfl) dX11_many_31 (fun rr m6 H locs hp hR hS => ?_)
      obtain ⟨rfl, hf⟩ := hp
      refine W.eq (g2 := F0 m 34 ls []) rfl ?_
      refine lv_aload_n hx hb dX11_many_34 rfl (lv_at hl 0 rfl) ?_
      refine hw_getI E hR cI10 hs0 62 (by decide) lfX11_451 rfl dX11_many_35 ?_
      refine lv_if_eq (tgt := 44) hx hb dX11_many_38 (by decide) (fun c7 => ?_) (fun c7 => ?_)
      · replace hf := hf.1 c7
        refine lv_aload_n hx hb dX11_many_44 rfl (lv_at hl 0 rfl) ?_
        refine lv_iconst (v := 0) hx hb dX11_many_45 (by decide) ?_
        refine hw_putI E hR hS hw cI10 hs0 1 (by decide) lfX11_11 rfl (Or.inl rfl) dX11_many_46 (fun m8 H locs em8 hR hS => ?_)
        replace hf := hf m8 em8
        refine lv_aload_n hx hb dX11_many_49 rfl (lv_at hl 0 rfl) ?_
        refine lv_aload_n hx hb dX11_many_50 rfl (lv_at hl 0 rfl) ?_
        refine hw_getJ E hR cI10 hs0 64 (by decide) lfX11_457 rfl dX11_many_51 ?_
        refine hw_callV (d := 7) E hR hS (As := [.long (m8.2.1 a0 64)]) (rest := []) cI10 hs0 rfl mcX11_enters miX11_enters lmX11_262 (ok_X11_enters hs0 hf) rfl rfl (by decide) hl.1 (Nat.le_of_ble_eq_true rfl) dX11_many_54 (fun rr m9 H locs hp hR hS => ?_)
        obtain ⟨rfl, hf⟩ := hp
        refine W.eq (g2 := F0 m 57 ls []) rfl ?_
        refine lv_aload_n hx hb dX11_many_57 rfl (lv_at hl 0 rfl) ?_
        refine lv_aload_n hx hb dX11_many_58 rfl (lv_at hl 0 rfl) ?_
        refine hw_getI E hR cI10 hs0 15 (by decide) lfX11_121 rfl dX11_many_59 ?_
        refine lv_i2l hx hb dX11_many_62 rfl ?_
        refine lv_aload_n hx hb dX11_many_63 rfl (lv_at hl 0 rfl) ?_
        refine hw_getI E hR cI10 hs0 60 (by decide) lfX11_442 rfl dX11_many_64 ?_
        refine hw_callS (d := 7) E hR hS (As := [.long (m9.1 a0 15).toInt64, .int (m9.1 a0 60)]) (rest := [.ref (ad g a0)]) mcX11_power msX11_power lmX11_394 (ok_X11_power  hf) rfl rfl (by decide) hl.1 (Nat.le_of_ble_eq_true rfl) dX11_many_67 (fun rr m10 H locs hp hR hS => ?_)
        obtain ⟨r11, rfl, hf⟩ := hp
        refine W.eq (g2 := F0 m 70 ls [.long r11, .ref (ad g a0)]) rfl ?_
        refine hw_callV (d := 7) E hR hS (As := [.long r11]) (rest := []) cI10 hs0 rfl mcX11_enters miX11_enters lmX11_262 (ok_X11_enters hs0 hf) rfl rfl (by decide) hl.1 (Nat.le_of_ble_eq_true rfl) dX11_many_70 (fun rr m12 H locs hp hR hS => ?_)
        obtain ⟨rfl, hf⟩ := hp
        refine W.eq (g2 := F0 m 73 ls []) rfl ?_
        refine lv_iconst (v := 0) hx hb dX11_many_73 (by decide) ?_
        exact hw_iret E hR hS ⟨_, rfl, hf⟩ dX11_many_74
      · replace hf := hf.2 c7
        refine lv_bipush (v := -3) hx hb dX11_many_41 (by decide) ?_
        exact hw_iret E hR hS ⟨_, rfl, hf⟩ dX11_many_43
    · replace hf := hf.1 c3
      refine lv_iconst (v := -1) hx hb dX11_many_19 (by decide) ?_
      exact hw_iret E hR hS ⟨_, rfl, hf⟩ dX11_many_20
def f_X11_spare_B25 (S : Ss) (a0 : Nat) (x1 : Int32) (x2 : Int32) (M : Mm) (BK25 : Int32 → Int32 → Mm → Prop) (EK25 : Int32 → Mm → Prop) (K : Int32 → Mm → Prop) : Prop :=
  (((M.1 a0 60) ≤ x2 →
    EK25 x1 M) ∧
   (¬ (M.1 a0 60) ≤ x2 →
    ∃ b5 : Nat, M.2.2 a0 61 = some b5 ∧
    ∃ n6 : Nat, shp S b5 = some (50, n6) ∧ vp_in x2 n6 ∧
    (((M.1 b5 x2.toNatClampNeg) ≤ 0 →
      ∀ v8 : Int32, v8 = (x1 ||| (0 : Int32)) →
      ∀ v9 : Int32, v9 = x2 + (1 : Int32) →
      BK25 v8 v9 M) ∧
     (¬ (M.1 b5 x2.toNatClampNeg) ≤ 0 →
      ∀ v10 : Int32, v10 = (x1 ||| ((1 : Int32) <<< (x2 &&& 31))) →
      ∀ v11 : Int32, v11 = x2 + (1 : Int32) →
      BK25 v10 v11 M))))
set_option maxHeartbeats 4000000 in
set_option maxRecDepth 100000 in
theorem w_X11_spare_B25 {p : Program} {l : Launch} {e : Env} {s : State} {m : MethodId} {args : Array Value} {below : List Frame} {meth : Method} {c : Code} {g : Gg} {S : Ss} (a0 : Nat) (x1 : Int32) (x2 : Int32) (M : Mm) (BK25 : Int32 → Int32 → Mm → Prop) (EK25 : Int32 → Mm → Prop) (K : Int32 → Mm → Prop) (E : EN p s m args meth c cX11_spare 5 (some .int) RX11 g) (hw : ad g 100000 < s.heap.size) (hs0 : S[a0]? = some (10, 0)) (hBK25 : ∀ (x1' : Int32) (x2' : Int32) (M' : Mm) (H : Heap) (locs : List Loc) (ls : Array Slot), BK25 x1' x2' M' → RP g S M' H → va_S (gA g) s.heap H locs → lv_has ls 5 [(0, .ref (ad g a0)), (1, .int x1'), (2, .int x2')] → W p l e (rmD 7) s m args below meth c H locs 0 0 (MQ below (QA g S (pI K)) args s 0 0 (gA g)) (F0 m 25 ls [])) (hEK25 : ∀ (x1' : Int32) (M' : Mm) (H : Heap) (locs : List Loc) (ls : Array Slot), EK25 x1' M' → RP g S M' H → va_S (gA g) s.heap H locs → lv_has ls 5 [(0, .ref (ad g a0)), (1, .int x1')] → W p l e (rmD 7) s m args below meth c H locs 0 0 (MQ below (QA g S (pI K)) args s 0 0 (gA g)) (F0 m 58 ls [])) (hf : f_X11_spare_B25 S a0 x1 x2 M BK25 EK25 K) (H : Heap) (locs : List Loc) (ls : Array Slot) (hR : RP g S M H) (hS : va_S (gA g) s.heap H locs) (hl : lv_has ls 5 [(0, .ref (ad g a0)), (1, .int x1), (2, .int x2)]) : W p l e (rmD 7) s m args below meth c H locs 0 0 (MQ below (QA g S (pI K)) args s 0 0 (gA g)) (F0 m 25 ls []) := by
  have hx := E.1
  have hb := E.2.1
  unfold f_X11_spare_B25 at hf
  refine lv_iload_n hx hb dX11_spare_25 rfl (lv_at hl 2 rfl) ?_
  refine lv_aload_n hx hb dX11_spare_26 rfl (lv_at hl 0 rfl) ?_
  refine hw_getI E hR cI10 hs0 60 (by decide) lfX11_442 rfl dX11_spare_27 ?_
  refine lv_icmp_ge (tgt := 58) hx hb dX11_spare_30 (by decide) (fun c4 => ?_) (fun c4 => ?_)
  · replace hf := hf.1 c4
    exact hEK25 _ _ _ _ _ hf hR hS (lv_sub hl [0, 1] rfl)
  · replace hf := hf.2 c4
    refine lv_iload_n hx hb dX11_spare_33 rfl (lv_at hl 1 rfl) ?_
    refine lv_aload_n hx hb dX11_spare_34 rfl (lv_at hl 0 rfl) ?_
    obtain ⟨b5, hb5, hf⟩ := hf
    refine hw_getR E hR cI10 hs0 61 (by decide) lfX11_445 rfl hb5 dX11_spare_35 ?_
    refine lv_iload_n hx hb dX11_spare_38 rfl (lv_at hl 2 rfl) ?_
    obtain ⟨n6, hn6, in6, hf⟩ := hf
    refine hw_iald E hR hS hn6 in6 dX11_spare_39 ?_
    refine lv_if_le (tgt := 49) hx hb dX11_spare_40 (by decide) (fun c7 => ?_) (fun c7 => ?_)
    · replace hf := hf.1 c7
      refine lv_iconst (v := 0) hx hb dX11_spare_49 (by decide) ?_
      refine lv_ior hx hb dX11_spare_50 ?_
      refine lv_topi (fun v8 ev8 => ?_)
      replace hf := hf v8 ev8
      refine lv_istore_n (lv' := [(1, .int v8), (0, .ref (ad g a0)), (2, .int x2)]) hx hb dX11_spare_51 rfl hl (by decide) rfl (fun ls hl => ?_)
      obtain ⟨v9, ev9⟩ : ∃ y : Int32, y = x2 + (1 : Int32) := ⟨_, rfl⟩
      replace hf := hf v9 ev9
      refine lv_iinc (v := v9) (lv' := [(2, .int v9), (1, .int v8), (0, .ref (ad g a0))]) hx hb dX11_spare_52 hl (k := 2) rfl (by rw [ev9]; rfl) (by decide) rfl (fun ls hl => ?_)
      refine lv_goto (tgt := 25) hx hb dX11_spare_55 (by decide) ?_
      exact hBK25 _ _ _ _ _ _ hf hR hS (lv_sub hl [2, 1, 0] rfl)
    · replace hf := hf.2 c7
      refine lv_iconst (v := 1) hx hb dX11_spare_43 (by decide) ?_
      refine lv_iload_n hx hb dX11_spare_44 rfl (lv_at hl 2 rfl) ?_
      refine lv_ishl hx hb dX11_spare_45 ?_
      refine lv_goto (tgt := 50) hx hb dX11_spare_46 (by decide) ?_
      refine lv_ior hx hb dX11_spare_50 ?_
      refine lv_topi (fun v10 ev10 => ?_)
      replace hf := hf v10 ev10
      refine lv_istore_n (lv' := [(1, .int v10), (0, .ref (ad g a0)), (2, .int x2)]) hx hb dX11_spare_51 rfl hl (by decide) rfl (fun ls hl => ?_)
      obtain ⟨v11, ev11⟩ : ∃ y : Int32, y = x2 + (1 : Int32) := ⟨_, rfl⟩
      replace hf := hf v11 ev11
      refine lv_iinc (v := v11) (lv' := [(2, .int v11), (1, .int v10), (0, .ref (ad g a0))]) hx hb dX11_spare_52 hl (k := 2) rfl (by rw [ev11]; rfl) (by decide) rfl (fun ls hl => ?_)
      refine lv_goto (tgt := 25) hx hb dX11_spare_55 (by decide) ?_
      exact hBK25 _ _ _ _ _ _ hf hR hS (lv_sub hl [2, 1, 0] rfl)
def f_X11_spare_L25 (S : Ss) (a0 : Nat) (EK25 : Int32 → Mm → Prop) (K : Int32 → Mm → Prop) : Nat → Int32 → Int32 → Mm → Prop
  | 0, _, _, _ => False
  | n + 1, x1, x2, M => f_X11_spare_B25 S a0 x1 x2 M (fun (x1 : Int32) (x2 : Int32) (M : Mm) => f_X11_spare_L25 S a0 EK25 K n x1 x2 M) EK25 K
set_option maxHeartbeats 4000000 in
set_option maxRecDepth 100000 in
theorem w_X11_spare_L25 {p : Program} {l : Launch} {e : Env} {s : State} {m : MethodId} {args : Array Value} {below : List Frame} {meth : Method} {c : Code} {g : Gg} {S : Ss} (a0 : Nat) (EK25 : Int32 → Mm → Prop) (K : Int32 → Mm → Prop) (E : EN p s m args meth c cX11_spare 5 (some .int) RX11 g) (hw : ad g 100000 < s.heap.size) (hs0 : S[a0]? = some (10, 0)) (hEK25 : ∀ (x1' : Int32) (M' : Mm) (H : Heap) (locs : List Loc) (ls : Array Slot), EK25 x1' M' → RP g S M' H → va_S (gA g) s.heap H locs → lv_has ls 5 [(0, .ref (ad g a0)), (1, .int x1')] → W p l e (rmD 7) s m args below meth c H locs 0 0 (MQ below (QA g S (pI K)) args s 0 0 (gA g)) (F0 m 58 ls [])) : ∀ (n : Nat) (x1 : Int32) (x2 : Int32) (M : Mm), f_X11_spare_L25 S a0 EK25 K n x1 x2 M → ∀ (H : Heap) (locs : List Loc) (ls : Array Slot), RP g S M H → va_S (gA g) s.heap H locs → lv_has ls 5 [(0, .ref (ad g a0)), (1, .int x1), (2, .int x2)] → W p l e (rmD 7) s m args below meth c H locs 0 0 (MQ below (QA g S (pI K)) args s 0 0 (gA g)) (F0 m 25 ls []) := by
  intro n
  induction n with
  | zero => intro x1 x2 M hf; exact hf.elim
  | succ n ih =>
    intro x1 x2 M hf H locs ls hR hS hl
    exact w_X11_spare_B25 _ _ _ _ _ _ _ E hw hs0 (fun _ _ M H locs ls h hR hS hl => ih _ _ M h H locs ls hR hS hl) hEK25 hf H locs ls hR hS hl
def f_X11_spare_J119 (S : Ss) (a0 : Nat) (x1 : Int32) (x2 : Int32) (x3 : Int32) (x4 : Int32) (M : Mm) (BK69 : Int32 → Int32 → Int32 → Mm → Prop) (K : Int32 → Mm → Prop) : Prop :=
  f_X11_nextSet S  x2 (M.1 a0 60) M (fun (r20 : Int32) (m19 : Mm) =>
    BK69 r20 x3 x4 m19)
set_option maxHeartbeats 4000000 in
set_option maxRecDepth 100000 in
theorem w_X11_spare_J119 {p : Program} {l : Launch} {e : Env} {s : State} {m : MethodId} {args : Array Value} {below : List Frame} {meth : Method} {c : Code} {g : Gg} {S : Ss} (a0 : Nat) (x1 : Int32) (x2 : Int32) (x3 : Int32) (x4 : Int32) (M : Mm) (BK69 : Int32 → Int32 → Int32 → Mm → Prop) (K : Int32 → Mm → Prop) (E : EN p s m args meth c cX11_spare 5 (some .int) RX11 g) (hw : ad g 100000 < s.heap.size) (hs0 : S[a0]? = some (10, 0)) (hBK69 : ∀ (x2' : Int32) (x3' : Int32) (x4' : Int32) (M' : Mm) (H : Heap) (locs : List Loc) (ls : Array Slot), BK69 x2' x3' x4' M' → RP g S M' H → va_S (gA g) s.heap H locs → lv_has ls 5 [(0, .ref (ad g a0)), (1, .int x1), (2, .int x2'), (3, .int x3'), (4, .int x4')] → W p l e (rmD 7) s m args below meth c H locs 0 0 (MQ below (QA g S (pI K)) args s 0 0 (gA g)) (F0 m 69 ls [])) (hf : f_X11_spare_J119 S a0 x1 x2 x3 x4 M BK69 K) (H : Heap) (locs : List Loc) (ls : Array Slot) (hR : RP g S M H) (hS : va_S (gA g) s.heap H locs) (hl : lv_has ls 5 [(0, .ref (ad g a0)), (1, .int x1), (2, .int x2), (3, .int x3), (4, .int x4)]) : W p l e (rmD 7) s m args below meth c H locs 0 0 (MQ below (QA g S (pI K)) args s 0 0 (gA g)) (F0 m 119 ls []) := by
  have hx := E.1
  have hb := E.2.1
  unfold f_X11_spare_J119 at hf
  refine lv_iload_n hx hb dX11_spare_119 rfl (lv_at hl 2 rfl) ?_
  refine lv_aload_n hx hb dX11_spare_120 rfl (lv_at hl 0 rfl) ?_
  refine hw_getI E hR cI10 hs0 60 (by decide) lfX11_442 rfl dX11_spare_121 ?_
  refine hw_callS (d := 7) E hR hS (As := [.int x2, .int (M.1 a0 60)]) (rest := []) mcX11_nextSet msX11_nextSet lmX11_439 (ok_X11_nextSet  hf) rfl rfl (by decide) hl.1 (Nat.le_of_ble_eq_true rfl) dX11_spare_124 (fun rr m19 H locs hp hR hS => ?_)
  obtain ⟨r20, rfl, hf⟩ := hp
  refine W.eq (g2 := F0 m 127 ls [.int r20]) rfl ?_
  refine lv_istore_n (lv' := [(2, .int r20), (0, .ref (ad g a0)), (1, .int x1), (3, .int x3), (4, .int x4)]) hx hb dX11_spare_127 rfl hl (by decide) rfl (fun ls hl => ?_)
  refine lv_goto (tgt := 69) hx hb dX11_spare_128 (by decide) ?_
  exact hBK69 _ _ _ _ _ _ _ hf hR hS (lv_sub hl [1, 2, 0, 3, 4] rfl)
def f_X11_spare_J118 (S : Ss) (a0 : Nat) (x1 : Int32) (x2 : Int32) (x4 : Int32) (t0 : Int32) (M : Mm) (BK69 : Int32 → Int32 → Int32 → Mm → Prop) (K : Int32 → Mm → Prop) : Prop :=
  f_X11_spare_J119 S a0 x1 x2 t0 x4 M BK69 K
set_option maxHeartbeats 4000000 in
set_option maxRecDepth 100000 in
theorem w_X11_spare_J118 {p : Program} {l : Launch} {e : Env} {s : State} {m : MethodId} {args : Array Value} {below : List Frame} {meth : Method} {c : Code} {g : Gg} {S : Ss} (a0 : Nat) (x1 : Int32) (x2 : Int32) (x4 : Int32) (t0 : Int32) (M : Mm) (BK69 : Int32 → Int32 → Int32 → Mm → Prop) (K : Int32 → Mm → Prop) (E : EN p s m args meth c cX11_spare 5 (some .int) RX11 g) (hw : ad g 100000 < s.heap.size) (hs0 : S[a0]? = some (10, 0)) (hBK69 : ∀ (x2' : Int32) (x3' : Int32) (x4' : Int32) (M' : Mm) (H : Heap) (locs : List Loc) (ls : Array Slot), BK69 x2' x3' x4' M' → RP g S M' H → va_S (gA g) s.heap H locs → lv_has ls 5 [(0, .ref (ad g a0)), (1, .int x1), (2, .int x2'), (3, .int x3'), (4, .int x4')] → W p l e (rmD 7) s m args below meth c H locs 0 0 (MQ below (QA g S (pI K)) args s 0 0 (gA g)) (F0 m 69 ls [])) (hf : f_X11_spare_J118 S a0 x1 x2 x4 t0 M BK69 K) (H : Heap) (locs : List Loc) (ls : Array Slot) (hR : RP g S M H) (hS : va_S (gA g) s.heap H locs) (hl : lv_has ls 5 [(0, .ref (ad g a0)), (1, .int x1), (2, .int x2), (4, .int x4)]) : W p l e (rmD 7) s m args below meth c H locs 0 0 (MQ below (QA g S (pI K)) args s 0 0 (gA g)) (F0 m 118 ls [.int t0]) := by
  have hx := E.1
  have hb := E.2.1
  unfold f_X11_spare_J118 at hf
  refine lv_istore_n (lv' := [(3, .int t0), (0, .ref (ad g a0)), (1, .int x1), (2, .int x2), (4, .int x4)]) hx hb dX11_spare_118 rfl hl (by decide) rfl (fun ls hl => ?_)
  exact w_X11_spare_J119 _ _ _ _ _ _ _ _ E hw hs0 hBK69 hf _ _ _ hR hS (lv_sub hl [1, 2, 3, 0, 4] rfl)
def f_X11_spare_J117 (S : Ss) (a0 : Nat) (x1 : Int32) (x2 : Int32) (x4 : Int32) (M : Mm) (BK69 : Int32 → Int32 → Int32 → Mm → Prop) (K : Int32 → Mm → Prop) : Prop :=
  f_X11_spare_J118 S a0 x1 x2 x4 (-1 : Int32) M BK69 K
set_option maxHeartbeats 4000000 in
set_option maxRecDepth 100000 in
theorem w_X11_spare_J117 {p : Program} {l : Launch} {e : Env} {s : State} {m : MethodId} {args : Array Value} {below : List Frame} {meth : Method} {c : Code} {g : Gg} {S : Ss} (a0 : Nat) (x1 : Int32) (x2 : Int32) (x4 : Int32) (M : Mm) (BK69 : Int32 → Int32 → Int32 → Mm → Prop) (K : Int32 → Mm → Prop) (E : EN p s m args meth c cX11_spare 5 (some .int) RX11 g) (hw : ad g 100000 < s.heap.size) (hs0 : S[a0]? = some (10, 0)) (hBK69 : ∀ (x2' : Int32) (x3' : Int32) (x4' : Int32) (M' : Mm) (H : Heap) (locs : List Loc) (ls : Array Slot), BK69 x2' x3' x4' M' → RP g S M' H → va_S (gA g) s.heap H locs → lv_has ls 5 [(0, .ref (ad g a0)), (1, .int x1), (2, .int x2'), (3, .int x3'), (4, .int x4')] → W p l e (rmD 7) s m args below meth c H locs 0 0 (MQ below (QA g S (pI K)) args s 0 0 (gA g)) (F0 m 69 ls [])) (hf : f_X11_spare_J117 S a0 x1 x2 x4 M BK69 K) (H : Heap) (locs : List Loc) (ls : Array Slot) (hR : RP g S M H) (hS : va_S (gA g) s.heap H locs) (hl : lv_has ls 5 [(0, .ref (ad g a0)), (1, .int x1), (2, .int x2), (4, .int x4)]) : W p l e (rmD 7) s m args below meth c H locs 0 0 (MQ below (QA g S (pI K)) args s 0 0 (gA g)) (F0 m 117 ls []) := by
  have hx := E.1
  have hb := E.2.1
  unfold f_X11_spare_J117 at hf
  refine lv_iconst (v := -1) hx hb dX11_spare_117 (by decide) ?_
  exact w_X11_spare_J118 _ _ _ _ _ _ _ _ E hw hs0 hBK69 hf _ _ _ hR hS (lv_sub hl [0, 1, 2, 3] rfl)
def f_X11_spare_B69 (S : Ss) (a0 : Nat) (x1 : Int32) (x2 : Int32) (x3 : Int32) (x4 : Int32) (M : Mm) (BK69 : Int32 → Int32 → Int32 → Mm → Prop) (EK69 : Int32 → Int32 → Mm → Prop) (K : Int32 → Mm → Prop) : Prop :=
  ((x2 < 0 →
    EK69 x3 x4 M) ∧
   (¬ x2 < 0 →
    ((0 ≤ x3 →
      EK69 x3 x4 M) ∧
     (¬ 0 ≤ x3 →
      ((x4 = 0 →
        (((x2 &&& (x1 ^^^ (-1 : Int32))) = 0 →
          f_X11_types S a0 x2 M (fun (m21 : Mm) =>
            ∀ v22 : Int32, v22 = (m21.1 a0 62) →
          ((v22 = 0 →
            (((m21.1 a0 63) = 0 →
              f_X11_spare_J118 S a0 x1 x2 v22 x2 m21 BK69 K) ∧
             (¬ (m21.1 a0 63) = 0 →
              f_X11_spare_J117 S a0 x1 x2 v22 m21 BK69 K))) ∧
           (¬ v22 = 0 →
            f_X11_spare_J117 S a0 x1 x2 v22 m21 BK69 K)))) ∧
         (¬ (x2 &&& (x1 ^^^ (-1 : Int32))) = 0 →
          f_X11_spare_J119 S a0 x1 x2 x3 x4 M BK69 K))) ∧
       (¬ x4 = 0 →
        EK69 x3 x4 M))))))
set_option maxHeartbeats 4000000 in
set_option maxRecDepth 100000 in
theorem w_X11_spare_B69 {p : Program} {l : Launch} {e : Env} {s : State} {m : MethodId} {args : Array Value} {below : List Frame} {meth : Method} {c : Code} {g : Gg} {S : Ss} (a0 : Nat) (x1 : Int32) (x2 : Int32) (x3 : Int32) (x4 : Int32) (M : Mm) (BK69 : Int32 → Int32 → Int32 → Mm → Prop) (EK69 : Int32 → Int32 → Mm → Prop) (K : Int32 → Mm → Prop) (E : EN p s m args meth c cX11_spare 5 (some .int) RX11 g) (hw : ad g 100000 < s.heap.size) (hs0 : S[a0]? = some (10, 0)) (hBK69 : ∀ (x2' : Int32) (x3' : Int32) (x4' : Int32) (M' : Mm) (H : Heap) (locs : List Loc) (ls : Array Slot), BK69 x2' x3' x4' M' → RP g S M' H → va_S (gA g) s.heap H locs → lv_has ls 5 [(0, .ref (ad g a0)), (1, .int x1), (2, .int x2'), (3, .int x3'), (4, .int x4')] → W p l e (rmD 7) s m args below meth c H locs 0 0 (MQ below (QA g S (pI K)) args s 0 0 (gA g)) (F0 m 69 ls [])) (hEK69 : ∀ (x3' : Int32) (x4' : Int32) (M' : Mm) (H : Heap) (locs : List Loc) (ls : Array Slot), EK69 x3' x4' M' → RP g S M' H → va_S (gA g) s.heap H locs → lv_has ls 5 [(0, .ref (ad g a0)), (3, .int x3'), (4, .int x4')] → W p l e (rmD 7) s m args below meth c H locs 0 0 (MQ below (QA g S (pI K)) args s 0 0 (gA g)) (F0 m 131 ls [])) (hf : f_X11_spare_B69 S a0 x1 x2 x3 x4 M BK69 EK69 K) (H : Heap) (locs : List Loc) (ls : Array Slot) (hR : RP g S M H) (hS : va_S (gA g) s.heap H locs) (hl : lv_has ls 5 [(0, .ref (ad g a0)), (1, .int x1), (2, .int x2), (3, .int x3), (4, .int x4)]) : W p l e (rmD 7) s m args below meth c H locs 0 0 (MQ below (QA g S (pI K)) args s 0 0 (gA g)) (F0 m 69 ls []) := by
  have hx := E.1
  have hb := E.2.1
  unfold f_X11_spare_B69 at hf
  refine lv_iload_n hx hb dX11_spare_69 rfl (lv_at hl 2 rfl) ?_
  refine lv_if_lt (tgt := 131) hx hb dX11_spare_70 (by decide) (fun c15 => ?_) (fun c15 => ?_)
  · replace hf := hf.1 c15
    exact hEK69 _ _ _ _ _ _ hf hR hS (lv_sub hl [0, 3, 4] rfl)
  · replace hf := hf.2 c15
    refine lv_iload_n hx hb dX11_spare_73 rfl (lv_at hl 3 rfl) ?_
    refine lv_if_ge (tgt := 131) hx hb dX11_spare_74 (by decide) (fun c16 => ?_) (fun c16 => ?_)
    · replace hf := hf.1 c16
      exact hEK69 _ _ _ _ _ _ hf hR hS (lv_sub hl [0, 3, 4] rfl)
    · replace hf := hf.2 c16
      refine lv_iload hx hb dX11_spare_77 (lv_at hl 4 rfl) ?_
      refine lv_if_ne (tgt := 131) hx hb dX11_spare_79 (by decide) (fun c17 => ?_) (fun c17 => ?_)
      · replace hf := hf.2 c17
        exact hEK69 _ _ _ _ _ _ hf hR hS (lv_sub hl [0, 3, 4] rfl)
      · replace hf := hf.1 c17
        refine lv_iload_n hx hb dX11_spare_82 rfl (lv_at hl 2 rfl) ?_
        refine lv_iload_n hx hb dX11_spare_83 rfl (lv_at hl 1 rfl) ?_
        refine lv_iconst (v := -1) hx hb dX11_spare_84 (by decide) ?_
        refine lv_ixor hx hb dX11_spare_85 ?_
        refine lv_iand hx hb dX11_spare_86 ?_
        refine lv_if_ne (tgt := 119) hx hb dX11_spare_87 (by decide) (fun c18 => ?_) (fun c18 => ?_)
        · replace hf := hf.2 c18
          exact w_X11_spare_J119 _ _ _ _ _ _ _ _ E hw hs0 hBK69 hf _ _ _ hR hS (lv_sub hl [0, 1, 2, 3, 4] rfl)
        · replace hf := hf.1 c18
          refine lv_aload_n hx hb dX11_spare_90 rfl (lv_at hl 0 rfl) ?_
          refine lv_iload_n hx hb dX11_spare_91 rfl (lv_at hl 2 rfl) ?_
          refine hw_callV (d := 7) E hR hS (As := [.int x2]) (rest := []) cI10 hs0 rfl mcX11_types miX11_types lmX11_466 (ok_X11_types hs0 hf) rfl rfl (by decide) hl.1 (Nat.le_of_ble_eq_true rfl) dX11_spare_92 (fun rr m21 H locs hp hR hS => ?_)
          obtain ⟨rfl, hf⟩ := hp
          refine W.eq (g2 := F0 m 95 ls []) rfl ?_
          refine lv_aload_n hx hb dX11_spare_95 rfl (lv_at hl 0 rfl) ?_
          refine hw_getI E hR cI10 hs0 62 (by decide) lfX11_451 rfl dX11_spare_96 ?_
          refine lv_topi (fun v22 ev22 => ?_)
          replace hf := hf v22 ev22
          refine lv_istore (lv' := [(4, .int v22), (0, .ref (ad g a0)), (1, .int x1), (2, .int x2), (3, .int x3)]) hx hb dX11_spare_99 hl (by decide) rfl (fun ls hl => ?_)
          refine lv_iload hx hb dX11_spare_101 (lv_at hl 0 rfl) ?_
          refine lv_if_ne (tgt := 117) hx hb dX11_spare_103 (by decide) (fun c23 => ?_) (fun c23 => ?_)
          · replace hf := hf.2 c23
            exact w_X11_spare_J117 _ _ _ _ _ _ _ E hw hs0 hBK69 hf _ _ _ hR hS (lv_sub hl [1, 2, 3, 0] rfl)
          · replace hf := hf.1 c23
            refine lv_aload_n hx hb dX11_spare_106 rfl (lv_at hl 1 rfl) ?_
            refine hw_getI E hR cI10 hs0 63 (by decide) lfX11_454 rfl dX11_spare_107 ?_
            refine lv_if_ne (tgt := 117) hx hb dX11_spare_110 (by decide) (fun c24 => ?_) (fun c24 => ?_)
            · replace hf := hf.2 c24
              exact w_X11_spare_J117 _ _ _ _ _ _ _ E hw hs0 hBK69 hf _ _ _ hR hS (lv_sub hl [1, 2, 3, 0] rfl)
            · replace hf := hf.1 c24
              refine lv_iload_n hx hb dX11_spare_113 rfl (lv_at hl 3 rfl) ?_
              refine lv_goto (tgt := 118) hx hb dX11_spare_114 (by decide) ?_
              exact w_X11_spare_J118 _ _ _ _ _ _ _ _ E hw hs0 hBK69 hf _ _ _ hR hS (lv_sub hl [1, 2, 3, 0] rfl)
def f_X11_spare_L69 (S : Ss) (a0 : Nat) (x1 : Int32) (EK69 : Int32 → Int32 → Mm → Prop) (K : Int32 → Mm → Prop) : Nat → Int32 → Int32 → Int32 → Mm → Prop
  | 0, _, _, _, _ => False
  | n + 1, x2, x3, x4, M => f_X11_spare_B69 S a0 x1 x2 x3 x4 M (fun (x2 : Int32) (x3 : Int32) (x4 : Int32) (M : Mm) => f_X11_spare_L69 S a0 x1 EK69 K n x2 x3 x4 M) EK69 K
set_option maxHeartbeats 4000000 in
set_option maxRecDepth 100000 in
theorem w_X11_spare_L69 {p : Program} {l : Launch} {e : Env} {s : State} {m : MethodId} {args : Array Value} {below : List Frame} {meth : Method} {c : Code} {g : Gg} {S : Ss} (a0 : Nat) (x1 : Int32) (EK69 : Int32 → Int32 → Mm → Prop) (K : Int32 → Mm → Prop) (E : EN p s m args meth c cX11_spare 5 (some .int) RX11 g) (hw : ad g 100000 < s.heap.size) (hs0 : S[a0]? = some (10, 0)) (hEK69 : ∀ (x3' : Int32) (x4' : Int32) (M' : Mm) (H : Heap) (locs : List Loc) (ls : Array Slot), EK69 x3' x4' M' → RP g S M' H → va_S (gA g) s.heap H locs → lv_has ls 5 [(0, .ref (ad g a0)), (3, .int x3'), (4, .int x4')] → W p l e (rmD 7) s m args below meth c H locs 0 0 (MQ below (QA g S (pI K)) args s 0 0 (gA g)) (F0 m 131 ls [])) : ∀ (n : Nat) (x2 : Int32) (x3 : Int32) (x4 : Int32) (M : Mm), f_X11_spare_L69 S a0 x1 EK69 K n x2 x3 x4 M → ∀ (H : Heap) (locs : List Loc) (ls : Array Slot), RP g S M H → va_S (gA g) s.heap H locs → lv_has ls 5 [(0, .ref (ad g a0)), (1, .int x1), (2, .int x2), (3, .int x3), (4, .int x4)] → W p l e (rmD 7) s m args below meth c H locs 0 0 (MQ below (QA g S (pI K)) args s 0 0 (gA g)) (F0 m 69 ls []) := by
  intro n
  induction n with
  | zero => intro x2 x3 x4 M hf; exact hf.elim
  | succ n ih =>
    intro x2 x3 x4 M hf H locs ls hR hS hl
    exact w_X11_spare_B69 _ _ _ _ _ _ _ _ _ E hw hs0 (fun _ _ _ M H locs ls h hR hS hl => ih _ _ _ M h H locs ls hR hS hl) hEK69 hf H locs ls hR hS hl
def f_X11_spare (S : Ss) (a0 : Nat) (M : Mm) (K : Int32 → Mm → Prop) : Prop :=
  ∀ m1 : Mm, m1 = stI M a0 0 (0 : Int32) →
  (((m1.1 a0 15) = 0 →
    K (-1 : Int32) m1) ∧
   (¬ (m1.1 a0 15) = 0 →
    (((m1.1 a0 60) = 0 →
      K (-1 : Int32) m1) ∧
     (¬ (m1.1 a0 60) = 0 →
      ∃ n36 : Nat, f_X11_spare_L25 S a0 (fun (v12 : Int32) (m13 : Mm) =>
        f_X11_remembers S a0  m13 (fun (m14 : Mm) =>
          ∃ n35 : Nat, f_X11_spare_L69 S a0 v12 (fun (v25 : Int32) (v26 : Int32) (m27 : Mm) =>
          f_X11_comesBack S a0  m27 (fun (m28 : Mm) =>
            ((0 ≤ v25 →
            ∀ m30 : Mm, m30 = stI m28 a0 1 (0 : Int32) →
            f_X11_enters S a0 v25.toInt64 m30 (fun (m31 : Mm) =>
              f_J6_bitCount_0f7a4 S  v25 m31 (fun (r33 : Int32) (m32 : Mm) =>
              K r33 m32))) ∧
           (¬ 0 ≤ v25 →
            ((v26 = 0 →
              K (-2 : Int32) m28) ∧
             (¬ v26 = 0 →
              K (-3 : Int32) m28)))))) K n35 (0 : Int32) (-1 : Int32) (0 : Int32) m14)) K n36 (0 : Int32) (0 : Int32) m1))))
set_option maxHeartbeats 4000000 in
set_option maxRecDepth 100000 in
theorem ok_X11_spare {l : Launch} {g : Gg} {S : Ss} {a0 : Nat} {M : Mm} {K : Int32 → Mm → Prop} (hs0 : S[a0]? = some (10, 0)) (hf : f_X11_spare S a0 M K) : MT l g S yX11_spare cX11_spare 5 (some .int) 7 [.ref (ad g a0)] M (pI K) := by
  refine MT.of (by decide +kernel) (Nat.le_of_ble_eq_true rfl) ?_
  intro p e s m below meth c ls E hw hR hS hl
  have hl : lv_has ls 5 [(0, .ref (ad g a0))] := hl
  generalize ([.ref (ad g a0)] : List Value).toArray = args at E ⊢
  have E : EN p s m args meth c cX11_spare 5 (some .int) RX11 g := E
  have hx := E.1
  have hb := E.2.1
  unfold f_X11_spare at hf
  refine lv_aload_n hx hb dX11_spare_0 rfl (lv_at hl 0 rfl) ?_
  refine lv_iconst (v := 0) hx hb dX11_spare_1 (by decide) ?_
  refine hw_putI E hR hS hw cI10 hs0 0 (by decide) lfX11_3 rfl (Or.inl rfl) dX11_spare_2 (fun m1 H locs em1 hR hS => ?_)
  replace hf := hf m1 em1
  refine lv_aload_n hx hb dX11_spare_5 rfl (lv_at hl 0 rfl) ?_
  refine hw_getI E hR cI10 hs0 15 (by decide) lfX11_121 rfl dX11_spare_6 ?_
  refine lv_if_eq (tgt := 19) hx hb dX11_spare_9 (by decide) (fun c2 => ?_) (fun c2 => ?_)
  · replace hf := hf.1 c2
    refine lv_iconst (v := -1) hx hb dX11_spare_19 (by decide) ?_
    exact hw_iret E hR hS ⟨_, rfl, hf⟩ dX11_spare_20
  · replace hf := hf.2 c2
    refine lv_aload_n hx hb dX11_spare_12 rfl (lv_at hl 0 rfl) ?_
    refine hw_getI E hR cI10 hs0 60 (by decide) lfX11_442 rfl dX11_spare_13 ?_
    refine lv_if_ne (tgt := 21) hx hb dX11_spare_16 (by decide) (fun c3 => ?_) (fun c3 => ?_)
    · replace hf := hf.2 c3
      refine lv_iconst (v := 0) hx hb dX11_spare_21 (by decide) ?_
      refine lv_istore_n (lv' := [(1, .int (0 : Int32)), (0, .ref (ad g a0))]) hx hb dX11_spare_22 rfl hl (by decide) rfl (fun ls hl => ?_)
      refine lv_iconst (v := 0) hx hb dX11_spare_23 (by decide) ?_
      refine lv_istore_n (lv' := [(2, .int (0 : Int32)), (1, .int (0 : Int32)), (0, .ref (ad g a0))]) hx hb dX11_spare_24 rfl hl (by decide) rfl (fun ls hl => ?_)
      obtain ⟨n36, hf⟩ := hf
      refine w_X11_spare_L25 _ _ _ E hw hs0 ?_ n36 _ _ _ hf _ _ _ hR hS (lv_sub hl [2, 1, 0] rfl)
      intro v12 m13 H locs ls hf hR hS hl
      refine lv_aload_n hx hb dX11_spare_58 rfl (lv_at hl 0 rfl) ?_
      refine hw_callV (d := 7) E hR hS (As := []) (rest := []) cI10 hs0 rfl mcX11_remembers miX11_remembers lmX11_344 (ok_X11_remembers hs0 hf) rfl rfl (by decide) hl.1 (Nat.le_of_ble_eq_true rfl) dX11_spare_59 (fun rr m14 H locs hp hR hS => ?_)
      obtain ⟨rfl, hf⟩ := hp
      refine W.eq (g2 := F0 m 62 ls []) rfl ?_
      refine lv_iconst (v := 0) hx hb dX11_spare_62 (by decide) ?_
      refine lv_istore_n (lv' := [(2, .int (0 : Int32)), (0, .ref (ad g a0)), (1, .int v12)]) hx hb dX11_spare_63 rfl hl (by decide) rfl (fun ls hl => ?_)
      refine lv_iconst (v := -1) hx hb dX11_spare_64 (by decide) ?_
      refine lv_istore_n (lv' := [(3, .int (-1 : Int32)), (2, .int (0 : Int32)), (0, .ref (ad g a0)), (1, .int v12)]) hx hb dX11_spare_65 rfl hl (by decide) rfl (fun ls hl => ?_)
      refine lv_iconst (v := 0) hx hb dX11_spare_66 (by decide) ?_
      refine lv_istore (lv' := [(4, .int (0 : Int32)), (3, .int (-1 : Int32)), (2, .int (0 : Int32)), (0, .ref (ad g a0)), (1, .int v12)]) hx hb dX11_spare_67 hl (by decide) rfl (fun ls hl => ?_)
      obtain ⟨n35, hf⟩ := hf
      refine w_X11_spare_L69 _ _ _ _ E hw hs0 ?_ n35 _ _ _ _ hf _ _ _ hR hS (lv_sub hl [3, 4, 2, 1, 0] rfl)
      intro v25 v26 m27 H locs ls hf hR hS hl
      refine lv_aload_n hx hb dX11_spare_131 rfl (lv_at hl 0 rfl) ?_
      refine hw_callV (d := 7) E hR hS (As := []) (rest := []) cI10 hs0 rfl mcX11_comesBack miX11_comesBack lmX11_350 (ok_X11_comesBack hs0 hf) rfl rfl (by decide) hl.1 (Nat.le_of_ble_eq_true rfl) dX11_spare_132 (fun rr m28 H locs hp hR hS => ?_)
      obtain ⟨rfl, hf⟩ := hp
      refine W.eq (g2 := F0 m 135 ls []) rfl ?_
      refine lv_iload_n hx hb dX11_spare_135 rfl (lv_at hl 1 rfl) ?_
      refine lv_if_ge (tgt := 152) hx hb dX11_spare_136 (by decide) (fun c29 => ?_) (fun c29 => ?_)
      · replace hf := hf.1 c29
        refine lv_aload_n hx hb dX11_spare_152 rfl (lv_at hl 0 rfl) ?_
        refine lv_iconst (v := 0) hx hb dX11_spare_153 (by decide) ?_
        refine hw_putI E hR hS hw cI10 hs0 1 (by decide) lfX11_11 rfl (Or.inl rfl) dX11_spare_154 (fun m30 H locs em30 hR hS => ?_)
        replace hf := hf m30 em30
        refine lv_aload_n hx hb dX11_spare_157 rfl (lv_at hl 0 rfl) ?_
        refine lv_iload_n hx hb dX11_spare_158 rfl (lv_at hl 1 rfl) ?_
        refine lv_i2l hx hb dX11_spare_159 rfl ?_
        refine hw_callV (d := 7) E hR hS (As := [.long v25.toInt64]) (rest := []) cI10 hs0 rfl mcX11_enters miX11_enters lmX11_262 (ok_X11_enters hs0 hf) rfl rfl (by decide) hl.1 (Nat.le_of_ble_eq_true rfl) dX11_spare_160 (fun rr m31 H locs hp hR hS => ?_)
        obtain ⟨rfl, hf⟩ := hp
        refine W.eq (g2 := F0 m 163 ls []) rfl ?_
        refine lv_iload_n hx hb dX11_spare_163 rfl (lv_at hl 1 rfl) ?_
        refine hw_callS (d := 7) E hR hS (As := [.int v25]) (rest := []) mcJ6_bitCount_0f7a4 msJ6_bitCount_0f7a4 lmX11_434 (ok_J6_bitCount_0f7a4  hf) rfl rfl (by decide) hl.1 (Nat.le_of_ble_eq_true rfl) dX11_spare_164 (fun rr m32 H locs hp hR hS => ?_)
        obtain ⟨r33, rfl, hf⟩ := hp
        refine W.eq (g2 := F0 m 167 ls [.int r33]) rfl ?_
        exact hw_iret E hR hS ⟨_, rfl, hf⟩ dX11_spare_167
      · replace hf := hf.2 c29
        refine lv_iload hx hb dX11_spare_139 (lv_at hl 2 rfl) ?_
        refine lv_if_eq (tgt := 149) hx hb dX11_spare_141 (by decide) (fun c34 => ?_) (fun c34 => ?_)
        · replace hf := hf.1 c34
          refine lv_bipush (v := -2) hx hb dX11_spare_149 (by decide) ?_
          exact hw_iret E hR hS ⟨_, rfl, hf⟩ dX11_spare_151
        · replace hf := hf.2 c34
          refine lv_bipush (v := -3) hx hb dX11_spare_144 (by decide) ?_
          refine lv_goto (tgt := 151) hx hb dX11_spare_146 (by decide) ?_
          exact hw_iret E hR hS ⟨_, rfl, hf⟩ dX11_spare_151
    · replace hf := hf.1 c3
      refine lv_iconst (v := -1) hx hb dX11_spare_19 (by decide) ?_
      exact hw_iret E hR hS ⟨_, rfl, hf⟩ dX11_spare_20
def f_X11_like_B58 (S : Ss) (a0 : Nat) (x1 : Int32) (x2 : Int32) (x3 : Int32) (M : Mm) (BK58 : Int32 → Mm → Prop) (EK58 : Mm → Prop) (K : Int32 → Mm → Prop) : Prop :=
  (((8 : Int32) ≤ x3 →
    EK58 M) ∧
   (¬ (8 : Int32) ≤ x3 →
    ∃ b14 : Nat, M.2.2 a0 68 = some b14 ∧
    ∃ n15 : Nat, S[b14]? = some (50, n15) ∧ vp_in x3 n15 ∧
    ∀ m16 : Mm, m16 = stI M b14 x3.toNatClampNeg (-1 : Int32) →
    ∃ b17 : Nat, m16.2.2 a0 69 = some b17 ∧
    ∃ n18 : Nat, S[b17]? = some (50, n18) ∧ vp_in x3 n18 ∧
    ∀ m19 : Mm, m19 = stI m16 b17 x3.toNatClampNeg (-1 : Int32) →
    ∀ v20 : Int32, v20 = x3 + (1 : Int32) →
    BK58 v20 m19))
set_option maxHeartbeats 4000000 in
set_option maxRecDepth 100000 in
theorem w_X11_like_B58 {p : Program} {l : Launch} {e : Env} {s : State} {m : MethodId} {args : Array Value} {below : List Frame} {meth : Method} {c : Code} {g : Gg} {S : Ss} (a0 : Nat) (x1 : Int32) (x2 : Int32) (x3 : Int32) (M : Mm) (BK58 : Int32 → Mm → Prop) (EK58 : Mm → Prop) (K : Int32 → Mm → Prop) (E : EN p s m args meth c cX11_like 9 (some .int) RX11 g) (hw : ad g 100000 < s.heap.size) (hs0 : S[a0]? = some (10, 0)) (hBK58 : ∀ (x3' : Int32) (M' : Mm) (H : Heap) (locs : List Loc) (ls : Array Slot), BK58 x3' M' → RP g S M' H → va_S (gA g) s.heap H locs → lv_has ls 9 [(0, .ref (ad g a0)), (1, .int x1), (2, .int x2), (3, .int x3')] → W p l e (rmD 1) s m args below meth c H locs 0 0 (MQ below (QA g S (pI K)) args s 0 0 (gA g)) (F0 m 58 ls [])) (hEK58 : ∀ (M' : Mm) (H : Heap) (locs : List Loc) (ls : Array Slot), EK58 M' → RP g S M' H → va_S (gA g) s.heap H locs → lv_has ls 9 [(0, .ref (ad g a0)), (1, .int x1), (2, .int x2)] → W p l e (rmD 1) s m args below meth c H locs 0 0 (MQ below (QA g S (pI K)) args s 0 0 (gA g)) (F0 m 84 ls [])) (hf : f_X11_like_B58 S a0 x1 x2 x3 M BK58 EK58 K) (H : Heap) (locs : List Loc) (ls : Array Slot) (hR : RP g S M H) (hS : va_S (gA g) s.heap H locs) (hl : lv_has ls 9 [(0, .ref (ad g a0)), (1, .int x1), (2, .int x2), (3, .int x3)]) : W p l e (rmD 1) s m args below meth c H locs 0 0 (MQ below (QA g S (pI K)) args s 0 0 (gA g)) (F0 m 58 ls []) := by
  have hx := E.1
  have hb := E.2.1
  unfold f_X11_like_B58 at hf
  refine lv_iload_n hx hb dX11_like_58 rfl (lv_at hl 3 rfl) ?_
  refine lv_bipush (v := 8) hx hb dX11_like_59 (by decide) ?_
  refine lv_icmp_ge (tgt := 84) hx hb dX11_like_61 (by decide) (fun c13 => ?_) (fun c13 => ?_)
  · replace hf := hf.1 c13
    exact hEK58  _ _ _ _ hf hR hS (lv_sub hl [0, 1, 2] rfl)
  · replace hf := hf.2 c13
    refine lv_aload_n hx hb dX11_like_64 rfl (lv_at hl 0 rfl) ?_
    obtain ⟨b14, hb14, hf⟩ := hf
    refine hw_getR E hR cI10 hs0 68 (by decide) lfX11_469 rfl hb14 dX11_like_65 ?_
    refine lv_iload_n hx hb dX11_like_68 rfl (lv_at hl 3 rfl) ?_
    refine lv_iconst (v := -1) hx hb dX11_like_69 (by decide) ?_
    obtain ⟨n15, hn15, in15, hf⟩ := hf
    refine hw_iast E hR hS hw hn15 in15 dX11_like_70 (fun m16 H locs em16 hR hS => ?_)
    replace hf := hf m16 em16
    refine lv_aload_n hx hb dX11_like_71 rfl (lv_at hl 0 rfl) ?_
    obtain ⟨b17, hb17, hf⟩ := hf
    refine hw_getR E hR cI10 hs0 69 (by decide) lfX11_472 rfl hb17 dX11_like_72 ?_
    refine lv_iload_n hx hb dX11_like_75 rfl (lv_at hl 3 rfl) ?_
    refine lv_iconst (v := -1) hx hb dX11_like_76 (by decide) ?_
    obtain ⟨n18, hn18, in18, hf⟩ := hf
    refine hw_iast E hR hS hw hn18 in18 dX11_like_77 (fun m19 H locs em19 hR hS => ?_)
    replace hf := hf m19 em19
    obtain ⟨v20, ev20⟩ : ∃ y : Int32, y = x3 + (1 : Int32) := ⟨_, rfl⟩
    replace hf := hf v20 ev20
    refine lv_iinc (v := v20) (lv' := [(3, .int v20), (0, .ref (ad g a0)), (1, .int x1), (2, .int x2)]) hx hb dX11_like_78 hl (k := 3) rfl (by rw [ev20]; rfl) (by decide) rfl (fun ls hl => ?_)
    refine lv_goto (tgt := 58) hx hb dX11_like_81 (by decide) ?_
    exact hBK58 _ _ _ _ _ hf hR hS (lv_sub hl [1, 2, 3, 0] rfl)
def f_X11_like_L58 (S : Ss) (a0 : Nat) (x1 : Int32) (x2 : Int32) (EK58 : Mm → Prop) (K : Int32 → Mm → Prop) : Nat → Int32 → Mm → Prop
  | 0, _, _ => False
  | n + 1, x3, M => f_X11_like_B58 S a0 x1 x2 x3 M (fun (x3 : Int32) (M : Mm) => f_X11_like_L58 S a0 x1 x2 EK58 K n x3 M) EK58 K
set_option maxHeartbeats 4000000 in
set_option maxRecDepth 100000 in
theorem w_X11_like_L58 {p : Program} {l : Launch} {e : Env} {s : State} {m : MethodId} {args : Array Value} {below : List Frame} {meth : Method} {c : Code} {g : Gg} {S : Ss} (a0 : Nat) (x1 : Int32) (x2 : Int32) (EK58 : Mm → Prop) (K : Int32 → Mm → Prop) (E : EN p s m args meth c cX11_like 9 (some .int) RX11 g) (hw : ad g 100000 < s.heap.size) (hs0 : S[a0]? = some (10, 0)) (hEK58 : ∀ (M' : Mm) (H : Heap) (locs : List Loc) (ls : Array Slot), EK58 M' → RP g S M' H → va_S (gA g) s.heap H locs → lv_has ls 9 [(0, .ref (ad g a0)), (1, .int x1), (2, .int x2)] → W p l e (rmD 1) s m args below meth c H locs 0 0 (MQ below (QA g S (pI K)) args s 0 0 (gA g)) (F0 m 84 ls [])) : ∀ (n : Nat) (x3 : Int32) (M : Mm), f_X11_like_L58 S a0 x1 x2 EK58 K n x3 M → ∀ (H : Heap) (locs : List Loc) (ls : Array Slot), RP g S M H → va_S (gA g) s.heap H locs → lv_has ls 9 [(0, .ref (ad g a0)), (1, .int x1), (2, .int x2), (3, .int x3)] → W p l e (rmD 1) s m args below meth c H locs 0 0 (MQ below (QA g S (pI K)) args s 0 0 (gA g)) (F0 m 58 ls []) := by
  intro n
  induction n with
  | zero => intro x3 M hf; exact hf.elim
  | succ n ih =>
    intro x3 M hf H locs ls hR hS hl
    exact w_X11_like_B58 _ _ _ _ _ _ _ _ E hw hs0 (fun _ M H locs ls h hR hS hl => ih _ M h H locs ls hR hS hl) hEK58 hf H locs ls hR hS hl
def f_X11_like_J225 (S : Ss) (a0 : Nat) (x1 : Int32) (x2 : Int32) (x3 : Int32) (x7 : Int32) (x8 : Int32) (M : Mm) (BK86 : Int32 → Mm → Prop) (K : Int32 → Mm → Prop) : Prop :=
  ∃ b40 : Nat, M.2.2 a0 68 = some b40 ∧
  ∃ n41 : Nat, shp S b40 = some (50, n41) ∧ vp_in x7 n41 ∧
  (((M.1 b40 x7.toNatClampNeg) = x8 →
    ∃ b43 : Nat, M.2.2 a0 69 = some b43 ∧
    ∃ n44 : Nat, shp S b43 = some (50, n44) ∧ vp_in x8 n44 ∧
    (((M.1 b43 x8.toNatClampNeg) = x7 →
      ∀ v46 : Int32, v46 = x3 + (1 : Int32) →
      BK86 v46 M) ∧
     (¬ (M.1 b43 x8.toNatClampNeg) = x7 →
      K (0 : Int32) M))) ∧
   (¬ (M.1 b40 x7.toNatClampNeg) = x8 →
    K (0 : Int32) M))
set_option maxHeartbeats 4000000 in
set_option maxRecDepth 100000 in
theorem w_X11_like_J225 {p : Program} {l : Launch} {e : Env} {s : State} {m : MethodId} {args : Array Value} {below : List Frame} {meth : Method} {c : Code} {g : Gg} {S : Ss} (a0 : Nat) (x1 : Int32) (x2 : Int32) (x3 : Int32) (x7 : Int32) (x8 : Int32) (M : Mm) (BK86 : Int32 → Mm → Prop) (K : Int32 → Mm → Prop) (E : EN p s m args meth c cX11_like 9 (some .int) RX11 g) (hw : ad g 100000 < s.heap.size) (hs0 : S[a0]? = some (10, 0)) (hBK86 : ∀ (x3' : Int32) (M' : Mm) (H : Heap) (locs : List Loc) (ls : Array Slot), BK86 x3' M' → RP g S M' H → va_S (gA g) s.heap H locs → lv_has ls 9 [(0, .ref (ad g a0)), (1, .int x1), (2, .int x2), (3, .int x3')] → W p l e (rmD 1) s m args below meth c H locs 0 0 (MQ below (QA g S (pI K)) args s 0 0 (gA g)) (F0 m 86 ls [])) (hf : f_X11_like_J225 S a0 x1 x2 x3 x7 x8 M BK86 K) (H : Heap) (locs : List Loc) (ls : Array Slot) (hR : RP g S M H) (hS : va_S (gA g) s.heap H locs) (hl : lv_has ls 9 [(0, .ref (ad g a0)), (1, .int x1), (2, .int x2), (3, .int x3), (7, .int x7), (8, .int x8)]) : W p l e (rmD 1) s m args below meth c H locs 0 0 (MQ below (QA g S (pI K)) args s 0 0 (gA g)) (F0 m 225 ls []) := by
  have hx := E.1
  have hb := E.2.1
  unfold f_X11_like_J225 at hf
  refine lv_aload_n hx hb dX11_like_225 rfl (lv_at hl 0 rfl) ?_
  obtain ⟨b40, hb40, hf⟩ := hf
  refine hw_getR E hR cI10 hs0 68 (by decide) lfX11_469 rfl hb40 dX11_like_226 ?_
  refine lv_iload hx hb dX11_like_229 (lv_at hl 4 rfl) ?_
  obtain ⟨n41, hn41, in41, hf⟩ := hf
  refine hw_iald E hR hS hn41 in41 dX11_like_231 ?_
  refine lv_iload hx hb dX11_like_232 (lv_at hl 5 rfl) ?_
  refine lv_icmp_ne (tgt := 249) hx hb dX11_like_234 (by decide) (fun c42 => ?_) (fun c42 => ?_)
  · replace hf := hf.2 c42
    refine lv_iconst (v := 0) hx hb dX11_like_249 (by decide) ?_
    exact hw_iret E hR hS ⟨_, rfl, hf⟩ dX11_like_250
  · replace hf := hf.1 c42
    refine lv_aload_n hx hb dX11_like_237 rfl (lv_at hl 0 rfl) ?_
    obtain ⟨b43, hb43, hf⟩ := hf
    refine hw_getR E hR cI10 hs0 69 (by decide) lfX11_472 rfl hb43 dX11_like_238 ?_
    refine lv_iload hx hb dX11_like_241 (lv_at hl 5 rfl) ?_
    obtain ⟨n44, hn44, in44, hf⟩ := hf
    refine hw_iald E hR hS hn44 in44 dX11_like_243 ?_
    refine lv_iload hx hb dX11_like_244 (lv_at hl 4 rfl) ?_
    refine lv_icmp_eq (tgt := 251) hx hb dX11_like_246 (by decide) (fun c45 => ?_) (fun c45 => ?_)
    · replace hf := hf.1 c45
      obtain ⟨v46, ev46⟩ : ∃ y : Int32, y = x3 + (1 : Int32) := ⟨_, rfl⟩
      replace hf := hf v46 ev46
      refine lv_iinc (v := v46) (lv' := [(3, .int v46), (0, .ref (ad g a0)), (1, .int x1), (2, .int x2), (7, .int x7), (8, .int x8)]) hx hb dX11_like_251 hl (k := 3) rfl (by rw [ev46]; rfl) (by decide) rfl (fun ls hl => ?_)
      refine lv_goto (tgt := 86) hx hb dX11_like_254 (by decide) ?_
      exact hBK86 _ _ _ _ _ hf hR hS (lv_sub hl [1, 2, 3, 0] rfl)
    · replace hf := hf.2 c45
      refine lv_iconst (v := 0) hx hb dX11_like_249 (by decide) ?_
      exact hw_iret E hR hS ⟨_, rfl, hf⟩ dX11_like_250
def f_X11_like_J157 (S : Ss) (a0 : Nat) (x1 : Int32) (x2 : Int32) (x3 : Int32) (x4 : Int32) (x5 : Int32) (t0 : Int32) (M : Mm) (BK86 : Int32 → Mm → Prop) (K : Int32 → Mm → Prop) : Prop :=
  ((t0 = 0 →
    ((x4 = x5 →
      ∀ v57 : Int32, v57 = x3 + (1 : Int32) →
      BK86 v57 M) ∧
     (¬ x4 = x5 →
      K (0 : Int32) M))) ∧
   (¬ t0 = 0 →
    ∀ v35 : Int32, v35 = (x4 - (97 : Int32)) →
    ∀ v36 : Int32, v36 = (x5 - (97 : Int32)) →
    ∃ b37 : Nat, M.2.2 a0 68 = some b37 ∧
    ∃ n38 : Nat, shp S b37 = some (50, n38) ∧ vp_in v35 n38 ∧
    ((0 ≤ (M.1 b37 v35.toNatClampNeg) →
      f_X11_like_J225 S a0 x1 x2 x3 v35 v36 M BK86 K) ∧
     (¬ 0 ≤ (M.1 b37 v35.toNatClampNeg) →
      ∃ b47 : Nat, M.2.2 a0 69 = some b47 ∧
      ∃ n48 : Nat, shp S b47 = some (50, n48) ∧ vp_in v36 n48 ∧
      ((0 ≤ (M.1 b47 v36.toNatClampNeg) →
        f_X11_like_J225 S a0 x1 x2 x3 v35 v36 M BK86 K) ∧
       (¬ 0 ≤ (M.1 b47 v36.toNatClampNeg) →
        ∃ b50 : Nat, M.2.2 a0 68 = some b50 ∧
        ∃ n51 : Nat, S[b50]? = some (50, n51) ∧ vp_in v35 n51 ∧
        ∀ m52 : Mm, m52 = stI M b50 v35.toNatClampNeg v36 →
        ∃ b53 : Nat, m52.2.2 a0 69 = some b53 ∧
        ∃ n54 : Nat, S[b53]? = some (50, n54) ∧ vp_in v36 n54 ∧
        ∀ m55 : Mm, m55 = stI m52 b53 v36.toNatClampNeg v35 →
        f_X11_like_J225 S a0 x1 x2 x3 v35 v36 m55 BK86 K))))))
set_option maxHeartbeats 4000000 in
set_option maxRecDepth 100000 in
theorem w_X11_like_J157 {p : Program} {l : Launch} {e : Env} {s : State} {m : MethodId} {args : Array Value} {below : List Frame} {meth : Method} {c : Code} {g : Gg} {S : Ss} (a0 : Nat) (x1 : Int32) (x2 : Int32) (x3 : Int32) (x4 : Int32) (x5 : Int32) (t0 : Int32) (M : Mm) (BK86 : Int32 → Mm → Prop) (K : Int32 → Mm → Prop) (E : EN p s m args meth c cX11_like 9 (some .int) RX11 g) (hw : ad g 100000 < s.heap.size) (hs0 : S[a0]? = some (10, 0)) (hBK86 : ∀ (x3' : Int32) (M' : Mm) (H : Heap) (locs : List Loc) (ls : Array Slot), BK86 x3' M' → RP g S M' H → va_S (gA g) s.heap H locs → lv_has ls 9 [(0, .ref (ad g a0)), (1, .int x1), (2, .int x2), (3, .int x3')] → W p l e (rmD 1) s m args below meth c H locs 0 0 (MQ below (QA g S (pI K)) args s 0 0 (gA g)) (F0 m 86 ls [])) (hf : f_X11_like_J157 S a0 x1 x2 x3 x4 x5 t0 M BK86 K) (H : Heap) (locs : List Loc) (ls : Array Slot) (hR : RP g S M H) (hS : va_S (gA g) s.heap H locs) (hl : lv_has ls 9 [(0, .ref (ad g a0)), (1, .int x1), (2, .int x2), (3, .int x3), (4, .int x4), (5, .int x5)]) : W p l e (rmD 1) s m args below meth c H locs 0 0 (MQ below (QA g S (pI K)) args s 0 0 (gA g)) (F0 m 157 ls [.int t0]) := by
  have hx := E.1
  have hb := E.2.1
  unfold f_X11_like_J157 at hf
  refine lv_istore (lv' := [(6, .int t0), (0, .ref (ad g a0)), (1, .int x1), (2, .int x2), (3, .int x3), (4, .int x4), (5, .int x5)]) hx hb dX11_like_157 hl (by decide) rfl (fun ls hl => ?_)
  refine lv_iload hx hb dX11_like_159 (lv_at hl 0 rfl) ?_
  refine lv_if_ne (tgt := 173) hx hb dX11_like_161 (by decide) (fun c34 => ?_) (fun c34 => ?_)
  · replace hf := hf.2 c34
    refine lv_iload hx hb dX11_like_173 (lv_at hl 5 rfl) ?_
    refine lv_bipush (v := 97) hx hb dX11_like_175 (by decide) ?_
    refine lv_isub hx hb dX11_like_177 ?_
    refine lv_topi (fun v35 ev35 => ?_)
    replace hf := hf v35 ev35
    refine lv_istore (lv' := [(7, .int v35), (6, .int t0), (0, .ref (ad g a0)), (1, .int x1), (2, .int x2), (3, .int x3), (4, .int x4), (5, .int x5)]) hx hb dX11_like_178 hl (by decide) rfl (fun ls hl => ?_)
    refine lv_iload hx hb dX11_like_180 (lv_at hl 7 rfl) ?_
    refine lv_bipush (v := 97) hx hb dX11_like_182 (by decide) ?_
    refine lv_isub hx hb dX11_like_184 ?_
    refine lv_topi (fun v36 ev36 => ?_)
    replace hf := hf v36 ev36
    refine lv_istore (lv' := [(8, .int v36), (7, .int v35), (6, .int t0), (0, .ref (ad g a0)), (1, .int x1), (2, .int x2), (3, .int x3), (4, .int x4), (5, .int x5)]) hx hb dX11_like_185 hl (by decide) rfl (fun ls hl => ?_)
    refine lv_aload_n hx hb dX11_like_187 rfl (lv_at hl 3 rfl) ?_
    obtain ⟨b37, hb37, hf⟩ := hf
    refine hw_getR E hR cI10 hs0 68 (by decide) lfX11_469 rfl hb37 dX11_like_188 ?_
    refine lv_iload hx hb dX11_like_191 (lv_at hl 1 rfl) ?_
    obtain ⟨n38, hn38, in38, hf⟩ := hf
    refine hw_iald E hR hS hn38 in38 dX11_like_193 ?_
    refine lv_if_ge (tgt := 225) hx hb dX11_like_194 (by decide) (fun c39 => ?_) (fun c39 => ?_)
    · replace hf := hf.1 c39
      exact w_X11_like_J225 _ _ _ _ _ _ _ _ _ E hw hs0 hBK86 hf _ _ _ hR hS (lv_sub hl [3, 4, 5, 6, 1, 0] rfl)
    · replace hf := hf.2 c39
      refine lv_aload_n hx hb dX11_like_197 rfl (lv_at hl 3 rfl) ?_
      obtain ⟨b47, hb47, hf⟩ := hf
      refine hw_getR E hR cI10 hs0 69 (by decide) lfX11_472 rfl hb47 dX11_like_198 ?_
      refine lv_iload hx hb dX11_like_201 (lv_at hl 0 rfl) ?_
      obtain ⟨n48, hn48, in48, hf⟩ := hf
      refine hw_iald E hR hS hn48 in48 dX11_like_203 ?_
      refine lv_if_ge (tgt := 225) hx hb dX11_like_204 (by decide) (fun c49 => ?_) (fun c49 => ?_)
      · replace hf := hf.1 c49
        exact w_X11_like_J225 _ _ _ _ _ _ _ _ _ E hw hs0 hBK86 hf _ _ _ hR hS (lv_sub hl [3, 4, 5, 6, 1, 0] rfl)
      · replace hf := hf.2 c49
        refine lv_aload_n hx hb dX11_like_207 rfl (lv_at hl 3 rfl) ?_
        obtain ⟨b50, hb50, hf⟩ := hf
        refine hw_getR E hR cI10 hs0 68 (by decide) lfX11_469 rfl hb50 dX11_like_208 ?_
        refine lv_iload hx hb dX11_like_211 (lv_at hl 1 rfl) ?_
        refine lv_iload hx hb dX11_like_213 (lv_at hl 0 rfl) ?_
        obtain ⟨n51, hn51, in51, hf⟩ := hf
        refine hw_iast E hR hS hw hn51 in51 dX11_like_215 (fun m52 H locs em52 hR hS => ?_)
        replace hf := hf m52 em52
        refine lv_aload_n hx hb dX11_like_216 rfl (lv_at hl 3 rfl) ?_
        obtain ⟨b53, hb53, hf⟩ := hf
        refine hw_getR E hR cI10 hs0 69 (by decide) lfX11_472 rfl hb53 dX11_like_217 ?_
        refine lv_iload hx hb dX11_like_220 (lv_at hl 0 rfl) ?_
        refine lv_iload hx hb dX11_like_222 (lv_at hl 1 rfl) ?_
        obtain ⟨n54, hn54, in54, hf⟩ := hf
        refine hw_iast E hR hS hw hn54 in54 dX11_like_224 (fun m55 H locs em55 hR hS => ?_)
        replace hf := hf m55 em55
        exact w_X11_like_J225 _ _ _ _ _ _ _ _ _ E hw hs0 hBK86 hf _ _ _ hR hS (lv_sub hl [3, 4, 5, 6, 1, 0] rfl)
  · replace hf := hf.1 c34
    refine lv_iload hx hb dX11_like_164 (lv_at hl 5 rfl) ?_
    refine lv_iload hx hb dX11_like_166 (lv_at hl 6 rfl) ?_
    refine lv_icmp_eq (tgt := 251) hx hb dX11_like_168 (by decide) (fun c56 => ?_) (fun c56 => ?_)
    · replace hf := hf.1 c56
      obtain ⟨v57, ev57⟩ : ∃ y : Int32, y = x3 + (1 : Int32) := ⟨_, rfl⟩
      replace hf := hf v57 ev57
      refine lv_iinc (v := v57) (lv' := [(3, .int v57), (6, .int t0), (0, .ref (ad g a0)), (1, .int x1), (2, .int x2), (4, .int x4), (5, .int x5)]) hx hb dX11_like_251 hl (k := 4) rfl (by rw [ev57]; rfl) (by decide) rfl (fun ls hl => ?_)
      refine lv_goto (tgt := 86) hx hb dX11_like_254 (by decide) ?_
      exact hBK86 _ _ _ _ _ hf hR hS (lv_sub hl [2, 3, 4, 0] rfl)
    · replace hf := hf.2 c56
      refine lv_iconst (v := 0) hx hb dX11_like_171 (by decide) ?_
      exact hw_iret E hR hS ⟨_, rfl, hf⟩ dX11_like_172
def f_X11_like_J156 (S : Ss) (a0 : Nat) (x1 : Int32) (x2 : Int32) (x3 : Int32) (x4 : Int32) (x5 : Int32) (M : Mm) (BK86 : Int32 → Mm → Prop) (K : Int32 → Mm → Prop) : Prop :=
  f_X11_like_J157 S a0 x1 x2 x3 x4 x5 (0 : Int32) M BK86 K
set_option maxHeartbeats 4000000 in
set_option maxRecDepth 100000 in
theorem w_X11_like_J156 {p : Program} {l : Launch} {e : Env} {s : State} {m : MethodId} {args : Array Value} {below : List Frame} {meth : Method} {c : Code} {g : Gg} {S : Ss} (a0 : Nat) (x1 : Int32) (x2 : Int32) (x3 : Int32) (x4 : Int32) (x5 : Int32) (M : Mm) (BK86 : Int32 → Mm → Prop) (K : Int32 → Mm → Prop) (E : EN p s m args meth c cX11_like 9 (some .int) RX11 g) (hw : ad g 100000 < s.heap.size) (hs0 : S[a0]? = some (10, 0)) (hBK86 : ∀ (x3' : Int32) (M' : Mm) (H : Heap) (locs : List Loc) (ls : Array Slot), BK86 x3' M' → RP g S M' H → va_S (gA g) s.heap H locs → lv_has ls 9 [(0, .ref (ad g a0)), (1, .int x1), (2, .int x2), (3, .int x3')] → W p l e (rmD 1) s m args below meth c H locs 0 0 (MQ below (QA g S (pI K)) args s 0 0 (gA g)) (F0 m 86 ls [])) (hf : f_X11_like_J156 S a0 x1 x2 x3 x4 x5 M BK86 K) (H : Heap) (locs : List Loc) (ls : Array Slot) (hR : RP g S M H) (hS : va_S (gA g) s.heap H locs) (hl : lv_has ls 9 [(0, .ref (ad g a0)), (1, .int x1), (2, .int x2), (3, .int x3), (4, .int x4), (5, .int x5)]) : W p l e (rmD 1) s m args below meth c H locs 0 0 (MQ below (QA g S (pI K)) args s 0 0 (gA g)) (F0 m 156 ls []) := by
  have hx := E.1
  have hb := E.2.1
  unfold f_X11_like_J156 at hf
  refine lv_iconst (v := 0) hx hb dX11_like_156 (by decide) ?_
  exact w_X11_like_J157 _ _ _ _ _ _ _ _ _ _ E hw hs0 hBK86 hf _ _ _ hR hS (lv_sub hl [0, 1, 2, 3, 4, 5] rfl)
def f_X11_like_B86 (S : Ss) (a0 : Nat) (x1 : Int32) (x2 : Int32) (x3 : Int32) (M : Mm) (BK86 : Int32 → Mm → Prop) (EK86 : Mm → Prop) (K : Int32 → Mm → Prop) : Prop :=
  ∃ b22 : Nat, M.2.2 a0 18 = some b22 ∧
  ∃ n23 : Nat, shp S b22 = some (50, n23) ∧ vp_in x1 n23 ∧
  (((M.1 b22 x1.toNatClampNeg) ≤ x3 →
    EK86 M) ∧
   (¬ (M.1 b22 x1.toNatClampNeg) ≤ x3 →
    ∃ b25 : Nat, M.2.2 a0 17 = some b25 ∧
    ∃ n26 : Nat, shp S b25 = some (50, n26) ∧ vp_in (((60 : Int32) * x1) + x3) n26 ∧
    ∀ v27 : Int32, v27 = (M.1 b25 (((60 : Int32) * x1) + x3).toNatClampNeg) →
    ∃ b28 : Nat, M.2.2 a0 17 = some b28 ∧
    ∃ n29 : Nat, shp S b28 = some (50, n29) ∧ vp_in (((60 : Int32) * x2) + x3) n29 ∧
    ∀ v30 : Int32, v30 = (M.1 b28 (((60 : Int32) * x2) + x3).toNatClampNeg) →
    f_X11_in S  v27.toInt64 (97 : Int64) (104 : Int64) M (fun (r32 : Int32) (m31 : Mm) =>
      ((r32 = 0 →
      f_X11_like_J156 S a0 x1 x2 x3 v27 v30 m31 BK86 K) ∧
     (¬ r32 = 0 →
      f_X11_in S  v30.toInt64 (97 : Int64) (104 : Int64) m31 (fun (r59 : Int32) (m58 : Mm) =>
        ((r59 = 0 →
        f_X11_like_J156 S a0 x1 x2 x3 v27 v30 m58 BK86 K) ∧
       (¬ r59 = 0 →
        f_X11_like_J157 S a0 x1 x2 x3 v27 v30 (1 : Int32) m58 BK86 K))))))))
set_option maxHeartbeats 4000000 in
set_option maxRecDepth 100000 in
theorem w_X11_like_B86 {p : Program} {l : Launch} {e : Env} {s : State} {m : MethodId} {args : Array Value} {below : List Frame} {meth : Method} {c : Code} {g : Gg} {S : Ss} (a0 : Nat) (x1 : Int32) (x2 : Int32) (x3 : Int32) (M : Mm) (BK86 : Int32 → Mm → Prop) (EK86 : Mm → Prop) (K : Int32 → Mm → Prop) (E : EN p s m args meth c cX11_like 9 (some .int) RX11 g) (hw : ad g 100000 < s.heap.size) (hs0 : S[a0]? = some (10, 0)) (hBK86 : ∀ (x3' : Int32) (M' : Mm) (H : Heap) (locs : List Loc) (ls : Array Slot), BK86 x3' M' → RP g S M' H → va_S (gA g) s.heap H locs → lv_has ls 9 [(0, .ref (ad g a0)), (1, .int x1), (2, .int x2), (3, .int x3')] → W p l e (rmD 1) s m args below meth c H locs 0 0 (MQ below (QA g S (pI K)) args s 0 0 (gA g)) (F0 m 86 ls [])) (hEK86 : ∀ (M' : Mm) (H : Heap) (locs : List Loc) (ls : Array Slot), EK86 M' → RP g S M' H → va_S (gA g) s.heap H locs → lv_has ls 9 [(0, .ref (ad g a0))] → W p l e (rmD 1) s m args below meth c H locs 0 0 (MQ below (QA g S (pI K)) args s 0 0 (gA g)) (F0 m 257 ls [])) (hf : f_X11_like_B86 S a0 x1 x2 x3 M BK86 EK86 K) (H : Heap) (locs : List Loc) (ls : Array Slot) (hR : RP g S M H) (hS : va_S (gA g) s.heap H locs) (hl : lv_has ls 9 [(0, .ref (ad g a0)), (1, .int x1), (2, .int x2), (3, .int x3)]) : W p l e (rmD 1) s m args below meth c H locs 0 0 (MQ below (QA g S (pI K)) args s 0 0 (gA g)) (F0 m 86 ls []) := by
  have hx := E.1
  have hb := E.2.1
  unfold f_X11_like_B86 at hf
  refine lv_iload_n hx hb dX11_like_86 rfl (lv_at hl 3 rfl) ?_
  refine lv_aload_n hx hb dX11_like_87 rfl (lv_at hl 0 rfl) ?_
  obtain ⟨b22, hb22, hf⟩ := hf
  refine hw_getR E hR cI10 hs0 18 (by decide) lfX11_139 rfl hb22 dX11_like_88 ?_
  refine lv_iload_n hx hb dX11_like_91 rfl (lv_at hl 1 rfl) ?_
  obtain ⟨n23, hn23, in23, hf⟩ := hf
  refine hw_iald E hR hS hn23 in23 dX11_like_92 ?_
  refine lv_icmp_ge (tgt := 257) hx hb dX11_like_93 (by decide) (fun c24 => ?_) (fun c24 => ?_)
  · replace hf := hf.1 c24
    exact hEK86  _ _ _ _ hf hR hS (lv_sub hl [0] rfl)
  · replace hf := hf.2 c24
    refine lv_aload_n hx hb dX11_like_96 rfl (lv_at hl 0 rfl) ?_
    obtain ⟨b25, hb25, hf⟩ := hf
    refine hw_getR E hR cI10 hs0 17 (by decide) lfX11_136 rfl hb25 dX11_like_97 ?_
    refine lv_bipush (v := 60) hx hb dX11_like_100 (by decide) ?_
    refine lv_iload_n hx hb dX11_like_102 rfl (lv_at hl 1 rfl) ?_
    refine lv_imul hx hb dX11_like_103 ?_
    refine lv_iload_n hx hb dX11_like_104 rfl (lv_at hl 3 rfl) ?_
    refine lv_iadd hx hb dX11_like_105 ?_
    obtain ⟨n26, hn26, in26, hf⟩ := hf
    refine hw_iald E hR hS hn26 in26 dX11_like_106 ?_
    refine lv_topi (fun v27 ev27 => ?_)
    replace hf := hf v27 ev27
    refine lv_istore (lv' := [(4, .int v27), (0, .ref (ad g a0)), (1, .int x1), (2, .int x2), (3, .int x3)]) hx hb dX11_like_107 hl (by decide) rfl (fun ls hl => ?_)
    refine lv_aload_n hx hb dX11_like_109 rfl (lv_at hl 1 rfl) ?_
    obtain ⟨b28, hb28, hf⟩ := hf
    refine hw_getR E hR cI10 hs0 17 (by decide) lfX11_136 rfl hb28 dX11_like_110 ?_
    refine lv_bipush (v := 60) hx hb dX11_like_113 (by decide) ?_
    refine lv_iload_n hx hb dX11_like_115 rfl (lv_at hl 3 rfl) ?_
    refine lv_imul hx hb dX11_like_116 ?_
    refine lv_iload_n hx hb dX11_like_117 rfl (lv_at hl 4 rfl) ?_
    refine lv_iadd hx hb dX11_like_118 ?_
    obtain ⟨n29, hn29, in29, hf⟩ := hf
    refine hw_iald E hR hS hn29 in29 dX11_like_119 ?_
    refine lv_topi (fun v30 ev30 => ?_)
    replace hf := hf v30 ev30
    refine lv_istore (lv' := [(5, .int v30), (4, .int v27), (0, .ref (ad g a0)), (1, .int x1), (2, .int x2), (3, .int x3)]) hx hb dX11_like_120 hl (by decide) rfl (fun ls hl => ?_)
    refine lv_iload hx hb dX11_like_122 (lv_at hl 1 rfl) ?_
    refine lv_i2l hx hb dX11_like_124 rfl ?_
    refine lv_ldc2 (v := 97) hx hb E.2.2.2.2.1 (E.2.2.2.2.2.1 _ ljX11_56) dX11_like_125 ?_
    refine lv_ldc2 (v := 104) hx hb E.2.2.2.2.1 (E.2.2.2.2.2.1 _ ljX11_58) dX11_like_128 ?_
    refine hw_callS (d := 1) E hR hS (As := [.long v27.toInt64, .long (97 : Int64), .long (104 : Int64)]) (rest := []) mcX11_in msX11_in lmX11_21 (ok_X11_in  hf) rfl rfl (by decide) hl.1 (Nat.le_of_ble_eq_true rfl) dX11_like_131 (fun rr m31 H locs hp hR hS => ?_)
    obtain ⟨r32, rfl, hf⟩ := hp
    refine W.eq (g2 := F0 m 134 ls [.int r32]) rfl ?_
    refine lv_if_eq (tgt := 156) hx hb dX11_like_134 (by decide) (fun c33 => ?_) (fun c33 => ?_)
    · replace hf := hf.1 c33
      exact w_X11_like_J156 _ _ _ _ _ _ _ _ _ E hw hs0 hBK86 hf _ _ _ hR hS (lv_sub hl [2, 3, 4, 5, 1, 0] rfl)
    · replace hf := hf.2 c33
      refine lv_iload hx hb dX11_like_137 (lv_at hl 0 rfl) ?_
      refine lv_i2l hx hb dX11_like_139 rfl ?_
      refine lv_ldc2 (v := 97) hx hb E.2.2.2.2.1 (E.2.2.2.2.2.1 _ ljX11_56) dX11_like_140 ?_
      refine lv_ldc2 (v := 104) hx hb E.2.2.2.2.1 (E.2.2.2.2.2.1 _ ljX11_58) dX11_like_143 ?_
      refine hw_callS (d := 1) E hR hS (As := [.long v30.toInt64, .long (97 : Int64), .long (104 : Int64)]) (rest := []) mcX11_in msX11_in lmX11_21 (ok_X11_in  hf) rfl rfl (by decide) hl.1 (Nat.le_of_ble_eq_true rfl) dX11_like_146 (fun rr m58 H locs hp hR hS => ?_)
      obtain ⟨r59, rfl, hf⟩ := hp
      refine W.eq (g2 := F0 m 149 ls [.int r59]) rfl ?_
      refine lv_if_eq (tgt := 156) hx hb dX11_like_149 (by decide) (fun c60 => ?_) (fun c60 => ?_)
      · replace hf := hf.1 c60
        exact w_X11_like_J156 _ _ _ _ _ _ _ _ _ E hw hs0 hBK86 hf _ _ _ hR hS (lv_sub hl [2, 3, 4, 5, 1, 0] rfl)
      · replace hf := hf.2 c60
        refine lv_iconst (v := 1) hx hb dX11_like_152 (by decide) ?_
        refine lv_goto (tgt := 157) hx hb dX11_like_153 (by decide) ?_
        exact w_X11_like_J157 _ _ _ _ _ _ _ _ _ _ E hw hs0 hBK86 hf _ _ _ hR hS (lv_sub hl [2, 3, 4, 5, 1, 0] rfl)
def f_X11_like_L86 (S : Ss) (a0 : Nat) (x1 : Int32) (x2 : Int32) (EK86 : Mm → Prop) (K : Int32 → Mm → Prop) : Nat → Int32 → Mm → Prop
  | 0, _, _ => False
  | n + 1, x3, M => f_X11_like_B86 S a0 x1 x2 x3 M (fun (x3 : Int32) (M : Mm) => f_X11_like_L86 S a0 x1 x2 EK86 K n x3 M) EK86 K
set_option maxHeartbeats 4000000 in
set_option maxRecDepth 100000 in
theorem w_X11_like_L86 {p : Program} {l : Launch} {e : Env} {s : State} {m : MethodId} {args : Array Value} {below : List Frame} {meth : Method} {c : Code} {g : Gg} {S : Ss} (a0 : Nat) (x1 : Int32) (x2 : Int32) (EK86 : Mm → Prop) (K : Int32 → Mm → Prop) (E : EN p s m args meth c cX11_like 9 (some .int) RX11 g) (hw : ad g 100000 < s.heap.size) (hs0 : S[a0]? = some (10, 0)) (hEK86 : ∀ (M' : Mm) (H : Heap) (locs : List Loc) (ls : Array Slot), EK86 M' → RP g S M' H → va_S (gA g) s.heap H locs → lv_has ls 9 [(0, .ref (ad g a0))] → W p l e (rmD 1) s m args below meth c H locs 0 0 (MQ below (QA g S (pI K)) args s 0 0 (gA g)) (F0 m 257 ls [])) : ∀ (n : Nat) (x3 : Int32) (M : Mm), f_X11_like_L86 S a0 x1 x2 EK86 K n x3 M → ∀ (H : Heap) (locs : List Loc) (ls : Array Slot), RP g S M H → va_S (gA g) s.heap H locs → lv_has ls 9 [(0, .ref (ad g a0)), (1, .int x1), (2, .int x2), (3, .int x3)] → W p l e (rmD 1) s m args below meth c H locs 0 0 (MQ below (QA g S (pI K)) args s 0 0 (gA g)) (F0 m 86 ls []) := by
  intro n
  induction n with
  | zero => intro x3 M hf; exact hf.elim
  | succ n ih =>
    intro x3 M hf H locs ls hR hS hl
    exact w_X11_like_B86 _ _ _ _ _ _ _ _ E hw hs0 (fun _ M H locs ls h hR hS hl => ih _ M h H locs ls hR hS hl) hEK86 hf H locs ls hR hS hl
def f_X11_like_B264 (S : Ss) (a0 : Nat) (x3 : Int32) (M : Mm) (BK264 : Int32 → Mm → Prop) (EK264 : Mm → Prop) (K : Int32 → Mm → Prop) : Prop :=
  (((8 : Int32) ≤ x3 →
    EK264 M) ∧
   (¬ (8 : Int32) ≤ x3 →
    ∃ b64 : Nat, M.2.2 a0 68 = some b64 ∧
    ∃ n65 : Nat, shp S b64 = some (50, n65) ∧ vp_in x3 n65 ∧
    f_X11_enters S a0 (M.1 b64 x3.toNatClampNeg).toInt64 M (fun (m66 : Mm) =>
      ∀ v67 : Int32, v67 = x3 + (1 : Int32) →
    BK264 v67 m66)))
set_option maxHeartbeats 4000000 in
set_option maxRecDepth 100000 in
theorem w_X11_like_B264 {p : Program} {l : Launch} {e : Env} {s : State} {m : MethodId} {args : Array Value} {below : List Frame} {meth : Method} {c : Code} {g : Gg} {S : Ss} (a0 : Nat) (x3 : Int32) (M : Mm) (BK264 : Int32 → Mm → Prop) (EK264 : Mm → Prop) (K : Int32 → Mm → Prop) (E : EN p s m args meth c cX11_like 9 (some .int) RX11 g) (hw : ad g 100000 < s.heap.size) (hs0 : S[a0]? = some (10, 0)) (hBK264 : ∀ (x3' : Int32) (M' : Mm) (H : Heap) (locs : List Loc) (ls : Array Slot), BK264 x3' M' → RP g S M' H → va_S (gA g) s.heap H locs → lv_has ls 9 [(0, .ref (ad g a0)), (3, .int x3')] → W p l e (rmD 1) s m args below meth c H locs 0 0 (MQ below (QA g S (pI K)) args s 0 0 (gA g)) (F0 m 264 ls [])) (hEK264 : ∀ (M' : Mm) (H : Heap) (locs : List Loc) (ls : Array Slot), EK264 M' → RP g S M' H → va_S (gA g) s.heap H locs → lv_has ls 9 [] → W p l e (rmD 1) s m args below meth c H locs 0 0 (MQ below (QA g S (pI K)) args s 0 0 (gA g)) (F0 m 287 ls [])) (hf : f_X11_like_B264 S a0 x3 M BK264 EK264 K) (H : Heap) (locs : List Loc) (ls : Array Slot) (hR : RP g S M H) (hS : va_S (gA g) s.heap H locs) (hl : lv_has ls 9 [(0, .ref (ad g a0)), (3, .int x3)]) : W p l e (rmD 1) s m args below meth c H locs 0 0 (MQ below (QA g S (pI K)) args s 0 0 (gA g)) (F0 m 264 ls []) := by
  have hx := E.1
  have hb := E.2.1
  unfold f_X11_like_B264 at hf
  refine lv_iload_n hx hb dX11_like_264 rfl (lv_at hl 1 rfl) ?_
  refine lv_bipush (v := 8) hx hb dX11_like_265 (by decide) ?_
  refine lv_icmp_ge (tgt := 287) hx hb dX11_like_267 (by decide) (fun c63 => ?_) (fun c63 => ?_)
  · replace hf := hf.1 c63
    exact hEK264  _ _ _ _ hf hR hS (lv_sub hl [] rfl)
  · replace hf := hf.2 c63
    refine lv_aload_n hx hb dX11_like_270 rfl (lv_at hl 0 rfl) ?_
    refine lv_aload_n hx hb dX11_like_271 rfl (lv_at hl 0 rfl) ?_
    obtain ⟨b64, hb64, hf⟩ := hf
    refine hw_getR E hR cI10 hs0 68 (by decide) lfX11_469 rfl hb64 dX11_like_272 ?_
    refine lv_iload_n hx hb dX11_like_275 rfl (lv_at hl 1 rfl) ?_
    obtain ⟨n65, hn65, in65, hf⟩ := hf
    refine hw_iald E hR hS hn65 in65 dX11_like_276 ?_
    refine lv_i2l hx hb dX11_like_277 rfl ?_
    refine hw_callV (d := 1) E hR hS (As := [.long (M.1 b64 x3.toNatClampNeg).toInt64]) (rest := []) cI10 hs0 rfl mcX11_enters miX11_enters lmX11_262 (ok_X11_enters hs0 hf) rfl rfl (by decide) hl.1 (Nat.le_of_ble_eq_true rfl) dX11_like_278 (fun rr m66 H locs hp hR hS => ?_)
    obtain ⟨rfl, hf⟩ := hp
    refine W.eq (g2 := F0 m 281 ls []) rfl ?_
    obtain ⟨v67, ev67⟩ : ∃ y : Int32, y = x3 + (1 : Int32) := ⟨_, rfl⟩
    replace hf := hf v67 ev67
    refine lv_iinc (v := v67) (lv' := [(3, .int v67), (0, .ref (ad g a0))]) hx hb dX11_like_281 hl (k := 1) rfl (by rw [ev67]; rfl) (by decide) rfl (fun ls hl => ?_)
    refine lv_goto (tgt := 264) hx hb dX11_like_284 (by decide) ?_
    exact hBK264 _ _ _ _ _ hf hR hS (lv_sub hl [1, 0] rfl)
def f_X11_like_L264 (S : Ss) (a0 : Nat) (EK264 : Mm → Prop) (K : Int32 → Mm → Prop) : Nat → Int32 → Mm → Prop
  | 0, _, _ => False
  | n + 1, x3, M => f_X11_like_B264 S a0 x3 M (fun (x3 : Int32) (M : Mm) => f_X11_like_L264 S a0 EK264 K n x3 M) EK264 K
set_option maxHeartbeats 4000000 in
set_option maxRecDepth 100000 in
theorem w_X11_like_L264 {p : Program} {l : Launch} {e : Env} {s : State} {m : MethodId} {args : Array Value} {below : List Frame} {meth : Method} {c : Code} {g : Gg} {S : Ss} (a0 : Nat) (EK264 : Mm → Prop) (K : Int32 → Mm → Prop) (E : EN p s m args meth c cX11_like 9 (some .int) RX11 g) (hw : ad g 100000 < s.heap.size) (hs0 : S[a0]? = some (10, 0)) (hEK264 : ∀ (M' : Mm) (H : Heap) (locs : List Loc) (ls : Array Slot), EK264 M' → RP g S M' H → va_S (gA g) s.heap H locs → lv_has ls 9 [] → W p l e (rmD 1) s m args below meth c H locs 0 0 (MQ below (QA g S (pI K)) args s 0 0 (gA g)) (F0 m 287 ls [])) : ∀ (n : Nat) (x3 : Int32) (M : Mm), f_X11_like_L264 S a0 EK264 K n x3 M → ∀ (H : Heap) (locs : List Loc) (ls : Array Slot), RP g S M H → va_S (gA g) s.heap H locs → lv_has ls 9 [(0, .ref (ad g a0)), (3, .int x3)] → W p l e (rmD 1) s m args below meth c H locs 0 0 (MQ below (QA g S (pI K)) args s 0 0 (gA g)) (F0 m 264 ls []) := by
  intro n
  induction n with
  | zero => intro x3 M hf; exact hf.elim
  | succ n ih =>
    intro x3 M hf H locs ls hR hS hl
    exact w_X11_like_B264 _ _ _ _ _ _ E hw hs0 (fun _ M H locs ls h hR hS hl => ih _ M h H locs ls hR hS hl) hEK264 hf H locs ls hR hS hl
def f_X11_like (S : Ss) (a0 : Nat) (x1 : Int32) (x2 : Int32) (M : Mm) (K : Int32 → Mm → Prop) : Prop :=
  ∀ m1 : Mm, m1 = stI M a0 0 (0 : Int32) →
  f_X11_in S  x1.toInt64 (0 : Int64) ((m1.1 a0 15) - (1 : Int32)).toInt64 m1 (fun (r3 : Int32) (m2 : Mm) =>
    ((r3 = 0 →
    K (-1 : Int32) m2) ∧
   (¬ r3 = 0 →
    f_X11_in S  x2.toInt64 (0 : Int64) ((m2.1 a0 15) - (1 : Int32)).toInt64 m2 (fun (r6 : Int32) (m5 : Mm) =>
      ((r6 = 0 →
      K (-1 : Int32) m5) ∧
     (¬ r6 = 0 →
      ∃ b8 : Nat, m5.2.2 a0 18 = some b8 ∧
      ∃ n9 : Nat, shp S b8 = some (50, n9) ∧ vp_in x1 n9 ∧
      ∃ b10 : Nat, m5.2.2 a0 18 = some b10 ∧
      ∃ n11 : Nat, shp S b10 = some (50, n11) ∧ vp_in x2 n11 ∧
      (((m5.1 b8 x1.toNatClampNeg) = (m5.1 b10 x2.toNatClampNeg) →
        ∃ n71 : Nat, f_X11_like_L58 S a0 x1 x2 (fun (m21 : Mm) =>
          ∃ n70 : Nat, f_X11_like_L86 S a0 x1 x2 (fun (m61 : Mm) =>
            ∀ m62 : Mm, m62 = stI m61 a0 1 (0 : Int32) →
            ∃ n69 : Nat, f_X11_like_L264 S a0 (fun (m68 : Mm) =>
              K (1 : Int32) m68) K n69 (0 : Int32) m62) K n70 (0 : Int32) m21) K n71 (0 : Int32) m5) ∧
       (¬ (m5.1 b8 x1.toNatClampNeg) = (m5.1 b10 x2.toNatClampNeg) →
        K (0 : Int32) m5))))))))
set_option maxHeartbeats 4000000 in
set_option maxRecDepth 100000 in
theorem ok_X11_like {l : Launch} {g : Gg} {S : Ss} {a0 : Nat} {x1 : Int32} {x2 : Int32} {M : Mm} {K : Int32 → Mm → Prop} (hs0 : S[a0]? = some (10, 0)) (hf : f_X11_like S a0 x1 x2 M K) : MT l g S yX11_like cX11_like 9 (some .int) 1 [.ref (ad g a0), .int x1, .int x2] M (pI K) := by
  refine MT.of (by decide +kernel) (Nat.le_of_ble_eq_true rfl) ?_
  intro p e s m below meth c ls E hw hR hS hl
  have hl : lv_has ls 9 [(0, .ref (ad g a0)), (1, .int x1), (2, .int x2)] := hl
  generalize ([.ref (ad g a0), .int x1, .int x2] : List Value).toArray = args at E ⊢
  have E : EN p s m args meth c cX11_like 9 (some .int) RX11 g := E
  have hx := E.1
  have hb := E.2.1
  unfold f_X11_like at hf
  refine lv_aload_n hx hb dX11_like_0 rfl (lv_at hl 0 rfl) ?_
  refine lv_iconst (v := 0) hx hb dX11_like_1 (by decide) ?_
  refine hw_putI E hR hS hw cI10 hs0 0 (by decide) lfX11_3 rfl (Or.inl rfl) dX11_like_2 (fun m1 H locs em1 hR hS => ?_)
  replace hf := hf m1 em1
  refine lv_iload_n hx hb dX11_like_5 rfl (lv_at hl 1 rfl) ?_
  refine lv_i2l hx hb dX11_like_6 rfl ?_
  refine lv_lconst (v := 0) hx hb dX11_like_7 (by decide) ?_
  refine lv_aload_n hx hb dX11_like_8 rfl (lv_at hl 0 rfl) ?_
  refine hw_getI E hR cI10 hs0 15 (by decide) lfX11_121 rfl dX11_like_9 ?_
  refine lv_iconst (v := 1) hx hb dX11_like_12 (by decide) ?_
  refine lv_isub hx hb dX11_like_13 ?_
  refine lv_i2l hx hb dX11_like_14 rfl ?_
  refine hw_callS (d := 1) E hR hS (As := [.long x1.toInt64, .long (0 : Int64), .long ((m1.1 a0 15) - (1 : Int32)).toInt64]) (rest := []) mcX11_in msX11_in lmX11_21 (ok_X11_in  hf) rfl rfl (by decide) hl.1 (Nat.le_of_ble_eq_true rfl) dX11_like_15 (fun rr m2 H locs hp hR hS => ?_)
  obtain ⟨r3, rfl, hf⟩ := hp
  refine W.eq (g2 := F0 m 18 ls [.int r3]) rfl ?_
  refine lv_if_eq (tgt := 37) hx hb dX11_like_18 (by decide) (fun c4 => ?_) (fun c4 => ?_)
  · replace hf := hf.1 c4
    refine lv_iconst (v := -1) hx hb dX11_like_37 (by decide) ?_
    exact hw_iret E hR hS ⟨_, rfl, hf⟩ dX11_like_38
  · replace hf := hf.2 c4
    refine lv_iload_n hx hb dX11_like_21 rfl (lv_at hl 2 rfl) ?_
    refine lv_i2l hx hb dX11_like_22 rfl ?_
    refine lv_lconst (v := 0) hx hb dX11_like_23 (by decide) ?_
    refine lv_aload_n hx hb dX11_like_24 rfl (lv_at hl 0 rfl) ?_
    refine hw_getI E hR cI10 hs0 15 (by decide) lfX11_121 rfl dX11_like_25 ?_
    refine lv_iconst (v := 1) hx hb dX11_like_28 (by decide) ?_
    refine lv_isub hx hb dX11_like_29 ?_
    refine lv_i2l hx hb dX11_like_30 rfl ?_
    refine hw_callS (d := 1) E hR hS (As := [.long x2.toInt64, .long (0 : Int64), .long ((m2.1 a0 15) - (1 : Int32)).toInt64]) (rest := []) mcX11_in msX11_in lmX11_21 (ok_X11_in  hf) rfl rfl (by decide) hl.1 (Nat.le_of_ble_eq_true rfl) dX11_like_31 (fun rr m5 H locs hp hR hS => ?_)
    obtain ⟨r6, rfl, hf⟩ := hp
    refine W.eq (g2 := F0 m 34 ls [.int r6]) rfl ?_
    refine lv_if_ne (tgt := 39) hx hb dX11_like_34 (by decide) (fun c7 => ?_) (fun c7 => ?_)
    · replace hf := hf.2 c7
      refine lv_aload_n hx hb dX11_like_39 rfl (lv_at hl 0 rfl) ?_
      obtain ⟨b8, hb8, hf⟩ := hf
      refine hw_getR E hR cI10 hs0 18 (by decide) lfX11_139 rfl hb8 dX11_like_40 ?_
      refine lv_iload_n hx hb dX11_like_43 rfl (lv_at hl 1 rfl) ?_
      obtain ⟨n9, hn9, in9, hf⟩ := hf
      refine hw_iald E hR hS hn9 in9 dX11_like_44 ?_
      refine lv_aload_n hx hb dX11_like_45 rfl (lv_at hl 0 rfl) ?_
      obtain ⟨b10, hb10, hf⟩ := hf
      refine hw_getR E hR cI10 hs0 18 (by decide) lfX11_139 rfl hb10 dX11_like_46 ?_
      refine lv_iload_n hx hb dX11_like_49 rfl (lv_at hl 2 rfl) ?_
      obtain ⟨n11, hn11, in11, hf⟩ := hf
      refine hw_iald E hR hS hn11 in11 dX11_like_50 ?_
      refine lv_icmp_eq (tgt := 56) hx hb dX11_like_51 (by decide) (fun c12 => ?_) (fun c12 => ?_)
      · replace hf := hf.1 c12
        refine lv_iconst (v := 0) hx hb dX11_like_56 (by decide) ?_
        refine lv_istore_n (lv' := [(3, .int (0 : Int32)), (0, .ref (ad g a0)), (1, .int x1), (2, .int x2)]) hx hb dX11_like_57 rfl hl (by decide) rfl (fun ls hl => ?_)
        obtain ⟨n71, hf⟩ := hf
        refine w_X11_like_L58 _ _ _ _ _ E hw hs0 ?_ n71 _ _ hf _ _ _ hR hS (lv_sub hl [1, 2, 3, 0] rfl)
        intro m21 H locs ls hf hR hS hl
        refine lv_iconst (v := 0) hx hb dX11_like_84 (by decide) ?_
        refine lv_istore_n (lv' := [(3, .int (0 : Int32)), (0, .ref (ad g a0)), (1, .int x1), (2, .int x2)]) hx hb dX11_like_85 rfl hl (by decide) rfl (fun ls hl => ?_)
        obtain ⟨n70, hf⟩ := hf
        refine w_X11_like_L86 _ _ _ _ _ E hw hs0 ?_ n70 _ _ hf _ _ _ hR hS (lv_sub hl [1, 2, 3, 0] rfl)
        intro m61 H locs ls hf hR hS hl
        refine lv_aload_n hx hb dX11_like_257 rfl (lv_at hl 0 rfl) ?_
        refine lv_iconst (v := 0) hx hb dX11_like_258 (by decide) ?_
        refine hw_putI E hR hS hw cI10 hs0 1 (by decide) lfX11_11 rfl (Or.inl rfl) dX11_like_259 (fun m62 H locs em62 hR hS => ?_)
        replace hf := hf m62 em62
        refine lv_iconst (v := 0) hx hb dX11_like_262 (by decide) ?_
        refine lv_istore_n (lv' := [(3, .int (0 : Int32)), (0, .ref (ad g a0))]) hx hb dX11_like_263 rfl hl (by decide) rfl (fun ls hl => ?_)
        obtain ⟨n69, hf⟩ := hf
        refine w_X11_like_L264 _ _ _ E hw hs0 ?_ n69 _ _ hf _ _ _ hR hS (lv_sub hl [1, 0] rfl)
        intro m68 H locs ls hf hR hS hl
        refine lv_iconst (v := 1) hx hb dX11_like_287 (by decide) ?_
        exact hw_iret E hR hS ⟨_, rfl, hf⟩ dX11_like_288
      · replace hf := hf.2 c12
        refine lv_iconst (v := 0) hx hb dX11_like_54 (by decide) ?_
        exact hw_iret E hR hS ⟨_, rfl, hf⟩ dX11_like_55
    · replace hf := hf.1 c7
      refine lv_iconst (v := -1) hx hb dX11_like_37 (by decide) ?_
      exact hw_iret E hR hS ⟨_, rfl, hf⟩ dX11_like_38
def f_X11_given (S : Ss) (a0 : Nat) (x1 : Int32) (x2 : Int32) (x3 : Int32) (M : Mm) (K : Int32 → Mm → Prop) : Prop :=
  ∀ m1 : Mm, m1 = stI M a0 0 (0 : Int32) →
  f_X11_in S  x1.toInt64 (0 : Int64) (5 : Int64) m1 (fun (r3 : Int32) (m2 : Mm) =>
    ((r3 = 0 →
    K (-1 : Int32) m2) ∧
   (¬ r3 = 0 →
    f_X11_in S  x2.toInt64 (0 : Int64) (99 : Int64) m2 (fun (r6 : Int32) (m5 : Mm) =>
      ((r6 = 0 →
      K (-1 : Int32) m5) ∧
     (¬ r6 = 0 →
      f_X11_in S  x3.toInt64 (0 : Int64) (255 : Int64) m5 (fun (r9 : Int32) (m8 : Mm) =>
        ((r9 = 0 →
        K (-1 : Int32) m8) ∧
       (¬ r9 = 0 →
        (((m8.1 a0 70) = (12 : Int32) →
          K (-1 : Int32) m8) ∧
         (¬ (m8.1 a0 70) = (12 : Int32) →
          ∃ b12 : Nat, m8.2.2 a0 71 = some b12 ∧
          ∃ n13 : Nat, S[b12]? = some (50, n13) ∧ vp_in (m8.1 a0 70) n13 ∧
          ∀ m14 : Mm, m14 = stI m8 b12 (m8.1 a0 70).toNatClampNeg x1 →
          ∃ b15 : Nat, m14.2.2 a0 72 = some b15 ∧
          ∃ n16 : Nat, S[b15]? = some (50, n16) ∧ vp_in (m14.1 a0 70) n16 ∧
          ∀ m17 : Mm, m17 = stI m14 b15 (m14.1 a0 70).toNatClampNeg x2 →
          ∃ b18 : Nat, m17.2.2 a0 73 = some b18 ∧
          ∃ n19 : Nat, S[b18]? = some (50, n19) ∧ vp_in (m17.1 a0 70) n19 ∧
          ∀ m20 : Mm, m20 = stI m17 b18 (m17.1 a0 70).toNatClampNeg x3 →
          ∀ m21 : Mm, m21 = stI m20 a0 70 ((m20.1 a0 70) + (1 : Int32)) →
          K ((m21.1 a0 70) - (1 : Int32)) m21)))))))))))
set_option maxHeartbeats 4000000 in
set_option maxRecDepth 100000 in
theorem ok_X11_given {l : Launch} {g : Gg} {S : Ss} {a0 : Nat} {x1 : Int32} {x2 : Int32} {x3 : Int32} {M : Mm} {K : Int32 → Mm → Prop} (hs0 : S[a0]? = some (10, 0)) (hf : f_X11_given S a0 x1 x2 x3 M K) : MT l g S yX11_given cX11_given 4 (some .int) 1 [.ref (ad g a0), .int x1, .int x2, .int x3] M (pI K) := by
  refine MT.of (by decide +kernel) (Nat.le_of_ble_eq_true rfl) ?_
  intro p e s m below meth c ls E hw hR hS hl
  have hl : lv_has ls 4 [(0, .ref (ad g a0)), (1, .int x1), (2, .int x2), (3, .int x3)] := hl
  generalize ([.ref (ad g a0), .int x1, .int x2, .int x3] : List Value).toArray = args at E ⊢
  have E : EN p s m args meth c cX11_given 4 (some .int) RX11 g := E
  have hx := E.1
  have hb := E.2.1
  unfold f_X11_given at hf
  refine lv_aload_n hx hb dX11_given_0 rfl (lv_at hl 0 rfl) ?_
  refine lv_iconst (v := 0) hx hb dX11_given_1 (by decide) ?_
  refine hw_putI E hR hS hw cI10 hs0 0 (by decide) lfX11_3 rfl (Or.inl rfl) dX11_given_2 (fun m1 H locs em1 hR hS => ?_)
  replace hf := hf m1 em1
  refine lv_iload_n hx hb dX11_given_5 rfl (lv_at hl 1 rfl) ?_
  refine lv_i2l hx hb dX11_given_6 rfl ?_
  refine lv_lconst (v := 0) hx hb dX11_given_7 (by decide) ?_
  refine lv_ldc2 (v := 5) hx hb E.2.2.2.2.1 (E.2.2.2.2.2.1 _ ljX11_475) dX11_given_8 ?_
  refine hw_callS (d := 1) E hR hS (As := [.long x1.toInt64, .long (0 : Int64), .long (5 : Int64)]) (rest := []) mcX11_in msX11_in lmX11_21 (ok_X11_in  hf) rfl rfl (by decide) hl.1 (Nat.le_of_ble_eq_true rfl) dX11_given_11 (fun rr m2 H locs hp hR hS => ?_)
  obtain ⟨r3, rfl, hf⟩ := hp
  refine W.eq (g2 := F0 m 14 ls [.int r3]) rfl ?_
  refine lv_if_eq (tgt := 50) hx hb dX11_given_14 (by decide) (fun c4 => ?_) (fun c4 => ?_)
  · replace hf := hf.1 c4
    refine lv_iconst (v := -1) hx hb dX11_given_50 (by decide) ?_
    exact hw_iret E hR hS ⟨_, rfl, hf⟩ dX11_given_51
  · replace hf := hf.2 c4
    refine lv_iload_n hx hb dX11_given_17 rfl (lv_at hl 2 rfl) ?_
    refine lv_i2l hx hb dX11_given_18 rfl ?_
    refine lv_lconst (v := 0) hx hb dX11_given_19 (by decide) ?_
    refine lv_ldc2 (v := 99) hx hb E.2.2.2.2.1 (E.2.2.2.2.2.1 _ ljX11_406) dX11_given_20 ?_
    refine hw_callS (d := 1) E hR hS (As := [.long x2.toInt64, .long (0 : Int64), .long (99 : Int64)]) (rest := []) mcX11_in msX11_in lmX11_21 (ok_X11_in  hf) rfl rfl (by decide) hl.1 (Nat.le_of_ble_eq_true rfl) dX11_given_23 (fun rr m5 H locs hp hR hS => ?_)
    obtain ⟨r6, rfl, hf⟩ := hp
    refine W.eq (g2 := F0 m 26 ls [.int r6]) rfl ?_
    refine lv_if_eq (tgt := 50) hx hb dX11_given_26 (by decide) (fun c7 => ?_) (fun c7 => ?_)
    · replace hf := hf.1 c7
      refine lv_iconst (v := -1) hx hb dX11_given_50 (by decide) ?_
      exact hw_iret E hR hS ⟨_, rfl, hf⟩ dX11_given_51
    · replace hf := hf.2 c7
      refine lv_iload_n hx hb dX11_given_29 rfl (lv_at hl 3 rfl) ?_
      refine lv_i2l hx hb dX11_given_30 rfl ?_
      refine lv_lconst (v := 0) hx hb dX11_given_31 (by decide) ?_
      refine lv_ldc2 (v := 255) hx hb E.2.2.2.2.1 (E.2.2.2.2.2.1 _ ljX11_231) dX11_given_32 ?_
      refine hw_callS (d := 1) E hR hS (As := [.long x3.toInt64, .long (0 : Int64), .long (255 : Int64)]) (rest := []) mcX11_in msX11_in lmX11_21 (ok_X11_in  hf) rfl rfl (by decide) hl.1 (Nat.le_of_ble_eq_true rfl) dX11_given_35 (fun rr m8 H locs hp hR hS => ?_)
      obtain ⟨r9, rfl, hf⟩ := hp
      refine W.eq (g2 := F0 m 38 ls [.int r9]) rfl ?_
      refine lv_if_eq (tgt := 50) hx hb dX11_given_38 (by decide) (fun c10 => ?_) (fun c10 => ?_)
      · replace hf := hf.1 c10
        refine lv_iconst (v := -1) hx hb dX11_given_50 (by decide) ?_
        exact hw_iret E hR hS ⟨_, rfl, hf⟩ dX11_given_51
      · replace hf := hf.2 c10
        refine lv_aload_n hx hb dX11_given_41 rfl (lv_at hl 0 rfl) ?_
        refine hw_getI E hR cI10 hs0 70 (by decide) lfX11_477 rfl dX11_given_42 ?_
        refine lv_bipush (v := 12) hx hb dX11_given_45 (by decide) ?_
        refine lv_icmp_ne (tgt := 52) hx hb dX11_given_47 (by decide) (fun c11 => ?_) (fun c11 => ?_)
        · replace hf := hf.2 c11
          refine lv_aload_n hx hb dX11_given_52 rfl (lv_at hl 0 rfl) ?_
          obtain ⟨b12, hb12, hf⟩ := hf
          refine hw_getR E hR cI10 hs0 71 (by decide) lfX11_480 rfl hb12 dX11_given_53 ?_
          refine lv_aload_n hx hb dX11_given_56 rfl (lv_at hl 0 rfl) ?_
          refine hw_getI E hR cI10 hs0 70 (by decide) lfX11_477 rfl dX11_given_57 ?_
          refine lv_iload_n hx hb dX11_given_60 rfl (lv_at hl 1 rfl) ?_
          obtain ⟨n13, hn13, in13, hf⟩ := hf
          refine hw_iast E hR hS hw hn13 in13 dX11_given_61 (fun m14 H locs em14 hR hS => ?_)
          replace hf := hf m14 em14
          refine lv_aload_n hx hb dX11_given_62 rfl (lv_at hl 0 rfl) ?_
          obtain ⟨b15, hb15, hf⟩ := hf
          refine hw_getR E hR cI10 hs0 72 (by decide) lfX11_483 rfl hb15 dX11_given_63 ?_
          refine lv_aload_n hx hb dX11_given_66 rfl (lv_at hl 0 rfl) ?_
          refine hw_getI E hR cI10 hs0 70 (by decide) lfX11_477 rfl dX11_given_67 ?_
          refine lv_iload_n hx hb dX11_given_70 rfl (lv_at hl 2 rfl) ?_
          obtain ⟨n16, hn16, in16, hf⟩ := hf
          refine hw_iast E hR hS hw hn16 in16 dX11_given_71 (fun m17 H locs em17 hR hS => ?_)
          replace hf := hf m17 em17
          refine lv_aload_n hx hb dX11_given_72 rfl (lv_at hl 0 rfl) ?_
          obtain ⟨b18, hb18, hf⟩ := hf
          refine hw_getR E hR cI10 hs0 73 (by decide) lfX11_486 rfl hb18 dX11_given_73 ?_
          refine lv_aload_n hx hb dX11_given_76 rfl (lv_at hl 0 rfl) ?_
          refine hw_getI E hR cI10 hs0 70 (by decide) lfX11_477 rfl dX11_given_77 ?_
          refine lv_iload_n hx hb dX11_given_80 rfl (lv_at hl 3 rfl) ?_
          obtain ⟨n19, hn19, in19, hf⟩ := hf
          refine hw_iast E hR hS hw hn19 in19 dX11_given_81 (fun m20 H locs em20 hR hS => ?_)
          replace hf := hf m20 em20
          refine lv_aload_n hx hb dX11_given_82 rfl (lv_at hl 0 rfl) ?_
          refine lv_dup hx hb dX11_given_83 rfl ?_
          refine hw_getI E hR cI10 hs0 70 (by decide) lfX11_477 rfl dX11_given_84 ?_
          refine lv_iconst (v := 1) hx hb dX11_given_87 (by decide) ?_
          refine lv_iadd hx hb dX11_given_88 ?_
          refine hw_putI E hR hS hw cI10 hs0 70 (by decide) lfX11_477 rfl (Or.inl rfl) dX11_given_89 (fun m21 H locs em21 hR hS => ?_)
          replace hf := hf m21 em21
          refine lv_aload_n hx hb dX11_given_92 rfl (lv_at hl 0 rfl) ?_
          refine hw_getI E hR cI10 hs0 70 (by decide) lfX11_477 rfl dX11_given_93 ?_
          refine lv_iconst (v := 1) hx hb dX11_given_96 (by decide) ?_
          refine lv_isub hx hb dX11_given_97 ?_
          exact hw_iret E hR hS ⟨_, rfl, hf⟩ dX11_given_98
        · replace hf := hf.1 c11
          refine lv_iconst (v := -1) hx hb dX11_given_50 (by decide) ?_
          exact hw_iret E hR hS ⟨_, rfl, hf⟩ dX11_given_51
def f_X11_letter__J64 (S : Ss) (a0 : Nat) (x1 : Int32) (x2 : Int32) (x3 : Int32) (x4 : Int32) (t0 : Int32) (M : Mm) (K : Int32 → Mm → Prop) : Prop :=
  ((t0 = 0 →
    K (-1 : Int32) M) ∧
   (¬ t0 = 0 →
    (((M.1 a0 74) = (12 : Int32) →
      K (-1 : Int32) M) ∧
     (¬ (M.1 a0 74) = (12 : Int32) →
      ∃ b7 : Nat, M.2.2 a0 75 = some b7 ∧
      ∃ n8 : Nat, S[b7]? = some (50, n8) ∧ vp_in (M.1 a0 74) n8 ∧
      ∀ m9 : Mm, m9 = stI M b7 (M.1 a0 74).toNatClampNeg x1 →
      ∃ b10 : Nat, m9.2.2 a0 76 = some b10 ∧
      ∃ n11 : Nat, S[b10]? = some (50, n11) ∧ vp_in (m9.1 a0 74) n11 ∧
      ∀ m12 : Mm, m12 = stI m9 b10 (m9.1 a0 74).toNatClampNeg x2 →
      ∃ b13 : Nat, m12.2.2 a0 77 = some b13 ∧
      ∃ n14 : Nat, S[b13]? = some (50, n14) ∧ vp_in (m12.1 a0 74) n14 ∧
      ∀ m15 : Mm, m15 = stI m12 b13 (m12.1 a0 74).toNatClampNeg x3 →
      ∃ b16 : Nat, m15.2.2 a0 78 = some b16 ∧
      ∃ n17 : Nat, S[b16]? = some (50, n17) ∧ vp_in (m15.1 a0 74) n17 ∧
      ∀ m18 : Mm, m18 = stI m15 b16 (m15.1 a0 74).toNatClampNeg x4 →
      ∀ m19 : Mm, m19 = stI m18 a0 74 ((m18.1 a0 74) + (1 : Int32)) →
      K (m19.1 a0 74) m19))))
set_option maxHeartbeats 4000000 in
set_option maxRecDepth 100000 in
theorem w_X11_letter__J64 {p : Program} {l : Launch} {e : Env} {s : State} {m : MethodId} {args : Array Value} {below : List Frame} {meth : Method} {c : Code} {g : Gg} {S : Ss} (a0 : Nat) (x1 : Int32) (x2 : Int32) (x3 : Int32) (x4 : Int32) (t0 : Int32) (M : Mm) (K : Int32 → Mm → Prop) (E : EN p s m args meth c cX11_letter_ 6 (some .int) RX11 g) (hw : ad g 100000 < s.heap.size) (hs0 : S[a0]? = some (10, 0)) (hf : f_X11_letter__J64 S a0 x1 x2 x3 x4 t0 M K) (H : Heap) (locs : List Loc) (ls : Array Slot) (hR : RP g S M H) (hS : va_S (gA g) s.heap H locs) (hl : lv_has ls 6 [(0, .ref (ad g a0)), (1, .int x1), (2, .int x2), (3, .int x3), (4, .int x4)]) : W p l e (rmD 1) s m args below meth c H locs 0 0 (MQ below (QA g S (pI K)) args s 0 0 (gA g)) (F0 m 64 ls [.int t0]) := by
  have hx := E.1
  have hb := E.2.1
  unfold f_X11_letter__J64 at hf
  refine lv_istore (lv' := [(5, .int t0), (0, .ref (ad g a0)), (1, .int x1), (2, .int x2), (3, .int x3), (4, .int x4)]) hx hb dX11_letter__64 hl (by decide) rfl (fun ls hl => ?_)
  refine lv_iload hx hb dX11_letter__66 (lv_at hl 0 rfl) ?_
  refine lv_if_eq (tgt := 80) hx hb dX11_letter__68 (by decide) (fun c5 => ?_) (fun c5 => ?_)
  · replace hf := hf.1 c5
    refine lv_iconst (v := -1) hx hb dX11_letter__80 (by decide) ?_
    exact hw_iret E hR hS ⟨_, rfl, hf⟩ dX11_letter__81
  · replace hf := hf.2 c5
    refine lv_aload_n hx hb dX11_letter__71 rfl (lv_at hl 1 rfl) ?_
    refine hw_getI E hR cI10 hs0 74 (by decide) lfX11_491 rfl dX11_letter__72 ?_
    refine lv_bipush (v := 12) hx hb dX11_letter__75 (by decide) ?_
    refine lv_icmp_ne (tgt := 82) hx hb dX11_letter__77 (by decide) (fun c6 => ?_) (fun c6 => ?_)
    · replace hf := hf.2 c6
      refine lv_aload_n hx hb dX11_letter__82 rfl (lv_at hl 1 rfl) ?_
      obtain ⟨b7, hb7, hf⟩ := hf
      refine hw_getR E hR cI10 hs0 75 (by decide) lfX11_494 rfl hb7 dX11_letter__83 ?_
      refine lv_aload_n hx hb dX11_letter__86 rfl (lv_at hl 1 rfl) ?_
      refine hw_getI E hR cI10 hs0 74 (by decide) lfX11_491 rfl dX11_letter__87 ?_
      refine lv_iload_n hx hb dX11_letter__90 rfl (lv_at hl 2 rfl) ?_
      obtain ⟨n8, hn8, in8, hf⟩ := hf
      refine hw_iast E hR hS hw hn8 in8 dX11_letter__91 (fun m9 H locs em9 hR hS => ?_)
      replace hf := hf m9 em9
      refine lv_aload_n hx hb dX11_letter__92 rfl (lv_at hl 1 rfl) ?_
      obtain ⟨b10, hb10, hf⟩ := hf
      refine hw_getR E hR cI10 hs0 76 (by decide) lfX11_497 rfl hb10 dX11_letter__93 ?_
      refine lv_aload_n hx hb dX11_letter__96 rfl (lv_at hl 1 rfl) ?_
      refine hw_getI E hR cI10 hs0 74 (by decide) lfX11_491 rfl dX11_letter__97 ?_
      refine lv_iload_n hx hb dX11_letter__100 rfl (lv_at hl 3 rfl) ?_
      obtain ⟨n11, hn11, in11, hf⟩ := hf
      refine hw_iast E hR hS hw hn11 in11 dX11_letter__101 (fun m12 H locs em12 hR hS => ?_)
      replace hf := hf m12 em12
      refine lv_aload_n hx hb dX11_letter__102 rfl (lv_at hl 1 rfl) ?_
      obtain ⟨b13, hb13, hf⟩ := hf
      refine hw_getR E hR cI10 hs0 77 (by decide) lfX11_500 rfl hb13 dX11_letter__103 ?_
      refine lv_aload_n hx hb dX11_letter__106 rfl (lv_at hl 1 rfl) ?_
      refine hw_getI E hR cI10 hs0 74 (by decide) lfX11_491 rfl dX11_letter__107 ?_
      refine lv_iload_n hx hb dX11_letter__110 rfl (lv_at hl 4 rfl) ?_
      obtain ⟨n14, hn14, in14, hf⟩ := hf
      refine hw_iast E hR hS hw hn14 in14 dX11_letter__111 (fun m15 H locs em15 hR hS => ?_)
      replace hf := hf m15 em15
      refine lv_aload_n hx hb dX11_letter__112 rfl (lv_at hl 1 rfl) ?_
      obtain ⟨b16, hb16, hf⟩ := hf
      refine hw_getR E hR cI10 hs0 78 (by decide) lfX11_503 rfl hb16 dX11_letter__113 ?_
      refine lv_aload_n hx hb dX11_letter__116 rfl (lv_at hl 1 rfl) ?_
      refine hw_getI E hR cI10 hs0 74 (by decide) lfX11_491 rfl dX11_letter__117 ?_
      refine lv_iload hx hb dX11_letter__120 (lv_at hl 5 rfl) ?_
      obtain ⟨n17, hn17, in17, hf⟩ := hf
      refine hw_iast E hR hS hw hn17 in17 dX11_letter__122 (fun m18 H locs em18 hR hS => ?_)
      replace hf := hf m18 em18
      refine lv_aload_n hx hb dX11_letter__123 rfl (lv_at hl 1 rfl) ?_
      refine lv_dup hx hb dX11_letter__124 rfl ?_
      refine hw_getI E hR cI10 hs0 74 (by decide) lfX11_491 rfl dX11_letter__125 ?_
      refine lv_iconst (v := 1) hx hb dX11_letter__128 (by decide) ?_
      refine lv_iadd hx hb dX11_letter__129 ?_
      refine hw_putI E hR hS hw cI10 hs0 74 (by decide) lfX11_491 rfl (Or.inl rfl) dX11_letter__130 (fun m19 H locs em19 hR hS => ?_)
      replace hf := hf m19 em19
      refine lv_aload_n hx hb dX11_letter__133 rfl (lv_at hl 1 rfl) ?_
      refine hw_getI E hR cI10 hs0 74 (by decide) lfX11_491 rfl dX11_letter__134 ?_
      exact hw_iret E hR hS ⟨_, rfl, hf⟩ dX11_letter__137
    · replace hf := hf.1 c6
      refine lv_iconst (v := -1) hx hb dX11_letter__80 (by decide) ?_
      exact hw_iret E hR hS ⟨_, rfl, hf⟩ dX11_letter__81
def f_X11_letter__J63 (S : Ss) (a0 : Nat) (x1 : Int32) (x2 : Int32) (x3 : Int32) (x4 : Int32) (M : Mm) (K : Int32 → Mm → Prop) : Prop :=
  f_X11_letter__J64 S a0 x1 x2 x3 x4 (0 : Int32) M K
set_option maxHeartbeats 4000000 in
set_option maxRecDepth 100000 in
theorem w_X11_letter__J63 {p : Program} {l : Launch} {e : Env} {s : State} {m : MethodId} {args : Array Value} {below : List Frame} {meth : Method} {c : Code} {g : Gg} {S : Ss} (a0 : Nat) (x1 : Int32) (x2 : Int32) (x3 : Int32) (x4 : Int32) (M : Mm) (K : Int32 → Mm → Prop) (E : EN p s m args meth c cX11_letter_ 6 (some .int) RX11 g) (hw : ad g 100000 < s.heap.size) (hs0 : S[a0]? = some (10, 0)) (hf : f_X11_letter__J63 S a0 x1 x2 x3 x4 M K) (H : Heap) (locs : List Loc) (ls : Array Slot) (hR : RP g S M H) (hS : va_S (gA g) s.heap H locs) (hl : lv_has ls 6 [(0, .ref (ad g a0)), (1, .int x1), (2, .int x2), (3, .int x3), (4, .int x4)]) : W p l e (rmD 1) s m args below meth c H locs 0 0 (MQ below (QA g S (pI K)) args s 0 0 (gA g)) (F0 m 63 ls []) := by
  have hx := E.1
  have hb := E.2.1
  unfold f_X11_letter__J63 at hf
  refine lv_iconst (v := 0) hx hb dX11_letter__63 (by decide) ?_
  exact w_X11_letter__J64 _ _ _ _ _ _ _ _ E hw hs0 hf _ _ _ hR hS (lv_sub hl [0, 1, 2, 3, 4] rfl)
def f_X11_letter_ (S : Ss) (a0 : Nat) (x1 : Int32) (x2 : Int32) (x3 : Int32) (x4 : Int32) (M : Mm) (K : Int32 → Mm → Prop) : Prop :=
  ∀ m1 : Mm, m1 = stI M a0 0 (0 : Int32) →
  f_X11_in S  x1.toInt64 (0 : Int64) (5 : Int64) m1 (fun (r3 : Int32) (m2 : Mm) =>
    ((r3 = 0 →
    f_X11_letter__J63 S a0 x1 x2 x3 x4 m2 K) ∧
   (¬ r3 = 0 →
    f_X11_in S  x2.toInt64 (0 : Int64) (5 : Int64) m2 (fun (r21 : Int32) (m20 : Mm) =>
      ((r21 = 0 →
      f_X11_letter__J63 S a0 x1 x2 x3 x4 m20 K) ∧
     (¬ r21 = 0 →
      ((x1 = x2 →
        f_X11_letter__J63 S a0 x1 x2 x3 x4 m20 K) ∧
       (¬ x1 = x2 →
        f_X11_in S  x3.toInt64 (0 : Int64) (99 : Int64) m20 (fun (r25 : Int32) (m24 : Mm) =>
          ((r25 = 0 →
          f_X11_letter__J63 S a0 x1 x2 x3 x4 m24 K) ∧
         (¬ r25 = 0 →
          f_X11_in S  x4.toInt64 (0 : Int64) (50 : Int64) m24 (fun (r28 : Int32) (m27 : Mm) =>
            ((r28 = 0 →
            f_X11_letter__J63 S a0 x1 x2 x3 x4 m27 K) ∧
           (¬ r28 = 0 →
            f_X11_letter__J64 S a0 x1 x2 x3 x4 (1 : Int32) m27 K))))))))))))))
set_option maxHeartbeats 4000000 in
set_option maxRecDepth 100000 in
theorem ok_X11_letter_ {l : Launch} {g : Gg} {S : Ss} {a0 : Nat} {x1 : Int32} {x2 : Int32} {x3 : Int32} {x4 : Int32} {M : Mm} {K : Int32 → Mm → Prop} (hs0 : S[a0]? = some (10, 0)) (hf : f_X11_letter_ S a0 x1 x2 x3 x4 M K) : MT l g S yX11_letter_ cX11_letter_ 6 (some .int) 1 [.ref (ad g a0), .int x1, .int x2, .int x3, .int x4] M (pI K) := by
  refine MT.of (by decide +kernel) (Nat.le_of_ble_eq_true rfl) ?_
  intro p e s m below meth c ls E hw hR hS hl
  have hl : lv_has ls 6 [(0, .ref (ad g a0)), (1, .int x1), (2, .int x2), (3, .int x3), (4, .int x4)] := hl
  generalize ([.ref (ad g a0), .int x1, .int x2, .int x3, .int x4] : List Value).toArray = args at E ⊢
  have E : EN p s m args meth c cX11_letter_ 6 (some .int) RX11 g := E
  have hx := E.1
  have hb := E.2.1
  unfold f_X11_letter_ at hf
  refine lv_aload_n hx hb dX11_letter__0 rfl (lv_at hl 0 rfl) ?_
  refine lv_iconst (v := 0) hx hb dX11_letter__1 (by decide) ?_
  refine hw_putI E hR hS hw cI10 hs0 0 (by decide) lfX11_3 rfl (Or.inl rfl) dX11_letter__2 (fun m1 H locs em1 hR hS => ?_)
  replace hf := hf m1 em1
  refine lv_iload_n hx hb dX11_letter__5 rfl (lv_at hl 1 rfl) ?_
  refine lv_i2l hx hb dX11_letter__6 rfl ?_
  refine lv_lconst (v := 0) hx hb dX11_letter__7 (by decide) ?_
  refine lv_ldc2 (v := 5) hx hb E.2.2.2.2.1 (E.2.2.2.2.2.1 _ ljX11_475) dX11_letter__8 ?_
  refine hw_callS (d := 1) E hR hS (As := [.long x1.toInt64, .long (0 : Int64), .long (5 : Int64)]) (rest := []) mcX11_in msX11_in lmX11_21 (ok_X11_in  hf) rfl rfl (by decide) hl.1 (Nat.le_of_ble_eq_true rfl) dX11_letter__11 (fun rr m2 H locs hp hR hS => ?_)
  obtain ⟨r3, rfl, hf⟩ := hp
  refine W.eq (g2 := F0 m 14 ls [.int r3]) rfl ?_
  refine lv_if_eq (tgt := 63) hx hb dX11_letter__14 (by decide) (fun c4 => ?_) (fun c4 => ?_)
  · replace hf := hf.1 c4
    exact w_X11_letter__J63 _ _ _ _ _ _ _ E hw hs0 hf _ _ _ hR hS (lv_sub hl [0, 1, 2, 3, 4] rfl)
  · replace hf := hf.2 c4
    refine lv_iload_n hx hb dX11_letter__17 rfl (lv_at hl 2 rfl) ?_
    refine lv_i2l hx hb dX11_letter__18 rfl ?_
    refine lv_lconst (v := 0) hx hb dX11_letter__19 (by decide) ?_
    refine lv_ldc2 (v := 5) hx hb E.2.2.2.2.1 (E.2.2.2.2.2.1 _ ljX11_475) dX11_letter__20 ?_
    refine hw_callS (d := 1) E hR hS (As := [.long x2.toInt64, .long (0 : Int64), .long (5 : Int64)]) (rest := []) mcX11_in msX11_in lmX11_21 (ok_X11_in  hf) rfl rfl (by decide) hl.1 (Nat.le_of_ble_eq_true rfl) dX11_letter__23 (fun rr m20 H locs hp hR hS => ?_)
    obtain ⟨r21, rfl, hf⟩ := hp
    refine W.eq (g2 := F0 m 26 ls [.int r21]) rfl ?_
    refine lv_if_eq (tgt := 63) hx hb dX11_letter__26 (by decide) (fun c22 => ?_) (fun c22 => ?_)
    · replace hf := hf.1 c22
      exact w_X11_letter__J63 _ _ _ _ _ _ _ E hw hs0 hf _ _ _ hR hS (lv_sub hl [0, 1, 2, 3, 4] rfl)
    · replace hf := hf.2 c22
      refine lv_iload_n hx hb dX11_letter__29 rfl (lv_at hl 1 rfl) ?_
      refine lv_iload_n hx hb dX11_letter__30 rfl (lv_at hl 2 rfl) ?_
      refine lv_icmp_eq (tgt := 63) hx hb dX11_letter__31 (by decide) (fun c23 => ?_) (fun c23 => ?_)
      · replace hf := hf.1 c23
        exact w_X11_letter__J63 _ _ _ _ _ _ _ E hw hs0 hf _ _ _ hR hS (lv_sub hl [0, 1, 2, 3, 4] rfl)
      · replace hf := hf.2 c23
        refine lv_iload_n hx hb dX11_letter__34 rfl (lv_at hl 3 rfl) ?_
        refine lv_i2l hx hb dX11_letter__35 rfl ?_
        refine lv_lconst (v := 0) hx hb dX11_letter__36 (by decide) ?_
        refine lv_ldc2 (v := 99) hx hb E.2.2.2.2.1 (E.2.2.2.2.2.1 _ ljX11_406) dX11_letter__37 ?_
        refine hw_callS (d := 1) E hR hS (As := [.long x3.toInt64, .long (0 : Int64), .long (99 : Int64)]) (rest := []) mcX11_in msX11_in lmX11_21 (ok_X11_in  hf) rfl rfl (by decide) hl.1 (Nat.le_of_ble_eq_true rfl) dX11_letter__40 (fun rr m24 H locs hp hR hS => ?_)
        obtain ⟨r25, rfl, hf⟩ := hp
        refine W.eq (g2 := F0 m 43 ls [.int r25]) rfl ?_
        refine lv_if_eq (tgt := 63) hx hb dX11_letter__43 (by decide) (fun c26 => ?_) (fun c26 => ?_)
        · replace hf := hf.1 c26
          exact w_X11_letter__J63 _ _ _ _ _ _ _ E hw hs0 hf _ _ _ hR hS (lv_sub hl [0, 1, 2, 3, 4] rfl)
        · replace hf := hf.2 c26
          refine lv_iload hx hb dX11_letter__46 (lv_at hl 4 rfl) ?_
          refine lv_i2l hx hb dX11_letter__48 rfl ?_
          refine lv_lconst (v := 0) hx hb dX11_letter__49 (by decide) ?_
          refine lv_ldc2 (v := 50) hx hb E.2.2.2.2.1 (E.2.2.2.2.2.1 _ ljX11_489) dX11_letter__50 ?_
          refine hw_callS (d := 1) E hR hS (As := [.long x4.toInt64, .long (0 : Int64), .long (50 : Int64)]) (rest := []) mcX11_in msX11_in lmX11_21 (ok_X11_in  hf) rfl rfl (by decide) hl.1 (Nat.le_of_ble_eq_true rfl) dX11_letter__53 (fun rr m27 H locs hp hR hS => ?_)
          obtain ⟨r28, rfl, hf⟩ := hp
          refine W.eq (g2 := F0 m 56 ls [.int r28]) rfl ?_
          refine lv_if_eq (tgt := 63) hx hb dX11_letter__56 (by decide) (fun c29 => ?_) (fun c29 => ?_)
          · replace hf := hf.1 c29
            exact w_X11_letter__J63 _ _ _ _ _ _ _ E hw hs0 hf _ _ _ hR hS (lv_sub hl [0, 1, 2, 3, 4] rfl)
          · replace hf := hf.2 c29
            refine lv_iconst (v := 1) hx hb dX11_letter__59 (by decide) ?_
            refine lv_goto (tgt := 64) hx hb dX11_letter__60 (by decide) ?_
            exact w_X11_letter__J64 _ _ _ _ _ _ _ _ E hw hs0 hf _ _ _ hR hS (lv_sub hl [0, 1, 2, 3, 4] rfl)
def f_X11_tells_B10 (S : Ss) (a0 : Nat) (x1 : Int32) (x2 : Int32) (M : Mm) (BK10 : Int32 → Mm → Prop) (EK10 : Mm → Prop) (K : Mm → Prop) : Prop :=
  (((M.1 a0 70) ≤ x2 →
    EK10 M) ∧
   (¬ (M.1 a0 70) ≤ x2 →
    ∃ b3 : Nat, M.2.2 a0 79 = some b3 ∧
    ∃ b4 : Nat, M.2.2 a0 71 = some b4 ∧
    ∃ n5 : Nat, shp S b4 = some (50, n5) ∧ vp_in x2 n5 ∧
    (((M.1 b4 x2.toNatClampNeg) = x1 →
      ∃ b10 : Nat, M.2.2 a0 72 = some b10 ∧
      ∃ n11 : Nat, shp S b10 = some (50, n11) ∧ vp_in x2 n11 ∧
      ∃ n12 : Nat, S[b3]? = some (50, n12) ∧ vp_in (((12 : Int32) * x1) + x2) n12 ∧
      ∀ m13 : Mm, m13 = stI M b3 (((12 : Int32) * x1) + x2).toNatClampNeg (M.1 b10 x2.toNatClampNeg) →
      ∀ v14 : Int32, v14 = x2 + (1 : Int32) →
      BK10 v14 m13) ∧
     (¬ (M.1 b4 x2.toNatClampNeg) = x1 →
      ∃ n7 : Nat, S[b3]? = some (50, n7) ∧ vp_in (((12 : Int32) * x1) + x2) n7 ∧
      ∀ m8 : Mm, m8 = stI M b3 (((12 : Int32) * x1) + x2).toNatClampNeg (1000 : Int32) →
      ∀ v9 : Int32, v9 = x2 + (1 : Int32) →
      BK10 v9 m8))))
set_option maxHeartbeats 4000000 in
set_option maxRecDepth 100000 in
theorem w_X11_tells_B10 {p : Program} {l : Launch} {e : Env} {s : State} {m : MethodId} {args : Array Value} {below : List Frame} {meth : Method} {c : Code} {g : Gg} {S : Ss} (a0 : Nat) (x1 : Int32) (x2 : Int32) (M : Mm) (BK10 : Int32 → Mm → Prop) (EK10 : Mm → Prop) (K : Mm → Prop) (E : EN p s m args meth c cX11_tells 5 none RX11 g) (hw : ad g 100000 < s.heap.size) (hs0 : S[a0]? = some (10, 0)) (hBK10 : ∀ (x2' : Int32) (M' : Mm) (H : Heap) (locs : List Loc) (ls : Array Slot), BK10 x2' M' → RP g S M' H → va_S (gA g) s.heap H locs → lv_has ls 5 [(0, .ref (ad g a0)), (1, .int x1), (2, .int x2')] → W p l e (rmD 1) s m args below meth c H locs 0 0 (MQ below (QA g S (pV K)) args s 0 0 (gA g)) (F0 m 10 ls [])) (hEK10 : ∀ (M' : Mm) (H : Heap) (locs : List Loc) (ls : Array Slot), EK10 M' → RP g S M' H → va_S (gA g) s.heap H locs → lv_has ls 5 [(0, .ref (ad g a0)), (1, .int x1)] → W p l e (rmD 1) s m args below meth c H locs 0 0 (MQ below (QA g S (pV K)) args s 0 0 (gA g)) (F0 m 57 ls [])) (hf : f_X11_tells_B10 S a0 x1 x2 M BK10 EK10 K) (H : Heap) (locs : List Loc) (ls : Array Slot) (hR : RP g S M H) (hS : va_S (gA g) s.heap H locs) (hl : lv_has ls 5 [(0, .ref (ad g a0)), (1, .int x1), (2, .int x2)]) : W p l e (rmD 1) s m args below meth c H locs 0 0 (MQ below (QA g S (pV K)) args s 0 0 (gA g)) (F0 m 10 ls []) := by
  have hx := E.1
  have hb := E.2.1
  unfold f_X11_tells_B10 at hf
  refine lv_iload_n hx hb dX11_tells_10 rfl (lv_at hl 2 rfl) ?_
  refine lv_aload_n hx hb dX11_tells_11 rfl (lv_at hl 0 rfl) ?_
  refine hw_getI E hR cI10 hs0 70 (by decide) lfX11_477 rfl dX11_tells_12 ?_
  refine lv_icmp_ge (tgt := 57) hx hb dX11_tells_15 (by decide) (fun c2 => ?_) (fun c2 => ?_)
  · replace hf := hf.1 c2
    exact hEK10  _ _ _ _ hf hR hS (lv_sub hl [0, 1] rfl)
  · replace hf := hf.2 c2
    refine lv_aload_n hx hb dX11_tells_18 rfl (lv_at hl 0 rfl) ?_
    obtain ⟨b3, hb3, hf⟩ := hf
    refine hw_getR E hR cI10 hs0 79 (by decide) lfX11_506 rfl hb3 dX11_tells_19 ?_
    refine lv_bipush (v := 12) hx hb dX11_tells_22 (by decide) ?_
    refine lv_iload_n hx hb dX11_tells_24 rfl (lv_at hl 1 rfl) ?_
    refine lv_imul hx hb dX11_tells_25 ?_
    refine lv_iload_n hx hb dX11_tells_26 rfl (lv_at hl 2 rfl) ?_
    refine lv_iadd hx hb dX11_tells_27 ?_
    refine lv_aload_n hx hb dX11_tells_28 rfl (lv_at hl 0 rfl) ?_
    obtain ⟨b4, hb4, hf⟩ := hf
    refine hw_getR E hR cI10 hs0 71 (by decide) lfX11_480 rfl hb4 dX11_tells_29 ?_
    refine lv_iload_n hx hb dX11_tells_32 rfl (lv_at hl 2 rfl) ?_
    obtain ⟨n5, hn5, in5, hf⟩ := hf
    refine hw_iald E hR hS hn5 in5 dX11_tells_33 ?_
    refine lv_iload_n hx hb dX11_tells_34 rfl (lv_at hl 1 rfl) ?_
    refine lv_icmp_ne (tgt := 47) hx hb dX11_tells_35 (by decide) (fun c6 => ?_) (fun c6 => ?_)
    · replace hf := hf.2 c6
      refine lv_sipush (v := 1000) hx hb dX11_tells_47 (by decide) ?_
      obtain ⟨n7, hn7, in7, hf⟩ := hf
      refine hw_iast E hR hS hw hn7 in7 dX11_tells_50 (fun m8 H locs em8 hR hS => ?_)
      replace hf := hf m8 em8
      obtain ⟨v9, ev9⟩ : ∃ y : Int32, y = x2 + (1 : Int32) := ⟨_, rfl⟩
      replace hf := hf v9 ev9
      refine lv_iinc (v := v9) (lv' := [(2, .int v9), (0, .ref (ad g a0)), (1, .int x1)]) hx hb dX11_tells_51 hl (k := 2) rfl (by rw [ev9]; rfl) (by decide) rfl (fun ls hl => ?_)
      refine lv_goto (tgt := 10) hx hb dX11_tells_54 (by decide) ?_
      exact hBK10 _ _ _ _ _ hf hR hS (lv_sub hl [1, 2, 0] rfl)
    · replace hf := hf.1 c6
      refine lv_aload_n hx hb dX11_tells_38 rfl (lv_at hl 0 rfl) ?_
      obtain ⟨b10, hb10, hf⟩ := hf
      refine hw_getR E hR cI10 hs0 72 (by decide) lfX11_483 rfl hb10 dX11_tells_39 ?_
      refine lv_iload_n hx hb dX11_tells_42 rfl (lv_at hl 2 rfl) ?_
      obtain ⟨n11, hn11, in11, hf⟩ := hf
      refine hw_iald E hR hS hn11 in11 dX11_tells_43 ?_
      refine lv_goto (tgt := 50) hx hb dX11_tells_44 (by decide) ?_
      obtain ⟨n12, hn12, in12, hf⟩ := hf
      refine hw_iast E hR hS hw hn12 in12 dX11_tells_50 (fun m13 H locs em13 hR hS => ?_)
      replace hf := hf m13 em13
      obtain ⟨v14, ev14⟩ : ∃ y : Int32, y = x2 + (1 : Int32) := ⟨_, rfl⟩
      replace hf := hf v14 ev14
      refine lv_iinc (v := v14) (lv' := [(2, .int v14), (0, .ref (ad g a0)), (1, .int x1)]) hx hb dX11_tells_51 hl (k := 2) rfl (by rw [ev14]; rfl) (by decide) rfl (fun ls hl => ?_)
      refine lv_goto (tgt := 10) hx hb dX11_tells_54 (by decide) ?_
      exact hBK10 _ _ _ _ _ hf hR hS (lv_sub hl [1, 2, 0] rfl)
def f_X11_tells_L10 (S : Ss) (a0 : Nat) (x1 : Int32) (EK10 : Mm → Prop) (K : Mm → Prop) : Nat → Int32 → Mm → Prop
  | 0, _, _ => False
  | n + 1, x2, M => f_X11_tells_B10 S a0 x1 x2 M (fun (x2 : Int32) (M : Mm) => f_X11_tells_L10 S a0 x1 EK10 K n x2 M) EK10 K
set_option maxHeartbeats 4000000 in
set_option maxRecDepth 100000 in
theorem w_X11_tells_L10 {p : Program} {l : Launch} {e : Env} {s : State} {m : MethodId} {args : Array Value} {below : List Frame} {meth : Method} {c : Code} {g : Gg} {S : Ss} (a0 : Nat) (x1 : Int32) (EK10 : Mm → Prop) (K : Mm → Prop) (E : EN p s m args meth c cX11_tells 5 none RX11 g) (hw : ad g 100000 < s.heap.size) (hs0 : S[a0]? = some (10, 0)) (hEK10 : ∀ (M' : Mm) (H : Heap) (locs : List Loc) (ls : Array Slot), EK10 M' → RP g S M' H → va_S (gA g) s.heap H locs → lv_has ls 5 [(0, .ref (ad g a0)), (1, .int x1)] → W p l e (rmD 1) s m args below meth c H locs 0 0 (MQ below (QA g S (pV K)) args s 0 0 (gA g)) (F0 m 57 ls [])) : ∀ (n : Nat) (x2 : Int32) (M : Mm), f_X11_tells_L10 S a0 x1 EK10 K n x2 M → ∀ (H : Heap) (locs : List Loc) (ls : Array Slot), RP g S M H → va_S (gA g) s.heap H locs → lv_has ls 5 [(0, .ref (ad g a0)), (1, .int x1), (2, .int x2)] → W p l e (rmD 1) s m args below meth c H locs 0 0 (MQ below (QA g S (pV K)) args s 0 0 (gA g)) (F0 m 10 ls []) := by
  intro n
  induction n with
  | zero => intro x2 M hf; exact hf.elim
  | succ n ih =>
    intro x2 M hf H locs ls hR hS hl
    exact w_X11_tells_B10 _ _ _ _ _ _ _ E hw hs0 (fun _ M H locs ls h hR hS hl => ih _ M h H locs ls hR hS hl) hEK10 hf H locs ls hR hS hl
def f_X11_tells_B2 (S : Ss) (a0 : Nat) (x1 : Int32) (M : Mm) (BK2 : Int32 → Mm → Prop) (EK2 : Mm → Prop) (K : Mm → Prop) : Prop :=
  (((6 : Int32) ≤ x1 →
    EK2 M) ∧
   (¬ (6 : Int32) ≤ x1 →
    ∃ n17 : Nat, f_X11_tells_L10 S a0 x1 (fun (m15 : Mm) =>
      ∀ v16 : Int32, v16 = x1 + (1 : Int32) →
      BK2 v16 m15) K n17 (0 : Int32) M))
set_option maxHeartbeats 4000000 in
set_option maxRecDepth 100000 in
theorem w_X11_tells_B2 {p : Program} {l : Launch} {e : Env} {s : State} {m : MethodId} {args : Array Value} {below : List Frame} {meth : Method} {c : Code} {g : Gg} {S : Ss} (a0 : Nat) (x1 : Int32) (M : Mm) (BK2 : Int32 → Mm → Prop) (EK2 : Mm → Prop) (K : Mm → Prop) (E : EN p s m args meth c cX11_tells 5 none RX11 g) (hw : ad g 100000 < s.heap.size) (hs0 : S[a0]? = some (10, 0)) (hBK2 : ∀ (x1' : Int32) (M' : Mm) (H : Heap) (locs : List Loc) (ls : Array Slot), BK2 x1' M' → RP g S M' H → va_S (gA g) s.heap H locs → lv_has ls 5 [(0, .ref (ad g a0)), (1, .int x1')] → W p l e (rmD 1) s m args below meth c H locs 0 0 (MQ below (QA g S (pV K)) args s 0 0 (gA g)) (F0 m 2 ls [])) (hEK2 : ∀ (M' : Mm) (H : Heap) (locs : List Loc) (ls : Array Slot), EK2 M' → RP g S M' H → va_S (gA g) s.heap H locs → lv_has ls 5 [(0, .ref (ad g a0))] → W p l e (rmD 1) s m args below meth c H locs 0 0 (MQ below (QA g S (pV K)) args s 0 0 (gA g)) (F0 m 63 ls [])) (hf : f_X11_tells_B2 S a0 x1 M BK2 EK2 K) (H : Heap) (locs : List Loc) (ls : Array Slot) (hR : RP g S M H) (hS : va_S (gA g) s.heap H locs) (hl : lv_has ls 5 [(0, .ref (ad g a0)), (1, .int x1)]) : W p l e (rmD 1) s m args below meth c H locs 0 0 (MQ below (QA g S (pV K)) args s 0 0 (gA g)) (F0 m 2 ls []) := by
  have hx := E.1
  have hb := E.2.1
  unfold f_X11_tells_B2 at hf
  refine lv_iload_n hx hb dX11_tells_2 rfl (lv_at hl 1 rfl) ?_
  refine lv_bipush (v := 6) hx hb dX11_tells_3 (by decide) ?_
  refine lv_icmp_ge (tgt := 63) hx hb dX11_tells_5 (by decide) (fun c1 => ?_) (fun c1 => ?_)
  · replace hf := hf.1 c1
    exact hEK2  _ _ _ _ hf hR hS (lv_sub hl [0] rfl)
  · replace hf := hf.2 c1
    refine lv_iconst (v := 0) hx hb dX11_tells_8 (by decide) ?_
    refine lv_istore_n (lv' := [(2, .int (0 : Int32)), (0, .ref (ad g a0)), (1, .int x1)]) hx hb dX11_tells_9 rfl hl (by decide) rfl (fun ls hl => ?_)
    obtain ⟨n17, hf⟩ := hf
    refine w_X11_tells_L10 _ _ _ _ E hw hs0 ?_ n17 _ _ hf _ _ _ hR hS (lv_sub hl [1, 2, 0] rfl)
    intro m15 H locs ls hf hR hS hl
    obtain ⟨v16, ev16⟩ : ∃ y : Int32, y = x1 + (1 : Int32) := ⟨_, rfl⟩
    replace hf := hf v16 ev16
    refine lv_iinc (v := v16) (lv' := [(1, .int v16), (0, .ref (ad g a0))]) hx hb dX11_tells_57 hl (k := 1) rfl (by rw [ev16]; rfl) (by decide) rfl (fun ls hl => ?_)
    refine lv_goto (tgt := 2) hx hb dX11_tells_60 (by decide) ?_
    exact hBK2 _ _ _ _ _ hf hR hS (lv_sub hl [1, 0] rfl)
def f_X11_tells_L2 (S : Ss) (a0 : Nat) (EK2 : Mm → Prop) (K : Mm → Prop) : Nat → Int32 → Mm → Prop
  | 0, _, _ => False
  | n + 1, x1, M => f_X11_tells_B2 S a0 x1 M (fun (x1 : Int32) (M : Mm) => f_X11_tells_L2 S a0 EK2 K n x1 M) EK2 K
set_option maxHeartbeats 4000000 in
set_option maxRecDepth 100000 in
theorem w_X11_tells_L2 {p : Program} {l : Launch} {e : Env} {s : State} {m : MethodId} {args : Array Value} {below : List Frame} {meth : Method} {c : Code} {g : Gg} {S : Ss} (a0 : Nat) (EK2 : Mm → Prop) (K : Mm → Prop) (E : EN p s m args meth c cX11_tells 5 none RX11 g) (hw : ad g 100000 < s.heap.size) (hs0 : S[a0]? = some (10, 0)) (hEK2 : ∀ (M' : Mm) (H : Heap) (locs : List Loc) (ls : Array Slot), EK2 M' → RP g S M' H → va_S (gA g) s.heap H locs → lv_has ls 5 [(0, .ref (ad g a0))] → W p l e (rmD 1) s m args below meth c H locs 0 0 (MQ below (QA g S (pV K)) args s 0 0 (gA g)) (F0 m 63 ls [])) : ∀ (n : Nat) (x1 : Int32) (M : Mm), f_X11_tells_L2 S a0 EK2 K n x1 M → ∀ (H : Heap) (locs : List Loc) (ls : Array Slot), RP g S M H → va_S (gA g) s.heap H locs → lv_has ls 5 [(0, .ref (ad g a0)), (1, .int x1)] → W p l e (rmD 1) s m args below meth c H locs 0 0 (MQ below (QA g S (pV K)) args s 0 0 (gA g)) (F0 m 2 ls []) := by
  intro n
  induction n with
  | zero => intro x1 M hf; exact hf.elim
  | succ n ih =>
    intro x1 M hf H locs ls hR hS hl
    exact w_X11_tells_B2 _ _ _ _ _ _ E hw hs0 (fun _ M H locs ls h hR hS hl => ih _ M h H locs ls hR hS hl) hEK2 hf H locs ls hR hS hl
def f_X11_tells_B85 (S : Ss) (a0 : Nat) (x1 : Int32) (x2 : Int32) (x3 : Int32) (M : Mm) (BK85 : Int32 → Mm → Prop) (EK85 : Mm → Prop) (K : Mm → Prop) : Prop :=
  (((M.1 a0 70) ≤ x3 →
    EK85 M) ∧
   (¬ (M.1 a0 70) ≤ x3 →
    ∃ b22 : Nat, M.2.2 a0 76 = some b22 ∧
    ∃ n23 : Nat, shp S b22 = some (50, n23) ∧ vp_in x2 n23 ∧
    ∀ v24 : Int32, v24 = (((12 : Int32) * (M.1 b22 x2.toNatClampNeg)) + x3) →
    ∃ b25 : Nat, M.2.2 a0 79 = some b25 ∧
    ∃ b26 : Nat, M.2.2 a0 75 = some b26 ∧
    ∃ n27 : Nat, shp S b26 = some (50, n27) ∧ vp_in x2 n27 ∧
    ∃ n28 : Nat, shp S b25 = some (50, n28) ∧ vp_in (((12 : Int32) * (M.1 b26 x2.toNatClampNeg)) + x3) n28 ∧
    ∃ b29 : Nat, M.2.2 a0 77 = some b29 ∧
    ∃ n30 : Nat, shp S b29 = some (50, n30) ∧ vp_in x2 n30 ∧
    (((M.1 b29 x2.toNatClampNeg) < (M.1 b25 (((12 : Int32) * (M.1 b26 x2.toNatClampNeg)) + x3).toNatClampNeg) →
      ∀ v32 : Int32, v32 = x3 + (1 : Int32) →
      BK85 v32 M) ∧
     (¬ (M.1 b29 x2.toNatClampNeg) < (M.1 b25 (((12 : Int32) * (M.1 b26 x2.toNatClampNeg)) + x3).toNatClampNeg) →
      ∃ b33 : Nat, M.2.2 a0 79 = some b33 ∧
      ∃ b34 : Nat, M.2.2 a0 79 = some b34 ∧
      ∃ n35 : Nat, shp S b34 = some (50, n35) ∧ vp_in v24 n35 ∧
      ∃ b36 : Nat, M.2.2 a0 77 = some b36 ∧
      ∃ n37 : Nat, shp S b36 = some (50, n37) ∧ vp_in x2 n37 ∧
      ∃ b38 : Nat, M.2.2 a0 78 = some b38 ∧
      ∃ n39 : Nat, shp S b38 = some (50, n39) ∧ vp_in x2 n39 ∧
      ∃ n40 : Nat, S[b33]? = some (50, n40) ∧ vp_in v24 n40 ∧
      ∀ m41 : Mm, m41 = stI M b33 v24.toNatClampNeg (if ((M.1 b36 x2.toNatClampNeg) + (M.1 b38 x2.toNatClampNeg)) < (M.1 b34 v24.toNatClampNeg) then ((M.1 b36 x2.toNatClampNeg) + (M.1 b38 x2.toNatClampNeg)) else (M.1 b34 v24.toNatClampNeg)) →
      ∀ v42 : Int32, v42 = x3 + (1 : Int32) →
      BK85 v42 m41))))
set_option maxHeartbeats 4000000 in
set_option maxRecDepth 100000 in
theorem w_X11_tells_B85 {p : Program} {l : Launch} {e : Env} {s : State} {m : MethodId} {args : Array Value} {below : List Frame} {meth : Method} {c : Code} {g : Gg} {S : Ss} (a0 : Nat) (x1 : Int32) (x2 : Int32) (x3 : Int32) (M : Mm) (BK85 : Int32 → Mm → Prop) (EK85 : Mm → Prop) (K : Mm → Prop) (E : EN p s m args meth c cX11_tells 5 none RX11 g) (hw : ad g 100000 < s.heap.size) (hs0 : S[a0]? = some (10, 0)) (hBK85 : ∀ (x3' : Int32) (M' : Mm) (H : Heap) (locs : List Loc) (ls : Array Slot), BK85 x3' M' → RP g S M' H → va_S (gA g) s.heap H locs → lv_has ls 5 [(0, .ref (ad g a0)), (1, .int x1), (2, .int x2), (3, .int x3')] → W p l e (rmD 1) s m args below meth c H locs 0 0 (MQ below (QA g S (pV K)) args s 0 0 (gA g)) (F0 m 85 ls [])) (hEK85 : ∀ (M' : Mm) (H : Heap) (locs : List Loc) (ls : Array Slot), EK85 M' → RP g S M' H → va_S (gA g) s.heap H locs → lv_has ls 5 [(0, .ref (ad g a0)), (1, .int x1), (2, .int x2)] → W p l e (rmD 1) s m args below meth c H locs 0 0 (MQ below (QA g S (pV K)) args s 0 0 (gA g)) (F0 m 167 ls [])) (hf : f_X11_tells_B85 S a0 x1 x2 x3 M BK85 EK85 K) (H : Heap) (locs : List Loc) (ls : Array Slot) (hR : RP g S M H) (hS : va_S (gA g) s.heap H locs) (hl : lv_has ls 5 [(0, .ref (ad g a0)), (1, .int x1), (2, .int x2), (3, .int x3)]) : W p l e (rmD 1) s m args below meth c H locs 0 0 (MQ below (QA g S (pV K)) args s 0 0 (gA g)) (F0 m 85 ls []) := by
  have hx := E.1
  have hb := E.2.1
  unfold f_X11_tells_B85 at hf
  refine lv_iload_n hx hb dX11_tells_85 rfl (lv_at hl 3 rfl) ?_
  refine lv_aload_n hx hb dX11_tells_86 rfl (lv_at hl 0 rfl) ?_
  refine hw_getI E hR cI10 hs0 70 (by decide) lfX11_477 rfl dX11_tells_87 ?_
  refine lv_icmp_ge (tgt := 167) hx hb dX11_tells_90 (by decide) (fun c21 => ?_) (fun c21 => ?_)
  · replace hf := hf.1 c21
    exact hEK85  _ _ _ _ hf hR hS (lv_sub hl [0, 1, 2] rfl)
  · replace hf := hf.2 c21
    refine lv_bipush (v := 12) hx hb dX11_tells_93 (by decide) ?_
    refine lv_aload_n hx hb dX11_tells_95 rfl (lv_at hl 0 rfl) ?_
    obtain ⟨b22, hb22, hf⟩ := hf
    refine hw_getR E hR cI10 hs0 76 (by decide) lfX11_497 rfl hb22 dX11_tells_96 ?_
    refine lv_iload_n hx hb dX11_tells_99 rfl (lv_at hl 2 rfl) ?_
    obtain ⟨n23, hn23, in23, hf⟩ := hf
    refine hw_iald E hR hS hn23 in23 dX11_tells_100 ?_
    refine lv_imul hx hb dX11_tells_101 ?_
    refine lv_iload_n hx hb dX11_tells_102 rfl (lv_at hl 3 rfl) ?_
    refine lv_iadd hx hb dX11_tells_103 ?_
    refine lv_topi (fun v24 ev24 => ?_)
    replace hf := hf v24 ev24
    refine lv_istore (lv' := [(4, .int v24), (0, .ref (ad g a0)), (1, .int x1), (2, .int x2), (3, .int x3)]) hx hb dX11_tells_104 hl (by decide) rfl (fun ls hl => ?_)
    refine lv_aload_n hx hb dX11_tells_106 rfl (lv_at hl 1 rfl) ?_
    obtain ⟨b25, hb25, hf⟩ := hf
    refine hw_getR E hR cI10 hs0 79 (by decide) lfX11_506 rfl hb25 dX11_tells_107 ?_
    refine lv_bipush (v := 12) hx hb dX11_tells_110 (by decide) ?_
    refine lv_aload_n hx hb dX11_tells_112 rfl (lv_at hl 1 rfl) ?_
    obtain ⟨b26, hb26, hf⟩ := hf
    refine hw_getR E hR cI10 hs0 75 (by decide) lfX11_494 rfl hb26 dX11_tells_113 ?_
    refine lv_iload_n hx hb dX11_tells_116 rfl (lv_at hl 3 rfl) ?_
    obtain ⟨n27, hn27, in27, hf⟩ := hf
    refine hw_iald E hR hS hn27 in27 dX11_tells_117 ?_
    refine lv_imul hx hb dX11_tells_118 ?_
    refine lv_iload_n hx hb dX11_tells_119 rfl (lv_at hl 4 rfl) ?_
    refine lv_iadd hx hb dX11_tells_120 ?_
    obtain ⟨n28, hn28, in28, hf⟩ := hf
    refine hw_iald E hR hS hn28 in28 dX11_tells_121 ?_
    refine lv_aload_n hx hb dX11_tells_122 rfl (lv_at hl 1 rfl) ?_
    obtain ⟨b29, hb29, hf⟩ := hf
    refine hw_getR E hR cI10 hs0 77 (by decide) lfX11_500 rfl hb29 dX11_tells_123 ?_
    refine lv_iload_n hx hb dX11_tells_126 rfl (lv_at hl 3 rfl) ?_
    obtain ⟨n30, hn30, in30, hf⟩ := hf
    refine hw_iald E hR hS hn30 in30 dX11_tells_127 ?_
    refine lv_icmp_gt (tgt := 161) hx hb dX11_tells_128 (by decide) (fun c31 => ?_) (fun c31 => ?_)
    · replace hf := hf.1 c31
      obtain ⟨v32, ev32⟩ : ∃ y : Int32, y = x3 + (1 : Int32) := ⟨_, rfl⟩
      replace hf := hf v32 ev32
      refine lv_iinc (v := v32) (lv' := [(3, .int v32), (4, .int v24), (0, .ref (ad g a0)), (1, .int x1), (2, .int x2)]) hx hb dX11_tells_161 hl (k := 4) rfl (by rw [ev32]; rfl) (by decide) rfl (fun ls hl => ?_)
      refine lv_goto (tgt := 85) hx hb dX11_tells_164 (by decide) ?_
      exact hBK85 _ _ _ _ _ hf hR hS (lv_sub hl [2, 3, 4, 0] rfl)
    · replace hf := hf.2 c31
      refine lv_aload_n hx hb dX11_tells_131 rfl (lv_at hl 1 rfl) ?_
      obtain ⟨b33, hb33, hf⟩ := hf
      refine hw_getR E hR cI10 hs0 79 (by decide) lfX11_506 rfl hb33 dX11_tells_132 ?_
      refine lv_iload hx hb dX11_tells_135 (lv_at hl 0 rfl) ?_
      refine lv_aload_n hx hb dX11_tells_137 rfl (lv_at hl 1 rfl) ?_
      obtain ⟨b34, hb34, hf⟩ := hf
      refine hw_getR E hR cI10 hs0 79 (by decide) lfX11_506 rfl hb34 dX11_tells_138 ?_
      refine lv_iload hx hb dX11_tells_141 (lv_at hl 0 rfl) ?_
      obtain ⟨n35, hn35, in35, hf⟩ := hf
      refine hw_iald E hR hS hn35 in35 dX11_tells_143 ?_
      refine lv_aload_n hx hb dX11_tells_144 rfl (lv_at hl 1 rfl) ?_
      obtain ⟨b36, hb36, hf⟩ := hf
      refine hw_getR E hR cI10 hs0 77 (by decide) lfX11_500 rfl hb36 dX11_tells_145 ?_
      refine lv_iload_n hx hb dX11_tells_148 rfl (lv_at hl 3 rfl) ?_
      obtain ⟨n37, hn37, in37, hf⟩ := hf
      refine hw_iald E hR hS hn37 in37 dX11_tells_149 ?_
      refine lv_aload_n hx hb dX11_tells_150 rfl (lv_at hl 1 rfl) ?_
      obtain ⟨b38, hb38, hf⟩ := hf
      refine hw_getR E hR cI10 hs0 78 (by decide) lfX11_503 rfl hb38 dX11_tells_151 ?_
      refine lv_iload_n hx hb dX11_tells_154 rfl (lv_at hl 3 rfl) ?_
      obtain ⟨n39, hn39, in39, hf⟩ := hf
      refine hw_iald E hR hS hn39 in39 dX11_tells_155 ?_
      refine lv_iadd hx hb dX11_tells_156 ?_
      refine hw_min (d := 1) (rest := [.int v24, .ref (ad g b33)]) E hl lxX11_112 (by decide) (Nat.le_of_ble_eq_true rfl) dX11_tells_157 ?_
      obtain ⟨n40, hn40, in40, hf⟩ := hf
      refine hw_iast E hR hS hw hn40 in40 dX11_tells_160 (fun m41 H locs em41 hR hS => ?_)
      replace hf := hf m41 em41
      obtain ⟨v42, ev42⟩ : ∃ y : Int32, y = x3 + (1 : Int32) := ⟨_, rfl⟩
      replace hf := hf v42 ev42
      refine lv_iinc (v := v42) (lv' := [(3, .int v42), (4, .int v24), (0, .ref (ad g a0)), (1, .int x1), (2, .int x2)]) hx hb dX11_tells_161 hl (k := 4) rfl (by rw [ev42]; rfl) (by decide) rfl (fun ls hl => ?_)
      refine lv_goto (tgt := 85) hx hb dX11_tells_164 (by decide) ?_
      exact hBK85 _ _ _ _ _ hf hR hS (lv_sub hl [2, 3, 4, 0] rfl)
def f_X11_tells_L85 (S : Ss) (a0 : Nat) (x1 : Int32) (x2 : Int32) (EK85 : Mm → Prop) (K : Mm → Prop) : Nat → Int32 → Mm → Prop
  | 0, _, _ => False
  | n + 1, x3, M => f_X11_tells_B85 S a0 x1 x2 x3 M (fun (x3 : Int32) (M : Mm) => f_X11_tells_L85 S a0 x1 x2 EK85 K n x3 M) EK85 K
set_option maxHeartbeats 4000000 in
set_option maxRecDepth 100000 in
theorem w_X11_tells_L85 {p : Program} {l : Launch} {e : Env} {s : State} {m : MethodId} {args : Array Value} {below : List Frame} {meth : Method} {c : Code} {g : Gg} {S : Ss} (a0 : Nat) (x1 : Int32) (x2 : Int32) (EK85 : Mm → Prop) (K : Mm → Prop) (E : EN p s m args meth c cX11_tells 5 none RX11 g) (hw : ad g 100000 < s.heap.size) (hs0 : S[a0]? = some (10, 0)) (hEK85 : ∀ (M' : Mm) (H : Heap) (locs : List Loc) (ls : Array Slot), EK85 M' → RP g S M' H → va_S (gA g) s.heap H locs → lv_has ls 5 [(0, .ref (ad g a0)), (1, .int x1), (2, .int x2)] → W p l e (rmD 1) s m args below meth c H locs 0 0 (MQ below (QA g S (pV K)) args s 0 0 (gA g)) (F0 m 167 ls [])) : ∀ (n : Nat) (x3 : Int32) (M : Mm), f_X11_tells_L85 S a0 x1 x2 EK85 K n x3 M → ∀ (H : Heap) (locs : List Loc) (ls : Array Slot), RP g S M H → va_S (gA g) s.heap H locs → lv_has ls 5 [(0, .ref (ad g a0)), (1, .int x1), (2, .int x2), (3, .int x3)] → W p l e (rmD 1) s m args below meth c H locs 0 0 (MQ below (QA g S (pV K)) args s 0 0 (gA g)) (F0 m 85 ls []) := by
  intro n
  induction n with
  | zero => intro x3 M hf; exact hf.elim
  | succ n ih =>
    intro x3 M hf H locs ls hR hS hl
    exact w_X11_tells_B85 _ _ _ _ _ _ _ _ E hw hs0 (fun _ M H locs ls h hR hS hl => ih _ M h H locs ls hR hS hl) hEK85 hf H locs ls hR hS hl
def f_X11_tells_B75 (S : Ss) (a0 : Nat) (x1 : Int32) (x2 : Int32) (M : Mm) (BK75 : Int32 → Mm → Prop) (EK75 : Mm → Prop) (K : Mm → Prop) : Prop :=
  (((M.1 a0 74) ≤ x2 →
    EK75 M) ∧
   (¬ (M.1 a0 74) ≤ x2 →
    ∃ n45 : Nat, f_X11_tells_L85 S a0 x1 x2 (fun (m43 : Mm) =>
      ∀ v44 : Int32, v44 = x2 + (1 : Int32) →
      BK75 v44 m43) K n45 (0 : Int32) M))
set_option maxHeartbeats 4000000 in
set_option maxRecDepth 100000 in
theorem w_X11_tells_B75 {p : Program} {l : Launch} {e : Env} {s : State} {m : MethodId} {args : Array Value} {below : List Frame} {meth : Method} {c : Code} {g : Gg} {S : Ss} (a0 : Nat) (x1 : Int32) (x2 : Int32) (M : Mm) (BK75 : Int32 → Mm → Prop) (EK75 : Mm → Prop) (K : Mm → Prop) (E : EN p s m args meth c cX11_tells 5 none RX11 g) (hw : ad g 100000 < s.heap.size) (hs0 : S[a0]? = some (10, 0)) (hBK75 : ∀ (x2' : Int32) (M' : Mm) (H : Heap) (locs : List Loc) (ls : Array Slot), BK75 x2' M' → RP g S M' H → va_S (gA g) s.heap H locs → lv_has ls 5 [(0, .ref (ad g a0)), (1, .int x1), (2, .int x2')] → W p l e (rmD 1) s m args below meth c H locs 0 0 (MQ below (QA g S (pV K)) args s 0 0 (gA g)) (F0 m 75 ls [])) (hEK75 : ∀ (M' : Mm) (H : Heap) (locs : List Loc) (ls : Array Slot), EK75 M' → RP g S M' H → va_S (gA g) s.heap H locs → lv_has ls 5 [(0, .ref (ad g a0)), (1, .int x1)] → W p l e (rmD 1) s m args below meth c H locs 0 0 (MQ below (QA g S (pV K)) args s 0 0 (gA g)) (F0 m 173 ls [])) (hf : f_X11_tells_B75 S a0 x1 x2 M BK75 EK75 K) (H : Heap) (locs : List Loc) (ls : Array Slot) (hR : RP g S M H) (hS : va_S (gA g) s.heap H locs) (hl : lv_has ls 5 [(0, .ref (ad g a0)), (1, .int x1), (2, .int x2)]) : W p l e (rmD 1) s m args below meth c H locs 0 0 (MQ below (QA g S (pV K)) args s 0 0 (gA g)) (F0 m 75 ls []) := by
  have hx := E.1
  have hb := E.2.1
  unfold f_X11_tells_B75 at hf
  refine lv_iload_n hx hb dX11_tells_75 rfl (lv_at hl 2 rfl) ?_
  refine lv_aload_n hx hb dX11_tells_76 rfl (lv_at hl 0 rfl) ?_
  refine hw_getI E hR cI10 hs0 74 (by decide) lfX11_491 rfl dX11_tells_77 ?_
  refine lv_icmp_ge (tgt := 173) hx hb dX11_tells_80 (by decide) (fun c20 => ?_) (fun c20 => ?_)
  · replace hf := hf.1 c20
    exact hEK75  _ _ _ _ hf hR hS (lv_sub hl [0, 1] rfl)
  · replace hf := hf.2 c20
    refine lv_iconst (v := 0) hx hb dX11_tells_83 (by decide) ?_
    refine lv_istore_n (lv' := [(3, .int (0 : Int32)), (0, .ref (ad g a0)), (1, .int x1), (2, .int x2)]) hx hb dX11_tells_84 rfl hl (by decide) rfl (fun ls hl => ?_)
    obtain ⟨n45, hf⟩ := hf
    refine w_X11_tells_L85 _ _ _ _ _ E hw hs0 ?_ n45 _ _ hf _ _ _ hR hS (lv_sub hl [1, 2, 3, 0] rfl)
    intro m43 H locs ls hf hR hS hl
    obtain ⟨v44, ev44⟩ : ∃ y : Int32, y = x2 + (1 : Int32) := ⟨_, rfl⟩
    replace hf := hf v44 ev44
    refine lv_iinc (v := v44) (lv' := [(2, .int v44), (0, .ref (ad g a0)), (1, .int x1)]) hx hb dX11_tells_167 hl (k := 2) rfl (by rw [ev44]; rfl) (by decide) rfl (fun ls hl => ?_)
    refine lv_goto (tgt := 75) hx hb dX11_tells_170 (by decide) ?_
    exact hBK75 _ _ _ _ _ hf hR hS (lv_sub hl [1, 2, 0] rfl)
def f_X11_tells_L75 (S : Ss) (a0 : Nat) (x1 : Int32) (EK75 : Mm → Prop) (K : Mm → Prop) : Nat → Int32 → Mm → Prop
  | 0, _, _ => False
  | n + 1, x2, M => f_X11_tells_B75 S a0 x1 x2 M (fun (x2 : Int32) (M : Mm) => f_X11_tells_L75 S a0 x1 EK75 K n x2 M) EK75 K
set_option maxHeartbeats 4000000 in
set_option maxRecDepth 100000 in
theorem w_X11_tells_L75 {p : Program} {l : Launch} {e : Env} {s : State} {m : MethodId} {args : Array Value} {below : List Frame} {meth : Method} {c : Code} {g : Gg} {S : Ss} (a0 : Nat) (x1 : Int32) (EK75 : Mm → Prop) (K : Mm → Prop) (E : EN p s m args meth c cX11_tells 5 none RX11 g) (hw : ad g 100000 < s.heap.size) (hs0 : S[a0]? = some (10, 0)) (hEK75 : ∀ (M' : Mm) (H : Heap) (locs : List Loc) (ls : Array Slot), EK75 M' → RP g S M' H → va_S (gA g) s.heap H locs → lv_has ls 5 [(0, .ref (ad g a0)), (1, .int x1)] → W p l e (rmD 1) s m args below meth c H locs 0 0 (MQ below (QA g S (pV K)) args s 0 0 (gA g)) (F0 m 173 ls [])) : ∀ (n : Nat) (x2 : Int32) (M : Mm), f_X11_tells_L75 S a0 x1 EK75 K n x2 M → ∀ (H : Heap) (locs : List Loc) (ls : Array Slot), RP g S M H → va_S (gA g) s.heap H locs → lv_has ls 5 [(0, .ref (ad g a0)), (1, .int x1), (2, .int x2)] → W p l e (rmD 1) s m args below meth c H locs 0 0 (MQ below (QA g S (pV K)) args s 0 0 (gA g)) (F0 m 75 ls []) := by
  intro n
  induction n with
  | zero => intro x2 M hf; exact hf.elim
  | succ n ih =>
    intro x2 M hf H locs ls hR hS hl
    exact w_X11_tells_B75 _ _ _ _ _ _ _ E hw hs0 (fun _ M H locs ls h hR hS hl => ih _ M h H locs ls hR hS hl) hEK75 hf H locs ls hR hS hl
def f_X11_tells_B65 (S : Ss) (a0 : Nat) (x1 : Int32) (M : Mm) (BK65 : Int32 → Mm → Prop) (EK65 : Mm → Prop) (K : Mm → Prop) : Prop :=
  (((M.1 a0 74) < x1 →
    EK65 M) ∧
   (¬ (M.1 a0 74) < x1 →
    ∃ n48 : Nat, f_X11_tells_L75 S a0 x1 (fun (m46 : Mm) =>
      ∀ v47 : Int32, v47 = x1 + (1 : Int32) →
      BK65 v47 m46) K n48 (0 : Int32) M))
set_option maxHeartbeats 4000000 in
set_option maxRecDepth 100000 in
theorem w_X11_tells_B65 {p : Program} {l : Launch} {e : Env} {s : State} {m : MethodId} {args : Array Value} {below : List Frame} {meth : Method} {c : Code} {g : Gg} {S : Ss} (a0 : Nat) (x1 : Int32) (M : Mm) (BK65 : Int32 → Mm → Prop) (EK65 : Mm → Prop) (K : Mm → Prop) (E : EN p s m args meth c cX11_tells 5 none RX11 g) (hw : ad g 100000 < s.heap.size) (hs0 : S[a0]? = some (10, 0)) (hBK65 : ∀ (x1' : Int32) (M' : Mm) (H : Heap) (locs : List Loc) (ls : Array Slot), BK65 x1' M' → RP g S M' H → va_S (gA g) s.heap H locs → lv_has ls 5 [(0, .ref (ad g a0)), (1, .int x1')] → W p l e (rmD 1) s m args below meth c H locs 0 0 (MQ below (QA g S (pV K)) args s 0 0 (gA g)) (F0 m 65 ls [])) (hEK65 : ∀ (M' : Mm) (H : Heap) (locs : List Loc) (ls : Array Slot), EK65 M' → RP g S M' H → va_S (gA g) s.heap H locs → lv_has ls 5 [] → W p l e (rmD 1) s m args below meth c H locs 0 0 (MQ below (QA g S (pV K)) args s 0 0 (gA g)) (F0 m 179 ls [])) (hf : f_X11_tells_B65 S a0 x1 M BK65 EK65 K) (H : Heap) (locs : List Loc) (ls : Array Slot) (hR : RP g S M H) (hS : va_S (gA g) s.heap H locs) (hl : lv_has ls 5 [(0, .ref (ad g a0)), (1, .int x1)]) : W p l e (rmD 1) s m args below meth c H locs 0 0 (MQ below (QA g S (pV K)) args s 0 0 (gA g)) (F0 m 65 ls []) := by
  have hx := E.1
  have hb := E.2.1
  unfold f_X11_tells_B65 at hf
  refine lv_iload_n hx hb dX11_tells_65 rfl (lv_at hl 1 rfl) ?_
  refine lv_aload_n hx hb dX11_tells_66 rfl (lv_at hl 0 rfl) ?_
  refine hw_getI E hR cI10 hs0 74 (by decide) lfX11_491 rfl dX11_tells_67 ?_
  refine lv_icmp_gt (tgt := 179) hx hb dX11_tells_70 (by decide) (fun c19 => ?_) (fun c19 => ?_)
  · replace hf := hf.1 c19
    exact hEK65  _ _ _ _ hf hR hS (lv_sub hl [] rfl)
  · replace hf := hf.2 c19
    refine lv_iconst (v := 0) hx hb dX11_tells_73 (by decide) ?_
    refine lv_istore_n (lv' := [(2, .int (0 : Int32)), (0, .ref (ad g a0)), (1, .int x1)]) hx hb dX11_tells_74 rfl hl (by decide) rfl (fun ls hl => ?_)
    obtain ⟨n48, hf⟩ := hf
    refine w_X11_tells_L75 _ _ _ _ E hw hs0 ?_ n48 _ _ hf _ _ _ hR hS (lv_sub hl [1, 2, 0] rfl)
    intro m46 H locs ls hf hR hS hl
    obtain ⟨v47, ev47⟩ : ∃ y : Int32, y = x1 + (1 : Int32) := ⟨_, rfl⟩
    replace hf := hf v47 ev47
    refine lv_iinc (v := v47) (lv' := [(1, .int v47), (0, .ref (ad g a0))]) hx hb dX11_tells_173 hl (k := 1) rfl (by rw [ev47]; rfl) (by decide) rfl (fun ls hl => ?_)
    refine lv_goto (tgt := 65) hx hb dX11_tells_176 (by decide) ?_
    exact hBK65 _ _ _ _ _ hf hR hS (lv_sub hl [1, 0] rfl)
def f_X11_tells_L65 (S : Ss) (a0 : Nat) (EK65 : Mm → Prop) (K : Mm → Prop) : Nat → Int32 → Mm → Prop
  | 0, _, _ => False
  | n + 1, x1, M => f_X11_tells_B65 S a0 x1 M (fun (x1 : Int32) (M : Mm) => f_X11_tells_L65 S a0 EK65 K n x1 M) EK65 K
set_option maxHeartbeats 4000000 in
set_option maxRecDepth 100000 in
theorem w_X11_tells_L65 {p : Program} {l : Launch} {e : Env} {s : State} {m : MethodId} {args : Array Value} {below : List Frame} {meth : Method} {c : Code} {g : Gg} {S : Ss} (a0 : Nat) (EK65 : Mm → Prop) (K : Mm → Prop) (E : EN p s m args meth c cX11_tells 5 none RX11 g) (hw : ad g 100000 < s.heap.size) (hs0 : S[a0]? = some (10, 0)) (hEK65 : ∀ (M' : Mm) (H : Heap) (locs : List Loc) (ls : Array Slot), EK65 M' → RP g S M' H → va_S (gA g) s.heap H locs → lv_has ls 5 [] → W p l e (rmD 1) s m args below meth c H locs 0 0 (MQ below (QA g S (pV K)) args s 0 0 (gA g)) (F0 m 179 ls [])) : ∀ (n : Nat) (x1 : Int32) (M : Mm), f_X11_tells_L65 S a0 EK65 K n x1 M → ∀ (H : Heap) (locs : List Loc) (ls : Array Slot), RP g S M H → va_S (gA g) s.heap H locs → lv_has ls 5 [(0, .ref (ad g a0)), (1, .int x1)] → W p l e (rmD 1) s m args below meth c H locs 0 0 (MQ below (QA g S (pV K)) args s 0 0 (gA g)) (F0 m 65 ls []) := by
  intro n
  induction n with
  | zero => intro x1 M hf; exact hf.elim
  | succ n ih =>
    intro x1 M hf H locs ls hR hS hl
    exact w_X11_tells_B65 _ _ _ _ _ _ E hw hs0 (fun _ M H locs ls h hR hS hl => ih _ M h H locs ls hR hS hl) hEK65 hf H locs ls hR hS hl
def f_X11_tells (S : Ss) (a0 : Nat) (M : Mm) (K : Mm → Prop) : Prop :=
  ∃ n51 : Nat, f_X11_tells_L2 S a0 (fun (m18 : Mm) =>
    ∃ n50 : Nat, f_X11_tells_L65 S a0 (fun (m49 : Mm) =>
      K m49) K n50 (0 : Int32) m18) K n51 (0 : Int32) M
set_option maxHeartbeats 4000000 in
set_option maxRecDepth 100000 in
theorem ok_X11_tells {l : Launch} {g : Gg} {S : Ss} {a0 : Nat} {M : Mm} {K : Mm → Prop} (hs0 : S[a0]? = some (10, 0)) (hf : f_X11_tells S a0 M K) : MT l g S yX11_tells cX11_tells 5 none 1 [.ref (ad g a0)] M (pV K) := by
  refine MT.of (by decide +kernel) (Nat.le_of_ble_eq_true rfl) ?_
  intro p e s m below meth c ls E hw hR hS hl
  have hl : lv_has ls 5 [(0, .ref (ad g a0))] := hl
  generalize ([.ref (ad g a0)] : List Value).toArray = args at E ⊢
  have E : EN p s m args meth c cX11_tells 5 none RX11 g := E
  have hx := E.1
  have hb := E.2.1
  unfold f_X11_tells at hf
  refine lv_iconst (v := 0) hx hb dX11_tells_0 (by decide) ?_
  refine lv_istore_n (lv' := [(1, .int (0 : Int32)), (0, .ref (ad g a0))]) hx hb dX11_tells_1 rfl hl (by decide) rfl (fun ls hl => ?_)
  obtain ⟨n51, hf⟩ := hf
  refine w_X11_tells_L2 _ _ _ E hw hs0 ?_ n51 _ _ hf _ _ _ hR hS (lv_sub hl [1, 0] rfl)
  intro m18 H locs ls hf hR hS hl
  refine lv_iconst (v := 0) hx hb dX11_tells_63 (by decide) ?_
  refine lv_istore_n (lv' := [(1, .int (0 : Int32)), (0, .ref (ad g a0))]) hx hb dX11_tells_64 rfl hl (by decide) rfl (fun ls hl => ?_)
  obtain ⟨n50, hf⟩ := hf
  refine w_X11_tells_L65 _ _ _ E hw hs0 ?_ n50 _ _ hf _ _ _ hR hS (lv_sub hl [1, 0] rfl)
  intro m49 H locs ls hf hR hS hl
  exact hw_vret E hR hS ⟨rfl, hf⟩ dX11_tells_179
def f_X11_knew_B40 (S : Ss) (a0 : Nat) (x1 : Int32) (x2 : Int32) (x3 : Int32) (x4 : Int32) (M : Mm) (BK40 : Int32 → Int32 → Mm → Prop) (EK40 : Int32 → Mm → Prop) (K : Int32 → Mm → Prop) : Prop :=
  (((M.1 a0 70) ≤ x4 →
    EK40 x3 M) ∧
   (¬ (M.1 a0 70) ≤ x4 →
    ∃ b10 : Nat, M.2.2 a0 79 = some b10 ∧
    ∃ n11 : Nat, shp S b10 = some (50, n11) ∧ vp_in (((12 : Int32) * x1) + x4) n11 ∧
    ((x2 < (M.1 b10 (((12 : Int32) * x1) + x4).toNatClampNeg) →
      ∀ v13 : Int32, v13 = (x3 ||| (0 : Int32)) →
      ∀ v14 : Int32, v14 = x4 + (1 : Int32) →
      BK40 v13 v14 M) ∧
     (¬ x2 < (M.1 b10 (((12 : Int32) * x1) + x4).toNatClampNeg) →
      ∀ v15 : Int32, v15 = (x3 ||| ((1 : Int32) <<< (x4 &&& 31))) →
      ∀ v16 : Int32, v16 = x4 + (1 : Int32) →
      BK40 v15 v16 M))))
set_option maxHeartbeats 4000000 in
set_option maxRecDepth 100000 in
theorem w_X11_knew_B40 {p : Program} {l : Launch} {e : Env} {s : State} {m : MethodId} {args : Array Value} {below : List Frame} {meth : Method} {c : Code} {g : Gg} {S : Ss} (a0 : Nat) (x1 : Int32) (x2 : Int32) (x3 : Int32) (x4 : Int32) (M : Mm) (BK40 : Int32 → Int32 → Mm → Prop) (EK40 : Int32 → Mm → Prop) (K : Int32 → Mm → Prop) (E : EN p s m args meth c cX11_knew 5 (some .int) RX11 g) (hw : ad g 100000 < s.heap.size) (hs0 : S[a0]? = some (10, 0)) (hBK40 : ∀ (x3' : Int32) (x4' : Int32) (M' : Mm) (H : Heap) (locs : List Loc) (ls : Array Slot), BK40 x3' x4' M' → RP g S M' H → va_S (gA g) s.heap H locs → lv_has ls 5 [(0, .ref (ad g a0)), (1, .int x1), (2, .int x2), (3, .int x3'), (4, .int x4')] → W p l e (rmD 2) s m args below meth c H locs 0 0 (MQ below (QA g S (pI K)) args s 0 0 (gA g)) (F0 m 40 ls [])) (hEK40 : ∀ (x3' : Int32) (M' : Mm) (H : Heap) (locs : List Loc) (ls : Array Slot), EK40 x3' M' → RP g S M' H → va_S (gA g) s.heap H locs → lv_has ls 5 [(3, .int x3')] → W p l e (rmD 2) s m args below meth c H locs 0 0 (MQ below (QA g S (pI K)) args s 0 0 (gA g)) (F0 m 82 ls [])) (hf : f_X11_knew_B40 S a0 x1 x2 x3 x4 M BK40 EK40 K) (H : Heap) (locs : List Loc) (ls : Array Slot) (hR : RP g S M H) (hS : va_S (gA g) s.heap H locs) (hl : lv_has ls 5 [(0, .ref (ad g a0)), (1, .int x1), (2, .int x2), (3, .int x3), (4, .int x4)]) : W p l e (rmD 2) s m args below meth c H locs 0 0 (MQ below (QA g S (pI K)) args s 0 0 (gA g)) (F0 m 40 ls []) := by
  have hx := E.1
  have hb := E.2.1
  unfold f_X11_knew_B40 at hf
  refine lv_iload hx hb dX11_knew_40 (lv_at hl 4 rfl) ?_
  refine lv_aload_n hx hb dX11_knew_42 rfl (lv_at hl 0 rfl) ?_
  refine hw_getI E hR cI10 hs0 70 (by decide) lfX11_477 rfl dX11_knew_43 ?_
  refine lv_icmp_ge (tgt := 82) hx hb dX11_knew_46 (by decide) (fun c9 => ?_) (fun c9 => ?_)
  · replace hf := hf.1 c9
    exact hEK40 _ _ _ _ _ hf hR hS (lv_sub hl [3] rfl)
  · replace hf := hf.2 c9
    refine lv_iload_n hx hb dX11_knew_49 rfl (lv_at hl 3 rfl) ?_
    refine lv_aload_n hx hb dX11_knew_50 rfl (lv_at hl 0 rfl) ?_
    obtain ⟨b10, hb10, hf⟩ := hf
    refine hw_getR E hR cI10 hs0 79 (by decide) lfX11_506 rfl hb10 dX11_knew_51 ?_
    refine lv_bipush (v := 12) hx hb dX11_knew_54 (by decide) ?_
    refine lv_iload_n hx hb dX11_knew_56 rfl (lv_at hl 1 rfl) ?_
    refine lv_imul hx hb dX11_knew_57 ?_
    refine lv_iload hx hb dX11_knew_58 (lv_at hl 4 rfl) ?_
    refine lv_iadd hx hb dX11_knew_60 ?_
    obtain ⟨n11, hn11, in11, hf⟩ := hf
    refine hw_iald E hR hS hn11 in11 dX11_knew_61 ?_
    refine lv_iload_n hx hb dX11_knew_62 rfl (lv_at hl 2 rfl) ?_
    refine lv_icmp_gt (tgt := 73) hx hb dX11_knew_63 (by decide) (fun c12 => ?_) (fun c12 => ?_)
    · replace hf := hf.1 c12
      refine lv_iconst (v := 0) hx hb dX11_knew_73 (by decide) ?_
      refine lv_ior hx hb dX11_knew_74 ?_
      refine lv_topi (fun v13 ev13 => ?_)
      replace hf := hf v13 ev13
      refine lv_istore_n (lv' := [(3, .int v13), (0, .ref (ad g a0)), (1, .int x1), (2, .int x2), (4, .int x4)]) hx hb dX11_knew_75 rfl hl (by decide) rfl (fun ls hl => ?_)
      obtain ⟨v14, ev14⟩ : ∃ y : Int32, y = x4 + (1 : Int32) := ⟨_, rfl⟩
      replace hf := hf v14 ev14
      refine lv_iinc (v := v14) (lv' := [(4, .int v14), (3, .int v13), (0, .ref (ad g a0)), (1, .int x1), (2, .int x2)]) hx hb dX11_knew_76 hl (k := 4) rfl (by rw [ev14]; rfl) (by decide) rfl (fun ls hl => ?_)
      refine lv_goto (tgt := 40) hx hb dX11_knew_79 (by decide) ?_
      exact hBK40 _ _ _ _ _ _ hf hR hS (lv_sub hl [2, 3, 4, 1, 0] rfl)
    · replace hf := hf.2 c12
      refine lv_iconst (v := 1) hx hb dX11_knew_66 (by decide) ?_
      refine lv_iload hx hb dX11_knew_67 (lv_at hl 4 rfl) ?_
      refine lv_ishl hx hb dX11_knew_69 ?_
      refine lv_goto (tgt := 74) hx hb dX11_knew_70 (by decide) ?_
      refine lv_ior hx hb dX11_knew_74 ?_
      refine lv_topi (fun v15 ev15 => ?_)
      replace hf := hf v15 ev15
      refine lv_istore_n (lv' := [(3, .int v15), (0, .ref (ad g a0)), (1, .int x1), (2, .int x2), (4, .int x4)]) hx hb dX11_knew_75 rfl hl (by decide) rfl (fun ls hl => ?_)
      obtain ⟨v16, ev16⟩ : ∃ y : Int32, y = x4 + (1 : Int32) := ⟨_, rfl⟩
      replace hf := hf v16 ev16
      refine lv_iinc (v := v16) (lv' := [(4, .int v16), (3, .int v15), (0, .ref (ad g a0)), (1, .int x1), (2, .int x2)]) hx hb dX11_knew_76 hl (k := 4) rfl (by rw [ev16]; rfl) (by decide) rfl (fun ls hl => ?_)
      refine lv_goto (tgt := 40) hx hb dX11_knew_79 (by decide) ?_
      exact hBK40 _ _ _ _ _ _ hf hR hS (lv_sub hl [2, 3, 4, 1, 0] rfl)
def f_X11_knew_L40 (S : Ss) (a0 : Nat) (x1 : Int32) (x2 : Int32) (EK40 : Int32 → Mm → Prop) (K : Int32 → Mm → Prop) : Nat → Int32 → Int32 → Mm → Prop
  | 0, _, _, _ => False
  | n + 1, x3, x4, M => f_X11_knew_B40 S a0 x1 x2 x3 x4 M (fun (x3 : Int32) (x4 : Int32) (M : Mm) => f_X11_knew_L40 S a0 x1 x2 EK40 K n x3 x4 M) EK40 K
set_option maxHeartbeats 4000000 in
set_option maxRecDepth 100000 in
theorem w_X11_knew_L40 {p : Program} {l : Launch} {e : Env} {s : State} {m : MethodId} {args : Array Value} {below : List Frame} {meth : Method} {c : Code} {g : Gg} {S : Ss} (a0 : Nat) (x1 : Int32) (x2 : Int32) (EK40 : Int32 → Mm → Prop) (K : Int32 → Mm → Prop) (E : EN p s m args meth c cX11_knew 5 (some .int) RX11 g) (hw : ad g 100000 < s.heap.size) (hs0 : S[a0]? = some (10, 0)) (hEK40 : ∀ (x3' : Int32) (M' : Mm) (H : Heap) (locs : List Loc) (ls : Array Slot), EK40 x3' M' → RP g S M' H → va_S (gA g) s.heap H locs → lv_has ls 5 [(3, .int x3')] → W p l e (rmD 2) s m args below meth c H locs 0 0 (MQ below (QA g S (pI K)) args s 0 0 (gA g)) (F0 m 82 ls [])) : ∀ (n : Nat) (x3 : Int32) (x4 : Int32) (M : Mm), f_X11_knew_L40 S a0 x1 x2 EK40 K n x3 x4 M → ∀ (H : Heap) (locs : List Loc) (ls : Array Slot), RP g S M H → va_S (gA g) s.heap H locs → lv_has ls 5 [(0, .ref (ad g a0)), (1, .int x1), (2, .int x2), (3, .int x3), (4, .int x4)] → W p l e (rmD 2) s m args below meth c H locs 0 0 (MQ below (QA g S (pI K)) args s 0 0 (gA g)) (F0 m 40 ls []) := by
  intro n
  induction n with
  | zero => intro x3 x4 M hf; exact hf.elim
  | succ n ih =>
    intro x3 x4 M hf H locs ls hR hS hl
    exact w_X11_knew_B40 _ _ _ _ _ _ _ _ _ E hw hs0 (fun _ _ M H locs ls h hR hS hl => ih _ _ M h H locs ls hR hS hl) hEK40 hf H locs ls hR hS hl
def f_X11_knew (S : Ss) (a0 : Nat) (x1 : Int32) (x2 : Int32) (M : Mm) (K : Int32 → Mm → Prop) : Prop :=
  ∀ m1 : Mm, m1 = stI M a0 0 (0 : Int32) →
  f_X11_in S  x1.toInt64 (0 : Int64) (5 : Int64) m1 (fun (r3 : Int32) (m2 : Mm) =>
    ((r3 = 0 →
    K (-1 : Int32) m2) ∧
   (¬ r3 = 0 →
    f_X11_in S  x2.toInt64 (0 : Int64) (200 : Int64) m2 (fun (r6 : Int32) (m5 : Mm) =>
      ((r6 = 0 →
      K (-1 : Int32) m5) ∧
     (¬ r6 = 0 →
      f_X11_tells S a0  m5 (fun (m8 : Mm) =>
        ∃ n19 : Nat, f_X11_knew_L40 S a0 x1 x2 (fun (v17 : Int32) (m18 : Mm) =>
        K v17 m18) K n19 (0 : Int32) (0 : Int32) m8)))))))
set_option maxHeartbeats 4000000 in
set_option maxRecDepth 100000 in
theorem ok_X11_knew {l : Launch} {g : Gg} {S : Ss} {a0 : Nat} {x1 : Int32} {x2 : Int32} {M : Mm} {K : Int32 → Mm → Prop} (hs0 : S[a0]? = some (10, 0)) (hf : f_X11_knew S a0 x1 x2 M K) : MT l g S yX11_knew cX11_knew 5 (some .int) 2 [.ref (ad g a0), .int x1, .int x2] M (pI K) := by
  refine MT.of (by decide +kernel) (Nat.le_of_ble_eq_true rfl) ?_
  intro p e s m below meth c ls E hw hR hS hl
  have hl : lv_has ls 5 [(0, .ref (ad g a0)), (1, .int x1), (2, .int x2)] := hl
  generalize ([.ref (ad g a0), .int x1, .int x2] : List Value).toArray = args at E ⊢
  have E : EN p s m args meth c cX11_knew 5 (some .int) RX11 g := E
  have hx := E.1
  have hb := E.2.1
  unfold f_X11_knew at hf
  refine lv_aload_n hx hb dX11_knew_0 rfl (lv_at hl 0 rfl) ?_
  refine lv_iconst (v := 0) hx hb dX11_knew_1 (by decide) ?_
  refine hw_putI E hR hS hw cI10 hs0 0 (by decide) lfX11_3 rfl (Or.inl rfl) dX11_knew_2 (fun m1 H locs em1 hR hS => ?_)
  replace hf := hf m1 em1
  refine lv_iload_n hx hb dX11_knew_5 rfl (lv_at hl 1 rfl) ?_
  refine lv_i2l hx hb dX11_knew_6 rfl ?_
  refine lv_lconst (v := 0) hx hb dX11_knew_7 (by decide) ?_
  refine lv_ldc2 (v := 5) hx hb E.2.2.2.2.1 (E.2.2.2.2.2.1 _ ljX11_475) dX11_knew_8 ?_
  refine hw_callS (d := 2) E hR hS (As := [.long x1.toInt64, .long (0 : Int64), .long (5 : Int64)]) (rest := []) mcX11_in msX11_in lmX11_21 (ok_X11_in  hf) rfl rfl (by decide) hl.1 (Nat.le_of_ble_eq_true rfl) dX11_knew_11 (fun rr m2 H locs hp hR hS => ?_)
  obtain ⟨r3, rfl, hf⟩ := hp
  refine W.eq (g2 := F0 m 14 ls [.int r3]) rfl ?_
  refine lv_if_eq (tgt := 29) hx hb dX11_knew_14 (by decide) (fun c4 => ?_) (fun c4 => ?_)
  · replace hf := hf.1 c4
    refine lv_iconst (v := -1) hx hb dX11_knew_29 (by decide) ?_
    exact hw_iret E hR hS ⟨_, rfl, hf⟩ dX11_knew_30
  · replace hf := hf.2 c4
    refine lv_iload_n hx hb dX11_knew_17 rfl (lv_at hl 2 rfl) ?_
    refine lv_i2l hx hb dX11_knew_18 rfl ?_
    refine lv_lconst (v := 0) hx hb dX11_knew_19 (by decide) ?_
    refine lv_ldc2 (v := 200) hx hb E.2.2.2.2.1 (E.2.2.2.2.2.1 _ ljX11_509) dX11_knew_20 ?_
    refine hw_callS (d := 2) E hR hS (As := [.long x2.toInt64, .long (0 : Int64), .long (200 : Int64)]) (rest := []) mcX11_in msX11_in lmX11_21 (ok_X11_in  hf) rfl rfl (by decide) hl.1 (Nat.le_of_ble_eq_true rfl) dX11_knew_23 (fun rr m5 H locs hp hR hS => ?_)
    obtain ⟨r6, rfl, hf⟩ := hp
    refine W.eq (g2 := F0 m 26 ls [.int r6]) rfl ?_
    refine lv_if_ne (tgt := 31) hx hb dX11_knew_26 (by decide) (fun c7 => ?_) (fun c7 => ?_)
    · replace hf := hf.2 c7
      refine lv_aload_n hx hb dX11_knew_31 rfl (lv_at hl 0 rfl) ?_
      refine hw_callV (d := 2) E hR hS (As := []) (rest := []) cI10 hs0 rfl mcX11_tells miX11_tells lmX11_511 (ok_X11_tells hs0 hf) rfl rfl (by decide) hl.1 (Nat.le_of_ble_eq_true rfl) dX11_knew_32 (fun rr m8 H locs hp hR hS => ?_)
      obtain ⟨rfl, hf⟩ := hp
      refine W.eq (g2 := F0 m 35 ls []) rfl ?_
      refine lv_iconst (v := 0) hx hb dX11_knew_35 (by decide) ?_
      refine lv_istore_n (lv' := [(3, .int (0 : Int32)), (0, .ref (ad g a0)), (1, .int x1), (2, .int x2)]) hx hb dX11_knew_36 rfl hl (by decide) rfl (fun ls hl => ?_)
      refine lv_iconst (v := 0) hx hb dX11_knew_37 (by decide) ?_
      refine lv_istore (lv' := [(4, .int (0 : Int32)), (3, .int (0 : Int32)), (0, .ref (ad g a0)), (1, .int x1), (2, .int x2)]) hx hb dX11_knew_38 hl (by decide) rfl (fun ls hl => ?_)
      obtain ⟨n19, hf⟩ := hf
      refine w_X11_knew_L40 _ _ _ _ _ E hw hs0 ?_ n19 _ _ _ hf _ _ _ hR hS (lv_sub hl [2, 3, 4, 1, 0] rfl)
      intro v17 m18 H locs ls hf hR hS hl
      refine lv_iload_n hx hb dX11_knew_82 rfl (lv_at hl 0 rfl) ?_
      exact hw_iret E hR hS ⟨_, rfl, hf⟩ dX11_knew_83
    · replace hf := hf.1 c7
      refine lv_iconst (v := -1) hx hb dX11_knew_29 (by decide) ?_
      exact hw_iret E hR hS ⟨_, rfl, hf⟩ dX11_knew_30
def f_X11_enough_J141 (S : Ss) (a0 : Nat) (x1 : Int32) (x2 : Int32) (x3 : Int32) (x4 : Int32) (x5 : Int32) (x7 : Int32) (t0 : Int32) (t1 : Int32) (M : Mm) (BK63 : Int32 → Int32 → Int32 → Mm → Prop) (K : Int32 → Mm → Prop) : Prop :=
  f_X11_truth S  t0 M (fun (r19 : Int32) (m18 : Mm) =>
    ∀ v20 : Int32, v20 = (t1 + r19) →
  ∀ v21 : Int32, v21 = x7 + (1 : Int32) →
  BK63 x5 v20 v21 m18)
set_option maxHeartbeats 4000000 in
set_option maxRecDepth 100000 in
theorem w_X11_enough_J141 {p : Program} {l : Launch} {e : Env} {s : State} {m : MethodId} {args : Array Value} {below : List Frame} {meth : Method} {c : Code} {g : Gg} {S : Ss} (a0 : Nat) (x1 : Int32) (x2 : Int32) (x3 : Int32) (x4 : Int32) (x5 : Int32) (x7 : Int32) (t0 : Int32) (t1 : Int32) (M : Mm) (BK63 : Int32 → Int32 → Int32 → Mm → Prop) (K : Int32 → Mm → Prop) (E : EN p s m args meth c cX11_enough 9 (some .int) RX11 g) (hw : ad g 100000 < s.heap.size) (hs0 : S[a0]? = some (10, 0)) (hBK63 : ∀ (x5' : Int32) (x6' : Int32) (x7' : Int32) (M' : Mm) (H : Heap) (locs : List Loc) (ls : Array Slot), BK63 x5' x6' x7' M' → RP g S M' H → va_S (gA g) s.heap H locs → lv_has ls 9 [(0, .ref (ad g a0)), (1, .int x1), (2, .int x2), (3, .int x3), (4, .int x4), (5, .int x5'), (6, .int x6'), (7, .int x7')] → W p l e (rmD 2) s m args below meth c H locs 0 0 (MQ below (QA g S (pI K)) args s 0 0 (gA g)) (F0 m 63 ls [])) (hf : f_X11_enough_J141 S a0 x1 x2 x3 x4 x5 x7 t0 t1 M BK63 K) (H : Heap) (locs : List Loc) (ls : Array Slot) (hR : RP g S M H) (hS : va_S (gA g) s.heap H locs) (hl : lv_has ls 9 [(0, .ref (ad g a0)), (1, .int x1), (2, .int x2), (3, .int x3), (4, .int x4), (5, .int x5), (7, .int x7)]) : W p l e (rmD 2) s m args below meth c H locs 0 0 (MQ below (QA g S (pI K)) args s 0 0 (gA g)) (F0 m 141 ls [.int t0, .int t1]) := by
  have hx := E.1
  have hb := E.2.1
  unfold f_X11_enough_J141 at hf
  refine hw_callS (d := 2) E hR hS (As := [.int t0]) (rest := [.int t1]) mcX11_truth msX11_truth lmX11_35 (ok_X11_truth  hf) rfl rfl (by decide) hl.1 (Nat.le_of_ble_eq_true rfl) dX11_enough_141 (fun rr m18 H locs hp hR hS => ?_)
  obtain ⟨r19, rfl, hf⟩ := hp
  refine W.eq (g2 := F0 m 144 ls [.int r19, .int t1]) rfl ?_
  refine lv_iadd hx hb dX11_enough_144 ?_
  refine lv_topi (fun v20 ev20 => ?_)
  replace hf := hf v20 ev20
  refine lv_istore (lv' := [(6, .int v20), (0, .ref (ad g a0)), (1, .int x1), (2, .int x2), (3, .int x3), (4, .int x4), (5, .int x5), (7, .int x7)]) hx hb dX11_enough_145 hl (by decide) rfl (fun ls hl => ?_)
  obtain ⟨v21, ev21⟩ : ∃ y : Int32, y = x7 + (1 : Int32) := ⟨_, rfl⟩
  replace hf := hf v21 ev21
  refine lv_iinc (v := v21) (lv' := [(7, .int v21), (6, .int v20), (0, .ref (ad g a0)), (1, .int x1), (2, .int x2), (3, .int x3), (4, .int x4), (5, .int x5)]) hx hb dX11_enough_147 hl (k := 7) rfl (by rw [ev21]; rfl) (by decide) rfl (fun ls hl => ?_)
  refine lv_goto (tgt := 63) hx hb dX11_enough_150 (by decide) ?_
  exact hBK63 _ _ _ _ _ _ _ hf hR hS (lv_sub hl [2, 3, 4, 5, 6, 7, 1, 0] rfl)
def f_X11_enough_J140 (S : Ss) (a0 : Nat) (x1 : Int32) (x2 : Int32) (x3 : Int32) (x4 : Int32) (x5 : Int32) (x7 : Int32) (t0 : Int32) (M : Mm) (BK63 : Int32 → Int32 → Int32 → Mm → Prop) (K : Int32 → Mm → Prop) : Prop :=
  f_X11_enough_J141 S a0 x1 x2 x3 x4 x5 x7 (0 : Int32) t0 M BK63 K
set_option maxHeartbeats 4000000 in
set_option maxRecDepth 100000 in
theorem w_X11_enough_J140 {p : Program} {l : Launch} {e : Env} {s : State} {m : MethodId} {args : Array Value} {below : List Frame} {meth : Method} {c : Code} {g : Gg} {S : Ss} (a0 : Nat) (x1 : Int32) (x2 : Int32) (x3 : Int32) (x4 : Int32) (x5 : Int32) (x7 : Int32) (t0 : Int32) (M : Mm) (BK63 : Int32 → Int32 → Int32 → Mm → Prop) (K : Int32 → Mm → Prop) (E : EN p s m args meth c cX11_enough 9 (some .int) RX11 g) (hw : ad g 100000 < s.heap.size) (hs0 : S[a0]? = some (10, 0)) (hBK63 : ∀ (x5' : Int32) (x6' : Int32) (x7' : Int32) (M' : Mm) (H : Heap) (locs : List Loc) (ls : Array Slot), BK63 x5' x6' x7' M' → RP g S M' H → va_S (gA g) s.heap H locs → lv_has ls 9 [(0, .ref (ad g a0)), (1, .int x1), (2, .int x2), (3, .int x3), (4, .int x4), (5, .int x5'), (6, .int x6'), (7, .int x7')] → W p l e (rmD 2) s m args below meth c H locs 0 0 (MQ below (QA g S (pI K)) args s 0 0 (gA g)) (F0 m 63 ls [])) (hf : f_X11_enough_J140 S a0 x1 x2 x3 x4 x5 x7 t0 M BK63 K) (H : Heap) (locs : List Loc) (ls : Array Slot) (hR : RP g S M H) (hS : va_S (gA g) s.heap H locs) (hl : lv_has ls 9 [(0, .ref (ad g a0)), (1, .int x1), (2, .int x2), (3, .int x3), (4, .int x4), (5, .int x5), (7, .int x7)]) : W p l e (rmD 2) s m args below meth c H locs 0 0 (MQ below (QA g S (pI K)) args s 0 0 (gA g)) (F0 m 140 ls [.int t0]) := by
  have hx := E.1
  have hb := E.2.1
  unfold f_X11_enough_J140 at hf
  refine lv_iconst (v := 0) hx hb dX11_enough_140 (by decide) ?_
  exact w_X11_enough_J141 _ _ _ _ _ _ _ _ _ _ _ _ E hw hs0 hBK63 hf _ _ _ hR hS (lv_sub hl [0, 1, 2, 3, 4, 5, 6] rfl)
def f_X11_enough_J114 (S : Ss) (a0 : Nat) (x1 : Int32) (x2 : Int32) (x3 : Int32) (x4 : Int32) (x6 : Int32) (x7 : Int32) (x8 : Int32) (t0 : Int32) (t1 : Int32) (M : Mm) (BK63 : Int32 → Int32 → Int32 → Mm → Prop) (K : Int32 → Mm → Prop) : Prop :=
  ∀ v16 : Int32, v16 = (t1 ||| t0) →
  ((x8 = 0 →
    f_X11_enough_J140 S a0 x1 x2 x3 x4 v16 x7 x6 M BK63 K) ∧
   (¬ x8 = 0 →
    ∃ b22 : Nat, M.2.2 a0 73 = some b22 ∧
    ∃ n23 : Nat, shp S b22 = some (50, n23) ∧ vp_in x7 n23 ∧
    ((((M.1 b22 x7.toNatClampNeg) &&& x1) = 0 →
      f_X11_enough_J140 S a0 x1 x2 x3 x4 v16 x7 x6 M BK63 K) ∧
     (¬ ((M.1 b22 x7.toNatClampNeg) &&& x1) = 0 →
      f_X11_enough_J141 S a0 x1 x2 x3 x4 v16 x7 (1 : Int32) x6 M BK63 K))))
set_option maxHeartbeats 4000000 in
set_option maxRecDepth 100000 in
theorem w_X11_enough_J114 {p : Program} {l : Launch} {e : Env} {s : State} {m : MethodId} {args : Array Value} {below : List Frame} {meth : Method} {c : Code} {g : Gg} {S : Ss} (a0 : Nat) (x1 : Int32) (x2 : Int32) (x3 : Int32) (x4 : Int32) (x6 : Int32) (x7 : Int32) (x8 : Int32) (t0 : Int32) (t1 : Int32) (M : Mm) (BK63 : Int32 → Int32 → Int32 → Mm → Prop) (K : Int32 → Mm → Prop) (E : EN p s m args meth c cX11_enough 9 (some .int) RX11 g) (hw : ad g 100000 < s.heap.size) (hs0 : S[a0]? = some (10, 0)) (hBK63 : ∀ (x5' : Int32) (x6' : Int32) (x7' : Int32) (M' : Mm) (H : Heap) (locs : List Loc) (ls : Array Slot), BK63 x5' x6' x7' M' → RP g S M' H → va_S (gA g) s.heap H locs → lv_has ls 9 [(0, .ref (ad g a0)), (1, .int x1), (2, .int x2), (3, .int x3), (4, .int x4), (5, .int x5'), (6, .int x6'), (7, .int x7')] → W p l e (rmD 2) s m args below meth c H locs 0 0 (MQ below (QA g S (pI K)) args s 0 0 (gA g)) (F0 m 63 ls [])) (hf : f_X11_enough_J114 S a0 x1 x2 x3 x4 x6 x7 x8 t0 t1 M BK63 K) (H : Heap) (locs : List Loc) (ls : Array Slot) (hR : RP g S M H) (hS : va_S (gA g) s.heap H locs) (hl : lv_has ls 9 [(0, .ref (ad g a0)), (1, .int x1), (2, .int x2), (3, .int x3), (4, .int x4), (6, .int x6), (7, .int x7), (8, .int x8)]) : W p l e (rmD 2) s m args below meth c H locs 0 0 (MQ below (QA g S (pI K)) args s 0 0 (gA g)) (F0 m 114 ls [.int t0, .int t1]) := by
  have hx := E.1
  have hb := E.2.1
  unfold f_X11_enough_J114 at hf
  refine lv_ior hx hb dX11_enough_114 ?_
  refine lv_topi (fun v16 ev16 => ?_)
  replace hf := hf v16 ev16
  refine lv_istore (lv' := [(5, .int v16), (0, .ref (ad g a0)), (1, .int x1), (2, .int x2), (3, .int x3), (4, .int x4), (6, .int x6), (7, .int x7), (8, .int x8)]) hx hb dX11_enough_115 hl (by decide) rfl (fun ls hl => ?_)
  refine lv_iload hx hb dX11_enough_117 (lv_at hl 6 rfl) ?_
  refine lv_iload hx hb dX11_enough_119 (lv_at hl 8 rfl) ?_
  refine lv_if_eq (tgt := 140) hx hb dX11_enough_121 (by decide) (fun c17 => ?_) (fun c17 => ?_)
  · replace hf := hf.1 c17
    exact w_X11_enough_J140 _ _ _ _ _ _ _ _ _ _ _ E hw hs0 hBK63 hf _ _ _ hR hS (lv_sub hl [1, 2, 3, 4, 5, 0, 7] rfl)
  · replace hf := hf.2 c17
    refine lv_aload_n hx hb dX11_enough_124 rfl (lv_at hl 1 rfl) ?_
    obtain ⟨b22, hb22, hf⟩ := hf
    refine hw_getR E hR cI10 hs0 73 (by decide) lfX11_486 rfl hb22 dX11_enough_125 ?_
    refine lv_iload hx hb dX11_enough_128 (lv_at hl 7 rfl) ?_
    obtain ⟨n23, hn23, in23, hf⟩ := hf
    refine hw_iald E hR hS hn23 in23 dX11_enough_130 ?_
    refine lv_iload_n hx hb dX11_enough_131 rfl (lv_at hl 2 rfl) ?_
    refine lv_iand hx hb dX11_enough_132 ?_
    refine lv_if_eq (tgt := 140) hx hb dX11_enough_133 (by decide) (fun c24 => ?_) (fun c24 => ?_)
    · replace hf := hf.1 c24
      exact w_X11_enough_J140 _ _ _ _ _ _ _ _ _ _ _ E hw hs0 hBK63 hf _ _ _ hR hS (lv_sub hl [1, 2, 3, 4, 5, 0, 7] rfl)
    · replace hf := hf.2 c24
      refine lv_iconst (v := 1) hx hb dX11_enough_136 (by decide) ?_
      refine lv_goto (tgt := 141) hx hb dX11_enough_137 (by decide) ?_
      exact w_X11_enough_J141 _ _ _ _ _ _ _ _ _ _ _ _ E hw hs0 hBK63 hf _ _ _ hR hS (lv_sub hl [1, 2, 3, 4, 5, 0, 7] rfl)
def f_X11_enough_J94 (S : Ss) (a0 : Nat) (x1 : Int32) (x2 : Int32) (x3 : Int32) (x4 : Int32) (x5 : Int32) (x6 : Int32) (x7 : Int32) (t0 : Int32) (M : Mm) (BK63 : Int32 → Int32 → Int32 → Mm → Prop) (K : Int32 → Mm → Prop) : Prop :=
  ((t0 = 0 →
    f_X11_enough_J114 S a0 x1 x2 x3 x4 x6 x7 t0 (0 : Int32) x5 M BK63 K) ∧
   (¬ t0 = 0 →
    ∃ b25 : Nat, M.2.2 a0 73 = some b25 ∧
    ∃ n26 : Nat, shp S b25 = some (50, n26) ∧ vp_in x7 n26 ∧
    f_X11_enough_J114 S a0 x1 x2 x3 x4 x6 x7 t0 (M.1 b25 x7.toNatClampNeg) x5 M BK63 K))
set_option maxHeartbeats 4000000 in
set_option maxRecDepth 100000 in
theorem w_X11_enough_J94 {p : Program} {l : Launch} {e : Env} {s : State} {m : MethodId} {args : Array Value} {below : List Frame} {meth : Method} {c : Code} {g : Gg} {S : Ss} (a0 : Nat) (x1 : Int32) (x2 : Int32) (x3 : Int32) (x4 : Int32) (x5 : Int32) (x6 : Int32) (x7 : Int32) (t0 : Int32) (M : Mm) (BK63 : Int32 → Int32 → Int32 → Mm → Prop) (K : Int32 → Mm → Prop) (E : EN p s m args meth c cX11_enough 9 (some .int) RX11 g) (hw : ad g 100000 < s.heap.size) (hs0 : S[a0]? = some (10, 0)) (hBK63 : ∀ (x5' : Int32) (x6' : Int32) (x7' : Int32) (M' : Mm) (H : Heap) (locs : List Loc) (ls : Array Slot), BK63 x5' x6' x7' M' → RP g S M' H → va_S (gA g) s.heap H locs → lv_has ls 9 [(0, .ref (ad g a0)), (1, .int x1), (2, .int x2), (3, .int x3), (4, .int x4), (5, .int x5'), (6, .int x6'), (7, .int x7')] → W p l e (rmD 2) s m args below meth c H locs 0 0 (MQ below (QA g S (pI K)) args s 0 0 (gA g)) (F0 m 63 ls [])) (hf : f_X11_enough_J94 S a0 x1 x2 x3 x4 x5 x6 x7 t0 M BK63 K) (H : Heap) (locs : List Loc) (ls : Array Slot) (hR : RP g S M H) (hS : va_S (gA g) s.heap H locs) (hl : lv_has ls 9 [(0, .ref (ad g a0)), (1, .int x1), (2, .int x2), (3, .int x3), (4, .int x4), (5, .int x5), (6, .int x6), (7, .int x7)]) : W p l e (rmD 2) s m args below meth c H locs 0 0 (MQ below (QA g S (pI K)) args s 0 0 (gA g)) (F0 m 94 ls [.int t0]) := by
  have hx := E.1
  have hb := E.2.1
  unfold f_X11_enough_J94 at hf
  refine lv_istore (lv' := [(8, .int t0), (0, .ref (ad g a0)), (1, .int x1), (2, .int x2), (3, .int x3), (4, .int x4), (5, .int x5), (6, .int x6), (7, .int x7)]) hx hb dX11_enough_94 hl (by decide) rfl (fun ls hl => ?_)
  refine lv_iload hx hb dX11_enough_96 (lv_at hl 6 rfl) ?_
  refine lv_iload hx hb dX11_enough_98 (lv_at hl 0 rfl) ?_
  refine lv_if_eq (tgt := 113) hx hb dX11_enough_100 (by decide) (fun c15 => ?_) (fun c15 => ?_)
  · replace hf := hf.1 c15
    refine lv_iconst (v := 0) hx hb dX11_enough_113 (by decide) ?_
    exact w_X11_enough_J114 _ _ _ _ _ _ _ _ _ _ _ _ _ E hw hs0 hBK63 hf _ _ _ hR hS (lv_sub hl [1, 2, 3, 4, 5, 7, 8, 0] rfl)
  · replace hf := hf.2 c15
    refine lv_aload_n hx hb dX11_enough_103 rfl (lv_at hl 1 rfl) ?_
    obtain ⟨b25, hb25, hf⟩ := hf
    refine hw_getR E hR cI10 hs0 73 (by decide) lfX11_486 rfl hb25 dX11_enough_104 ?_
    refine lv_iload hx hb dX11_enough_107 (lv_at hl 8 rfl) ?_
    obtain ⟨n26, hn26, in26, hf⟩ := hf
    refine hw_iald E hR hS hn26 in26 dX11_enough_109 ?_
    refine lv_goto (tgt := 114) hx hb dX11_enough_110 (by decide) ?_
    exact w_X11_enough_J114 _ _ _ _ _ _ _ _ _ _ _ _ _ E hw hs0 hBK63 hf _ _ _ hR hS (lv_sub hl [1, 2, 3, 4, 5, 7, 8, 0] rfl)
def f_X11_enough_B63 (S : Ss) (a0 : Nat) (x1 : Int32) (x2 : Int32) (x3 : Int32) (x4 : Int32) (x5 : Int32) (x6 : Int32) (x7 : Int32) (M : Mm) (BK63 : Int32 → Int32 → Int32 → Mm → Prop) (EK63 : Int32 → Int32 → Mm → Prop) (K : Int32 → Mm → Prop) : Prop :=
  (((M.1 a0 70) ≤ x7 →
    EK63 x5 x6 M) ∧
   (¬ (M.1 a0 70) ≤ x7 →
    ∃ b12 : Nat, M.2.2 a0 79 = some b12 ∧
    ∃ n13 : Nat, shp S b12 = some (50, n13) ∧ vp_in (((12 : Int32) * x4) + x7) n13 ∧
    ((x3 < (M.1 b12 (((12 : Int32) * x4) + x7).toNatClampNeg) →
      f_X11_enough_J94 S a0 x1 x2 x3 x4 x5 x6 x7 (0 : Int32) M BK63 K) ∧
     (¬ x3 < (M.1 b12 (((12 : Int32) * x4) + x7).toNatClampNeg) →
      f_X11_enough_J94 S a0 x1 x2 x3 x4 x5 x6 x7 (1 : Int32) M BK63 K))))
set_option maxHeartbeats 4000000 in
set_option maxRecDepth 100000 in
theorem w_X11_enough_B63 {p : Program} {l : Launch} {e : Env} {s : State} {m : MethodId} {args : Array Value} {below : List Frame} {meth : Method} {c : Code} {g : Gg} {S : Ss} (a0 : Nat) (x1 : Int32) (x2 : Int32) (x3 : Int32) (x4 : Int32) (x5 : Int32) (x6 : Int32) (x7 : Int32) (M : Mm) (BK63 : Int32 → Int32 → Int32 → Mm → Prop) (EK63 : Int32 → Int32 → Mm → Prop) (K : Int32 → Mm → Prop) (E : EN p s m args meth c cX11_enough 9 (some .int) RX11 g) (hw : ad g 100000 < s.heap.size) (hs0 : S[a0]? = some (10, 0)) (hBK63 : ∀ (x5' : Int32) (x6' : Int32) (x7' : Int32) (M' : Mm) (H : Heap) (locs : List Loc) (ls : Array Slot), BK63 x5' x6' x7' M' → RP g S M' H → va_S (gA g) s.heap H locs → lv_has ls 9 [(0, .ref (ad g a0)), (1, .int x1), (2, .int x2), (3, .int x3), (4, .int x4), (5, .int x5'), (6, .int x6'), (7, .int x7')] → W p l e (rmD 2) s m args below meth c H locs 0 0 (MQ below (QA g S (pI K)) args s 0 0 (gA g)) (F0 m 63 ls [])) (hEK63 : ∀ (x5' : Int32) (x6' : Int32) (M' : Mm) (H : Heap) (locs : List Loc) (ls : Array Slot), EK63 x5' x6' M' → RP g S M' H → va_S (gA g) s.heap H locs → lv_has ls 9 [(0, .ref (ad g a0)), (1, .int x1), (2, .int x2), (3, .int x3), (4, .int x4), (5, .int x5'), (6, .int x6')] → W p l e (rmD 2) s m args below meth c H locs 0 0 (MQ below (QA g S (pI K)) args s 0 0 (gA g)) (F0 m 153 ls [])) (hf : f_X11_enough_B63 S a0 x1 x2 x3 x4 x5 x6 x7 M BK63 EK63 K) (H : Heap) (locs : List Loc) (ls : Array Slot) (hR : RP g S M H) (hS : va_S (gA g) s.heap H locs) (hl : lv_has ls 9 [(0, .ref (ad g a0)), (1, .int x1), (2, .int x2), (3, .int x3), (4, .int x4), (5, .int x5), (6, .int x6), (7, .int x7)]) : W p l e (rmD 2) s m args below meth c H locs 0 0 (MQ below (QA g S (pI K)) args s 0 0 (gA g)) (F0 m 63 ls []) := by
  have hx := E.1
  have hb := E.2.1
  unfold f_X11_enough_B63 at hf
  refine lv_iload hx hb dX11_enough_63 (lv_at hl 7 rfl) ?_
  refine lv_aload_n hx hb dX11_enough_65 rfl (lv_at hl 0 rfl) ?_
  refine hw_getI E hR cI10 hs0 70 (by decide) lfX11_477 rfl dX11_enough_66 ?_
  refine lv_icmp_ge (tgt := 153) hx hb dX11_enough_69 (by decide) (fun c11 => ?_) (fun c11 => ?_)
  · replace hf := hf.1 c11
    exact hEK63 _ _ _ _ _ _ hf hR hS (lv_sub hl [0, 1, 2, 3, 4, 5, 6] rfl)
  · replace hf := hf.2 c11
    refine lv_aload_n hx hb dX11_enough_72 rfl (lv_at hl 0 rfl) ?_
    obtain ⟨b12, hb12, hf⟩ := hf
    refine hw_getR E hR cI10 hs0 79 (by decide) lfX11_506 rfl hb12 dX11_enough_73 ?_
    refine lv_bipush (v := 12) hx hb dX11_enough_76 (by decide) ?_
    refine lv_iload hx hb dX11_enough_78 (lv_at hl 4 rfl) ?_
    refine lv_imul hx hb dX11_enough_80 ?_
    refine lv_iload hx hb dX11_enough_81 (lv_at hl 7 rfl) ?_
    refine lv_iadd hx hb dX11_enough_83 ?_
    obtain ⟨n13, hn13, in13, hf⟩ := hf
    refine hw_iald E hR hS hn13 in13 dX11_enough_84 ?_
    refine lv_iload_n hx hb dX11_enough_85 rfl (lv_at hl 3 rfl) ?_
    refine lv_icmp_gt (tgt := 93) hx hb dX11_enough_86 (by decide) (fun c14 => ?_) (fun c14 => ?_)
    · replace hf := hf.1 c14
      refine lv_iconst (v := 0) hx hb dX11_enough_93 (by decide) ?_
      exact w_X11_enough_J94 _ _ _ _ _ _ _ _ _ _ _ _ E hw hs0 hBK63 hf _ _ _ hR hS (lv_sub hl [0, 1, 2, 3, 4, 5, 6, 7] rfl)
    · replace hf := hf.2 c14
      refine lv_iconst (v := 1) hx hb dX11_enough_89 (by decide) ?_
      refine lv_goto (tgt := 94) hx hb dX11_enough_90 (by decide) ?_
      exact w_X11_enough_J94 _ _ _ _ _ _ _ _ _ _ _ _ E hw hs0 hBK63 hf _ _ _ hR hS (lv_sub hl [0, 1, 2, 3, 4, 5, 6, 7] rfl)
def f_X11_enough_L63 (S : Ss) (a0 : Nat) (x1 : Int32) (x2 : Int32) (x3 : Int32) (x4 : Int32) (EK63 : Int32 → Int32 → Mm → Prop) (K : Int32 → Mm → Prop) : Nat → Int32 → Int32 → Int32 → Mm → Prop
  | 0, _, _, _, _ => False
  | n + 1, x5, x6, x7, M => f_X11_enough_B63 S a0 x1 x2 x3 x4 x5 x6 x7 M (fun (x5 : Int32) (x6 : Int32) (x7 : Int32) (M : Mm) => f_X11_enough_L63 S a0 x1 x2 x3 x4 EK63 K n x5 x6 x7 M) EK63 K
set_option maxHeartbeats 4000000 in
set_option maxRecDepth 100000 in
theorem w_X11_enough_L63 {p : Program} {l : Launch} {e : Env} {s : State} {m : MethodId} {args : Array Value} {below : List Frame} {meth : Method} {c : Code} {g : Gg} {S : Ss} (a0 : Nat) (x1 : Int32) (x2 : Int32) (x3 : Int32) (x4 : Int32) (EK63 : Int32 → Int32 → Mm → Prop) (K : Int32 → Mm → Prop) (E : EN p s m args meth c cX11_enough 9 (some .int) RX11 g) (hw : ad g 100000 < s.heap.size) (hs0 : S[a0]? = some (10, 0)) (hEK63 : ∀ (x5' : Int32) (x6' : Int32) (M' : Mm) (H : Heap) (locs : List Loc) (ls : Array Slot), EK63 x5' x6' M' → RP g S M' H → va_S (gA g) s.heap H locs → lv_has ls 9 [(0, .ref (ad g a0)), (1, .int x1), (2, .int x2), (3, .int x3), (4, .int x4), (5, .int x5'), (6, .int x6')] → W p l e (rmD 2) s m args below meth c H locs 0 0 (MQ below (QA g S (pI K)) args s 0 0 (gA g)) (F0 m 153 ls [])) : ∀ (n : Nat) (x5 : Int32) (x6 : Int32) (x7 : Int32) (M : Mm), f_X11_enough_L63 S a0 x1 x2 x3 x4 EK63 K n x5 x6 x7 M → ∀ (H : Heap) (locs : List Loc) (ls : Array Slot), RP g S M H → va_S (gA g) s.heap H locs → lv_has ls 9 [(0, .ref (ad g a0)), (1, .int x1), (2, .int x2), (3, .int x3), (4, .int x4), (5, .int x5), (6, .int x6), (7, .int x7)] → W p l e (rmD 2) s m args below meth c H locs 0 0 (MQ below (QA g S (pI K)) args s 0 0 (gA g)) (F0 m 63 ls []) := by
  intro n
  induction n with
  | zero => intro x5 x6 x7 M hf; exact hf.elim
  | succ n ih =>
    intro x5 x6 x7 M hf H locs ls hR hS hl
    exact w_X11_enough_B63 _ _ _ _ _ _ _ _ _ _ _ _ E hw hs0 (fun _ _ _ M H locs ls h hR hS hl => ih _ _ _ M h H locs ls hR hS hl) hEK63 hf H locs ls hR hS hl
def f_X11_enough_B47 (S : Ss) (a0 : Nat) (x1 : Int32) (x2 : Int32) (x3 : Int32) (x4 : Int32) (M : Mm) (BK47 : Int32 → Mm → Prop) (EK47 : Mm → Prop) (K : Int32 → Mm → Prop) : Prop :=
  (((6 : Int32) ≤ x4 →
    EK47 M) ∧
   (¬ (6 : Int32) ≤ x4 →
    ∃ n36 : Nat, f_X11_enough_L63 S a0 x1 x2 x3 x4 (fun (v27 : Int32) (v28 : Int32) (m29 : Mm) =>
      (((v27 &&& x1) = x1 →
        ((v28 < x2 →
          ∀ v33 : Int32, v33 = x4 + (1 : Int32) →
          BK47 v33 m29) ∧
         (¬ v28 < x2 →
          ∀ m34 : Mm, m34 = stI m29 a0 1 (0 : Int32) →
          f_X11_enters S a0 x4.toInt64 m34 (fun (m35 : Mm) =>
            K x3 m35)))) ∧
       (¬ (v27 &&& x1) = x1 →
        ∀ v31 : Int32, v31 = x4 + (1 : Int32) →
        BK47 v31 m29))) K n36 (0 : Int32) (0 : Int32) (0 : Int32) M))
set_option maxHeartbeats 4000000 in
set_option maxRecDepth 100000 in
theorem w_X11_enough_B47 {p : Program} {l : Launch} {e : Env} {s : State} {m : MethodId} {args : Array Value} {below : List Frame} {meth : Method} {c : Code} {g : Gg} {S : Ss} (a0 : Nat) (x1 : Int32) (x2 : Int32) (x3 : Int32) (x4 : Int32) (M : Mm) (BK47 : Int32 → Mm → Prop) (EK47 : Mm → Prop) (K : Int32 → Mm → Prop) (E : EN p s m args meth c cX11_enough 9 (some .int) RX11 g) (hw : ad g 100000 < s.heap.size) (hs0 : S[a0]? = some (10, 0)) (hBK47 : ∀ (x4' : Int32) (M' : Mm) (H : Heap) (locs : List Loc) (ls : Array Slot), BK47 x4' M' → RP g S M' H → va_S (gA g) s.heap H locs → lv_has ls 9 [(0, .ref (ad g a0)), (1, .int x1), (2, .int x2), (3, .int x3), (4, .int x4')] → W p l e (rmD 2) s m args below meth c H locs 0 0 (MQ below (QA g S (pI K)) args s 0 0 (gA g)) (F0 m 47 ls [])) (hEK47 : ∀ (M' : Mm) (H : Heap) (locs : List Loc) (ls : Array Slot), EK47 M' → RP g S M' H → va_S (gA g) s.heap H locs → lv_has ls 9 [(0, .ref (ad g a0)), (1, .int x1), (2, .int x2), (3, .int x3)] → W p l e (rmD 2) s m args below meth c H locs 0 0 (MQ below (QA g S (pI K)) args s 0 0 (gA g)) (F0 m 187 ls [])) (hf : f_X11_enough_B47 S a0 x1 x2 x3 x4 M BK47 EK47 K) (H : Heap) (locs : List Loc) (ls : Array Slot) (hR : RP g S M H) (hS : va_S (gA g) s.heap H locs) (hl : lv_has ls 9 [(0, .ref (ad g a0)), (1, .int x1), (2, .int x2), (3, .int x3), (4, .int x4)]) : W p l e (rmD 2) s m args below meth c H locs 0 0 (MQ below (QA g S (pI K)) args s 0 0 (gA g)) (F0 m 47 ls []) := by
  have hx := E.1
  have hb := E.2.1
  unfold f_X11_enough_B47 at hf
  refine lv_iload hx hb dX11_enough_47 (lv_at hl 4 rfl) ?_
  refine lv_bipush (v := 6) hx hb dX11_enough_49 (by decide) ?_
  refine lv_icmp_ge (tgt := 187) hx hb dX11_enough_51 (by decide) (fun c10 => ?_) (fun c10 => ?_)
  · replace hf := hf.1 c10
    exact hEK47  _ _ _ _ hf hR hS (lv_sub hl [0, 1, 2, 3] rfl)
  · replace hf := hf.2 c10
    refine lv_iconst (v := 0) hx hb dX11_enough_54 (by decide) ?_
    refine lv_istore (lv' := [(5, .int (0 : Int32)), (0, .ref (ad g a0)), (1, .int x1), (2, .int x2), (3, .int x3), (4, .int x4)]) hx hb dX11_enough_55 hl (by decide) rfl (fun ls hl => ?_)
    refine lv_iconst (v := 0) hx hb dX11_enough_57 (by decide) ?_
    refine lv_istore (lv' := [(6, .int (0 : Int32)), (5, .int (0 : Int32)), (0, .ref (ad g a0)), (1, .int x1), (2, .int x2), (3, .int x3), (4, .int x4)]) hx hb dX11_enough_58 hl (by decide) rfl (fun ls hl => ?_)
    refine lv_iconst (v := 0) hx hb dX11_enough_60 (by decide) ?_
    refine lv_istore (lv' := [(7, .int (0 : Int32)), (6, .int (0 : Int32)), (5, .int (0 : Int32)), (0, .ref (ad g a0)), (1, .int x1), (2, .int x2), (3, .int x3), (4, .int x4)]) hx hb dX11_enough_61 hl (by decide) rfl (fun ls hl => ?_)
    obtain ⟨n36, hf⟩ := hf
    refine w_X11_enough_L63 _ _ _ _ _ _ _ E hw hs0 ?_ n36 _ _ _ _ hf _ _ _ hR hS (lv_sub hl [3, 4, 5, 6, 7, 2, 1, 0] rfl)
    intro v27 v28 m29 H locs ls hf hR hS hl
    refine lv_iload hx hb dX11_enough_153 (lv_at hl 5 rfl) ?_
    refine lv_iload_n hx hb dX11_enough_155 rfl (lv_at hl 1 rfl) ?_
    refine lv_iand hx hb dX11_enough_156 ?_
    refine lv_iload_n hx hb dX11_enough_157 rfl (lv_at hl 1 rfl) ?_
    refine lv_icmp_ne (tgt := 181) hx hb dX11_enough_158 (by decide) (fun c30 => ?_) (fun c30 => ?_)
    · replace hf := hf.2 c30
      obtain ⟨v31, ev31⟩ : ∃ y : Int32, y = x4 + (1 : Int32) := ⟨_, rfl⟩
      replace hf := hf v31 ev31
      refine lv_iinc (v := v31) (lv' := [(4, .int v31), (0, .ref (ad g a0)), (1, .int x1), (2, .int x2), (3, .int x3), (5, .int v27), (6, .int v28)]) hx hb dX11_enough_181 hl (k := 4) rfl (by rw [ev31]; rfl) (by decide) rfl (fun ls hl => ?_)
      refine lv_goto (tgt := 47) hx hb dX11_enough_184 (by decide) ?_
      exact hBK47 _ _ _ _ _ hf hR hS (lv_sub hl [1, 2, 3, 4, 0] rfl)
    · replace hf := hf.1 c30
      refine lv_iload hx hb dX11_enough_161 (lv_at hl 6 rfl) ?_
      refine lv_iload_n hx hb dX11_enough_163 rfl (lv_at hl 2 rfl) ?_
      refine lv_icmp_lt (tgt := 181) hx hb dX11_enough_164 (by decide) (fun c32 => ?_) (fun c32 => ?_)
      · replace hf := hf.1 c32
        obtain ⟨v33, ev33⟩ : ∃ y : Int32, y = x4 + (1 : Int32) := ⟨_, rfl⟩
        replace hf := hf v33 ev33
        refine lv_iinc (v := v33) (lv' := [(4, .int v33), (0, .ref (ad g a0)), (1, .int x1), (2, .int x2), (3, .int x3), (5, .int v27), (6, .int v28)]) hx hb dX11_enough_181 hl (k := 4) rfl (by rw [ev33]; rfl) (by decide) rfl (fun ls hl => ?_)
        refine lv_goto (tgt := 47) hx hb dX11_enough_184 (by decide) ?_
        exact hBK47 _ _ _ _ _ hf hR hS (lv_sub hl [1, 2, 3, 4, 0] rfl)
      · replace hf := hf.2 c32
        refine lv_aload_n hx hb dX11_enough_167 rfl (lv_at hl 0 rfl) ?_
        refine lv_iconst (v := 0) hx hb dX11_enough_168 (by decide) ?_
        refine hw_putI E hR hS hw cI10 hs0 1 (by decide) lfX11_11 rfl (Or.inl rfl) dX11_enough_169 (fun m34 H locs em34 hR hS => ?_)
        replace hf := hf m34 em34
        refine lv_aload_n hx hb dX11_enough_172 rfl (lv_at hl 0 rfl) ?_
        refine lv_iload hx hb dX11_enough_173 (lv_at hl 4 rfl) ?_
        refine lv_i2l hx hb dX11_enough_175 rfl ?_
        refine hw_callV (d := 2) E hR hS (As := [.long x4.toInt64]) (rest := []) cI10 hs0 rfl mcX11_enters miX11_enters lmX11_262 (ok_X11_enters hs0 hf) rfl rfl (by decide) hl.1 (Nat.le_of_ble_eq_true rfl) dX11_enough_176 (fun rr m35 H locs hp hR hS => ?_)
        obtain ⟨rfl, hf⟩ := hp
        refine W.eq (g2 := F0 m 179 ls []) rfl ?_
        refine lv_iload_n hx hb dX11_enough_179 rfl (lv_at hl 3 rfl) ?_
        exact hw_iret E hR hS ⟨_, rfl, hf⟩ dX11_enough_180
def f_X11_enough_L47 (S : Ss) (a0 : Nat) (x1 : Int32) (x2 : Int32) (x3 : Int32) (EK47 : Mm → Prop) (K : Int32 → Mm → Prop) : Nat → Int32 → Mm → Prop
  | 0, _, _ => False
  | n + 1, x4, M => f_X11_enough_B47 S a0 x1 x2 x3 x4 M (fun (x4 : Int32) (M : Mm) => f_X11_enough_L47 S a0 x1 x2 x3 EK47 K n x4 M) EK47 K
set_option maxHeartbeats 4000000 in
set_option maxRecDepth 100000 in
theorem w_X11_enough_L47 {p : Program} {l : Launch} {e : Env} {s : State} {m : MethodId} {args : Array Value} {below : List Frame} {meth : Method} {c : Code} {g : Gg} {S : Ss} (a0 : Nat) (x1 : Int32) (x2 : Int32) (x3 : Int32) (EK47 : Mm → Prop) (K : Int32 → Mm → Prop) (E : EN p s m args meth c cX11_enough 9 (some .int) RX11 g) (hw : ad g 100000 < s.heap.size) (hs0 : S[a0]? = some (10, 0)) (hEK47 : ∀ (M' : Mm) (H : Heap) (locs : List Loc) (ls : Array Slot), EK47 M' → RP g S M' H → va_S (gA g) s.heap H locs → lv_has ls 9 [(0, .ref (ad g a0)), (1, .int x1), (2, .int x2), (3, .int x3)] → W p l e (rmD 2) s m args below meth c H locs 0 0 (MQ below (QA g S (pI K)) args s 0 0 (gA g)) (F0 m 187 ls [])) : ∀ (n : Nat) (x4 : Int32) (M : Mm), f_X11_enough_L47 S a0 x1 x2 x3 EK47 K n x4 M → ∀ (H : Heap) (locs : List Loc) (ls : Array Slot), RP g S M H → va_S (gA g) s.heap H locs → lv_has ls 9 [(0, .ref (ad g a0)), (1, .int x1), (2, .int x2), (3, .int x3), (4, .int x4)] → W p l e (rmD 2) s m args below meth c H locs 0 0 (MQ below (QA g S (pI K)) args s 0 0 (gA g)) (F0 m 47 ls []) := by
  intro n
  induction n with
  | zero => intro x4 M hf; exact hf.elim
  | succ n ih =>
    intro x4 M hf H locs ls hR hS hl
    exact w_X11_enough_B47 _ _ _ _ _ _ _ _ _ E hw hs0 (fun _ M H locs ls h hR hS hl => ih _ M h H locs ls hR hS hl) hEK47 hf H locs ls hR hS hl
def f_X11_enough_B37 (S : Ss) (a0 : Nat) (x1 : Int32) (x2 : Int32) (x3 : Int32) (M : Mm) (BK37 : Int32 → Mm → Prop) (EK37 : Mm → Prop) (K : Int32 → Mm → Prop) : Prop :=
  (((200 : Int32) < x3 →
    EK37 M) ∧
   (¬ (200 : Int32) < x3 →
    ∃ n39 : Nat, f_X11_enough_L47 S a0 x1 x2 x3 (fun (m37 : Mm) =>
      ∀ v38 : Int32, v38 = x3 + (1 : Int32) →
      BK37 v38 m37) K n39 (0 : Int32) M))
set_option maxHeartbeats 4000000 in
set_option maxRecDepth 100000 in
theorem w_X11_enough_B37 {p : Program} {l : Launch} {e : Env} {s : State} {m : MethodId} {args : Array Value} {below : List Frame} {meth : Method} {c : Code} {g : Gg} {S : Ss} (a0 : Nat) (x1 : Int32) (x2 : Int32) (x3 : Int32) (M : Mm) (BK37 : Int32 → Mm → Prop) (EK37 : Mm → Prop) (K : Int32 → Mm → Prop) (E : EN p s m args meth c cX11_enough 9 (some .int) RX11 g) (hw : ad g 100000 < s.heap.size) (hs0 : S[a0]? = some (10, 0)) (hBK37 : ∀ (x3' : Int32) (M' : Mm) (H : Heap) (locs : List Loc) (ls : Array Slot), BK37 x3' M' → RP g S M' H → va_S (gA g) s.heap H locs → lv_has ls 9 [(0, .ref (ad g a0)), (1, .int x1), (2, .int x2), (3, .int x3')] → W p l e (rmD 2) s m args below meth c H locs 0 0 (MQ below (QA g S (pI K)) args s 0 0 (gA g)) (F0 m 37 ls [])) (hEK37 : ∀ (M' : Mm) (H : Heap) (locs : List Loc) (ls : Array Slot), EK37 M' → RP g S M' H → va_S (gA g) s.heap H locs → lv_has ls 9 [] → W p l e (rmD 2) s m args below meth c H locs 0 0 (MQ below (QA g S (pI K)) args s 0 0 (gA g)) (F0 m 193 ls [])) (hf : f_X11_enough_B37 S a0 x1 x2 x3 M BK37 EK37 K) (H : Heap) (locs : List Loc) (ls : Array Slot) (hR : RP g S M H) (hS : va_S (gA g) s.heap H locs) (hl : lv_has ls 9 [(0, .ref (ad g a0)), (1, .int x1), (2, .int x2), (3, .int x3)]) : W p l e (rmD 2) s m args below meth c H locs 0 0 (MQ below (QA g S (pI K)) args s 0 0 (gA g)) (F0 m 37 ls []) := by
  have hx := E.1
  have hb := E.2.1
  unfold f_X11_enough_B37 at hf
  refine lv_iload_n hx hb dX11_enough_37 rfl (lv_at hl 3 rfl) ?_
  refine lv_sipush (v := 200) hx hb dX11_enough_38 (by decide) ?_
  refine lv_icmp_gt (tgt := 193) hx hb dX11_enough_41 (by decide) (fun c9 => ?_) (fun c9 => ?_)
  · replace hf := hf.1 c9
    exact hEK37  _ _ _ _ hf hR hS (lv_sub hl [] rfl)
  · replace hf := hf.2 c9
    refine lv_iconst (v := 0) hx hb dX11_enough_44 (by decide) ?_
    refine lv_istore (lv' := [(4, .int (0 : Int32)), (0, .ref (ad g a0)), (1, .int x1), (2, .int x2), (3, .int x3)]) hx hb dX11_enough_45 hl (by decide) rfl (fun ls hl => ?_)
    obtain ⟨n39, hf⟩ := hf
    refine w_X11_enough_L47 _ _ _ _ _ _ E hw hs0 ?_ n39 _ _ hf _ _ _ hR hS (lv_sub hl [1, 2, 3, 4, 0] rfl)
    intro m37 H locs ls hf hR hS hl
    obtain ⟨v38, ev38⟩ : ∃ y : Int32, y = x3 + (1 : Int32) := ⟨_, rfl⟩
    replace hf := hf v38 ev38
    refine lv_iinc (v := v38) (lv' := [(3, .int v38), (0, .ref (ad g a0)), (1, .int x1), (2, .int x2)]) hx hb dX11_enough_187 hl (k := 3) rfl (by rw [ev38]; rfl) (by decide) rfl (fun ls hl => ?_)
    refine lv_goto (tgt := 37) hx hb dX11_enough_190 (by decide) ?_
    exact hBK37 _ _ _ _ _ hf hR hS (lv_sub hl [1, 2, 3, 0] rfl)
def f_X11_enough_L37 (S : Ss) (a0 : Nat) (x1 : Int32) (x2 : Int32) (EK37 : Mm → Prop) (K : Int32 → Mm → Prop) : Nat → Int32 → Mm → Prop
  | 0, _, _ => False
  | n + 1, x3, M => f_X11_enough_B37 S a0 x1 x2 x3 M (fun (x3 : Int32) (M : Mm) => f_X11_enough_L37 S a0 x1 x2 EK37 K n x3 M) EK37 K
set_option maxHeartbeats 4000000 in
set_option maxRecDepth 100000 in
theorem w_X11_enough_L37 {p : Program} {l : Launch} {e : Env} {s : State} {m : MethodId} {args : Array Value} {below : List Frame} {meth : Method} {c : Code} {g : Gg} {S : Ss} (a0 : Nat) (x1 : Int32) (x2 : Int32) (EK37 : Mm → Prop) (K : Int32 → Mm → Prop) (E : EN p s m args meth c cX11_enough 9 (some .int) RX11 g) (hw : ad g 100000 < s.heap.size) (hs0 : S[a0]? = some (10, 0)) (hEK37 : ∀ (M' : Mm) (H : Heap) (locs : List Loc) (ls : Array Slot), EK37 M' → RP g S M' H → va_S (gA g) s.heap H locs → lv_has ls 9 [] → W p l e (rmD 2) s m args below meth c H locs 0 0 (MQ below (QA g S (pI K)) args s 0 0 (gA g)) (F0 m 193 ls [])) : ∀ (n : Nat) (x3 : Int32) (M : Mm), f_X11_enough_L37 S a0 x1 x2 EK37 K n x3 M → ∀ (H : Heap) (locs : List Loc) (ls : Array Slot), RP g S M H → va_S (gA g) s.heap H locs → lv_has ls 9 [(0, .ref (ad g a0)), (1, .int x1), (2, .int x2), (3, .int x3)] → W p l e (rmD 2) s m args below meth c H locs 0 0 (MQ below (QA g S (pI K)) args s 0 0 (gA g)) (F0 m 37 ls []) := by
  intro n
  induction n with
  | zero => intro x3 M hf; exact hf.elim
  | succ n ih =>
    intro x3 M hf H locs ls hR hS hl
    exact w_X11_enough_B37 _ _ _ _ _ _ _ _ E hw hs0 (fun _ M H locs ls h hR hS hl => ih _ M h H locs ls hR hS hl) hEK37 hf H locs ls hR hS hl
def f_X11_enough (S : Ss) (a0 : Nat) (x1 : Int32) (x2 : Int32) (M : Mm) (K : Int32 → Mm → Prop) : Prop :=
  ∀ m1 : Mm, m1 = stI M a0 0 (0 : Int32) →
  f_X11_in S  x1.toInt64 (0 : Int64) (255 : Int64) m1 (fun (r3 : Int32) (m2 : Mm) =>
    ((r3 = 0 →
    K (-1 : Int32) m2) ∧
   (¬ r3 = 0 →
    f_X11_in S  x2.toInt64 (0 : Int64) (12 : Int64) m2 (fun (r6 : Int32) (m5 : Mm) =>
      ((r6 = 0 →
      K (-1 : Int32) m5) ∧
     (¬ r6 = 0 →
      f_X11_tells S a0  m5 (fun (m8 : Mm) =>
        ∃ n41 : Nat, f_X11_enough_L37 S a0 x1 x2 (fun (m40 : Mm) =>
        K (-2 : Int32) m40) K n41 (0 : Int32) m8)))))))
set_option maxHeartbeats 4000000 in
set_option maxRecDepth 100000 in
theorem ok_X11_enough {l : Launch} {g : Gg} {S : Ss} {a0 : Nat} {x1 : Int32} {x2 : Int32} {M : Mm} {K : Int32 → Mm → Prop} (hs0 : S[a0]? = some (10, 0)) (hf : f_X11_enough S a0 x1 x2 M K) : MT l g S yX11_enough cX11_enough 9 (some .int) 2 [.ref (ad g a0), .int x1, .int x2] M (pI K) := by
  refine MT.of (by decide +kernel) (Nat.le_of_ble_eq_true rfl) ?_
  intro p e s m below meth c ls E hw hR hS hl
  have hl : lv_has ls 9 [(0, .ref (ad g a0)), (1, .int x1), (2, .int x2)] := hl
  generalize ([.ref (ad g a0), .int x1, .int x2] : List Value).toArray = args at E ⊢
  have E : EN p s m args meth c cX11_enough 9 (some .int) RX11 g := E
  have hx := E.1
  have hb := E.2.1
  unfold f_X11_enough at hf
  refine lv_aload_n hx hb dX11_enough_0 rfl (lv_at hl 0 rfl) ?_
  refine lv_iconst (v := 0) hx hb dX11_enough_1 (by decide) ?_
  refine hw_putI E hR hS hw cI10 hs0 0 (by decide) lfX11_3 rfl (Or.inl rfl) dX11_enough_2 (fun m1 H locs em1 hR hS => ?_)
  replace hf := hf m1 em1
  refine lv_iload_n hx hb dX11_enough_5 rfl (lv_at hl 1 rfl) ?_
  refine lv_i2l hx hb dX11_enough_6 rfl ?_
  refine lv_lconst (v := 0) hx hb dX11_enough_7 (by decide) ?_
  refine lv_ldc2 (v := 255) hx hb E.2.2.2.2.1 (E.2.2.2.2.2.1 _ ljX11_231) dX11_enough_8 ?_
  refine hw_callS (d := 2) E hR hS (As := [.long x1.toInt64, .long (0 : Int64), .long (255 : Int64)]) (rest := []) mcX11_in msX11_in lmX11_21 (ok_X11_in  hf) rfl rfl (by decide) hl.1 (Nat.le_of_ble_eq_true rfl) dX11_enough_11 (fun rr m2 H locs hp hR hS => ?_)
  obtain ⟨r3, rfl, hf⟩ := hp
  refine W.eq (g2 := F0 m 14 ls [.int r3]) rfl ?_
  refine lv_if_eq (tgt := 29) hx hb dX11_enough_14 (by decide) (fun c4 => ?_) (fun c4 => ?_)
  · replace hf := hf.1 c4
    refine lv_iconst (v := -1) hx hb dX11_enough_29 (by decide) ?_
    exact hw_iret E hR hS ⟨_, rfl, hf⟩ dX11_enough_30
  · replace hf := hf.2 c4
    refine lv_iload_n hx hb dX11_enough_17 rfl (lv_at hl 2 rfl) ?_
    refine lv_i2l hx hb dX11_enough_18 rfl ?_
    refine lv_lconst (v := 0) hx hb dX11_enough_19 (by decide) ?_
    refine lv_ldc2 (v := 12) hx hb E.2.2.2.2.1 (E.2.2.2.2.2.1 _ ljX11_514) dX11_enough_20 ?_
    refine hw_callS (d := 2) E hR hS (As := [.long x2.toInt64, .long (0 : Int64), .long (12 : Int64)]) (rest := []) mcX11_in msX11_in lmX11_21 (ok_X11_in  hf) rfl rfl (by decide) hl.1 (Nat.le_of_ble_eq_true rfl) dX11_enough_23 (fun rr m5 H locs hp hR hS => ?_)
    obtain ⟨r6, rfl, hf⟩ := hp
    refine W.eq (g2 := F0 m 26 ls [.int r6]) rfl ?_
    refine lv_if_ne (tgt := 31) hx hb dX11_enough_26 (by decide) (fun c7 => ?_) (fun c7 => ?_)
    · replace hf := hf.2 c7
      refine lv_aload_n hx hb dX11_enough_31 rfl (lv_at hl 0 rfl) ?_
      refine hw_callV (d := 2) E hR hS (As := []) (rest := []) cI10 hs0 rfl mcX11_tells miX11_tells lmX11_511 (ok_X11_tells hs0 hf) rfl rfl (by decide) hl.1 (Nat.le_of_ble_eq_true rfl) dX11_enough_32 (fun rr m8 H locs hp hR hS => ?_)
      obtain ⟨rfl, hf⟩ := hp
      refine W.eq (g2 := F0 m 35 ls []) rfl ?_
      refine lv_iconst (v := 0) hx hb dX11_enough_35 (by decide) ?_
      refine lv_istore_n (lv' := [(3, .int (0 : Int32)), (0, .ref (ad g a0)), (1, .int x1), (2, .int x2)]) hx hb dX11_enough_36 rfl hl (by decide) rfl (fun ls hl => ?_)
      obtain ⟨n41, hf⟩ := hf
      refine w_X11_enough_L37 _ _ _ _ _ E hw hs0 ?_ n41 _ _ hf _ _ _ hR hS (lv_sub hl [1, 2, 3, 0] rfl)
      intro m40 H locs ls hf hR hS hl
      refine lv_bipush (v := -2) hx hb dX11_enough_193 (by decide) ?_
      exact hw_iret E hR hS ⟨_, rfl, hf⟩ dX11_enough_195
    · replace hf := hf.1 c7
      refine lv_iconst (v := -1) hx hb dX11_enough_29 (by decide) ?_
      exact hw_iret E hR hS ⟨_, rfl, hf⟩ dX11_enough_30
def f_X11_keep_B68 (S : Ss) (a0 : Nat) (x1 : Int32) (x2 : Int32) (M : Mm) (BK68 : Int32 → Mm → Prop) (EK68 : Mm → Prop) (K : Int32 → Mm → Prop) : Prop :=
  (((4 : Int32) ≤ x2 →
    EK68 M) ∧
   (¬ (4 : Int32) ≤ x2 →
    ∃ b25 : Nat, M.2.2 a0 85 = some b25 ∧
    ∃ b26 : Nat, M.2.2 a0 26 = some b26 ∧
    ∃ n27 : Nat, shp S b26 = some (50, n27) ∧ vp_in x2 n27 ∧
    ∃ n28 : Nat, S[b25]? = some (50, n28) ∧ vp_in (((4 : Int32) * x1) + x2) n28 ∧
    ∀ m29 : Mm, m29 = stI M b25 (((4 : Int32) * x1) + x2).toNatClampNeg (M.1 b26 x2.toNatClampNeg) →
    ∀ v30 : Int32, v30 = x2 + (1 : Int32) →
    BK68 v30 m29))
set_option maxHeartbeats 4000000 in
set_option maxRecDepth 100000 in
theorem w_X11_keep_B68 {p : Program} {l : Launch} {e : Env} {s : State} {m : MethodId} {args : Array Value} {below : List Frame} {meth : Method} {c : Code} {g : Gg} {S : Ss} (a0 : Nat) (x1 : Int32) (x2 : Int32) (M : Mm) (BK68 : Int32 → Mm → Prop) (EK68 : Mm → Prop) (K : Int32 → Mm → Prop) (E : EN p s m args meth c cX11_keep 3 (some .boolean) RX11 g) (hw : ad g 100000 < s.heap.size) (hs0 : S[a0]? = some (10, 0)) (hBK68 : ∀ (x2' : Int32) (M' : Mm) (H : Heap) (locs : List Loc) (ls : Array Slot), BK68 x2' M' → RP g S M' H → va_S (gA g) s.heap H locs → lv_has ls 3 [(0, .ref (ad g a0)), (1, .int x1), (2, .int x2')] → W p l e (rmD 1) s m args below meth c H locs 0 0 (MQ below (QA g S (pI K)) args s 0 0 (gA g)) (F0 m 68 ls [])) (hEK68 : ∀ (M' : Mm) (H : Heap) (locs : List Loc) (ls : Array Slot), EK68 M' → RP g S M' H → va_S (gA g) s.heap H locs → lv_has ls 3 [] → W p l e (rmD 1) s m args below meth c H locs 0 0 (MQ below (QA g S (pI K)) args s 0 0 (gA g)) (F0 m 95 ls [])) (hf : f_X11_keep_B68 S a0 x1 x2 M BK68 EK68 K) (H : Heap) (locs : List Loc) (ls : Array Slot) (hR : RP g S M H) (hS : va_S (gA g) s.heap H locs) (hl : lv_has ls 3 [(0, .ref (ad g a0)), (1, .int x1), (2, .int x2)]) : W p l e (rmD 1) s m args below meth c H locs 0 0 (MQ below (QA g S (pI K)) args s 0 0 (gA g)) (F0 m 68 ls []) := by
  have hx := E.1
  have hb := E.2.1
  unfold f_X11_keep_B68 at hf
  refine lv_iload_n hx hb dX11_keep_68 rfl (lv_at hl 2 rfl) ?_
  refine lv_iconst (v := 4) hx hb dX11_keep_69 (by decide) ?_
  refine lv_icmp_ge (tgt := 95) hx hb dX11_keep_70 (by decide) (fun c24 => ?_) (fun c24 => ?_)
  · replace hf := hf.1 c24
    exact hEK68  _ _ _ _ hf hR hS (lv_sub hl [] rfl)
  · replace hf := hf.2 c24
    refine lv_aload_n hx hb dX11_keep_73 rfl (lv_at hl 0 rfl) ?_
    obtain ⟨b25, hb25, hf⟩ := hf
    refine hw_getR E hR cI10 hs0 85 (by decide) lfX11_533 rfl hb25 dX11_keep_74 ?_
    refine lv_iconst (v := 4) hx hb dX11_keep_77 (by decide) ?_
    refine lv_iload_n hx hb dX11_keep_78 rfl (lv_at hl 1 rfl) ?_
    refine lv_imul hx hb dX11_keep_79 ?_
    refine lv_iload_n hx hb dX11_keep_80 rfl (lv_at hl 2 rfl) ?_
    refine lv_iadd hx hb dX11_keep_81 ?_
    refine lv_aload_n hx hb dX11_keep_82 rfl (lv_at hl 0 rfl) ?_
    obtain ⟨b26, hb26, hf⟩ := hf
    refine hw_getR E hR cI10 hs0 26 (by decide) lfX11_217 rfl hb26 dX11_keep_83 ?_
    refine lv_iload_n hx hb dX11_keep_86 rfl (lv_at hl 2 rfl) ?_
    obtain ⟨n27, hn27, in27, hf⟩ := hf
    refine hw_iald E hR hS hn27 in27 dX11_keep_87 ?_
    obtain ⟨n28, hn28, in28, hf⟩ := hf
    refine hw_iast E hR hS hw hn28 in28 dX11_keep_88 (fun m29 H locs em29 hR hS => ?_)
    replace hf := hf m29 em29
    obtain ⟨v30, ev30⟩ : ∃ y : Int32, y = x2 + (1 : Int32) := ⟨_, rfl⟩
    replace hf := hf v30 ev30
    refine lv_iinc (v := v30) (lv' := [(2, .int v30), (0, .ref (ad g a0)), (1, .int x1)]) hx hb dX11_keep_89 hl (k := 2) rfl (by rw [ev30]; rfl) (by decide) rfl (fun ls hl => ?_)
    refine lv_goto (tgt := 68) hx hb dX11_keep_92 (by decide) ?_
    exact hBK68 _ _ _ _ _ hf hR hS (lv_sub hl [1, 2, 0] rfl)
def f_X11_keep_L68 (S : Ss) (a0 : Nat) (x1 : Int32) (EK68 : Mm → Prop) (K : Int32 → Mm → Prop) : Nat → Int32 → Mm → Prop
  | 0, _, _ => False
  | n + 1, x2, M => f_X11_keep_B68 S a0 x1 x2 M (fun (x2 : Int32) (M : Mm) => f_X11_keep_L68 S a0 x1 EK68 K n x2 M) EK68 K
set_option maxHeartbeats 4000000 in
set_option maxRecDepth 100000 in
theorem w_X11_keep_L68 {p : Program} {l : Launch} {e : Env} {s : State} {m : MethodId} {args : Array Value} {below : List Frame} {meth : Method} {c : Code} {g : Gg} {S : Ss} (a0 : Nat) (x1 : Int32) (EK68 : Mm → Prop) (K : Int32 → Mm → Prop) (E : EN p s m args meth c cX11_keep 3 (some .boolean) RX11 g) (hw : ad g 100000 < s.heap.size) (hs0 : S[a0]? = some (10, 0)) (hEK68 : ∀ (M' : Mm) (H : Heap) (locs : List Loc) (ls : Array Slot), EK68 M' → RP g S M' H → va_S (gA g) s.heap H locs → lv_has ls 3 [] → W p l e (rmD 1) s m args below meth c H locs 0 0 (MQ below (QA g S (pI K)) args s 0 0 (gA g)) (F0 m 95 ls [])) : ∀ (n : Nat) (x2 : Int32) (M : Mm), f_X11_keep_L68 S a0 x1 EK68 K n x2 M → ∀ (H : Heap) (locs : List Loc) (ls : Array Slot), RP g S M H → va_S (gA g) s.heap H locs → lv_has ls 3 [(0, .ref (ad g a0)), (1, .int x1), (2, .int x2)] → W p l e (rmD 1) s m args below meth c H locs 0 0 (MQ below (QA g S (pI K)) args s 0 0 (gA g)) (F0 m 68 ls []) := by
  intro n
  induction n with
  | zero => intro x2 M hf; exact hf.elim
  | succ n ih =>
    intro x2 M hf H locs ls hR hS hl
    exact w_X11_keep_B68 _ _ _ _ _ _ _ E hw hs0 (fun _ M H locs ls h hR hS hl => ih _ M h H locs ls hR hS hl) hEK68 hf H locs ls hR hS hl
def f_X11_keep (S : Ss) (a0 : Nat) (x1 : Int32) (M : Mm) (K : Int32 → Mm → Prop) : Prop :=
  ∀ m1 : Mm, m1 = stI M a0 0 (0 : Int32) →
  f_X11_in S  x1.toInt64 (0 : Int64) (2 : Int64) m1 (fun (r3 : Int32) (m2 : Mm) =>
    ((r3 = 0 →
    K (0 : Int32) m2) ∧
   (¬ r3 = 0 →
    ∃ b5 : Nat, m2.2.2 a0 80 = some b5 ∧
    ∃ n6 : Nat, S[b5]? = some (52, n6) ∧ vp_in x1 n6 ∧
    ∀ m7 : Mm, m7 = stI m2 b5 x1.toNatClampNeg (vp_nar .boolean (1 : Int32)) →
    ∃ b8 : Nat, m7.2.2 a0 81 = some b8 ∧
    f_X11_packsSlots S a0  m7 (fun (r10 : Int64) (m9 : Mm) =>
      ∃ n11 : Nat, S[b8]? = some (53, n11) ∧ vp_in x1 n11 ∧
    ∀ m12 : Mm, m12 = stJ m9 b8 x1.toNatClampNeg r10 →
    ∃ b13 : Nat, m12.2.2 a0 82 = some b13 ∧
    f_X11_packsRest S a0  m12 (fun (r15 : Int64) (m14 : Mm) =>
      ∃ n16 : Nat, S[b13]? = some (53, n16) ∧ vp_in x1 n16 ∧
    ∀ m17 : Mm, m17 = stJ m14 b13 x1.toNatClampNeg r15 →
    ∃ b18 : Nat, m17.2.2 a0 83 = some b18 ∧
    ∃ n19 : Nat, S[b18]? = some (50, n19) ∧ vp_in x1 n19 ∧
    ∀ m20 : Mm, m20 = stI m17 b18 x1.toNatClampNeg (m17.1 a0 27) →
    ∃ b21 : Nat, m20.2.2 a0 84 = some b21 ∧
    ∃ n22 : Nat, S[b21]? = some (50, n22) ∧ vp_in x1 n22 ∧
    ∀ m23 : Mm, m23 = stI m20 b21 x1.toNatClampNeg (m20.1 a0 21) →
    ∃ n32 : Nat, f_X11_keep_L68 S a0 x1 (fun (m31 : Mm) =>
      K (1 : Int32) m31) K n32 (0 : Int32) m23)))))
set_option maxHeartbeats 4000000 in
set_option maxRecDepth 100000 in
theorem ok_X11_keep {l : Launch} {g : Gg} {S : Ss} {a0 : Nat} {x1 : Int32} {M : Mm} {K : Int32 → Mm → Prop} (hs0 : S[a0]? = some (10, 0)) (hf : f_X11_keep S a0 x1 M K) : MT l g S yX11_keep cX11_keep 3 (some .boolean) 1 [.ref (ad g a0), .int x1] M (pI K) := by
  refine MT.of (by decide +kernel) (Nat.le_of_ble_eq_true rfl) ?_
  intro p e s m below meth c ls E hw hR hS hl
  have hl : lv_has ls 3 [(0, .ref (ad g a0)), (1, .int x1)] := hl
  generalize ([.ref (ad g a0), .int x1] : List Value).toArray = args at E ⊢
  have E : EN p s m args meth c cX11_keep 3 (some .boolean) RX11 g := E
  have hx := E.1
  have hb := E.2.1
  unfold f_X11_keep at hf
  refine lv_aload_n hx hb dX11_keep_0 rfl (lv_at hl 0 rfl) ?_
  refine lv_iconst (v := 0) hx hb dX11_keep_1 (by decide) ?_
  refine hw_putI E hR hS hw cI10 hs0 0 (by decide) lfX11_3 rfl (Or.inl rfl) dX11_keep_2 (fun m1 H locs em1 hR hS => ?_)
  replace hf := hf m1 em1
  refine lv_iload_n hx hb dX11_keep_5 rfl (lv_at hl 1 rfl) ?_
  refine lv_i2l hx hb dX11_keep_6 rfl ?_
  refine lv_lconst (v := 0) hx hb dX11_keep_7 (by decide) ?_
  refine lv_ldc2 (v := 2) hx hb E.2.2.2.2.1 (E.2.2.2.2.2.1 _ ljX11_519) dX11_keep_8 ?_
  refine hw_callS (d := 1) E hR hS (As := [.long x1.toInt64, .long (0 : Int64), .long (2 : Int64)]) (rest := []) mcX11_in msX11_in lmX11_21 (ok_X11_in  hf) rfl rfl (by decide) hl.1 (Nat.le_of_ble_eq_true rfl) dX11_keep_11 (fun rr m2 H locs hp hR hS => ?_)
  obtain ⟨r3, rfl, hf⟩ := hp
  refine W.eq (g2 := F0 m 14 ls [.int r3]) rfl ?_
  refine lv_if_ne (tgt := 19) hx hb dX11_keep_14 (by decide) (fun c4 => ?_) (fun c4 => ?_)
  · replace hf := hf.2 c4
    refine lv_aload_n hx hb dX11_keep_19 rfl (lv_at hl 0 rfl) ?_
    obtain ⟨b5, hb5, hf⟩ := hf
    refine hw_getR E hR cI10 hs0 80 (by decide) lfX11_516 rfl hb5 dX11_keep_20 ?_
    refine lv_iload_n hx hb dX11_keep_23 rfl (lv_at hl 1 rfl) ?_
    refine lv_iconst (v := 1) hx hb dX11_keep_24 (by decide) ?_
    obtain ⟨n6, hn6, in6, hf⟩ := hf
    refine hw_zast E hR hS hw hn6 in6 dX11_keep_25 (fun m7 H locs em7 hR hS => ?_)
    replace hf := hf m7 em7
    refine lv_aload_n hx hb dX11_keep_26 rfl (lv_at hl 0 rfl) ?_
    obtain ⟨b8, hb8, hf⟩ := hf
    refine hw_getR E hR cI10 hs0 81 (by decide) lfX11_521 rfl hb8 dX11_keep_27 ?_
    refine lv_iload_n hx hb dX11_keep_30 rfl (lv_at hl 1 rfl) ?_
    refine lv_aload_n hx hb dX11_keep_31 rfl (lv_at hl 0 rfl) ?_
    refine hw_callV (d := 1) E hR hS (As := []) (rest := [.int x1, .ref (ad g b8)]) cI10 hs0 rfl mcX11_packsSlots miX11_packsSlots lmX11_266 (ok_X11_packsSlots hs0 hf) rfl rfl (by decide) hl.1 (Nat.le_of_ble_eq_true rfl) dX11_keep_32 (fun rr m9 H locs hp hR hS => ?_)
    obtain ⟨r10, rfl, hf⟩ := hp
    refine W.eq (g2 := F0 m 35 ls [.long r10, .int x1, .ref (ad g b8)]) rfl ?_
    obtain ⟨n11, hn11, in11, hf⟩ := hf
    refine hw_last E hR hS hw hn11 in11 dX11_keep_35 (fun m12 H locs em12 hR hS => ?_)
    replace hf := hf m12 em12
    refine lv_aload_n hx hb dX11_keep_36 rfl (lv_at hl 0 rfl) ?_
    obtain ⟨b13, hb13, hf⟩ := hf
    refine hw_getR E hR cI10 hs0 82 (by decide) lfX11_524 rfl hb13 dX11_keep_37 ?_
    refine lv_iload_n hx hb dX11_keep_40 rfl (lv_at hl 1 rfl) ?_
    refine lv_aload_n hx hb dX11_keep_41 rfl (lv_at hl 0 rfl) ?_
    refine hw_callV (d := 1) E hR hS (As := []) (rest := [.int x1, .ref (ad g b13)]) cI10 hs0 rfl mcX11_packsRest miX11_packsRest lmX11_274 (ok_X11_packsRest hs0 hf) rfl rfl (by decide) hl.1 (Nat.le_of_ble_eq_true rfl) dX11_keep_42 (fun rr m14 H locs hp hR hS => ?_)
    obtain ⟨r15, rfl, hf⟩ := hp
    refine W.eq (g2 := F0 m 45 ls [.long r15, .int x1, .ref (ad g b13)]) rfl ?_
    obtain ⟨n16, hn16, in16, hf⟩ := hf
    refine hw_last E hR hS hw hn16 in16 dX11_keep_45 (fun m17 H locs em17 hR hS => ?_)
    replace hf := hf m17 em17
    refine lv_aload_n hx hb dX11_keep_46 rfl (lv_at hl 0 rfl) ?_
    obtain ⟨b18, hb18, hf⟩ := hf
    refine hw_getR E hR cI10 hs0 83 (by decide) lfX11_527 rfl hb18 dX11_keep_47 ?_
    refine lv_iload_n hx hb dX11_keep_50 rfl (lv_at hl 1 rfl) ?_
    refine lv_aload_n hx hb dX11_keep_51 rfl (lv_at hl 0 rfl) ?_
    refine hw_getI E hR cI10 hs0 27 (by decide) lfX11_239 rfl dX11_keep_52 ?_
    obtain ⟨n19, hn19, in19, hf⟩ := hf
    refine hw_iast E hR hS hw hn19 in19 dX11_keep_55 (fun m20 H locs em20 hR hS => ?_)
    replace hf := hf m20 em20
    refine lv_aload_n hx hb dX11_keep_56 rfl (lv_at hl 0 rfl) ?_
    obtain ⟨b21, hb21, hf⟩ := hf
    refine hw_getR E hR cI10 hs0 84 (by decide) lfX11_530 rfl hb21 dX11_keep_57 ?_
    refine lv_iload_n hx hb dX11_keep_60 rfl (lv_at hl 1 rfl) ?_
    refine lv_aload_n hx hb dX11_keep_61 rfl (lv_at hl 0 rfl) ?_
    refine hw_getI E hR cI10 hs0 21 (by decide) lfX11_161 rfl dX11_keep_62 ?_
    obtain ⟨n22, hn22, in22, hf⟩ := hf
    refine hw_iast E hR hS hw hn22 in22 dX11_keep_65 (fun m23 H locs em23 hR hS => ?_)
    replace hf := hf m23 em23
    refine lv_iconst (v := 0) hx hb dX11_keep_66 (by decide) ?_
    refine lv_istore_n (lv' := [(2, .int (0 : Int32)), (0, .ref (ad g a0)), (1, .int x1)]) hx hb dX11_keep_67 rfl hl (by decide) rfl (fun ls hl => ?_)
    obtain ⟨n32, hf⟩ := hf
    refine w_X11_keep_L68 _ _ _ _ E hw hs0 ?_ n32 _ _ hf _ _ _ hR hS (lv_sub hl [1, 2, 0] rfl)
    intro m31 H locs ls hf hR hS hl
    refine lv_iconst (v := 1) hx hb dX11_keep_95 (by decide) ?_
    exact hw_zret E hR hS (by decide) ⟨_, rfl, hf⟩ dX11_keep_96
  · replace hf := hf.1 c4
    refine lv_iconst (v := 0) hx hb dX11_keep_17 (by decide) ?_
    exact hw_zret E hR hS (by decide) ⟨_, rfl, hf⟩ dX11_keep_18
def f_X11_again_B66 (S : Ss) (a0 : Nat) (x1 : Int32) (x2 : Int32) (M : Mm) (BK66 : Int32 → Mm → Prop) (EK66 : Mm → Prop) (K : Int32 → Mm → Prop) : Prop :=
  (((4 : Int32) ≤ x2 →
    EK66 M) ∧
   (¬ (4 : Int32) ≤ x2 →
    ∃ b20 : Nat, M.2.2 a0 26 = some b20 ∧
    ∃ b21 : Nat, M.2.2 a0 85 = some b21 ∧
    ∃ n22 : Nat, shp S b21 = some (50, n22) ∧ vp_in (((4 : Int32) * x1) + x2) n22 ∧
    ∃ n23 : Nat, S[b20]? = some (50, n23) ∧ vp_in x2 n23 ∧
    ∀ m24 : Mm, m24 = stI M b20 x2.toNatClampNeg (M.1 b21 (((4 : Int32) * x1) + x2).toNatClampNeg) →
    ∀ v25 : Int32, v25 = x2 + (1 : Int32) →
    BK66 v25 m24))
set_option maxHeartbeats 4000000 in
set_option maxRecDepth 100000 in
theorem w_X11_again_B66 {p : Program} {l : Launch} {e : Env} {s : State} {m : MethodId} {args : Array Value} {below : List Frame} {meth : Method} {c : Code} {g : Gg} {S : Ss} (a0 : Nat) (x1 : Int32) (x2 : Int32) (M : Mm) (BK66 : Int32 → Mm → Prop) (EK66 : Mm → Prop) (K : Int32 → Mm → Prop) (E : EN p s m args meth c cX11_again 3 (some .boolean) RX11 g) (hw : ad g 100000 < s.heap.size) (hs0 : S[a0]? = some (10, 0)) (hBK66 : ∀ (x2' : Int32) (M' : Mm) (H : Heap) (locs : List Loc) (ls : Array Slot), BK66 x2' M' → RP g S M' H → va_S (gA g) s.heap H locs → lv_has ls 3 [(0, .ref (ad g a0)), (1, .int x1), (2, .int x2')] → W p l e (rmD 1) s m args below meth c H locs 0 0 (MQ below (QA g S (pI K)) args s 0 0 (gA g)) (F0 m 66 ls [])) (hEK66 : ∀ (M' : Mm) (H : Heap) (locs : List Loc) (ls : Array Slot), EK66 M' → RP g S M' H → va_S (gA g) s.heap H locs → lv_has ls 3 [] → W p l e (rmD 1) s m args below meth c H locs 0 0 (MQ below (QA g S (pI K)) args s 0 0 (gA g)) (F0 m 93 ls [])) (hf : f_X11_again_B66 S a0 x1 x2 M BK66 EK66 K) (H : Heap) (locs : List Loc) (ls : Array Slot) (hR : RP g S M H) (hS : va_S (gA g) s.heap H locs) (hl : lv_has ls 3 [(0, .ref (ad g a0)), (1, .int x1), (2, .int x2)]) : W p l e (rmD 1) s m args below meth c H locs 0 0 (MQ below (QA g S (pI K)) args s 0 0 (gA g)) (F0 m 66 ls []) := by
  have hx := E.1
  have hb := E.2.1
  unfold f_X11_again_B66 at hf
  refine lv_iload_n hx hb dX11_again_66 rfl (lv_at hl 2 rfl) ?_
  refine lv_iconst (v := 4) hx hb dX11_again_67 (by decide) ?_
  refine lv_icmp_ge (tgt := 93) hx hb dX11_again_68 (by decide) (fun c19 => ?_) (fun c19 => ?_)
  · replace hf := hf.1 c19
    exact hEK66  _ _ _ _ hf hR hS (lv_sub hl [] rfl)
  · replace hf := hf.2 c19
    refine lv_aload_n hx hb dX11_again_71 rfl (lv_at hl 0 rfl) ?_
    obtain ⟨b20, hb20, hf⟩ := hf
    refine hw_getR E hR cI10 hs0 26 (by decide) lfX11_217 rfl hb20 dX11_again_72 ?_
    refine lv_iload_n hx hb dX11_again_75 rfl (lv_at hl 2 rfl) ?_
    refine lv_aload_n hx hb dX11_again_76 rfl (lv_at hl 0 rfl) ?_
    obtain ⟨b21, hb21, hf⟩ := hf
    refine hw_getR E hR cI10 hs0 85 (by decide) lfX11_533 rfl hb21 dX11_again_77 ?_
    refine lv_iconst (v := 4) hx hb dX11_again_80 (by decide) ?_
    refine lv_iload_n hx hb dX11_again_81 rfl (lv_at hl 1 rfl) ?_
    refine lv_imul hx hb dX11_again_82 ?_
    refine lv_iload_n hx hb dX11_again_83 rfl (lv_at hl 2 rfl) ?_
    refine lv_iadd hx hb dX11_again_84 ?_
    obtain ⟨n22, hn22, in22, hf⟩ := hf
    refine hw_iald E hR hS hn22 in22 dX11_again_85 ?_
    obtain ⟨n23, hn23, in23, hf⟩ := hf
    refine hw_iast E hR hS hw hn23 in23 dX11_again_86 (fun m24 H locs em24 hR hS => ?_)
    replace hf := hf m24 em24
    obtain ⟨v25, ev25⟩ : ∃ y : Int32, y = x2 + (1 : Int32) := ⟨_, rfl⟩
    replace hf := hf v25 ev25
    refine lv_iinc (v := v25) (lv' := [(2, .int v25), (0, .ref (ad g a0)), (1, .int x1)]) hx hb dX11_again_87 hl (k := 2) rfl (by rw [ev25]; rfl) (by decide) rfl (fun ls hl => ?_)
    refine lv_goto (tgt := 66) hx hb dX11_again_90 (by decide) ?_
    exact hBK66 _ _ _ _ _ hf hR hS (lv_sub hl [1, 2, 0] rfl)
def f_X11_again_L66 (S : Ss) (a0 : Nat) (x1 : Int32) (EK66 : Mm → Prop) (K : Int32 → Mm → Prop) : Nat → Int32 → Mm → Prop
  | 0, _, _ => False
  | n + 1, x2, M => f_X11_again_B66 S a0 x1 x2 M (fun (x2 : Int32) (M : Mm) => f_X11_again_L66 S a0 x1 EK66 K n x2 M) EK66 K
set_option maxHeartbeats 4000000 in
set_option maxRecDepth 100000 in
theorem w_X11_again_L66 {p : Program} {l : Launch} {e : Env} {s : State} {m : MethodId} {args : Array Value} {below : List Frame} {meth : Method} {c : Code} {g : Gg} {S : Ss} (a0 : Nat) (x1 : Int32) (EK66 : Mm → Prop) (K : Int32 → Mm → Prop) (E : EN p s m args meth c cX11_again 3 (some .boolean) RX11 g) (hw : ad g 100000 < s.heap.size) (hs0 : S[a0]? = some (10, 0)) (hEK66 : ∀ (M' : Mm) (H : Heap) (locs : List Loc) (ls : Array Slot), EK66 M' → RP g S M' H → va_S (gA g) s.heap H locs → lv_has ls 3 [] → W p l e (rmD 1) s m args below meth c H locs 0 0 (MQ below (QA g S (pI K)) args s 0 0 (gA g)) (F0 m 93 ls [])) : ∀ (n : Nat) (x2 : Int32) (M : Mm), f_X11_again_L66 S a0 x1 EK66 K n x2 M → ∀ (H : Heap) (locs : List Loc) (ls : Array Slot), RP g S M H → va_S (gA g) s.heap H locs → lv_has ls 3 [(0, .ref (ad g a0)), (1, .int x1), (2, .int x2)] → W p l e (rmD 1) s m args below meth c H locs 0 0 (MQ below (QA g S (pI K)) args s 0 0 (gA g)) (F0 m 66 ls []) := by
  intro n
  induction n with
  | zero => intro x2 M hf; exact hf.elim
  | succ n ih =>
    intro x2 M hf H locs ls hR hS hl
    exact w_X11_again_B66 _ _ _ _ _ _ _ E hw hs0 (fun _ M H locs ls h hR hS hl => ih _ M h H locs ls hR hS hl) hEK66 hf H locs ls hR hS hl
def f_X11_again (S : Ss) (a0 : Nat) (x1 : Int32) (M : Mm) (K : Int32 → Mm → Prop) : Prop :=
  ∀ m1 : Mm, m1 = stI M a0 0 (0 : Int32) →
  f_X11_in S  x1.toInt64 (0 : Int64) (2 : Int64) m1 (fun (r3 : Int32) (m2 : Mm) =>
    ((r3 = 0 →
    K (0 : Int32) m2) ∧
   (¬ r3 = 0 →
    ∃ b5 : Nat, m2.2.2 a0 80 = some b5 ∧
    ∃ n6 : Nat, S[b5]? = some (52, n6) ∧ vp_in x1 n6 ∧
    (((m2.1 b5 x1.toNatClampNeg) = 0 →
      K (0 : Int32) m2) ∧
     (¬ (m2.1 b5 x1.toNatClampNeg) = 0 →
      ∃ b8 : Nat, m2.2.2 a0 81 = some b8 ∧
      ∃ n9 : Nat, S[b8]? = some (53, n9) ∧ vp_in x1 n9 ∧
      ∃ b10 : Nat, m2.2.2 a0 82 = some b10 ∧
      ∃ n11 : Nat, S[b10]? = some (53, n11) ∧ vp_in x1 n11 ∧
      f_X11_unpacks S a0 (m2.2.1 b8 x1.toNatClampNeg) (m2.2.1 b10 x1.toNatClampNeg) m2 (fun (m12 : Mm) =>
        ∃ b13 : Nat, m12.2.2 a0 83 = some b13 ∧
      ∃ n14 : Nat, shp S b13 = some (50, n14) ∧ vp_in x1 n14 ∧
      ∀ m15 : Mm, m15 = stI m12 a0 27 (m12.1 b13 x1.toNatClampNeg) →
      ∃ b16 : Nat, m15.2.2 a0 84 = some b16 ∧
      ∃ n17 : Nat, shp S b16 = some (50, n17) ∧ vp_in x1 n17 ∧
      ∀ m18 : Mm, m18 = stI m15 a0 21 (m15.1 b16 x1.toNatClampNeg) →
      ∃ n27 : Nat, f_X11_again_L66 S a0 x1 (fun (m26 : Mm) =>
        K (1 : Int32) m26) K n27 (0 : Int32) m18))))))
set_option maxHeartbeats 4000000 in
set_option maxRecDepth 100000 in
theorem ok_X11_again {l : Launch} {g : Gg} {S : Ss} {a0 : Nat} {x1 : Int32} {M : Mm} {K : Int32 → Mm → Prop} (hs0 : S[a0]? = some (10, 0)) (hf : f_X11_again S a0 x1 M K) : MT l g S yX11_again cX11_again 3 (some .boolean) 1 [.ref (ad g a0), .int x1] M (pI K) := by
  refine MT.of (by decide +kernel) (Nat.le_of_ble_eq_true rfl) ?_
  intro p e s m below meth c ls E hw hR hS hl
  have hl : lv_has ls 3 [(0, .ref (ad g a0)), (1, .int x1)] := hl
  generalize ([.ref (ad g a0), .int x1] : List Value).toArray = args at E ⊢
  have E : EN p s m args meth c cX11_again 3 (some .boolean) RX11 g := E
  have hx := E.1
  have hb := E.2.1
  unfold f_X11_again at hf
  refine lv_aload_n hx hb dX11_again_0 rfl (lv_at hl 0 rfl) ?_
  refine lv_iconst (v := 0) hx hb dX11_again_1 (by decide) ?_
  refine hw_putI E hR hS hw cI10 hs0 0 (by decide) lfX11_3 rfl (Or.inl rfl) dX11_again_2 (fun m1 H locs em1 hR hS => ?_)
  replace hf := hf m1 em1
  refine lv_iload_n hx hb dX11_again_5 rfl (lv_at hl 1 rfl) ?_
  refine lv_i2l hx hb dX11_again_6 rfl ?_
  refine lv_lconst (v := 0) hx hb dX11_again_7 (by decide) ?_
  refine lv_ldc2 (v := 2) hx hb E.2.2.2.2.1 (E.2.2.2.2.2.1 _ ljX11_519) dX11_again_8 ?_
  refine hw_callS (d := 1) E hR hS (As := [.long x1.toInt64, .long (0 : Int64), .long (2 : Int64)]) (rest := []) mcX11_in msX11_in lmX11_21 (ok_X11_in  hf) rfl rfl (by decide) hl.1 (Nat.le_of_ble_eq_true rfl) dX11_again_11 (fun rr m2 H locs hp hR hS => ?_)
  obtain ⟨r3, rfl, hf⟩ := hp
  refine W.eq (g2 := F0 m 14 ls [.int r3]) rfl ?_
  refine lv_if_eq (tgt := 26) hx hb dX11_again_14 (by decide) (fun c4 => ?_) (fun c4 => ?_)
  · replace hf := hf.1 c4
    refine lv_iconst (v := 0) hx hb dX11_again_26 (by decide) ?_
    exact hw_zret E hR hS (by decide) ⟨_, rfl, hf⟩ dX11_again_27
  · replace hf := hf.2 c4
    refine lv_aload_n hx hb dX11_again_17 rfl (lv_at hl 0 rfl) ?_
    obtain ⟨b5, hb5, hf⟩ := hf
    refine hw_getR E hR cI10 hs0 80 (by decide) lfX11_516 rfl hb5 dX11_again_18 ?_
    refine lv_iload_n hx hb dX11_again_21 rfl (lv_at hl 1 rfl) ?_
    obtain ⟨n6, hn6, in6, hf⟩ := hf
    refine hw_zald E hR hn6 in6 dX11_again_22 ?_
    refine lv_if_ne (tgt := 28) hx hb dX11_again_23 (by decide) (fun c7 => ?_) (fun c7 => ?_)
    · replace hf := hf.2 c7
      refine lv_aload_n hx hb dX11_again_28 rfl (lv_at hl 0 rfl) ?_
      refine lv_aload_n hx hb dX11_again_29 rfl (lv_at hl 0 rfl) ?_
      obtain ⟨b8, hb8, hf⟩ := hf
      refine hw_getR E hR cI10 hs0 81 (by decide) lfX11_521 rfl hb8 dX11_again_30 ?_
      refine lv_iload_n hx hb dX11_again_33 rfl (lv_at hl 1 rfl) ?_
      obtain ⟨n9, hn9, in9, hf⟩ := hf
      refine hw_lald E hR hn9 in9 dX11_again_34 ?_
      refine lv_aload_n hx hb dX11_again_35 rfl (lv_at hl 0 rfl) ?_
      obtain ⟨b10, hb10, hf⟩ := hf
      refine hw_getR E hR cI10 hs0 82 (by decide) lfX11_524 rfl hb10 dX11_again_36 ?_
      refine lv_iload_n hx hb dX11_again_39 rfl (lv_at hl 1 rfl) ?_
      obtain ⟨n11, hn11, in11, hf⟩ := hf
      refine hw_lald E hR hn11 in11 dX11_again_40 ?_
      refine hw_callV (d := 1) E hR hS (As := [.long (m2.2.1 b8 x1.toNatClampNeg), .long (m2.2.1 b10 x1.toNatClampNeg)]) (rest := []) cI10 hs0 rfl mcX11_unpacks miX11_unpacks lmX11_292 (ok_X11_unpacks hs0 hf) rfl rfl (by decide) hl.1 (Nat.le_of_ble_eq_true rfl) dX11_again_41 (fun rr m12 H locs hp hR hS => ?_)
      obtain ⟨rfl, hf⟩ := hp
      refine W.eq (g2 := F0 m 44 ls []) rfl ?_
      refine lv_aload_n hx hb dX11_again_44 rfl (lv_at hl 0 rfl) ?_
      refine lv_aload_n hx hb dX11_again_45 rfl (lv_at hl 0 rfl) ?_
      obtain ⟨b13, hb13, hf⟩ := hf
      refine hw_getR E hR cI10 hs0 83 (by decide) lfX11_527 rfl hb13 dX11_again_46 ?_
      refine lv_iload_n hx hb dX11_again_49 rfl (lv_at hl 1 rfl) ?_
      obtain ⟨n14, hn14, in14, hf⟩ := hf
      refine hw_iald E hR hS hn14 in14 dX11_again_50 ?_
      refine hw_putI E hR hS hw cI10 hs0 27 (by decide) lfX11_239 rfl (Or.inl rfl) dX11_again_51 (fun m15 H locs em15 hR hS => ?_)
      replace hf := hf m15 em15
      refine lv_aload_n hx hb dX11_again_54 rfl (lv_at hl 0 rfl) ?_
      refine lv_aload_n hx hb dX11_again_55 rfl (lv_at hl 0 rfl) ?_
      obtain ⟨b16, hb16, hf⟩ := hf
      refine hw_getR E hR cI10 hs0 84 (by decide) lfX11_530 rfl hb16 dX11_again_56 ?_
      refine lv_iload_n hx hb dX11_again_59 rfl (lv_at hl 1 rfl) ?_
      obtain ⟨n17, hn17, in17, hf⟩ := hf
      refine hw_iald E hR hS hn17 in17 dX11_again_60 ?_
      refine hw_putI E hR hS hw cI10 hs0 21 (by decide) lfX11_161 rfl (Or.inl rfl) dX11_again_61 (fun m18 H locs em18 hR hS => ?_)
      replace hf := hf m18 em18
      refine lv_iconst (v := 0) hx hb dX11_again_64 (by decide) ?_
      refine lv_istore_n (lv' := [(2, .int (0 : Int32)), (0, .ref (ad g a0)), (1, .int x1)]) hx hb dX11_again_65 rfl hl (by decide) rfl (fun ls hl => ?_)
      obtain ⟨n27, hf⟩ := hf
      refine w_X11_again_L66 _ _ _ _ E hw hs0 ?_ n27 _ _ hf _ _ _ hR hS (lv_sub hl [1, 2, 0] rfl)
      intro m26 H locs ls hf hR hS hl
      refine lv_iconst (v := 1) hx hb dX11_again_93 (by decide) ?_
      exact hw_zret E hR hS (by decide) ⟨_, rfl, hf⟩ dX11_again_94
    · replace hf := hf.1 c7
      refine lv_iconst (v := 0) hx hb dX11_again_26 (by decide) ?_
      exact hw_zret E hR hS (by decide) ⟨_, rfl, hf⟩ dX11_again_27
def f_X11_count (S : Ss) (a0 : Nat) (x1 : Int32) (M : Mm) (K : Int32 → Mm → Prop) : Prop :=
  ∀ m1 : Mm, m1 = stI M a0 0 (0 : Int32) →
  ((x1 = 0 →
    K (m1.1 a0 15) m1) ∧
   (¬ x1 = 0 →
    ((x1 = 1 →
      K (m1.1 a0 27) m1) ∧
     (¬ x1 = 1 →
      ((x1 = 2 →
        K (m1.1 a0 20) m1) ∧
       (¬ x1 = 2 →
        ((x1 = 3 →
          K (m1.1 a0 21) m1) ∧
         (¬ x1 = 3 →
          ((x1 = 4 →
            K (m1.1 a0 34) m1) ∧
           (¬ x1 = 4 →
            ((x1 = 5 →
              K (m1.1 a0 60) m1) ∧
             (¬ x1 = 5 →
              ((x1 = 6 →
                K (m1.1 a0 70) m1) ∧
               (¬ x1 = 6 →
                ((x1 = 7 →
                  K (m1.1 a0 74) m1) ∧
                 (¬ x1 = 7 →
                  ((x1 = 8 →
                    K (m1.1 a0 1) m1) ∧
                   (¬ x1 = 8 →
                    ((x1 = 9 →
                      K (m1.1 a0 4) m1) ∧
                     (¬ x1 = 9 →
                      ((x1 = 10 →
                        K (m1.1 a0 32) m1) ∧
                       (¬ x1 = 10 →
                        ((x1 = 11 →
                          K (m1.1 a0 28) m1) ∧
                         (¬ x1 = 11 →
                          ((x1 = 12 →
                            K (m1.1 a0 29) m1) ∧
                           (¬ x1 = 12 →
                            ((x1 = 13 →
                              K (m1.1 a0 30) m1) ∧
                             (¬ x1 = 13 →
                              ((x1 = 14 →
                                K (m1.1 a0 31) m1) ∧
                               (¬ x1 = 14 →
                                K (-1 : Int32) m1))))))))))))))))))))))))))))))
set_option maxHeartbeats 4000000 in
set_option maxRecDepth 100000 in
theorem ok_X11_count {l : Launch} {g : Gg} {S : Ss} {a0 : Nat} {x1 : Int32} {M : Mm} {K : Int32 → Mm → Prop} (hs0 : S[a0]? = some (10, 0)) (hf : f_X11_count S a0 x1 M K) : MT l g S yX11_count cX11_count 2 (some .int) 0 [.ref (ad g a0), .int x1] M (pI K) := by
  refine MT.of (by decide +kernel) (Nat.le_of_ble_eq_true rfl) ?_
  intro p e s m below meth c ls E hw hR hS hl
  have hl : lv_has ls 2 [(0, .ref (ad g a0)), (1, .int x1)] := hl
  generalize ([.ref (ad g a0), .int x1] : List Value).toArray = args at E ⊢
  have E : EN p s m args meth c cX11_count 2 (some .int) RX11 g := E
  have hx := E.1
  have hb := E.2.1
  unfold f_X11_count at hf
  refine lv_aload_n hx hb dX11_count_0 rfl (lv_at hl 0 rfl) ?_
  refine lv_iconst (v := 0) hx hb dX11_count_1 (by decide) ?_
  refine hw_putI E hR hS hw cI10 hs0 0 (by decide) lfX11_3 rfl (Or.inl rfl) dX11_count_2 (fun m1 H locs em1 hR hS => ?_)
  replace hf := hf m1 em1
  refine lv_iload_n hx hb dX11_count_5 rfl (lv_at hl 1 rfl) ?_
  rcases Decidable.em (x1 = 0) with w2 | w2
  · replace hf := hf.1 w2
    refine lv_tableIn (tgt := 80) hx hb dX11_count_6 (by rw [w2]; decide) (by rw [w2]; decide) (by rw [w2]; rfl) (by decide) ?_
    refine lv_aload_n hx hb dX11_count_80 rfl (lv_at hl 0 rfl) ?_
    refine hw_getI E hR cI10 hs0 15 (by decide) lfX11_121 rfl dX11_count_81 ?_
    exact hw_iret E hR hS ⟨_, rfl, hf⟩ dX11_count_84
  · replace hf := hf.2 w2
    rcases Decidable.em (x1 = 1) with w3 | w3
    · replace hf := hf.1 w3
      refine lv_tableIn (tgt := 85) hx hb dX11_count_6 (by rw [w3]; decide) (by rw [w3]; decide) (by rw [w3]; rfl) (by decide) ?_
      refine lv_aload_n hx hb dX11_count_85 rfl (lv_at hl 0 rfl) ?_
      refine hw_getI E hR cI10 hs0 27 (by decide) lfX11_239 rfl dX11_count_86 ?_
      exact hw_iret E hR hS ⟨_, rfl, hf⟩ dX11_count_89
    · replace hf := hf.2 w3
      rcases Decidable.em (x1 = 2) with w4 | w4
      · replace hf := hf.1 w4
        refine lv_tableIn (tgt := 90) hx hb dX11_count_6 (by rw [w4]; decide) (by rw [w4]; decide) (by rw [w4]; rfl) (by decide) ?_
        refine lv_aload_n hx hb dX11_count_90 rfl (lv_at hl 0 rfl) ?_
        refine hw_getI E hR cI10 hs0 20 (by decide) lfX11_158 rfl dX11_count_91 ?_
        exact hw_iret E hR hS ⟨_, rfl, hf⟩ dX11_count_94
      · replace hf := hf.2 w4
        rcases Decidable.em (x1 = 3) with w5 | w5
        · replace hf := hf.1 w5
          refine lv_tableIn (tgt := 95) hx hb dX11_count_6 (by rw [w5]; decide) (by rw [w5]; decide) (by rw [w5]; rfl) (by decide) ?_
          refine lv_aload_n hx hb dX11_count_95 rfl (lv_at hl 0 rfl) ?_
          refine hw_getI E hR cI10 hs0 21 (by decide) lfX11_161 rfl dX11_count_96 ?_
          exact hw_iret E hR hS ⟨_, rfl, hf⟩ dX11_count_99
        · replace hf := hf.2 w5
          rcases Decidable.em (x1 = 4) with w6 | w6
          · replace hf := hf.1 w6
            refine lv_tableIn (tgt := 100) hx hb dX11_count_6 (by rw [w6]; decide) (by rw [w6]; decide) (by rw [w6]; rfl) (by decide) ?_
            refine lv_aload_n hx hb dX11_count_100 rfl (lv_at hl 0 rfl) ?_
            refine hw_getI E hR cI10 hs0 34 (by decide) lfX11_198 rfl dX11_count_101 ?_
            exact hw_iret E hR hS ⟨_, rfl, hf⟩ dX11_count_104
          · replace hf := hf.2 w6
            rcases Decidable.em (x1 = 5) with w7 | w7
            · replace hf := hf.1 w7
              refine lv_tableIn (tgt := 105) hx hb dX11_count_6 (by rw [w7]; decide) (by rw [w7]; decide) (by rw [w7]; rfl) (by decide) ?_
              refine lv_aload_n hx hb dX11_count_105 rfl (lv_at hl 0 rfl) ?_
              refine hw_getI E hR cI10 hs0 60 (by decide) lfX11_442 rfl dX11_count_106 ?_
              exact hw_iret E hR hS ⟨_, rfl, hf⟩ dX11_count_109
            · replace hf := hf.2 w7
              rcases Decidable.em (x1 = 6) with w8 | w8
              · replace hf := hf.1 w8
                refine lv_tableIn (tgt := 110) hx hb dX11_count_6 (by rw [w8]; decide) (by rw [w8]; decide) (by rw [w8]; rfl) (by decide) ?_
                refine lv_aload_n hx hb dX11_count_110 rfl (lv_at hl 0 rfl) ?_
                refine hw_getI E hR cI10 hs0 70 (by decide) lfX11_477 rfl dX11_count_111 ?_
                exact hw_iret E hR hS ⟨_, rfl, hf⟩ dX11_count_114
              · replace hf := hf.2 w8
                rcases Decidable.em (x1 = 7) with w9 | w9
                · replace hf := hf.1 w9
                  refine lv_tableIn (tgt := 115) hx hb dX11_count_6 (by rw [w9]; decide) (by rw [w9]; decide) (by rw [w9]; rfl) (by decide) ?_
                  refine lv_aload_n hx hb dX11_count_115 rfl (lv_at hl 0 rfl) ?_
                  refine hw_getI E hR cI10 hs0 74 (by decide) lfX11_491 rfl dX11_count_116 ?_
                  exact hw_iret E hR hS ⟨_, rfl, hf⟩ dX11_count_119
                · replace hf := hf.2 w9
                  rcases Decidable.em (x1 = 8) with w10 | w10
                  · replace hf := hf.1 w10
                    refine lv_tableIn (tgt := 120) hx hb dX11_count_6 (by rw [w10]; decide) (by rw [w10]; decide) (by rw [w10]; rfl) (by decide) ?_
                    refine lv_aload_n hx hb dX11_count_120 rfl (lv_at hl 0 rfl) ?_
                    refine hw_getI E hR cI10 hs0 1 (by decide) lfX11_11 rfl dX11_count_121 ?_
                    exact hw_iret E hR hS ⟨_, rfl, hf⟩ dX11_count_124
                  · replace hf := hf.2 w10
                    rcases Decidable.em (x1 = 9) with w11 | w11
                    · replace hf := hf.1 w11
                      refine lv_tableIn (tgt := 125) hx hb dX11_count_6 (by rw [w11]; decide) (by rw [w11]; decide) (by rw [w11]; rfl) (by decide) ?_
                      refine lv_aload_n hx hb dX11_count_125 rfl (lv_at hl 0 rfl) ?_
                      refine hw_getI E hR cI10 hs0 4 (by decide) lfX11_14 rfl dX11_count_126 ?_
                      exact hw_iret E hR hS ⟨_, rfl, hf⟩ dX11_count_129
                    · replace hf := hf.2 w11
                      rcases Decidable.em (x1 = 10) with w12 | w12
                      · replace hf := hf.1 w12
                        refine lv_tableIn (tgt := 130) hx hb dX11_count_6 (by rw [w12]; decide) (by rw [w12]; decide) (by rw [w12]; rfl) (by decide) ?_
                        refine lv_aload_n hx hb dX11_count_130 rfl (lv_at hl 0 rfl) ?_
                        refine hw_getI E hR cI10 hs0 32 (by decide) lfX11_245 rfl dX11_count_131 ?_
                        exact hw_iret E hR hS ⟨_, rfl, hf⟩ dX11_count_134
                      · replace hf := hf.2 w12
                        rcases Decidable.em (x1 = 11) with w13 | w13
                        · replace hf := hf.1 w13
                          refine lv_tableIn (tgt := 135) hx hb dX11_count_6 (by rw [w13]; decide) (by rw [w13]; decide) (by rw [w13]; rfl) (by decide) ?_
                          refine lv_aload_n hx hb dX11_count_135 rfl (lv_at hl 0 rfl) ?_
                          refine hw_getI E hR cI10 hs0 28 (by decide) lfX11_173 rfl dX11_count_136 ?_
                          exact hw_iret E hR hS ⟨_, rfl, hf⟩ dX11_count_139
                        · replace hf := hf.2 w13
                          rcases Decidable.em (x1 = 12) with w14 | w14
                          · replace hf := hf.1 w14
                            refine lv_tableIn (tgt := 140) hx hb dX11_count_6 (by rw [w14]; decide) (by rw [w14]; decide) (by rw [w14]; rfl) (by decide) ?_
                            refine lv_aload_n hx hb dX11_count_140 rfl (lv_at hl 0 rfl) ?_
                            refine hw_getI E hR cI10 hs0 29 (by decide) lfX11_176 rfl dX11_count_141 ?_
                            exact hw_iret E hR hS ⟨_, rfl, hf⟩ dX11_count_144
                          · replace hf := hf.2 w14
                            rcases Decidable.em (x1 = 13) with w15 | w15
                            · replace hf := hf.1 w15
                              refine lv_tableIn (tgt := 145) hx hb dX11_count_6 (by rw [w15]; decide) (by rw [w15]; decide) (by rw [w15]; rfl) (by decide) ?_
                              refine lv_aload_n hx hb dX11_count_145 rfl (lv_at hl 0 rfl) ?_
                              refine hw_getI E hR cI10 hs0 30 (by decide) lfX11_179 rfl dX11_count_146 ?_
                              exact hw_iret E hR hS ⟨_, rfl, hf⟩ dX11_count_149
                            · replace hf := hf.2 w15
                              rcases Decidable.em (x1 = 14) with w16 | w16
                              · replace hf := hf.1 w16
                                refine lv_tableIn (tgt := 150) hx hb dX11_count_6 (by rw [w16]; decide) (by rw [w16]; decide) (by rw [w16]; rfl) (by decide) ?_
                                refine lv_aload_n hx hb dX11_count_150 rfl (lv_at hl 0 rfl) ?_
                                refine hw_getI E hR cI10 hs0 31 (by decide) lfX11_182 rfl dX11_count_151 ?_
                                exact hw_iret E hR hS ⟨_, rfl, hf⟩ dX11_count_154
                              · replace hf := hf.2 w16
                                refine lv_tableOut (tgt := 155) hx hb dX11_count_6 (by have := lv_neT w2 (a := 0) (by decide); have := lv_neT w3 (a := 1) (by decide); have := lv_neT w4 (a := 2) (by decide); have := lv_neT w5 (a := 3) (by decide); have := lv_neT w6 (a := 4) (by decide); have := lv_neT w7 (a := 5) (by decide); have := lv_neT w8 (a := 6) (by decide); have := lv_neT w9 (a := 7) (by decide); have := lv_neT w10 (a := 8) (by decide); have := lv_neT w11 (a := 9) (by decide); have := lv_neT w12 (a := 10) (by decide); have := lv_neT w13 (a := 11) (by decide); have := lv_neT w14 (a := 12) (by decide); have := lv_neT w15 (a := 13) (by decide); have := lv_neT w16 (a := 14) (by decide); omega) (by decide) ?_
                                refine lv_iconst (v := -1) hx hb dX11_count_155 (by decide) ?_
                                exact hw_iret E hR hS ⟨_, rfl, hf⟩ dX11_count_156
def f_X11_row (S : Ss) (a0 : Nat) (x1 : Int32) (M : Mm) (K : Int64 → Mm → Prop) : Prop :=
  ∀ m1 : Mm, m1 = stI M a0 0 (0 : Int32) →
  f_X11_in S  x1.toInt64 (0 : Int64) ((m1.1 a0 1) - (1 : Int32)).toInt64 m1 (fun (r3 : Int32) (m2 : Mm) =>
    ((r3 = 0 →
    ∀ m7 : Mm, m7 = stI m2 a0 0 (1 : Int32) →
    K (0 : Int64) m7) ∧
   (¬ r3 = 0 →
    ∃ b5 : Nat, m2.2.2 a0 2 = some b5 ∧
    ∃ n6 : Nat, S[b5]? = some (53, n6) ∧ vp_in x1 n6 ∧
    K (m2.2.1 b5 x1.toNatClampNeg) m2)))
set_option maxHeartbeats 4000000 in
set_option maxRecDepth 100000 in
theorem ok_X11_row {l : Launch} {g : Gg} {S : Ss} {a0 : Nat} {x1 : Int32} {M : Mm} {K : Int64 → Mm → Prop} (hs0 : S[a0]? = some (10, 0)) (hf : f_X11_row S a0 x1 M K) : MT l g S yX11_row cX11_row 2 (some .long) 1 [.ref (ad g a0), .int x1] M (pJ K) := by
  refine MT.of (by decide +kernel) (Nat.le_of_ble_eq_true rfl) ?_
  intro p e s m below meth c ls E hw hR hS hl
  have hl : lv_has ls 2 [(0, .ref (ad g a0)), (1, .int x1)] := hl
  generalize ([.ref (ad g a0), .int x1] : List Value).toArray = args at E ⊢
  have E : EN p s m args meth c cX11_row 2 (some .long) RX11 g := E
  have hx := E.1
  have hb := E.2.1
  unfold f_X11_row at hf
  refine lv_aload_n hx hb dX11_row_0 rfl (lv_at hl 0 rfl) ?_
  refine lv_iconst (v := 0) hx hb dX11_row_1 (by decide) ?_
  refine hw_putI E hR hS hw cI10 hs0 0 (by decide) lfX11_3 rfl (Or.inl rfl) dX11_row_2 (fun m1 H locs em1 hR hS => ?_)
  replace hf := hf m1 em1
  refine lv_iload_n hx hb dX11_row_5 rfl (lv_at hl 1 rfl) ?_
  refine lv_i2l hx hb dX11_row_6 rfl ?_
  refine lv_lconst (v := 0) hx hb dX11_row_7 (by decide) ?_
  refine lv_aload_n hx hb dX11_row_8 rfl (lv_at hl 0 rfl) ?_
  refine hw_getI E hR cI10 hs0 1 (by decide) lfX11_11 rfl dX11_row_9 ?_
  refine lv_iconst (v := 1) hx hb dX11_row_12 (by decide) ?_
  refine lv_isub hx hb dX11_row_13 ?_
  refine lv_i2l hx hb dX11_row_14 rfl ?_
  refine hw_callS (d := 1) E hR hS (As := [.long x1.toInt64, .long (0 : Int64), .long ((m1.1 a0 1) - (1 : Int32)).toInt64]) (rest := []) mcX11_in msX11_in lmX11_21 (ok_X11_in  hf) rfl rfl (by decide) hl.1 (Nat.le_of_ble_eq_true rfl) dX11_row_15 (fun rr m2 H locs hp hR hS => ?_)
  obtain ⟨r3, rfl, hf⟩ := hp
  refine W.eq (g2 := F0 m 18 ls [.int r3]) rfl ?_
  refine lv_if_ne (tgt := 28) hx hb dX11_row_18 (by decide) (fun c4 => ?_) (fun c4 => ?_)
  · replace hf := hf.2 c4
    refine lv_aload_n hx hb dX11_row_28 rfl (lv_at hl 0 rfl) ?_
    obtain ⟨b5, hb5, hf⟩ := hf
    refine hw_getR E hR cI10 hs0 2 (by decide) lfX11_7 rfl hb5 dX11_row_29 ?_
    refine lv_iload_n hx hb dX11_row_32 rfl (lv_at hl 1 rfl) ?_
    obtain ⟨n6, hn6, in6, hf⟩ := hf
    refine hw_lald E hR hn6 in6 dX11_row_33 ?_
    exact hw_lret E hR hS ⟨_, rfl, hf⟩ dX11_row_34
  · replace hf := hf.1 c4
    refine lv_aload_n hx hb dX11_row_21 rfl (lv_at hl 0 rfl) ?_
    refine lv_iconst (v := 1) hx hb dX11_row_22 (by decide) ?_
    refine hw_putI E hR hS hw cI10 hs0 0 (by decide) lfX11_3 rfl (Or.inl rfl) dX11_row_23 (fun m7 H locs em7 hR hS => ?_)
    replace hf := hf m7 em7
    refine lv_lconst (v := 0) hx hb dX11_row_26 (by decide) ?_
    exact hw_lret E hR hS ⟨_, rfl, hf⟩ dX11_row_27
