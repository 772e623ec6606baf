def f_X3_usePatches_B2 (S : Ss) (a0 : Nat) (x1 : Int32) (x2 : Int32) (M : Mm) (BK2 : Int32 → Mm → Prop) (EK2 : Mm → Prop) (K : Mm → Prop) : Prop :=
  (((64 : Int32) ≤ x2 →
    EK2 M) ∧
   (¬ (64 : Int32) ≤ x2 →
    ∃ b2 : Nat, M.2.2 a0 5 = some b2 ∧
    ∃ n3 : Nat, S[b2]? = some (55, n3) ∧ vp_in x2 n3 ∧
    ∀ m4 : Mm, m4 = stR M b2 x2.toNatClampNeg none →
    ∀ v5 : Int32, v5 = x2 + (1 : Int32) →
    BK2 v5 m4))
set_option maxHeartbeats 4000000 in
set_option maxRecDepth 100000 in
theorem w_X3_usePatches_B2 {p : Program} {l : Launch} {e : Env} {s : State} {m : MethodId} {args : Array Value} {below : List Frame} {meth : Method} {c : Code} {g : Gg} {S : Ss} (a0 : Nat) (x1 : Int32) (x2 : Int32) (M : Mm) (BK2 : Int32 → Mm → Prop) (EK2 : Mm → Prop) (K : Mm → Prop) (E : EN p s m args meth c cX3_usePatches 5 none RX3 g) (hw : ad g 100000 < s.heap.size) (hs0 : S[a0]? = some (2, 0)) (hBK2 : ∀ (x2' : Int32) (M' : Mm) (H : Heap) (locs : List Loc) (ls : Array Slot), BK2 x2' M' → RP g S M' H → va_S (gA g) s.heap H locs → lv_has ls 5 [(0, .ref (ad g a0)), (1, .int x1), (2, .int x2')] → W p l e (rmD 0) s m args below meth c H locs 0 0 (MQ below (QA g S (pV K)) args s 0 0 (gA g)) (F0 m 2 ls [])) (hEK2 : ∀ (M' : Mm) (H : Heap) (locs : List Loc) (ls : Array Slot), EK2 M' → RP g S M' H → va_S (gA g) s.heap H locs → lv_has ls 5 [(0, .ref (ad g a0)), (1, .int x1)] → W p l e (rmD 0) s m args below meth c H locs 0 0 (MQ below (QA g S (pV K)) args s 0 0 (gA g)) (F0 m 21 ls [])) (hf : f_X3_usePatches_B2 S a0 x1 x2 M BK2 EK2 K) (H : Heap) (locs : List Loc) (ls : Array Slot) (hR : RP g S M H) (hS : va_S (gA g) s.heap H locs) (hl : lv_has ls 5 [(0, .ref (ad g a0)), (1, .int x1), (2, .int x2)]) : W p l e (rmD 0) s m args below meth c H locs 0 0 (MQ below (QA g S (pV K)) args s 0 0 (gA g)) (F0 m 2 ls []) := by
  have hx := E.1
  have hb := E.2.1
  unfold f_X3_usePatches_B2 at hf
  refine lv_iload_n hx hb dX3_usePatches_2 rfl (lv_at hl 2 rfl) ?_
  refine lv_bipush (v := 64) hx hb dX3_usePatches_3 (by decide) ?_
  refine lv_icmp_ge (tgt := 21) hx hb dX3_usePatches_5 (by decide) (fun c1 => ?_) (fun c1 => ?_)
  · replace hf := hf.1 c1
    exact hEK2  _ _ _ _ hf hR hS (lv_sub hl [0, 1] rfl)
  · replace hf := hf.2 c1
    refine lv_aload_n hx hb dX3_usePatches_8 rfl (lv_at hl 0 rfl) ?_
    obtain ⟨b2, hb2, hf⟩ := hf
    refine hw_getR E hR cI2 hs0 5 (by decide) lfX3_30 rfl hb2 dX3_usePatches_9 ?_
    refine lv_iload_n hx hb dX3_usePatches_12 rfl (lv_at hl 2 rfl) ?_
    refine lv_null hx hb dX3_usePatches_13 ?_
    obtain ⟨n3, hn3, in3, hf⟩ := hf
    refine hw_aastN55 E hR hS hw hn3 in3 dX3_usePatches_14 (fun m4 H locs em4 hR hS => ?_)
    replace hf := hf m4 em4
    obtain ⟨v5, ev5⟩ : ∃ y : Int32, y = x2 + (1 : Int32) := ⟨_, rfl⟩
    replace hf := hf v5 ev5
    refine lv_iinc (v := v5) (lv' := [(2, .int v5), (0, .ref (ad g a0)), (1, .int x1)]) hx hb dX3_usePatches_15 hl (k := 2) rfl (by rw [ev5]; rfl) (by decide) rfl (fun ls hl => ?_)
    refine lv_goto (tgt := 2) hx hb dX3_usePatches_18 (by decide) ?_
    exact hBK2 _ _ _ _ _ hf hR hS (lv_sub hl [1, 2, 0] rfl)
def f_X3_usePatches_L2 (S : Ss) (a0 : Nat) (x1 : Int32) (EK2 : Mm → Prop) (K : Mm → Prop) : Nat → Int32 → Mm → Prop
  | 0, _, _ => False
  | n + 1, x2, M => f_X3_usePatches_B2 S a0 x1 x2 M (fun (x2 : Int32) (M : Mm) => f_X3_usePatches_L2 S a0 x1 EK2 K n x2 M) EK2 K
set_option maxHeartbeats 4000000 in
set_option maxRecDepth 100000 in
theorem w_X3_usePatches_L2 {p : Program} {l : Launch} {e : Env} {s : State} {m : MethodId} {args : Array Value} {below : List Frame} {meth : Method} {c : Code} {g : Gg} {S : Ss} (a0 : Nat) (x1 : Int32) (EK2 : Mm → Prop) (K : Mm → Prop) (E : EN p s m args meth c cX3_usePatches 5 none RX3 g) (hw : ad g 100000 < s.heap.size) (hs0 : S[a0]? = some (2, 0)) (hEK2 : ∀ (M' : Mm) (H : Heap) (locs : List Loc) (ls : Array Slot), EK2 M' → RP g S M' H → va_S (gA g) s.heap H locs → lv_has ls 5 [(0, .ref (ad g a0)), (1, .int x1)] → W p l e (rmD 0) s m args below meth c H locs 0 0 (MQ below (QA g S (pV K)) args s 0 0 (gA g)) (F0 m 21 ls [])) : ∀ (n : Nat) (x2 : Int32) (M : Mm), f_X3_usePatches_L2 S a0 x1 EK2 K n x2 M → ∀ (H : Heap) (locs : List Loc) (ls : Array Slot), RP g S M H → va_S (gA g) s.heap H locs → lv_has ls 5 [(0, .ref (ad g a0)), (1, .int x1), (2, .int x2)] → W p l e (rmD 0) s m args below meth c H locs 0 0 (MQ below (QA g S (pV K)) args s 0 0 (gA g)) (F0 m 2 ls []) := by
  intro n
  induction n with
  | zero => intro x2 M hf; exact hf.elim
  | succ n ih =>
    intro x2 M hf H locs ls hR hS hl
    exact w_X3_usePatches_B2 _ _ _ _ _ _ _ E hw hs0 (fun _ M H locs ls h hR hS hl => ih _ M h H locs ls hR hS hl) hEK2 hf H locs ls hR hS hl
def f_X3_usePatches_B23 (S : Ss) (a0 : Nat) (x1 : Int32) (x2 : Int32) (M : Mm) (BK23 : Int32 → Mm → Prop) (EK23 : Mm → Prop) (K : Mm → Prop) : Prop :=
  (((M.1 a0 12) ≤ x2 →
    EK23 M) ∧
   (¬ (M.1 a0 12) ≤ x2 →
    ∃ b8 : Nat, M.2.2 a0 3 = some b8 ∧
    ∃ n9 : Nat, shp S b8 = some (50, n9) ∧ vp_in x2 n9 ∧
    ∀ v10 : Int32, v10 = (M.1 b8 x2.toNatClampNeg) →
    ∃ b11 : Nat, M.2.2 a0 4 = some b11 ∧
    ∃ n12 : Nat, shp S b11 = some (50, n12) ∧ vp_in x2 n12 ∧
    ∀ v13 : Int32, v13 = (M.1 b11 x2.toNatClampNeg) →
    (((x1 &&& ((1 : Int32) <<< (x2 &&& 31))) = 0 →
      ∀ v15 : Int32, v15 = x2 + (1 : Int32) →
      BK23 v15 M) ∧
     (¬ (x1 &&& ((1 : Int32) <<< (x2 &&& 31))) = 0 →
      ∃ b16 : Nat, M.2.2 a0 0 = some b16 ∧
      ∃ n17 : Nat, S[b16]? = some (55, n17) ∧ vp_in v10 n17 ∧
      ∃ b18 : Nat, M.2.2 b16 v10.toNatClampNeg = some b18 ∧
      S[b18]? = some (4, 0) ∧
      (((M.1 b18 6) ≤ v13 →
        ∀ v21 : Int32, v21 = x2 + (1 : Int32) →
        BK23 v21 M) ∧
       (¬ (M.1 b18 6) ≤ v13 →
        ∃ b22 : Nat, M.2.2 a0 5 = some b22 ∧
        ∃ b23 : Nat, M.2.2 a0 2 = some b23 ∧
        ∃ n24 : Nat, S[b23]? = some (55, n24) ∧ vp_in x2 n24 ∧
        ∃ b25 : Nat, M.2.2 b23 x2.toNatClampNeg = some b25 ∧
        S[b25]? = some (4, 0) ∧
        ∃ n26 : Nat, S[b22]? = some (55, n26) ∧ vp_in ((v10 * (16 : Int32)) + v13) n26 ∧
        ∀ m27 : Mm, m27 = stR M b22 ((v10 * (16 : Int32)) + v13).toNatClampNeg (some b25) →
        ∀ v29 : Int32, v29 = x2 + (1 : Int32) →
        BK23 v29 m27))))))
set_option maxHeartbeats 4000000 in
set_option maxRecDepth 100000 in
theorem w_X3_usePatches_B23 {p : Program} {l : Launch} {e : Env} {s : State} {m : MethodId} {args : Array Value} {below : List Frame} {meth : Method} {c : Code} {g : Gg} {S : Ss} (a0 : Nat) (x1 : Int32) (x2 : Int32) (M : Mm) (BK23 : Int32 → Mm → Prop) (EK23 : Mm → Prop) (K : Mm → Prop) (E : EN p s m args meth c cX3_usePatches 5 none RX3 g) (hw : ad g 100000 < s.heap.size) (hs0 : S[a0]? = some (2, 0)) (hBK23 : ∀ (x2' : Int32) (M' : Mm) (H : Heap) (locs : List Loc) (ls : Array Slot), BK23 x2' M' → RP g S M' H → va_S (gA g) s.heap H locs → lv_has ls 5 [(0, .ref (ad g a0)), (1, .int x1), (2, .int x2')] → W p l e (rmD 0) s m args below meth c H locs 0 0 (MQ below (QA g S (pV K)) args s 0 0 (gA g)) (F0 m 23 ls [])) (hEK23 : ∀ (M' : Mm) (H : Heap) (locs : List Loc) (ls : Array Slot), EK23 M' → RP g S M' H → va_S (gA g) s.heap H locs → lv_has ls 5 [] → W p l e (rmD 0) s m args below meth c H locs 0 0 (MQ below (QA g S (pV K)) args s 0 0 (gA g)) (F0 m 92 ls [])) (hf : f_X3_usePatches_B23 S a0 x1 x2 M BK23 EK23 K) (H : Heap) (locs : List Loc) (ls : Array Slot) (hR : RP g S M H) (hS : va_S (gA g) s.heap H locs) (hl : lv_has ls 5 [(0, .ref (ad g a0)), (1, .int x1), (2, .int x2)]) : W p l e (rmD 0) s m args below meth c H locs 0 0 (MQ below (QA g S (pV K)) args s 0 0 (gA g)) (F0 m 23 ls []) := by
  have hx := E.1
  have hb := E.2.1
  unfold f_X3_usePatches_B23 at hf
  refine lv_iload_n hx hb dX3_usePatches_23 rfl (lv_at hl 2 rfl) ?_
  refine lv_aload_n hx hb dX3_usePatches_24 rfl (lv_at hl 0 rfl) ?_
  refine hw_getI E hR cI2 hs0 12 (by decide) lfX3_54 rfl dX3_usePatches_25 ?_
  refine lv_icmp_ge (tgt := 92) hx hb dX3_usePatches_28 (by decide) (fun c7 => ?_) (fun c7 => ?_)
  · replace hf := hf.1 c7
    exact hEK23  _ _ _ _ hf hR hS (lv_sub hl [] rfl)
  · replace hf := hf.2 c7
    refine lv_aload_n hx hb dX3_usePatches_31 rfl (lv_at hl 0 rfl) ?_
    obtain ⟨b8, hb8, hf⟩ := hf
    refine hw_getR E hR cI2 hs0 3 (by decide) lfX3_23 rfl hb8 dX3_usePatches_32 ?_
    refine lv_iload_n hx hb dX3_usePatches_35 rfl (lv_at hl 2 rfl) ?_
    obtain ⟨n9, hn9, in9, hf⟩ := hf
    refine hw_iald E hR hS hn9 in9 dX3_usePatches_36 ?_
    refine lv_topi (fun v10 ev10 => ?_)
    replace hf := hf v10 ev10
    refine lv_istore_n (lv' := [(3, .int v10), (0, .ref (ad g a0)), (1, .int x1), (2, .int x2)]) hx hb dX3_usePatches_37 rfl hl (by decide) rfl (fun ls hl => ?_)
    refine lv_aload_n hx hb dX3_usePatches_38 rfl (lv_at hl 1 rfl) ?_
    obtain ⟨b11, hb11, hf⟩ := hf
    refine hw_getR E hR cI2 hs0 4 (by decide) lfX3_27 rfl hb11 dX3_usePatches_39 ?_
    refine lv_iload_n hx hb dX3_usePatches_42 rfl (lv_at hl 3 rfl) ?_
    obtain ⟨n12, hn12, in12, hf⟩ := hf
    refine hw_iald E hR hS hn12 in12 dX3_usePatches_43 ?_
    refine lv_topi (fun v13 ev13 => ?_)
    replace hf := hf v13 ev13
    refine lv_istore (lv' := [(4, .int v13), (3, .int v10), (0, .ref (ad g a0)), (1, .int x1), (2, .int x2)]) hx hb dX3_usePatches_44 hl (by decide) rfl (fun ls hl => ?_)
    refine lv_iload_n hx hb dX3_usePatches_46 rfl (lv_at hl 3 rfl) ?_
    refine lv_iconst (v := 1) hx hb dX3_usePatches_47 (by decide) ?_
    refine lv_iload_n hx hb dX3_usePatches_48 rfl (lv_at hl 4 rfl) ?_
    refine lv_ishl hx hb dX3_usePatches_49 ?_
    refine lv_iand hx hb dX3_usePatches_50 ?_
    refine lv_if_eq (tgt := 86) hx hb dX3_usePatches_51 (by decide) (fun c14 => ?_) (fun c14 => ?_)
    · replace hf := hf.1 c14
      obtain ⟨v15, ev15⟩ : ∃ y : Int32, y = x2 + (1 : Int32) := ⟨_, rfl⟩
      replace hf := hf v15 ev15
      refine lv_iinc (v := v15) (lv' := [(2, .int v15), (4, .int v13), (3, .int v10), (0, .ref (ad g a0)), (1, .int x1)]) hx hb dX3_usePatches_86 hl (k := 4) rfl (by rw [ev15]; rfl) (by decide) rfl (fun ls hl => ?_)
      refine lv_goto (tgt := 23) hx hb dX3_usePatches_89 (by decide) ?_
      exact hBK23 _ _ _ _ _ hf hR hS (lv_sub hl [3, 4, 0] rfl)
    · replace hf := hf.2 c14
      refine lv_iload hx hb dX3_usePatches_54 (lv_at hl 0 rfl) ?_
      refine lv_aload_n hx hb dX3_usePatches_56 rfl (lv_at hl 2 rfl) ?_
      obtain ⟨b16, hb16, hf⟩ := hf
      refine hw_getR E hR cI2 hs0 0 (by decide) lfX3_11 rfl hb16 dX3_usePatches_57 ?_
      refine lv_iload_n hx hb dX3_usePatches_60 rfl (lv_at hl 1 rfl) ?_
      obtain ⟨n17, hn17, in17, hf⟩ := hf
      obtain ⟨b18, hb18, hf⟩ := hf
      refine hw_aaldS E hR (t := 55) (by decide) hn17 in17 hb18 dX3_usePatches_61 ?_
      obtain ⟨h19, hf⟩ := hf
      refine hw_getI E hR cI4 h19 6 (by decide) lfX3_63 rfl dX3_usePatches_62 ?_
      refine lv_icmp_ge (tgt := 86) hx hb dX3_usePatches_65 (by decide) (fun c20 => ?_) (fun c20 => ?_)
      · replace hf := hf.1 c20
        obtain ⟨v21, ev21⟩ : ∃ y : Int32, y = x2 + (1 : Int32) := ⟨_, rfl⟩
        replace hf := hf v21 ev21
        refine lv_iinc (v := v21) (lv' := [(2, .int v21), (4, .int v13), (3, .int v10), (0, .ref (ad g a0)), (1, .int x1)]) hx hb dX3_usePatches_86 hl (k := 4) rfl (by rw [ev21]; rfl) (by decide) rfl (fun ls hl => ?_)
        refine lv_goto (tgt := 23) hx hb dX3_usePatches_89 (by decide) ?_
        exact hBK23 _ _ _ _ _ hf hR hS (lv_sub hl [3, 4, 0] rfl)
      · replace hf := hf.2 c20
        refine lv_aload_n hx hb dX3_usePatches_68 rfl (lv_at hl 2 rfl) ?_
        obtain ⟨b22, hb22, hf⟩ := hf
        refine hw_getR E hR cI2 hs0 5 (by decide) lfX3_30 rfl hb22 dX3_usePatches_69 ?_
        refine lv_iload_n hx hb dX3_usePatches_72 rfl (lv_at hl 1 rfl) ?_
        refine lv_bipush (v := 16) hx hb dX3_usePatches_73 (by decide) ?_
        refine lv_imul hx hb dX3_usePatches_75 ?_
        refine lv_iload hx hb dX3_usePatches_76 (lv_at hl 0 rfl) ?_
        refine lv_iadd hx hb dX3_usePatches_78 ?_
        refine lv_aload_n hx hb dX3_usePatches_79 rfl (lv_at hl 2 rfl) ?_
        obtain ⟨b23, hb23, hf⟩ := hf
        refine hw_getR E hR cI2 hs0 2 (by decide) lfX3_20 rfl hb23 dX3_usePatches_80 ?_
        refine lv_iload_n hx hb dX3_usePatches_83 rfl (lv_at hl 4 rfl) ?_
        obtain ⟨n24, hn24, in24, hf⟩ := hf
        obtain ⟨b25, hb25, hf⟩ := hf
        refine hw_aaldS E hR (t := 55) (by decide) hn24 in24 hb25 dX3_usePatches_84 ?_
        obtain ⟨h28, hf⟩ := hf
        obtain ⟨n26, hn26, in26, hf⟩ := hf
        refine hw_aast55 E hR hS hw hn26 h28 in26 dX3_usePatches_85 (fun m27 H locs em27 hR hS => ?_)
        replace hf := hf m27 em27
        obtain ⟨v29, ev29⟩ : ∃ y : Int32, y = x2 + (1 : Int32) := ⟨_, rfl⟩
        replace hf := hf v29 ev29
        refine lv_iinc (v := v29) (lv' := [(2, .int v29), (4, .int v13), (3, .int v10), (0, .ref (ad g a0)), (1, .int x1)]) hx hb dX3_usePatches_86 hl (k := 4) rfl (by rw [ev29]; rfl) (by decide) rfl (fun ls hl => ?_)
        refine lv_goto (tgt := 23) hx hb dX3_usePatches_89 (by decide) ?_
        exact hBK23 _ _ _ _ _ hf hR hS (lv_sub hl [3, 4, 0] rfl)
def f_X3_usePatches_L23 (S : Ss) (a0 : Nat) (x1 : Int32) (EK23 : Mm → Prop) (K : Mm → Prop) : Nat → Int32 → Mm → Prop
  | 0, _, _ => False
  | n + 1, x2, M => f_X3_usePatches_B23 S a0 x1 x2 M (fun (x2 : Int32) (M : Mm) => f_X3_usePatches_L23 S a0 x1 EK23 K n x2 M) EK23 K
set_option maxHeartbeats 4000000 in
set_option maxRecDepth 100000 in
theorem w_X3_usePatches_L23 {p : Program} {l : Launch} {e : Env} {s : State} {m : MethodId} {args : Array Value} {below : List Frame} {meth : Method} {c : Code} {g : Gg} {S : Ss} (a0 : Nat) (x1 : Int32) (EK23 : Mm → Prop) (K : Mm → Prop) (E : EN p s m args meth c cX3_usePatches 5 none RX3 g) (hw : ad g 100000 < s.heap.size) (hs0 : S[a0]? = some (2, 0)) (hEK23 : ∀ (M' : Mm) (H : Heap) (locs : List Loc) (ls : Array Slot), EK23 M' → RP g S M' H → va_S (gA g) s.heap H locs → lv_has ls 5 [] → W p l e (rmD 0) s m args below meth c H locs 0 0 (MQ below (QA g S (pV K)) args s 0 0 (gA g)) (F0 m 92 ls [])) : ∀ (n : Nat) (x2 : Int32) (M : Mm), f_X3_usePatches_L23 S a0 x1 EK23 K n x2 M → ∀ (H : Heap) (locs : List Loc) (ls : Array Slot), RP g S M H → va_S (gA g) s.heap H locs → lv_has ls 5 [(0, .ref (ad g a0)), (1, .int x1), (2, .int x2)] → W p l e (rmD 0) s m args below meth c H locs 0 0 (MQ below (QA g S (pV K)) args s 0 0 (gA g)) (F0 m 23 ls []) := by
  intro n
  induction n with
  | zero => intro x2 M hf; exact hf.elim
  | succ n ih =>
    intro x2 M hf H locs ls hR hS hl
    exact w_X3_usePatches_B23 _ _ _ _ _ _ _ E hw hs0 (fun _ M H locs ls h hR hS hl => ih _ M h H locs ls hR hS hl) hEK23 hf H locs ls hR hS hl
def f_X3_usePatches (S : Ss) (a0 : Nat) (x1 : Int32) (M : Mm) (K : Mm → Prop) : Prop :=
  ∃ n32 : Nat, f_X3_usePatches_L2 S a0 x1 (fun (m6 : Mm) =>
    ∃ n31 : Nat, f_X3_usePatches_L23 S a0 x1 (fun (m30 : Mm) =>
      K m30) K n31 (0 : Int32) m6) K n32 (0 : Int32) M
set_option maxHeartbeats 4000000 in
set_option maxRecDepth 100000 in
theorem ok_X3_usePatches {l : Launch} {g : Gg} {S : Ss} {a0 : Nat} {x1 : Int32} {M : Mm} {K : Mm → Prop} (hs0 : S[a0]? = some (2, 0)) (hf : f_X3_usePatches S a0 x1 M K) : MT l g S yX3_usePatches cX3_usePatches 5 none 0 [.ref (ad g a0), .int x1] M (pV K) := by
  refine MT.of (by decide +kernel) (Nat.le_of_ble_eq_true rfl) ?_
  intro p e s m below meth c ls E hw hR hS hl
  have hl : lv_has ls 5 [(0, .ref (ad g a0)), (1, .int x1)] := hl
  generalize ([.ref (ad g a0), .int x1] : List Value).toArray = args at E ⊢
  have E : EN p s m args meth c cX3_usePatches 5 none RX3 g := E
  have hx := E.1
  have hb := E.2.1
  unfold f_X3_usePatches at hf
  refine lv_iconst (v := 0) hx hb dX3_usePatches_0 (by decide) ?_
  refine lv_istore_n (lv' := [(2, .int (0 : Int32)), (0, .ref (ad g a0)), (1, .int x1)]) hx hb dX3_usePatches_1 rfl hl (by decide) rfl (fun ls hl => ?_)
  obtain ⟨n32, hf⟩ := hf
  refine w_X3_usePatches_L2 _ _ _ _ E hw hs0 ?_ n32 _ _ hf _ _ _ hR hS (lv_sub hl [1, 2, 0] rfl)
  intro m6 H locs ls hf hR hS hl
  refine lv_iconst (v := 0) hx hb dX3_usePatches_21 (by decide) ?_
  refine lv_istore_n (lv' := [(2, .int (0 : Int32)), (0, .ref (ad g a0)), (1, .int x1)]) hx hb dX3_usePatches_22 rfl hl (by decide) rfl (fun ls hl => ?_)
  obtain ⟨n31, hf⟩ := hf
  refine w_X3_usePatches_L23 _ _ _ _ E hw hs0 ?_ n31 _ _ hf _ _ _ hR hS (lv_sub hl [1, 2, 0] rfl)
  intro m30 H locs ls hf hR hS hl
  exact hw_vret E hR hS ⟨rfl, hf⟩ dX3_usePatches_92
def f_X3_joined (S : Ss) (x0 : Int32) (x1 : Int32) (x2 : Int32) (M : Mm) (K : Int32 → Mm → Prop) : Prop :=
  ((x0 = 1030 →
    (((x1 ||| x2) = 0 →
      K (0 : Int32) M) ∧
     (¬ (x1 ||| x2) = 0 →
      K (1 : Int32) M))) ∧
   (¬ x0 = 1030 →
    ((x0 = 1031 →
      ((x1 = 0 →
        K (0 : Int32) M) ∧
       (¬ x1 = 0 →
        ((x2 = 0 →
          K (0 : Int32) M) ∧
         (¬ x2 = 0 →
          K (1 : Int32) M))))) ∧
     (¬ x0 = 1031 →
      ((x0 = 1032 →
        ((x2 ≤ x1 →
          K (0 : Int32) M) ∧
         (¬ x2 ≤ x1 →
          K (1 : Int32) M))) ∧
       (¬ x0 = 1032 →
        ((x0 = 1033 →
          ((x1 ≤ x2 →
            K (0 : Int32) M) ∧
           (¬ x1 ≤ x2 →
            K (1 : Int32) M))) ∧
         (¬ x0 = 1033 →
          ((x0 = 1034 →
            ((x1 = x2 →
              K (1 : Int32) M) ∧
             (¬ x1 = x2 →
              K (0 : Int32) M))) ∧
           (¬ x0 = 1034 →
            ((x0 = 1035 →
              K (x1 + x2) M) ∧
             (¬ x0 = 1035 →
              K (x1 - x2) M))))))))))))
set_option maxHeartbeats 4000000 in
set_option maxRecDepth 100000 in
theorem ok_X3_joined {l : Launch} {g : Gg} {S : Ss} {x0 : Int32} {x1 : Int32} {x2 : Int32} {M : Mm} {K : Int32 → Mm → Prop} (hf : f_X3_joined S x0 x1 x2 M K) : MT l g S yX3_joined cX3_joined 3 (some .int) 0 [.int x0, .int x1, .int x2] M (pI K) := by
  refine MT.of (by decide +kernel) (Nat.le_of_ble_eq_true rfl) ?_
  intro p e s m below meth c ls E hw hR hS hl
  have hl : lv_has ls 3 [(0, .int x0), (1, .int x1), (2, .int x2)] := hl
  generalize ([.int x0, .int x1, .int x2] : List Value).toArray = args at E ⊢
  have E : EN p s m args meth c cX3_joined 3 (some .int) RX3 g := E
  have hx := E.1
  have hb := E.2.1
  unfold f_X3_joined at hf
  refine lv_iload_n hx hb dX3_joined_0 rfl (lv_at hl 0 rfl) ?_
  rcases Decidable.em (x0 = 1030) with w1 | w1
  · replace hf := hf.1 w1
    refine lv_tableIn (tgt := 40) hx hb dX3_joined_1 (by rw [w1]; decide) (by rw [w1]; decide) (by rw [w1]; rfl) (by decide) ?_
    refine lv_iload_n hx hb dX3_joined_40 rfl (lv_at hl 1 rfl) ?_
    refine lv_iload_n hx hb dX3_joined_41 rfl (lv_at hl 2 rfl) ?_
    refine lv_ior hx hb dX3_joined_42 ?_
    refine lv_if_eq (tgt := 50) hx hb dX3_joined_43 (by decide) (fun c2 => ?_) (fun c2 => ?_)
    · replace hf := hf.1 c2
      refine lv_iconst (v := 0) hx hb dX3_joined_50 (by decide) ?_
      exact hw_iret E hR hS ⟨_, rfl, hf⟩ dX3_joined_51
    · replace hf := hf.2 c2
      refine lv_iconst (v := 1) hx hb dX3_joined_46 (by decide) ?_
      refine lv_goto (tgt := 51) hx hb dX3_joined_47 (by decide) ?_
      exact hw_iret E hR hS ⟨_, rfl, hf⟩ dX3_joined_51
  · replace hf := hf.2 w1
    rcases Decidable.em (x0 = 1031) with w3 | w3
    · replace hf := hf.1 w3
      refine lv_tableIn (tgt := 52) hx hb dX3_joined_1 (by rw [w3]; decide) (by rw [w3]; decide) (by rw [w3]; rfl) (by decide) ?_
      refine lv_iload_n hx hb dX3_joined_52 rfl (lv_at hl 1 rfl) ?_
      refine lv_if_eq (tgt := 64) hx hb dX3_joined_53 (by decide) (fun c4 => ?_) (fun c4 => ?_)
      · replace hf := hf.1 c4
        refine lv_iconst (v := 0) hx hb dX3_joined_64 (by decide) ?_
        exact hw_iret E hR hS ⟨_, rfl, hf⟩ dX3_joined_65
      · replace hf := hf.2 c4
        refine lv_iload_n hx hb dX3_joined_56 rfl (lv_at hl 2 rfl) ?_
        refine lv_if_eq (tgt := 64) hx hb dX3_joined_57 (by decide) (fun c5 => ?_) (fun c5 => ?_)
        · replace hf := hf.1 c5
          refine lv_iconst (v := 0) hx hb dX3_joined_64 (by decide) ?_
          exact hw_iret E hR hS ⟨_, rfl, hf⟩ dX3_joined_65
        · replace hf := hf.2 c5
          refine lv_iconst (v := 1) hx hb dX3_joined_60 (by decide) ?_
          refine lv_goto (tgt := 65) hx hb dX3_joined_61 (by decide) ?_
          exact hw_iret E hR hS ⟨_, rfl, hf⟩ dX3_joined_65
    · replace hf := hf.2 w3
      rcases Decidable.em (x0 = 1032) with w6 | w6
      · replace hf := hf.1 w6
        refine lv_tableIn (tgt := 66) hx hb dX3_joined_1 (by rw [w6]; decide) (by rw [w6]; decide) (by rw [w6]; rfl) (by decide) ?_
        refine lv_iload_n hx hb dX3_joined_66 rfl (lv_at hl 1 rfl) ?_
        refine lv_iload_n hx hb dX3_joined_67 rfl (lv_at hl 2 rfl) ?_
        refine lv_icmp_ge (tgt := 75) hx hb dX3_joined_68 (by decide) (fun c7 => ?_) (fun c7 => ?_)
        · replace hf := hf.1 c7
          refine lv_iconst (v := 0) hx hb dX3_joined_75 (by decide) ?_
          exact hw_iret E hR hS ⟨_, rfl, hf⟩ dX3_joined_76
        · replace hf := hf.2 c7
          refine lv_iconst (v := 1) hx hb dX3_joined_71 (by decide) ?_
          refine lv_goto (tgt := 76) hx hb dX3_joined_72 (by decide) ?_
          exact hw_iret E hR hS ⟨_, rfl, hf⟩ dX3_joined_76
      · replace hf := hf.2 w6
        rcases Decidable.em (x0 = 1033) with w8 | w8
        · replace hf := hf.1 w8
          refine lv_tableIn (tgt := 77) hx hb dX3_joined_1 (by rw [w8]; decide) (by rw [w8]; decide) (by rw [w8]; rfl) (by decide) ?_
          refine lv_iload_n hx hb dX3_joined_77 rfl (lv_at hl 1 rfl) ?_
          refine lv_iload_n hx hb dX3_joined_78 rfl (lv_at hl 2 rfl) ?_
          refine lv_icmp_le (tgt := 86) hx hb dX3_joined_79 (by decide) (fun c9 => ?_) (fun c9 => ?_)
          · replace hf := hf.1 c9
            refine lv_iconst (v := 0) hx hb dX3_joined_86 (by decide) ?_
            exact hw_iret E hR hS ⟨_, rfl, hf⟩ dX3_joined_87
          · replace hf := hf.2 c9
            refine lv_iconst (v := 1) hx hb dX3_joined_82 (by decide) ?_
            refine lv_goto (tgt := 87) hx hb dX3_joined_83 (by decide) ?_
            exact hw_iret E hR hS ⟨_, rfl, hf⟩ dX3_joined_87
        · replace hf := hf.2 w8
          rcases Decidable.em (x0 = 1034) with w10 | w10
          · replace hf := hf.1 w10
            refine lv_tableIn (tgt := 88) hx hb dX3_joined_1 (by rw [w10]; decide) (by rw [w10]; decide) (by rw [w10]; rfl) (by decide) ?_
            refine lv_iload_n hx hb dX3_joined_88 rfl (lv_at hl 1 rfl) ?_
            refine lv_iload_n hx hb dX3_joined_89 rfl (lv_at hl 2 rfl) ?_
            refine lv_icmp_ne (tgt := 97) hx hb dX3_joined_90 (by decide) (fun c11 => ?_) (fun c11 => ?_)
            · replace hf := hf.2 c11
              refine lv_iconst (v := 0) hx hb dX3_joined_97 (by decide) ?_
              exact hw_iret E hR hS ⟨_, rfl, hf⟩ dX3_joined_98
            · replace hf := hf.1 c11
              refine lv_iconst (v := 1) hx hb dX3_joined_93 (by decide) ?_
              refine lv_goto (tgt := 98) hx hb dX3_joined_94 (by decide) ?_
              exact hw_iret E hR hS ⟨_, rfl, hf⟩ dX3_joined_98
          · replace hf := hf.2 w10
            rcases Decidable.em (x0 = 1035) with w12 | w12
            · replace hf := hf.1 w12
              refine lv_tableIn (tgt := 99) hx hb dX3_joined_1 (by rw [w12]; decide) (by rw [w12]; decide) (by rw [w12]; rfl) (by decide) ?_
              refine lv_iload_n hx hb dX3_joined_99 rfl (lv_at hl 1 rfl) ?_
              refine lv_iload_n hx hb dX3_joined_100 rfl (lv_at hl 2 rfl) ?_
              refine lv_iadd hx hb dX3_joined_101 ?_
              exact hw_iret E hR hS ⟨_, rfl, hf⟩ dX3_joined_102
            · replace hf := hf.2 w12
              refine lv_tableOut (tgt := 103) hx hb dX3_joined_1 (by have := lv_neT w1 (a := 1030) (by decide); have := lv_neT w3 (a := 1031) (by decide); have := lv_neT w6 (a := 1032) (by decide); have := lv_neT w8 (a := 1033) (by decide); have := lv_neT w10 (a := 1034) (by decide); have := lv_neT w12 (a := 1035) (by decide); omega) (by decide) ?_
              refine lv_iload_n hx hb dX3_joined_103 rfl (lv_at hl 1 rfl) ?_
              refine lv_iload_n hx hb dX3_joined_104 rfl (lv_at hl 2 rfl) ?_
              refine lv_isub hx hb dX3_joined_105 ?_
              exact hw_iret E hR hS ⟨_, rfl, hf⟩ dX3_joined_106
def f_X3_thing (S : Ss) (x0 : Int32) (a1 : Nat) (M : Mm) (K : Int32 → Mm → Prop) : Prop :=
  (((1010 : Int32) ≤ x0 →
    (((1020 : Int32) ≤ x0 →
      ((x0 = 1020 →
        K (M.1 a1 2) M) ∧
       (¬ x0 = 1020 →
        ((x0 = 1021 →
          K (M.1 a1 3) M) ∧
         (¬ x0 = 1021 →
          ((x0 = 1022 →
            K (M.1 a1 4) M) ∧
           (¬ x0 = 1022 →
            K (M.1 a1 5) M))))))) ∧
     (¬ (1020 : Int32) ≤ x0 →
      ∀ v6 : Int32, v6 = (((M.2.1 a1 1).toUInt64 >>> (((x0 - (1010 : Int32)) * (6 : Int32)).toInt64.toUInt64 &&& Int64.toUInt64 63)).toInt64.toInt32 &&& (63 : Int32)) →
      (((4 : Int32) ≤ v6 →
        K (4 : Int32) M) ∧
       (¬ (4 : Int32) ≤ v6 →
        K v6 M))))) ∧
   (¬ (1010 : Int32) ≤ x0 →
    K (((M.2.1 a1 0).toUInt64 >>> (((x0 - (1000 : Int32)) * (8 : Int32)).toInt64.toUInt64 &&& Int64.toUInt64 63)).toInt64.toInt32 &&& (255 : Int32)) M))
set_option maxHeartbeats 4000000 in
set_option maxRecDepth 100000 in
theorem ok_X3_thing {l : Launch} {g : Gg} {S : Ss} {x0 : Int32} {a1 : Nat} {M : Mm} {K : Int32 → Mm → Prop} (hs1 : S[a1]? = some (3, 0)) (hf : f_X3_thing S x0 a1 M K) : MT l g S yX3_thing cX3_thing 3 (some .int) 0 [.int x0, .ref (ad g a1)] M (pI K) := by
  refine MT.of (by decide +kernel) (Nat.le_of_ble_eq_true rfl) ?_
  intro p e s m below meth c ls E hw hR hS hl
  have hl : lv_has ls 3 [(0, .int x0), (1, .ref (ad g a1))] := hl
  generalize ([.int x0, .ref (ad g a1)] : List Value).toArray = args at E ⊢
  have E : EN p s m args meth c cX3_thing 3 (some .int) RX3 g := E
  have hx := E.1
  have hb := E.2.1
  unfold f_X3_thing at hf
  refine lv_iload_n hx hb dX3_thing_0 rfl (lv_at hl 0 rfl) ?_
  refine lv_sipush (v := 1010) hx hb dX3_thing_1 (by decide) ?_
  refine lv_icmp_ge (tgt := 26) hx hb dX3_thing_4 (by decide) (fun c1 => ?_) (fun c1 => ?_)
  · replace hf := hf.1 c1
    refine lv_iload_n hx hb dX3_thing_26 rfl (lv_at hl 0 rfl) ?_
    refine lv_sipush (v := 1020) hx hb dX3_thing_27 (by decide) ?_
    refine lv_icmp_ge (tgt := 62) hx hb dX3_thing_30 (by decide) (fun c2 => ?_) (fun c2 => ?_)
    · replace hf := hf.1 c2
      refine lv_iload_n hx hb dX3_thing_62 rfl (lv_at hl 0 rfl) ?_
      rcases Decidable.em (x0 = 1020) with w3 | w3
      · replace hf := hf.1 w3
        refine lv_tableIn (tgt := 88) hx hb dX3_thing_63 (by rw [w3]; decide) (by rw [w3]; decide) (by rw [w3]; rfl) (by decide) ?_
        refine lv_aload_n hx hb dX3_thing_88 rfl (lv_at hl 1 rfl) ?_
        refine hw_getI E hR cI3 hs1 2 (by decide) lfX3_124 rfl dX3_thing_89 ?_
        exact hw_iret E hR hS ⟨_, rfl, hf⟩ dX3_thing_92
      · replace hf := hf.2 w3
        rcases Decidable.em (x0 = 1021) with w4 | w4
        · replace hf := hf.1 w4
          refine lv_tableIn (tgt := 93) hx hb dX3_thing_63 (by rw [w4]; decide) (by rw [w4]; decide) (by rw [w4]; rfl) (by decide) ?_
          refine lv_aload_n hx hb dX3_thing_93 rfl (lv_at hl 1 rfl) ?_
          refine hw_getI E hR cI3 hs1 3 (by decide) lfX3_127 rfl dX3_thing_94 ?_
          exact hw_iret E hR hS ⟨_, rfl, hf⟩ dX3_thing_97
        · replace hf := hf.2 w4
          rcases Decidable.em (x0 = 1022) with w5 | w5
          · replace hf := hf.1 w5
            refine lv_tableIn (tgt := 98) hx hb dX3_thing_63 (by rw [w5]; decide) (by rw [w5]; decide) (by rw [w5]; rfl) (by decide) ?_
            refine lv_aload_n hx hb dX3_thing_98 rfl (lv_at hl 1 rfl) ?_
            refine hw_getI E hR cI3 hs1 4 (by decide) lfX3_97 rfl dX3_thing_99 ?_
            exact hw_iret E hR hS ⟨_, rfl, hf⟩ dX3_thing_102
          · replace hf := hf.2 w5
            refine lv_tableOut (tgt := 103) hx hb dX3_thing_63 (by have := lv_neT w3 (a := 1020) (by decide); have := lv_neT w4 (a := 1021) (by decide); have := lv_neT w5 (a := 1022) (by decide); omega) (by decide) ?_
            refine lv_aload_n hx hb dX3_thing_103 rfl (lv_at hl 1 rfl) ?_
            refine hw_getI E hR cI3 hs1 5 (by decide) lfX3_149 rfl dX3_thing_104 ?_
            exact hw_iret E hR hS ⟨_, rfl, hf⟩ dX3_thing_107
    · replace hf := hf.2 c2
      refine lv_aload_n hx hb dX3_thing_33 rfl (lv_at hl 1 rfl) ?_
      refine hw_getJ E hR cI3 hs1 1 (by decide) lfX3_76 rfl dX3_thing_34 ?_
      refine lv_iload_n hx hb dX3_thing_37 rfl (lv_at hl 0 rfl) ?_
      refine lv_sipush (v := 1010) hx hb dX3_thing_38 (by decide) ?_
      refine lv_isub hx hb dX3_thing_41 ?_
      refine lv_bipush (v := 6) hx hb dX3_thing_42 (by decide) ?_
      refine lv_imul hx hb dX3_thing_44 ?_
      refine lv_lushr hx hb dX3_thing_45 rfl ?_
      refine lv_l2i hx hb dX3_thing_46 rfl ?_
      refine lv_bipush (v := 63) hx hb dX3_thing_47 (by decide) ?_
      refine lv_iand hx hb dX3_thing_49 ?_
      refine lv_topi (fun v6 ev6 => ?_)
      replace hf := hf v6 ev6
      refine lv_istore_n (lv' := [(2, .int v6), (0, .int x0), (1, .ref (ad g a1))]) hx hb dX3_thing_50 rfl hl (by decide) rfl (fun ls hl => ?_)
      refine lv_iload_n hx hb dX3_thing_51 rfl (lv_at hl 0 rfl) ?_
      refine lv_iconst (v := 4) hx hb dX3_thing_52 (by decide) ?_
      refine lv_icmp_ge (tgt := 60) hx hb dX3_thing_53 (by decide) (fun c7 => ?_) (fun c7 => ?_)
      · replace hf := hf.1 c7
        refine lv_iconst (v := 4) hx hb dX3_thing_60 (by decide) ?_
        exact hw_iret E hR hS ⟨_, rfl, hf⟩ dX3_thing_61
      · replace hf := hf.2 c7
        refine lv_iload_n hx hb dX3_thing_56 rfl (lv_at hl 0 rfl) ?_
        refine lv_goto (tgt := 61) hx hb dX3_thing_57 (by decide) ?_
        exact hw_iret E hR hS ⟨_, rfl, hf⟩ dX3_thing_61
  · replace hf := hf.2 c1
    refine lv_aload_n hx hb dX3_thing_7 rfl (lv_at hl 1 rfl) ?_
    refine hw_getJ E hR cI3 hs1 0 (by decide) lfX3_146 rfl dX3_thing_8 ?_
    refine lv_iload_n hx hb dX3_thing_11 rfl (lv_at hl 0 rfl) ?_
    refine lv_sipush (v := 1000) hx hb dX3_thing_12 (by decide) ?_
    refine lv_isub hx hb dX3_thing_15 ?_
    refine lv_bipush (v := 8) hx hb dX3_thing_16 (by decide) ?_
    refine lv_imul hx hb dX3_thing_18 ?_
    refine lv_lushr hx hb dX3_thing_19 rfl ?_
    refine lv_l2i hx hb dX3_thing_20 rfl ?_
    refine lv_sipush (v := 255) hx hb dX3_thing_21 (by decide) ?_
    refine lv_iand hx hb dX3_thing_24 ?_
    exact hw_iret E hR hS ⟨_, rfl, hf⟩ dX3_thing_25
def f_X3_value_B35 (S : Ss) (a0 : Nat) (a1 : Nat) (a3 : Nat) (x4 : Int32) (x5 : Int32) (x6 : Int32) (M : Mm) (BK35 : Int32 → Int32 → Mm → Prop) (EK35 : Int32 → Mm → Prop) (K : Int32 → Mm → Prop) : Prop :=
  ((x5 ≤ x6 →
    EK35 x4 M) ∧
   (¬ x5 ≤ x6 →
    ∃ b10 : Nat, M.2.2 a1 4 = some b10 ∧
    ∃ n11 : Nat, shp S b10 = some (50, n11) ∧ vp_in x6 n11 ∧
    ∀ v12 : Int32, v12 = (M.1 b10 x6.toNatClampNeg) →
    (((1030 : Int32) ≤ v12 →
      ((v12 < (1037 : Int32) →
        ∀ v15 : Int32, v15 = x4 + (-1 : Int32) →
        ∃ b16 : Nat, M.2.2 a0 7 = some b16 ∧
        ∃ n17 : Nat, shp S b16 = some (50, n17) ∧ vp_in ((v15 - (1 : Int32)) &&& (63 : Int32)) n17 ∧
        ∀ v18 : Int32, v18 = (M.1 b16 ((v15 - (1 : Int32)) &&& (63 : Int32)).toNatClampNeg) →
        ∃ b19 : Nat, M.2.2 a0 7 = some b19 ∧
        ∃ b20 : Nat, M.2.2 a0 7 = some b20 ∧
        ∃ n21 : Nat, shp S b20 = some (50, n21) ∧ vp_in (v15 &&& (63 : Int32)) n21 ∧
        f_X3_joined S  v12 v18 (M.1 b20 (v15 &&& (63 : Int32)).toNatClampNeg) M (fun (r23 : Int32) (m22 : Mm) =>
          ∃ n24 : Nat, S[b19]? = some (50, n24) ∧ vp_in ((v15 - (1 : Int32)) &&& (63 : Int32)) n24 ∧
        ∀ m25 : Mm, m25 = stI m22 b19 ((v15 - (1 : Int32)) &&& (63 : Int32)).toNatClampNeg r23 →
        ∀ v26 : Int32, v26 = x6 + (1 : Int32) →
        BK35 v15 v26 m25)) ∧
       (¬ v12 < (1037 : Int32) →
        ∃ b27 : Nat, M.2.2 a0 7 = some b27 ∧
        ∃ n28 : Nat, shp S b27 = some (50, n28) ∧ vp_in ((x4 - (1 : Int32)) &&& (63 : Int32)) n28 ∧
        ∀ v29 : Int32, v29 = (M.1 b27 ((x4 - (1 : Int32)) &&& (63 : Int32)).toNatClampNeg) →
        ∃ b30 : Nat, M.2.2 a0 7 = some b30 ∧
        ((v12 = (1038 : Int32) →
          ∃ n39 : Nat, S[b30]? = some (50, n39) ∧ vp_in ((x4 - (1 : Int32)) &&& (63 : Int32)) n39 ∧
          ∀ m40 : Mm, m40 = stI M b30 ((x4 - (1 : Int32)) &&& (63 : Int32)).toNatClampNeg (-v29) →
          ∀ v41 : Int32, v41 = x6 + (1 : Int32) →
          BK35 x4 v41 m40) ∧
         (¬ v12 = (1038 : Int32) →
          ((v29 = 0 →
            ∃ n36 : Nat, S[b30]? = some (50, n36) ∧ vp_in ((x4 - (1 : Int32)) &&& (63 : Int32)) n36 ∧
            ∀ m37 : Mm, m37 = stI M b30 ((x4 - (1 : Int32)) &&& (63 : Int32)).toNatClampNeg (1 : Int32) →
            ∀ v38 : Int32, v38 = x6 + (1 : Int32) →
            BK35 x4 v38 m37) ∧
           (¬ v29 = 0 →
            ∃ n33 : Nat, S[b30]? = some (50, n33) ∧ vp_in ((x4 - (1 : Int32)) &&& (63 : Int32)) n33 ∧
            ∀ m34 : Mm, m34 = stI M b30 ((x4 - (1 : Int32)) &&& (63 : Int32)).toNatClampNeg (0 : Int32) →
            ∀ v35 : Int32, v35 = x6 + (1 : Int32) →
            BK35 x4 v35 m34))))))) ∧
     (¬ (1030 : Int32) ≤ v12 →
      ∃ b42 : Nat, M.2.2 a0 7 = some b42 ∧
      (((1000 : Int32) ≤ v12 →
        f_X3_thing S  v12 a3 M (fun (r45 : Int32) (m44 : Mm) =>
          ∃ n46 : Nat, S[b42]? = some (50, n46) ∧ vp_in (x4 &&& (63 : Int32)) n46 ∧
        ∀ m47 : Mm, m47 = stI m44 b42 (x4 &&& (63 : Int32)).toNatClampNeg r45 →
        ∀ v48 : Int32, v48 = x4 + (1 : Int32) →
        ∀ v49 : Int32, v49 = x6 + (1 : Int32) →
        BK35 v48 v49 m47)) ∧
       (¬ (1000 : Int32) ≤ v12 →
        ∃ n50 : Nat, S[b42]? = some (50, n50) ∧ vp_in (x4 &&& (63 : Int32)) n50 ∧
        ∀ m51 : Mm, m51 = stI M b42 (x4 &&& (63 : Int32)).toNatClampNeg v12 →
        ∀ v52 : Int32, v52 = x4 + (1 : Int32) →
        ∀ v53 : Int32, v53 = x6 + (1 : Int32) →
        BK35 v52 v53 m51))))))
set_option maxHeartbeats 4000000 in
set_option maxRecDepth 100000 in
theorem w_X3_value_B35 {p : Program} {l : Launch} {e : Env} {s : State} {m : MethodId} {args : Array Value} {below : List Frame} {meth : Method} {c : Code} {g : Gg} {S : Ss} (a0 : Nat) (a1 : Nat) (a3 : Nat) (x4 : Int32) (x5 : Int32) (x6 : Int32) (M : Mm) (BK35 : Int32 → Int32 → Mm → Prop) (EK35 : Int32 → Mm → Prop) (K : Int32 → Mm → Prop) (E : EN p s m args meth c cX3_value 9 (some .int) RX3 g) (hw : ad g 100000 < s.heap.size) (hs0 : S[a0]? = some (2, 0)) (hs1 : S[a1]? = some (4, 0)) (hs3 : S[a3]? = some (3, 0)) (hBK35 : ∀ (x4' : Int32) (x6' : Int32) (M' : Mm) (H : Heap) (locs : List Loc) (ls : Array Slot), BK35 x4' x6' M' → RP g S M' H → va_S (gA g) s.heap H locs → lv_has ls 9 [(0, .ref (ad g a0)), (1, .ref (ad g a1)), (3, .ref (ad g a3)), (4, .int x4'), (5, .int x5), (6, .int x6')] → W p l e (rmD 1) s m args below meth c H locs 0 0 (MQ below (QA g S (pI K)) args s 0 0 (gA g)) (F0 m 35 ls [])) (hEK35 : ∀ (x4' : Int32) (M' : Mm) (H : Heap) (locs : List Loc) (ls : Array Slot), EK35 x4' M' → RP g S M' H → va_S (gA g) s.heap H locs → lv_has ls 9 [(0, .ref (ad g a0)), (4, .int x4')] → W p l e (rmD 1) s m args below meth c H locs 0 0 (MQ below (QA g S (pI K)) args s 0 0 (gA g)) (F0 m 207 ls [])) (hf : f_X3_value_B35 S a0 a1 a3 x4 x5 x6 M BK35 EK35 K) (H : Heap) (locs : List Loc) (ls : Array Slot) (hR : RP g S M H) (hS : va_S (gA g) s.heap H locs) (hl : lv_has ls 9 [(0, .ref (ad g a0)), (1, .ref (ad g a1)), (3, .ref (ad g a3)), (4, .int x4), (5, .int x5), (6, .int x6)]) : W p l e (rmD 1) s m args below meth c H locs 0 0 (MQ below (QA g S (pI K)) args s 0 0 (gA g)) (F0 m 35 ls []) := by
  have hx := E.1
  have hb := E.2.1
  unfold f_X3_value_B35 at hf
  refine lv_iload hx hb dX3_value_35 (lv_at hl 5 rfl) ?_
  refine lv_iload hx hb dX3_value_37 (lv_at hl 4 rfl) ?_
  refine lv_icmp_ge (tgt := 207) hx hb dX3_value_39 (by decide) (fun c9 => ?_) (fun c9 => ?_)
  · replace hf := hf.1 c9
    exact hEK35 _ _ _ _ _ hf hR hS (lv_sub hl [0, 3] rfl)
  · replace hf := hf.2 c9
    refine lv_aload_n hx hb dX3_value_42 rfl (lv_at hl 1 rfl) ?_
    obtain ⟨b10, hb10, hf⟩ := hf
    refine hw_getR E hR cI4 hs1 4 (by decide) lfX3_133 rfl hb10 dX3_value_43 ?_
    refine lv_iload hx hb dX3_value_46 (lv_at hl 5 rfl) ?_
    obtain ⟨n11, hn11, in11, hf⟩ := hf
    refine hw_iald E hR hS hn11 in11 dX3_value_48 ?_
    refine lv_topi (fun v12 ev12 => ?_)
    replace hf := hf v12 ev12
    refine lv_istore (lv' := [(7, .int v12), (0, .ref (ad g a0)), (1, .ref (ad g a1)), (3, .ref (ad g a3)), (4, .int x4), (5, .int x5), (6, .int x6)]) hx hb dX3_value_49 hl (by decide) rfl (fun ls hl => ?_)
    refine lv_iload hx hb dX3_value_51 (lv_at hl 0 rfl) ?_
    refine lv_sipush (v := 1030) hx hb dX3_value_53 (by decide) ?_
    refine lv_icmp_ge (tgt := 94) hx hb dX3_value_56 (by decide) (fun c13 => ?_) (fun c13 => ?_)
    · replace hf := hf.1 c13
      refine lv_iload hx hb dX3_value_94 (lv_at hl 0 rfl) ?_
      refine lv_sipush (v := 1037) hx hb dX3_value_96 (by decide) ?_
      refine lv_icmp_lt (tgt := 155) hx hb dX3_value_99 (by decide) (fun c14 => ?_) (fun c14 => ?_)
      · replace hf := hf.1 c14
        obtain ⟨v15, ev15⟩ : ∃ y : Int32, y = x4 + (-1 : Int32) := ⟨_, rfl⟩
        replace hf := hf v15 ev15
        refine lv_iinc (v := v15) (lv' := [(4, .int v15), (7, .int v12), (0, .ref (ad g a0)), (1, .ref (ad g a1)), (3, .ref (ad g a3)), (5, .int x5), (6, .int x6)]) hx hb dX3_value_155 hl (k := 4) rfl (by rw [ev15]; rfl) (by decide) rfl (fun ls hl => ?_)
        refine lv_aload_n hx hb dX3_value_158 rfl (lv_at hl 2 rfl) ?_
        obtain ⟨b16, hb16, hf⟩ := hf
        refine hw_getR E hR cI2 hs0 7 (by decide) lfX3_36 rfl hb16 dX3_value_159 ?_
        refine lv_iload hx hb dX3_value_162 (lv_at hl 0 rfl) ?_
        refine lv_iconst (v := 1) hx hb dX3_value_164 (by decide) ?_
        refine lv_isub hx hb dX3_value_165 ?_
        refine lv_bipush (v := 63) hx hb dX3_value_166 (by decide) ?_
        refine lv_iand hx hb dX3_value_168 ?_
        obtain ⟨n17, hn17, in17, hf⟩ := hf
        refine hw_iald E hR hS hn17 in17 dX3_value_169 ?_
        refine lv_topi (fun v18 ev18 => ?_)
        replace hf := hf v18 ev18
        refine lv_istore (lv' := [(8, .int v18), (4, .int v15), (7, .int v12), (0, .ref (ad g a0)), (1, .ref (ad g a1)), (3, .ref (ad g a3)), (5, .int x5), (6, .int x6)]) hx hb dX3_value_170 hl (by decide) rfl (fun ls hl => ?_)
        refine lv_aload_n hx hb dX3_value_172 rfl (lv_at hl 3 rfl) ?_
        obtain ⟨b19, hb19, hf⟩ := hf
        refine hw_getR E hR cI2 hs0 7 (by decide) lfX3_36 rfl hb19 dX3_value_173 ?_
        refine lv_iload hx hb dX3_value_176 (lv_at hl 1 rfl) ?_
        refine lv_iconst (v := 1) hx hb dX3_value_178 (by decide) ?_
        refine lv_isub hx hb dX3_value_179 ?_
        refine lv_bipush (v := 63) hx hb dX3_value_180 (by decide) ?_
        refine lv_iand hx hb dX3_value_182 ?_
        refine lv_iload hx hb dX3_value_183 (lv_at hl 2 rfl) ?_
        refine lv_iload hx hb dX3_value_185 (lv_at hl 0 rfl) ?_
        refine lv_aload_n hx hb dX3_value_187 rfl (lv_at hl 3 rfl) ?_
        obtain ⟨b20, hb20, hf⟩ := hf
        refine hw_getR E hR cI2 hs0 7 (by decide) lfX3_36 rfl hb20 dX3_value_188 ?_
        refine lv_iload hx hb dX3_value_191 (lv_at hl 1 rfl) ?_
        refine lv_bipush (v := 63) hx hb dX3_value_193 (by decide) ?_
        refine lv_iand hx hb dX3_value_195 ?_
        obtain ⟨n21, hn21, in21, hf⟩ := hf
        refine hw_iald E hR hS hn21 in21 dX3_value_196 ?_
        refine hw_callS (d := 1) E hR hS (As := [.int v12, .int v18, .int (M.1 b20 (v15 &&& (63 : Int32)).toNatClampNeg)]) (rest := [.int ((v15 - (1 : Int32)) &&& (63 : Int32)), .ref (ad g b19)]) mcX3_joined msX3_joined lmX3_142 (ok_X3_joined  hf) rfl rfl (by decide) hl.1 (Nat.le_of_ble_eq_true rfl) dX3_value_197 (fun rr m22 H locs hp hR hS => ?_)
        obtain ⟨r23, rfl, hf⟩ := hp
        refine W.eq (g2 := F0 m 200 ls [.int r23, .int ((v15 - (1 : Int32)) &&& (63 : Int32)), .ref (ad g b19)]) rfl ?_
        obtain ⟨n24, hn24, in24, hf⟩ := hf
        refine hw_iast E hR hS hw hn24 in24 dX3_value_200 (fun m25 H locs em25 hR hS => ?_)
        replace hf := hf m25 em25
        obtain ⟨v26, ev26⟩ : ∃ y : Int32, y = x6 + (1 : Int32) := ⟨_, rfl⟩
        replace hf := hf v26 ev26
        refine lv_iinc (v := v26) (lv' := [(6, .int v26), (8, .int v18), (4, .int v15), (7, .int v12), (0, .ref (ad g a0)), (1, .ref (ad g a1)), (3, .ref (ad g a3)), (5, .int x5)]) hx hb dX3_value_201 hl (k := 7) rfl (by rw [ev26]; rfl) (by decide) rfl (fun ls hl => ?_)
        refine lv_goto (tgt := 35) hx hb dX3_value_204 (by decide) ?_
        exact hBK35 _ _ _ _ _ _ hf hR hS (lv_sub hl [4, 5, 6, 2, 7, 0] rfl)
      · replace hf := hf.2 c14
        refine lv_aload_n hx hb dX3_value_102 rfl (lv_at hl 1 rfl) ?_
        obtain ⟨b27, hb27, hf⟩ := hf
        refine hw_getR E hR cI2 hs0 7 (by decide) lfX3_36 rfl hb27 dX3_value_103 ?_
        refine lv_iload hx hb dX3_value_106 (lv_at hl 4 rfl) ?_
        refine lv_iconst (v := 1) hx hb dX3_value_108 (by decide) ?_
        refine lv_isub hx hb dX3_value_109 ?_
        refine lv_bipush (v := 63) hx hb dX3_value_110 (by decide) ?_
        refine lv_iand hx hb dX3_value_112 ?_
        obtain ⟨n28, hn28, in28, hf⟩ := hf
        refine hw_iald E hR hS hn28 in28 dX3_value_113 ?_
        refine lv_topi (fun v29 ev29 => ?_)
        replace hf := hf v29 ev29
        refine lv_istore (lv' := [(8, .int v29), (7, .int v12), (0, .ref (ad g a0)), (1, .ref (ad g a1)), (3, .ref (ad g a3)), (4, .int x4), (5, .int x5), (6, .int x6)]) hx hb dX3_value_114 hl (by decide) rfl (fun ls hl => ?_)
        refine lv_aload_n hx hb dX3_value_116 rfl (lv_at hl 2 rfl) ?_
        obtain ⟨b30, hb30, hf⟩ := hf
        refine hw_getR E hR cI2 hs0 7 (by decide) lfX3_36 rfl hb30 dX3_value_117 ?_
        refine lv_iload hx hb dX3_value_120 (lv_at hl 5 rfl) ?_
        refine lv_iconst (v := 1) hx hb dX3_value_122 (by decide) ?_
        refine lv_isub hx hb dX3_value_123 ?_
        refine lv_bipush (v := 63) hx hb dX3_value_124 (by decide) ?_
        refine lv_iand hx hb dX3_value_126 ?_
        refine lv_iload hx hb dX3_value_127 (lv_at hl 1 rfl) ?_
        refine lv_sipush (v := 1038) hx hb dX3_value_129 (by decide) ?_
        refine lv_icmp_ne (tgt := 141) hx hb dX3_value_132 (by decide) (fun c31 => ?_) (fun c31 => ?_)
        · replace hf := hf.2 c31
          refine lv_iload hx hb dX3_value_141 (lv_at hl 0 rfl) ?_
          refine lv_if_ne (tgt := 150) hx hb dX3_value_143 (by decide) (fun c32 => ?_) (fun c32 => ?_)
          · replace hf := hf.2 c32
            refine lv_iconst (v := 0) hx hb dX3_value_150 (by decide) ?_
            obtain ⟨n33, hn33, in33, hf⟩ := hf
            refine hw_iast E hR hS hw hn33 in33 dX3_value_151 (fun m34 H locs em34 hR hS => ?_)
            replace hf := hf m34 em34
            refine lv_goto (tgt := 201) hx hb dX3_value_152 (by decide) ?_
            obtain ⟨v35, ev35⟩ : ∃ y : Int32, y = x6 + (1 : Int32) := ⟨_, rfl⟩
            replace hf := hf v35 ev35
            refine lv_iinc (v := v35) (lv' := [(6, .int v35), (8, .int v29), (7, .int v12), (0, .ref (ad g a0)), (1, .ref (ad g a1)), (3, .ref (ad g a3)), (4, .int x4), (5, .int x5)]) hx hb dX3_value_201 hl (k := 7) rfl (by rw [ev35]; rfl) (by decide) rfl (fun ls hl => ?_)
            refine lv_goto (tgt := 35) hx hb dX3_value_204 (by decide) ?_
            exact hBK35 _ _ _ _ _ _ hf hR hS (lv_sub hl [3, 4, 5, 6, 7, 0] rfl)
          · replace hf := hf.1 c32
            refine lv_iconst (v := 1) hx hb dX3_value_146 (by decide) ?_
            refine lv_goto (tgt := 151) hx hb dX3_value_147 (by decide) ?_
            obtain ⟨n36, hn36, in36, hf⟩ := hf
            refine hw_iast E hR hS hw hn36 in36 dX3_value_151 (fun m37 H locs em37 hR hS => ?_)
            replace hf := hf m37 em37
            refine lv_goto (tgt := 201) hx hb dX3_value_152 (by decide) ?_
            obtain ⟨v38, ev38⟩ : ∃ y : Int32, y = x6 + (1 : Int32) := ⟨_, rfl⟩
            replace hf := hf v38 ev38
            refine lv_iinc (v := v38) (lv' := [(6, .int v38), (8, .int v29), (7, .int v12), (0, .ref (ad g a0)), (1, .ref (ad g a1)), (3, .ref (ad g a3)), (4, .int x4), (5, .int x5)]) hx hb dX3_value_201 hl (k := 7) rfl (by rw [ev38]; rfl) (by decide) rfl (fun ls hl => ?_)
            refine lv_goto (tgt := 35) hx hb dX3_value_204 (by decide) ?_
            exact hBK35 _ _ _ _ _ _ hf hR hS (lv_sub hl [3, 4, 5, 6, 7, 0] rfl)
        · replace hf := hf.1 c31
          refine lv_iload hx hb dX3_value_135 (lv_at hl 0 rfl) ?_
          refine lv_ineg hx hb dX3_value_137 ?_
          refine lv_goto (tgt := 151) hx hb dX3_value_138 (by decide) ?_
          obtain ⟨n39, hn39, in39, hf⟩ := hf
          refine hw_iast E hR hS hw hn39 in39 dX3_value_151 (fun m40 H locs em40 hR hS => ?_)
          replace hf := hf m40 em40
          refine lv_goto (tgt := 201) hx hb dX3_value_152 (by decide) ?_
          obtain ⟨v41, ev41⟩ : ∃ y : Int32, y = x6 + (1 : Int32) := ⟨_, rfl⟩
          replace hf := hf v41 ev41
          refine lv_iinc (v := v41) (lv' := [(6, .int v41), (8, .int v29), (7, .int v12), (0, .ref (ad g a0)), (1, .ref (ad g a1)), (3, .ref (ad g a3)), (4, .int x4), (5, .int x5)]) hx hb dX3_value_201 hl (k := 7) rfl (by rw [ev41]; rfl) (by decide) rfl (fun ls hl => ?_)
          refine lv_goto (tgt := 35) hx hb dX3_value_204 (by decide) ?_
          exact hBK35 _ _ _ _ _ _ hf hR hS (lv_sub hl [3, 4, 5, 6, 7, 0] rfl)
    · replace hf := hf.2 c13
      refine lv_aload_n hx hb dX3_value_59 rfl (lv_at hl 1 rfl) ?_
      obtain ⟨b42, hb42, hf⟩ := hf
      refine hw_getR E hR cI2 hs0 7 (by decide) lfX3_36 rfl hb42 dX3_value_60 ?_
      refine lv_iload hx hb dX3_value_63 (lv_at hl 4 rfl) ?_
      refine lv_bipush (v := 63) hx hb dX3_value_65 (by decide) ?_
      refine lv_iand hx hb dX3_value_67 ?_
      refine lv_iload hx hb dX3_value_68 (lv_at hl 0 rfl) ?_
      refine lv_sipush (v := 1000) hx hb dX3_value_70 (by decide) ?_
      refine lv_icmp_ge (tgt := 81) hx hb dX3_value_73 (by decide) (fun c43 => ?_) (fun c43 => ?_)
      · replace hf := hf.1 c43
        refine lv_iload hx hb dX3_value_81 (lv_at hl 0 rfl) ?_
        refine lv_aload_n hx hb dX3_value_83 rfl (lv_at hl 3 rfl) ?_
        refine hw_callS (d := 1) E hR hS (As := [.int v12, .ref (ad g a3)]) (rest := [.int (x4 &&& (63 : Int32)), .ref (ad g b42)]) mcX3_thing msX3_thing lmX3_138 (ok_X3_thing hs3 hf) rfl rfl (by decide) hl.1 (Nat.le_of_ble_eq_true rfl) dX3_value_84 (fun rr m44 H locs hp hR hS => ?_)
        obtain ⟨r45, rfl, hf⟩ := hp
        refine W.eq (g2 := F0 m 87 ls [.int r45, .int (x4 &&& (63 : Int32)), .ref (ad g b42)]) rfl ?_
        obtain ⟨n46, hn46, in46, hf⟩ := hf
        refine hw_iast E hR hS hw hn46 in46 dX3_value_87 (fun m47 H locs em47 hR hS => ?_)
        replace hf := hf m47 em47
        obtain ⟨v48, ev48⟩ : ∃ y : Int32, y = x4 + (1 : Int32) := ⟨_, rfl⟩
        replace hf := hf v48 ev48
        refine lv_iinc (v := v48) (lv' := [(4, .int v48), (7, .int v12), (0, .ref (ad g a0)), (1, .ref (ad g a1)), (3, .ref (ad g a3)), (5, .int x5), (6, .int x6)]) hx hb dX3_value_88 hl (k := 4) rfl (by rw [ev48]; rfl) (by decide) rfl (fun ls hl => ?_)
        refine lv_goto (tgt := 201) hx hb dX3_value_91 (by decide) ?_
        obtain ⟨v49, ev49⟩ : ∃ y : Int32, y = x6 + (1 : Int32) := ⟨_, rfl⟩
        replace hf := hf v49 ev49
        refine lv_iinc (v := v49) (lv' := [(6, .int v49), (4, .int v48), (7, .int v12), (0, .ref (ad g a0)), (1, .ref (ad g a1)), (3, .ref (ad g a3)), (5, .int x5)]) hx hb dX3_value_201 hl (k := 6) rfl (by rw [ev49]; rfl) (by decide) rfl (fun ls hl => ?_)
        refine lv_goto (tgt := 35) hx hb dX3_value_204 (by decide) ?_
        exact hBK35 _ _ _ _ _ _ hf hR hS (lv_sub hl [3, 4, 5, 1, 6, 0] rfl)
      · replace hf := hf.2 c43
        refine lv_iload hx hb dX3_value_76 (lv_at hl 0 rfl) ?_
        refine lv_goto (tgt := 87) hx hb dX3_value_78 (by decide) ?_
        obtain ⟨n50, hn50, in50, hf⟩ := hf
        refine hw_iast E hR hS hw hn50 in50 dX3_value_87 (fun m51 H locs em51 hR hS => ?_)
        replace hf := hf m51 em51
        obtain ⟨v52, ev52⟩ : ∃ y : Int32, y = x4 + (1 : Int32) := ⟨_, rfl⟩
        replace hf := hf v52 ev52
        refine lv_iinc (v := v52) (lv' := [(4, .int v52), (7, .int v12), (0, .ref (ad g a0)), (1, .ref (ad g a1)), (3, .ref (ad g a3)), (5, .int x5), (6, .int x6)]) hx hb dX3_value_88 hl (k := 4) rfl (by rw [ev52]; rfl) (by decide) rfl (fun ls hl => ?_)
        refine lv_goto (tgt := 201) hx hb dX3_value_91 (by decide) ?_
        obtain ⟨v53, ev53⟩ : ∃ y : Int32, y = x6 + (1 : Int32) := ⟨_, rfl⟩
        replace hf := hf v53 ev53
        refine lv_iinc (v := v53) (lv' := [(6, .int v53), (4, .int v52), (7, .int v12), (0, .ref (ad g a0)), (1, .ref (ad g a1)), (3, .ref (ad g a3)), (5, .int x5)]) hx hb dX3_value_201 hl (k := 6) rfl (by rw [ev53]; rfl) (by decide) rfl (fun ls hl => ?_)
        refine lv_goto (tgt := 35) hx hb dX3_value_204 (by decide) ?_
        exact hBK35 _ _ _ _ _ _ hf hR hS (lv_sub hl [3, 4, 5, 1, 6, 0] rfl)
def f_X3_value_L35 (S : Ss) (a0 : Nat) (a1 : Nat) (a3 : Nat) (x5 : Int32) (EK35 : Int32 → Mm → Prop) (K : Int32 → Mm → Prop) : Nat → Int32 → Int32 → Mm → Prop
  | 0, _, _, _ => False
  | n + 1, x4, x6, M => f_X3_value_B35 S a0 a1 a3 x4 x5 x6 M (fun (x4 : Int32) (x6 : Int32) (M : Mm) => f_X3_value_L35 S a0 a1 a3 x5 EK35 K n x4 x6 M) EK35 K
set_option maxHeartbeats 4000000 in
set_option maxRecDepth 100000 in
theorem w_X3_value_L35 {p : Program} {l : Launch} {e : Env} {s : State} {m : MethodId} {args : Array Value} {below : List Frame} {meth : Method} {c : Code} {g : Gg} {S : Ss} (a0 : Nat) (a1 : Nat) (a3 : Nat) (x5 : Int32) (EK35 : Int32 → Mm → Prop) (K : Int32 → Mm → Prop) (E : EN p s m args meth c cX3_value 9 (some .int) RX3 g) (hw : ad g 100000 < s.heap.size) (hs0 : S[a0]? = some (2, 0)) (hs1 : S[a1]? = some (4, 0)) (hs3 : S[a3]? = some (3, 0)) (hEK35 : ∀ (x4' : Int32) (M' : Mm) (H : Heap) (locs : List Loc) (ls : Array Slot), EK35 x4' M' → RP g S M' H → va_S (gA g) s.heap H locs → lv_has ls 9 [(0, .ref (ad g a0)), (4, .int x4')] → W p l e (rmD 1) s m args below meth c H locs 0 0 (MQ below (QA g S (pI K)) args s 0 0 (gA g)) (F0 m 207 ls [])) : ∀ (n : Nat) (x4 : Int32) (x6 : Int32) (M : Mm), f_X3_value_L35 S a0 a1 a3 x5 EK35 K n x4 x6 M → ∀ (H : Heap) (locs : List Loc) (ls : Array Slot), RP g S M H → va_S (gA g) s.heap H locs → lv_has ls 9 [(0, .ref (ad g a0)), (1, .ref (ad g a1)), (3, .ref (ad g a3)), (4, .int x4), (5, .int x5), (6, .int x6)] → W p l e (rmD 1) s m args below meth c H locs 0 0 (MQ below (QA g S (pI K)) args s 0 0 (gA g)) (F0 m 35 ls []) := by
  intro n
  induction n with
  | zero => intro x4 x6 M hf; exact hf.elim
  | succ n ih =>
    intro x4 x6 M hf H locs ls hR hS hl
    exact w_X3_value_B35 _ _ _ _ _ _ _ _ _ _ E hw hs0 hs1 hs3 (fun _ _ M H locs ls h hR hS hl => ih _ _ M h H locs ls hR hS hl) hEK35 hf H locs ls hR hS hl
def f_X3_value (S : Ss) (a0 : Nat) (a1 : Nat) (x2 : Int32) (a3 : Nat) (M : Mm) (K : Int32 → Mm → Prop) : Prop :=
  ((x2 < 0 →
    K (0 : Int32) M) ∧
   (¬ x2 < 0 →
    ((x2 < (M.1 a1 6) →
      ∃ b3 : Nat, M.2.2 a1 3 = some b3 ∧
      ∃ n4 : Nat, shp S b3 = some (50, n4) ∧ vp_in (x2 + (1 : Int32)) n4 ∧
      ∀ v5 : Int32, v5 = (M.1 b3 (x2 + (1 : Int32)).toNatClampNeg) →
      ∃ b6 : Nat, M.2.2 a1 3 = some b6 ∧
      ∃ n7 : Nat, shp S b6 = some (50, n7) ∧ vp_in x2 n7 ∧
      ∀ v8 : Int32, v8 = (M.1 b6 x2.toNatClampNeg) →
      ∃ n59 : Nat, f_X3_value_L35 S a0 a1 a3 v5 (fun (v54 : Int32) (m55 : Mm) =>
        ((v54 = (1 : Int32) →
          ∃ b57 : Nat, m55.2.2 a0 7 = some b57 ∧
          ∃ n58 : Nat, shp S b57 = some (50, n58) ∧ vp_in (0 : Int32) n58 ∧
          K (m55.1 b57 (0 : Int32).toNatClampNeg) m55) ∧
         (¬ v54 = (1 : Int32) →
          K (0 : Int32) m55))) K n59 (0 : Int32) v8 M) ∧
     (¬ x2 < (M.1 a1 6) →
      K (0 : Int32) M))))
set_option maxHeartbeats 4000000 in
set_option maxRecDepth 100000 in
theorem ok_X3_value {l : Launch} {g : Gg} {S : Ss} {a0 : Nat} {a1 : Nat} {x2 : Int32} {a3 : Nat} {M : Mm} {K : Int32 → Mm → Prop} (hs0 : S[a0]? = some (2, 0)) (hs1 : S[a1]? = some (4, 0)) (hs3 : S[a3]? = some (3, 0)) (hf : f_X3_value S a0 a1 x2 a3 M K) : MT l g S yX3_value cX3_value 9 (some .int) 1 [.ref (ad g a0), .ref (ad g a1), .int x2, .ref (ad g a3)] M (pI K) := by
  refine MT.of (by decide +kernel) (Nat.le_of_ble_eq_true rfl) ?_
  intro p e s m below meth c ls E hw hR hS hl
  have hl : lv_has ls 9 [(0, .ref (ad g a0)), (1, .ref (ad g a1)), (2, .int x2), (3, .ref (ad g a3))] := hl
  generalize ([.ref (ad g a0), .ref (ad g a1), .int x2, .ref (ad g a3)] : List Value).toArray = args at E ⊢
  have E : EN p s m args meth c cX3_value 9 (some .int) RX3 g := E
  have hx := E.1
  have hb := E.2.1
  unfold f_X3_value at hf
  refine lv_iload_n hx hb dX3_value_0 rfl (lv_at hl 2 rfl) ?_
  refine lv_if_lt (tgt := 12) hx hb dX3_value_1 (by decide) (fun c1 => ?_) (fun c1 => ?_)
  · replace hf := hf.1 c1
    refine lv_iconst (v := 0) hx hb dX3_value_12 (by decide) ?_
    exact hw_iret E hR hS ⟨_, rfl, hf⟩ dX3_value_13
  · replace hf := hf.2 c1
    refine lv_iload_n hx hb dX3_value_4 rfl (lv_at hl 2 rfl) ?_
    refine lv_aload_n hx hb dX3_value_5 rfl (lv_at hl 1 rfl) ?_
    refine hw_getI E hR cI4 hs1 6 (by decide) lfX3_63 rfl dX3_value_6 ?_
    refine lv_icmp_lt (tgt := 14) hx hb dX3_value_9 (by decide) (fun c2 => ?_) (fun c2 => ?_)
    · replace hf := hf.1 c2
      refine lv_iconst (v := 0) hx hb dX3_value_14 (by decide) ?_
      refine lv_istore (lv' := [(4, .int (0 : Int32)), (0, .ref (ad g a0)), (1, .ref (ad g a1)), (2, .int x2), (3, .ref (ad g a3))]) hx hb dX3_value_15 hl (by decide) rfl (fun ls hl => ?_)
      refine lv_aload_n hx hb dX3_value_17 rfl (lv_at hl 2 rfl) ?_
      obtain ⟨b3, hb3, hf⟩ := hf
      refine hw_getR E hR cI4 hs1 3 (by decide) lfX3_130 rfl hb3 dX3_value_18 ?_
      refine lv_iload_n hx hb dX3_value_21 rfl (lv_at hl 3 rfl) ?_
      refine lv_iconst (v := 1) hx hb dX3_value_22 (by decide) ?_
      refine lv_iadd hx hb dX3_value_23 ?_
      obtain ⟨n4, hn4, in4, hf⟩ := hf
      refine hw_iald E hR hS hn4 in4 dX3_value_24 ?_
      refine lv_topi (fun v5 ev5 => ?_)
      replace hf := hf v5 ev5
      refine lv_istore (lv' := [(5, .int v5), (4, .int (0 : Int32)), (0, .ref (ad g a0)), (1, .ref (ad g a1)), (2, .int x2), (3, .ref (ad g a3))]) hx hb dX3_value_25 hl (by decide) rfl (fun ls hl => ?_)
      refine lv_aload_n hx hb dX3_value_27 rfl (lv_at hl 3 rfl) ?_
      obtain ⟨b6, hb6, hf⟩ := hf
      refine hw_getR E hR cI4 hs1 3 (by decide) lfX3_130 rfl hb6 dX3_value_28 ?_
      refine lv_iload_n hx hb dX3_value_31 rfl (lv_at hl 4 rfl) ?_
      obtain ⟨n7, hn7, in7, hf⟩ := hf
      refine hw_iald E hR hS hn7 in7 dX3_value_32 ?_
      refine lv_topi (fun v8 ev8 => ?_)
      replace hf := hf v8 ev8
      refine lv_istore (lv' := [(6, .int v8), (5, .int v5), (4, .int (0 : Int32)), (0, .ref (ad g a0)), (1, .ref (ad g a1)), (2, .int x2), (3, .ref (ad g a3))]) hx hb dX3_value_33 hl (by decide) rfl (fun ls hl => ?_)
      obtain ⟨n59, hf⟩ := hf
      refine w_X3_value_L35 _ _ _ _ _ _ E hw hs0 hs1 hs3 ?_ n59 _ _ _ hf _ _ _ hR hS (lv_sub hl [3, 4, 6, 2, 1, 0] rfl)
      intro v54 m55 H locs ls hf hR hS hl
      refine lv_iload hx hb dX3_value_207 (lv_at hl 1 rfl) ?_
      refine lv_iconst (v := 1) hx hb dX3_value_209 (by decide) ?_
      refine lv_icmp_ne (tgt := 222) hx hb dX3_value_210 (by decide) (fun c56 => ?_) (fun c56 => ?_)
      · replace hf := hf.2 c56
        refine lv_iconst (v := 0) hx hb dX3_value_222 (by decide) ?_
        exact hw_iret E hR hS ⟨_, rfl, hf⟩ dX3_value_223
      · replace hf := hf.1 c56
        refine lv_aload_n hx hb dX3_value_213 rfl (lv_at hl 0 rfl) ?_
        obtain ⟨b57, hb57, hf⟩ := hf
        refine hw_getR E hR cI2 hs0 7 (by decide) lfX3_36 rfl hb57 dX3_value_214 ?_
        refine lv_iconst (v := 0) hx hb dX3_value_217 (by decide) ?_
        obtain ⟨n58, hn58, in58, hf⟩ := hf
        refine hw_iald E hR hS hn58 in58 dX3_value_218 ?_
        refine lv_goto (tgt := 223) hx hb dX3_value_219 (by decide) ?_
        exact hw_iret E hR hS ⟨_, rfl, hf⟩ dX3_value_223
    · replace hf := hf.2 c2
      refine lv_iconst (v := 0) hx hb dX3_value_12 (by decide) ?_
      exact hw_iret E hR hS ⟨_, rfl, hf⟩ dX3_value_13
def f_X3_breaks (S : Ss) (a0 : Nat) (a1 : Nat) (M : Mm) (K : Int32 → Mm → Prop) : Prop :=
  ∃ b1 : Nat, M.2.2 a0 8 = some b1 ∧
  S[b1]? = some (4, 0) ∧
  (((M.1 b1 6) ≤ 0 →
    K (0 : Int32) M) ∧
   (¬ (M.1 b1 6) ≤ 0 →
    ∃ b4 : Nat, M.2.2 a0 8 = some b4 ∧
    S[b4]? = some (4, 0) ∧
    f_X3_value S a0 b4 (0 : Int32) a1 M (fun (r7 : Int32) (m5 : Mm) =>
      ((r7 = 0 →
      K (1 : Int32) m5) ∧
     (¬ r7 = 0 →
      K (0 : Int32) m5)))))
set_option maxHeartbeats 4000000 in
set_option maxRecDepth 100000 in
theorem ok_X3_breaks {l : Launch} {g : Gg} {S : Ss} {a0 : Nat} {a1 : Nat} {M : Mm} {K : Int32 → Mm → Prop} (hs0 : S[a0]? = some (2, 0)) (hs1 : S[a1]? = some (3, 0)) (hf : f_X3_breaks S a0 a1 M K) : MT l g S yX3_breaks cX3_breaks 2 (some .boolean) 2 [.ref (ad g a0), .ref (ad g a1)] M (pI K) := by
  refine MT.of (by decide +kernel) (Nat.le_of_ble_eq_true rfl) ?_
  intro p e s m below meth c ls E hw hR hS hl
  have hl : lv_has ls 2 [(0, .ref (ad g a0)), (1, .ref (ad g a1))] := hl
  generalize ([.ref (ad g a0), .ref (ad g a1)] : List Value).toArray = args at E ⊢
  have E : EN p s m args meth c cX3_breaks 2 (some .boolean) RX3 g := E
  have hx := E.1
  have hb := E.2.1
  unfold f_X3_breaks at hf
  refine lv_aload_n hx hb dX3_breaks_0 rfl (lv_at hl 0 rfl) ?_
  obtain ⟨b1, hb1, hf⟩ := hf
  refine hw_getR E hR cI2 hs0 8 (by decide) lfX3_40 rfl hb1 dX3_breaks_1 ?_
  obtain ⟨h2, hf⟩ := hf
  refine hw_getI E hR cI4 h2 6 (by decide) lfX3_63 rfl dX3_breaks_4 ?_
  refine lv_if_le (tgt := 27) hx hb dX3_breaks_7 (by decide) (fun c3 => ?_) (fun c3 => ?_)
  · replace hf := hf.1 c3
    refine lv_iconst (v := 0) hx hb dX3_breaks_27 (by decide) ?_
    exact hw_zret E hR hS (by decide) ⟨_, rfl, hf⟩ dX3_breaks_28
  · replace hf := hf.2 c3
    refine lv_aload_n hx hb dX3_breaks_10 rfl (lv_at hl 0 rfl) ?_
    refine lv_aload_n hx hb dX3_breaks_11 rfl (lv_at hl 0 rfl) ?_
    obtain ⟨b4, hb4, hf⟩ := hf
    refine hw_getR E hR cI2 hs0 8 (by decide) lfX3_40 rfl hb4 dX3_breaks_12 ?_
    refine lv_iconst (v := 0) hx hb dX3_breaks_15 (by decide) ?_
    refine lv_aload_n hx hb dX3_breaks_16 rfl (lv_at hl 1 rfl) ?_
    obtain ⟨h6, hf⟩ := hf
    refine hw_callV (d := 2) E hR hS (As := [.ref (ad g b4), .int (0 : Int32), .ref (ad g a1)]) (rest := []) cI2 hs0 rfl mcX3_value miX3_value lmX3_66 (ok_X3_value hs0 h6 hs1 hf) rfl rfl (by decide) hl.1 (Nat.le_of_ble_eq_true rfl) dX3_breaks_17 (fun rr m5 H locs hp hR hS => ?_)
    obtain ⟨r7, rfl, hf⟩ := hp
    refine W.eq (g2 := F0 m 20 ls [.int r7]) rfl ?_
    refine lv_if_ne (tgt := 27) hx hb dX3_breaks_20 (by decide) (fun c8 => ?_) (fun c8 => ?_)
    · replace hf := hf.2 c8
      refine lv_iconst (v := 0) hx hb dX3_breaks_27 (by decide) ?_
      exact hw_zret E hR hS (by decide) ⟨_, rfl, hf⟩ dX3_breaks_28
    · replace hf := hf.1 c8
      refine lv_iconst (v := 1) hx hb dX3_breaks_23 (by decide) ?_
      refine lv_goto (tgt := 28) hx hb dX3_breaks_24 (by decide) ?_
      exact hw_zret E hR hS (by decide) ⟨_, rfl, hf⟩ dX3_breaks_28
def f_X3_fire_B4 (S : Ss) (a0 : Nat) (a1 : Nat) (x2 : Int32) (x3 : Int32) (M : Mm) (BK4 : Int32 → Int32 → Mm → Prop) (EK4 : Int32 → Mm → Prop) (K : Mm → Prop) : Prop :=
  (((M.1 a0 11) ≤ x3 →
    EK4 x2 M) ∧
   (¬ (M.1 a0 11) ≤ x3 →
    ((((M.1 a0 14) &&& ((1 : Int32) <<< (x3 &&& 31))) = 0 →
      ∀ v3 : Int32, v3 = x3 + (1 : Int32) →
      BK4 x2 v3 M) ∧
     (¬ ((M.1 a0 14) &&& ((1 : Int32) <<< (x3 &&& 31))) = 0 →
      ∃ b4 : Nat, M.2.2 a0 1 = some b4 ∧
      ∃ n5 : Nat, S[b4]? = some (55, n5) ∧ vp_in x3 n5 ∧
      ∃ b6 : Nat, M.2.2 b4 x3.toNatClampNeg = some b6 ∧
      S[b6]? = some (4, 0) ∧
      f_X3_value S a0 b6 (0 : Int32) a1 M (fun (r9 : Int32) (m7 : Mm) =>
        ((r9 = 0 →
        ∀ v12 : Int32, v12 = (x2 ||| ((1 : Int32) <<< (x3 &&& 31))) →
        ∀ v13 : Int32, v13 = x3 + (1 : Int32) →
        BK4 v12 v13 m7) ∧
       (¬ r9 = 0 →
        ∀ v11 : Int32, v11 = x3 + (1 : Int32) →
        BK4 x2 v11 m7)))))))
set_option maxHeartbeats 4000000 in
set_option maxRecDepth 100000 in
theorem w_X3_fire_B4 {p : Program} {l : Launch} {e : Env} {s : State} {m : MethodId} {args : Array Value} {below : List Frame} {meth : Method} {c : Code} {g : Gg} {S : Ss} (a0 : Nat) (a1 : Nat) (x2 : Int32) (x3 : Int32) (M : Mm) (BK4 : Int32 → Int32 → Mm → Prop) (EK4 : Int32 → Mm → Prop) (K : Mm → Prop) (E : EN p s m args meth c cX3_fire 4 none RX3 g) (hw : ad g 100000 < s.heap.size) (hs0 : S[a0]? = some (2, 0)) (hs1 : S[a1]? = some (3, 0)) (hBK4 : ∀ (x2' : Int32) (x3' : Int32) (M' : Mm) (H : Heap) (locs : List Loc) (ls : Array Slot), BK4 x2' x3' M' → RP g S M' H → va_S (gA g) s.heap H locs → lv_has ls 4 [(0, .ref (ad g a0)), (1, .ref (ad g a1)), (2, .int x2'), (3, .int x3')] → W p l e (rmD 2) s m args below meth c H locs 0 0 (MQ below (QA g S (pV K)) args s 0 0 (gA g)) (F0 m 4 ls [])) (hEK4 : ∀ (x2' : Int32) (M' : Mm) (H : Heap) (locs : List Loc) (ls : Array Slot), EK4 x2' M' → RP g S M' H → va_S (gA g) s.heap H locs → lv_has ls 4 [(1, .ref (ad g a1)), (2, .int x2')] → W p l e (rmD 2) s m args below meth c H locs 0 0 (MQ below (QA g S (pV K)) args s 0 0 (gA g)) (F0 m 50 ls [])) (hf : f_X3_fire_B4 S a0 a1 x2 x3 M BK4 EK4 K) (H : Heap) (locs : List Loc) (ls : Array Slot) (hR : RP g S M H) (hS : va_S (gA g) s.heap H locs) (hl : lv_has ls 4 [(0, .ref (ad g a0)), (1, .ref (ad g a1)), (2, .int x2), (3, .int x3)]) : W p l e (rmD 2) s m args below meth c H locs 0 0 (MQ below (QA g S (pV K)) args s 0 0 (gA g)) (F0 m 4 ls []) := by
  have hx := E.1
  have hb := E.2.1
  unfold f_X3_fire_B4 at hf
  refine lv_iload_n hx hb dX3_fire_4 rfl (lv_at hl 3 rfl) ?_
  refine lv_aload_n hx hb dX3_fire_5 rfl (lv_at hl 0 rfl) ?_
  refine hw_getI E hR cI2 hs0 11 (by decide) lfX3_51 rfl dX3_fire_6 ?_
  refine lv_icmp_ge (tgt := 50) hx hb dX3_fire_9 (by decide) (fun c1 => ?_) (fun c1 => ?_)
  · replace hf := hf.1 c1
    exact hEK4 _ _ _ _ _ hf hR hS (lv_sub hl [1, 2] rfl)
  · replace hf := hf.2 c1
    refine lv_aload_n hx hb dX3_fire_12 rfl (lv_at hl 0 rfl) ?_
    refine hw_getI E hR cI2 hs0 14 (by decide) lfX3_60 rfl dX3_fire_13 ?_
    refine lv_iconst (v := 1) hx hb dX3_fire_16 (by decide) ?_
    refine lv_iload_n hx hb dX3_fire_17 rfl (lv_at hl 3 rfl) ?_
    refine lv_ishl hx hb dX3_fire_18 ?_
    refine lv_iand hx hb dX3_fire_19 ?_
    refine lv_if_eq (tgt := 44) hx hb dX3_fire_20 (by decide) (fun c2 => ?_) (fun c2 => ?_)
    · replace hf := hf.1 c2
      obtain ⟨v3, ev3⟩ : ∃ y : Int32, y = x3 + (1 : Int32) := ⟨_, rfl⟩
      replace hf := hf v3 ev3
      refine lv_iinc (v := v3) (lv' := [(3, .int v3), (0, .ref (ad g a0)), (1, .ref (ad g a1)), (2, .int x2)]) hx hb dX3_fire_44 hl (k := 3) rfl (by rw [ev3]; rfl) (by decide) rfl (fun ls hl => ?_)
      refine lv_goto (tgt := 4) hx hb dX3_fire_47 (by decide) ?_
      exact hBK4 _ _ _ _ _ _ hf hR hS (lv_sub hl [1, 2, 3, 0] rfl)
    · replace hf := hf.2 c2
      refine lv_aload_n hx hb dX3_fire_23 rfl (lv_at hl 0 rfl) ?_
      refine lv_aload_n hx hb dX3_fire_24 rfl (lv_at hl 0 rfl) ?_
      obtain ⟨b4, hb4, hf⟩ := hf
      refine hw_getR E hR cI2 hs0 1 (by decide) lfX3_17 rfl hb4 dX3_fire_25 ?_
      refine lv_iload_n hx hb dX3_fire_28 rfl (lv_at hl 3 rfl) ?_
      obtain ⟨n5, hn5, in5, hf⟩ := hf
      obtain ⟨b6, hb6, hf⟩ := hf
      refine hw_aaldS E hR (t := 55) (by decide) hn5 in5 hb6 dX3_fire_29 ?_
      refine lv_iconst (v := 0) hx hb dX3_fire_30 (by decide) ?_
      refine lv_aload_n hx hb dX3_fire_31 rfl (lv_at hl 1 rfl) ?_
      obtain ⟨h8, hf⟩ := hf
      refine hw_callV (d := 2) E hR hS (As := [.ref (ad g b6), .int (0 : Int32), .ref (ad g a1)]) (rest := []) cI2 hs0 rfl mcX3_value miX3_value lmX3_66 (ok_X3_value hs0 h8 hs1 hf) rfl rfl (by decide) hl.1 (Nat.le_of_ble_eq_true rfl) dX3_fire_32 (fun rr m7 H locs hp hR hS => ?_)
      obtain ⟨r9, rfl, hf⟩ := hp
      refine W.eq (g2 := F0 m 35 ls [.int r9]) rfl ?_
      refine lv_if_ne (tgt := 44) hx hb dX3_fire_35 (by decide) (fun c10 => ?_) (fun c10 => ?_)
      · replace hf := hf.2 c10
        obtain ⟨v11, ev11⟩ : ∃ y : Int32, y = x3 + (1 : Int32) := ⟨_, rfl⟩
        replace hf := hf v11 ev11
        refine lv_iinc (v := v11) (lv' := [(3, .int v11), (0, .ref (ad g a0)), (1, .ref (ad g a1)), (2, .int x2)]) hx hb dX3_fire_44 hl (k := 3) rfl (by rw [ev11]; rfl) (by decide) rfl (fun ls hl => ?_)
        refine lv_goto (tgt := 4) hx hb dX3_fire_47 (by decide) ?_
        exact hBK4 _ _ _ _ _ _ hf hR hS (lv_sub hl [1, 2, 3, 0] rfl)
      · replace hf := hf.1 c10
        refine lv_iload_n hx hb dX3_fire_38 rfl (lv_at hl 2 rfl) ?_
        refine lv_iconst (v := 1) hx hb dX3_fire_39 (by decide) ?_
        refine lv_iload_n hx hb dX3_fire_40 rfl (lv_at hl 3 rfl) ?_
        refine lv_ishl hx hb dX3_fire_41 ?_
        refine lv_ior hx hb dX3_fire_42 ?_
        refine lv_topi (fun v12 ev12 => ?_)
        replace hf := hf v12 ev12
        refine lv_istore_n (lv' := [(2, .int v12), (0, .ref (ad g a0)), (1, .ref (ad g a1)), (3, .int x3)]) hx hb dX3_fire_43 rfl hl (by decide) rfl (fun ls hl => ?_)
        obtain ⟨v13, ev13⟩ : ∃ y : Int32, y = x3 + (1 : Int32) := ⟨_, rfl⟩
        replace hf := hf v13 ev13
        refine lv_iinc (v := v13) (lv' := [(3, .int v13), (2, .int v12), (0, .ref (ad g a0)), (1, .ref (ad g a1))]) hx hb dX3_fire_44 hl (k := 3) rfl (by rw [ev13]; rfl) (by decide) rfl (fun ls hl => ?_)
        refine lv_goto (tgt := 4) hx hb dX3_fire_47 (by decide) ?_
        exact hBK4 _ _ _ _ _ _ hf hR hS (lv_sub hl [2, 3, 1, 0] rfl)
def f_X3_fire_L4 (S : Ss) (a0 : Nat) (a1 : Nat) (EK4 : Int32 → Mm → Prop) (K : Mm → Prop) : Nat → Int32 → Int32 → Mm → Prop
  | 0, _, _, _ => False
  | n + 1, x2, x3, M => f_X3_fire_B4 S a0 a1 x2 x3 M (fun (x2 : Int32) (x3 : Int32) (M : Mm) => f_X3_fire_L4 S a0 a1 EK4 K n x2 x3 M) EK4 K
set_option maxHeartbeats 4000000 in
set_option maxRecDepth 100000 in
theorem w_X3_fire_L4 {p : Program} {l : Launch} {e : Env} {s : State} {m : MethodId} {args : Array Value} {below : List Frame} {meth : Method} {c : Code} {g : Gg} {S : Ss} (a0 : Nat) (a1 : Nat) (EK4 : Int32 → Mm → Prop) (K : Mm → Prop) (E : EN p s m args meth c cX3_fire 4 none RX3 g) (hw : ad g 100000 < s.heap.size) (hs0 : S[a0]? = some (2, 0)) (hs1 : S[a1]? = some (3, 0)) (hEK4 : ∀ (x2' : Int32) (M' : Mm) (H : Heap) (locs : List Loc) (ls : Array Slot), EK4 x2' M' → RP g S M' H → va_S (gA g) s.heap H locs → lv_has ls 4 [(1, .ref (ad g a1)), (2, .int x2')] → W p l e (rmD 2) s m args below meth c H locs 0 0 (MQ below (QA g S (pV K)) args s 0 0 (gA g)) (F0 m 50 ls [])) : ∀ (n : Nat) (x2 : Int32) (x3 : Int32) (M : Mm), f_X3_fire_L4 S a0 a1 EK4 K n x2 x3 M → ∀ (H : Heap) (locs : List Loc) (ls : Array Slot), RP g S M H → va_S (gA g) s.heap H locs → lv_has ls 4 [(0, .ref (ad g a0)), (1, .ref (ad g a1)), (2, .int x2), (3, .int x3)] → W p l e (rmD 2) s m args below meth c H locs 0 0 (MQ below (QA g S (pV K)) args s 0 0 (gA g)) (F0 m 4 ls []) := by
  intro n
  induction n with
  | zero => intro x2 x3 M hf; exact hf.elim
  | succ n ih =>
    intro x2 x3 M hf H locs ls hR hS hl
    exact w_X3_fire_B4 _ _ _ _ _ _ _ _ E hw hs0 hs1 (fun _ _ M H locs ls h hR hS hl => ih _ _ M h H locs ls hR hS hl) hEK4 hf H locs ls hR hS hl
def f_X3_fire_J65 (S : Ss) (a1 : Nat) (t0 : Int32) (b01 : Nat) (M : Mm) (K : Mm → Prop) : Prop :=
  S[b01]? = some (3, 0) ∧
  ∀ m19 : Mm, m19 = stI M b01 2 t0 →
  ∀ m20 : Mm, m20 = stI m19 a1 3 ((1 : Int32) - (m19.1 a1 2)) →
  K m20
set_option maxHeartbeats 4000000 in
set_option maxRecDepth 100000 in
theorem w_X3_fire_J65 {p : Program} {l : Launch} {e : Env} {s : State} {m : MethodId} {args : Array Value} {below : List Frame} {meth : Method} {c : Code} {g : Gg} {S : Ss} (a1 : Nat) (t0 : Int32) (b01 : Nat) (M : Mm) (K : Mm → Prop) (E : EN p s m args meth c cX3_fire 4 none RX3 g) (hw : ad g 100000 < s.heap.size) (hs1 : S[a1]? = some (3, 0)) (hf : f_X3_fire_J65 S a1 t0 b01 M K) (H : Heap) (locs : List Loc) (ls : Array Slot) (hR : RP g S M H) (hS : va_S (gA g) s.heap H locs) (hl : lv_has ls 4 [(1, .ref (ad g a1))]) : W p l e (rmD 2) s m args below meth c H locs 0 0 (MQ below (QA g S (pV K)) args s 0 0 (gA g)) (F0 m 65 ls [.int t0, .ref (ad g b01)]) := by
  have hx := E.1
  have hb := E.2.1
  unfold f_X3_fire_J65 at hf
  obtain ⟨h18, hf⟩ := hf
  refine hw_putI E hR hS hw cI3 h18 2 (by decide) lfX3_124 rfl (Or.inl rfl) dX3_fire_65 (fun m19 H locs em19 hR hS => ?_)
  replace hf := hf m19 em19
  refine lv_aload_n hx hb dX3_fire_68 rfl (lv_at hl 0 rfl) ?_
  refine lv_iconst (v := 1) hx hb dX3_fire_69 (by decide) ?_
  refine lv_aload_n hx hb dX3_fire_70 rfl (lv_at hl 0 rfl) ?_
  refine hw_getI E hR cI3 hs1 2 (by decide) lfX3_124 rfl dX3_fire_71 ?_
  refine lv_isub hx hb dX3_fire_74 ?_
  refine hw_putI E hR hS hw cI3 hs1 3 (by decide) lfX3_127 rfl (Or.inl rfl) dX3_fire_75 (fun m20 H locs em20 hR hS => ?_)
  replace hf := hf m20 em20
  exact hw_vret E hR hS ⟨rfl, hf⟩ dX3_fire_78
def f_X3_fire (S : Ss) (a0 : Nat) (a1 : Nat) (M : Mm) (K : Mm → Prop) : Prop :=
  ∃ n21 : Nat, f_X3_fire_L4 S a0 a1 (fun (v14 : Int32) (m15 : Mm) =>
    ∀ m16 : Mm, m16 = stI m15 a1 6 v14 →
    ((v14 = 0 →
      f_X3_fire_J65 S a1 (1 : Int32) a1 m16 K) ∧
     (¬ v14 = 0 →
      f_X3_fire_J65 S a1 (0 : Int32) a1 m16 K))) K n21 (0 : Int32) (0 : Int32) M
set_option maxHeartbeats 4000000 in
set_option maxRecDepth 100000 in
theorem ok_X3_fire {l : Launch} {g : Gg} {S : Ss} {a0 : Nat} {a1 : Nat} {M : Mm} {K : Mm → Prop} (hs0 : S[a0]? = some (2, 0)) (hs1 : S[a1]? = some (3, 0)) (hf : f_X3_fire S a0 a1 M K) : MT l g S yX3_fire cX3_fire 4 none 2 [.ref (ad g a0), .ref (ad g a1)] M (pV K) := by
  refine MT.of (by decide +kernel) (Nat.le_of_ble_eq_true rfl) ?_
  intro p e s m below meth c ls E hw hR hS hl
  have hl : lv_has ls 4 [(0, .ref (ad g a0)), (1, .ref (ad g a1))] := hl
  generalize ([.ref (ad g a0), .ref (ad g a1)] : List Value).toArray = args at E ⊢
  have E : EN p s m args meth c cX3_fire 4 none RX3 g := E
  have hx := E.1
  have hb := E.2.1
  unfold f_X3_fire at hf
  refine lv_iconst (v := 0) hx hb dX3_fire_0 (by decide) ?_
  refine lv_istore_n (lv' := [(2, .int (0 : Int32)), (0, .ref (ad g a0)), (1, .ref (ad g a1))]) hx hb dX3_fire_1 rfl hl (by decide) rfl (fun ls hl => ?_)
  refine lv_iconst (v := 0) hx hb dX3_fire_2 (by decide) ?_
  refine lv_istore_n (lv' := [(3, .int (0 : Int32)), (2, .int (0 : Int32)), (0, .ref (ad g a0)), (1, .ref (ad g a1))]) hx hb dX3_fire_3 rfl hl (by decide) rfl (fun ls hl => ?_)
  obtain ⟨n21, hf⟩ := hf
  refine w_X3_fire_L4 _ _ _ _ E hw hs0 hs1 ?_ n21 _ _ _ hf _ _ _ hR hS (lv_sub hl [2, 3, 1, 0] rfl)
  intro v14 m15 H locs ls hf hR hS hl
  refine lv_aload_n hx hb dX3_fire_50 rfl (lv_at hl 0 rfl) ?_
  refine lv_iload_n hx hb dX3_fire_51 rfl (lv_at hl 1 rfl) ?_
  refine hw_putI E hR hS hw cI3 hs1 6 (by decide) lfX3_121 rfl (Or.inl rfl) dX3_fire_52 (fun m16 H locs em16 hR hS => ?_)
  replace hf := hf m16 em16
  refine lv_aload_n hx hb dX3_fire_55 rfl (lv_at hl 0 rfl) ?_
  refine lv_iload_n hx hb dX3_fire_56 rfl (lv_at hl 1 rfl) ?_
  refine lv_if_ne (tgt := 64) hx hb dX3_fire_57 (by decide) (fun c17 => ?_) (fun c17 => ?_)
  · replace hf := hf.2 c17
    refine lv_iconst (v := 0) hx hb dX3_fire_64 (by decide) ?_
    exact w_X3_fire_J65 _ _ _ _ _ E hw hs1 hf _ _ _ hR hS (lv_sub hl [0] rfl)
  · replace hf := hf.1 c17
    refine lv_iconst (v := 1) hx hb dX3_fire_60 (by decide) ?_
    refine lv_goto (tgt := 65) hx hb dX3_fire_61 (by decide) ?_
    exact w_X3_fire_J65 _ _ _ _ _ E hw hs1 hf _ _ _ hR hS (lv_sub hl [0] rfl)
def f_X3_move_J40 (S : Ss) (t0 : Int32) (t1 : Int32) (t2 : Int32) (b03 : Nat) (M : Mm) (K : Mm → Prop) : Prop :=
  S[b03]? = some (3, 0) ∧
  f_X4_putPart S b03 t2 t1 t0 M (fun (m11 : Mm) =>
    K m11)
set_option maxHeartbeats 4000000 in
set_option maxRecDepth 100000 in
theorem w_X3_move_J40 {p : Program} {l : Launch} {e : Env} {s : State} {m : MethodId} {args : Array Value} {below : List Frame} {meth : Method} {c : Code} {g : Gg} {S : Ss} (t0 : Int32) (t1 : Int32) (t2 : Int32) (b03 : Nat) (M : Mm) (K : Mm → Prop) (E : EN p s m args meth c cX3_move 4 none RX3 g) (hw : ad g 100000 < s.heap.size) (hf : f_X3_move_J40 S t0 t1 t2 b03 M K) (H : Heap) (locs : List Loc) (ls : Array Slot) (hR : RP g S M H) (hS : va_S (gA g) s.heap H locs) (hl : lv_has ls 4 []) : W p l e (rmD 2) s m args below meth c H locs 0 0 (MQ below (QA g S (pV K)) args s 0 0 (gA g)) (F0 m 40 ls [.int t0, .int t1, .int t2, .ref (ad g b03)]) := by
  have hx := E.1
  have hb := E.2.1
  unfold f_X3_move_J40 at hf
  obtain ⟨h12, hf⟩ := hf
  refine hw_callV (d := 2) E hR hS (As := [.int t2, .int t1, .int t0]) (rest := []) cI3 h12 rfl mcX4_putPart miX4_putPart lmX3_117 (ok_X4_putPart h12 hf) rfl rfl (by decide) hl.1 (Nat.le_of_ble_eq_true rfl) dX3_move_40 (fun rr m11 H locs hp hR hS => ?_)
  obtain ⟨rfl, hf⟩ := hp
  refine W.eq (g2 := F0 m 43 ls []) rfl ?_
  exact hw_vret E hR hS ⟨rfl, hf⟩ dX3_move_43
def f_X3_move (S : Ss) (a0 : Nat) (a1 : Nat) (x2 : Int32) (x3 : Int32) (M : Mm) (K : Mm → Prop) : Prop :=
  ((x2 < 0 →
    K M) ∧
   (¬ x2 < 0 →
    (((4 : Int32) ≤ x2 →
      K M) ∧
     (¬ (4 : Int32) ≤ x2 →
      f_X4_tenthsOf S a1 x2 M (fun (r4 : Int32) (m3 : Mm) =>
        ((r4 ≤ 0 →
        f_X4_targetOf S a1 x2 m3 (fun (r7 : Int32) (m6 : Mm) =>
          ((r7 = x3 →
          f_X3_move_J40 S (0 : Int32) x3 x2 a1 m6 K) ∧
         (¬ r7 = x3 →
          ∃ b9 : Nat, m6.2.2 a0 6 = some b9 ∧
          ∃ n10 : Nat, shp S b9 = some (50, n10) ∧ vp_in x2 n10 ∧
          f_X3_move_J40 S (m6.1 b9 x2.toNatClampNeg) x3 x2 a1 m6 K)))) ∧
       (¬ r4 ≤ 0 →
        K m3)))))))
set_option maxHeartbeats 4000000 in
set_option maxRecDepth 100000 in
theorem ok_X3_move {l : Launch} {g : Gg} {S : Ss} {a0 : Nat} {a1 : Nat} {x2 : Int32} {x3 : Int32} {M : Mm} {K : Mm → Prop} (hs0 : S[a0]? = some (2, 0)) (hs1 : S[a1]? = some (3, 0)) (hf : f_X3_move S a0 a1 x2 x3 M K) : MT l g S yX3_move cX3_move 4 none 2 [.ref (ad g a0), .ref (ad g a1), .int x2, .int x3] M (pV K) := by
  refine MT.of (by decide +kernel) (Nat.le_of_ble_eq_true rfl) ?_
  intro p e s m below meth c ls E hw hR hS hl
  have hl : lv_has ls 4 [(0, .ref (ad g a0)), (1, .ref (ad g a1)), (2, .int x2), (3, .int x3)] := hl
  generalize ([.ref (ad g a0), .ref (ad g a1), .int x2, .int x3] : List Value).toArray = args at E ⊢
  have E : EN p s m args meth c cX3_move 4 none RX3 g := E
  have hx := E.1
  have hb := E.2.1
  unfold f_X3_move at hf
  refine lv_iload_n hx hb dX3_move_0 rfl (lv_at hl 2 rfl) ?_
  refine lv_if_lt (tgt := 17) hx hb dX3_move_1 (by decide) (fun c1 => ?_) (fun c1 => ?_)
  · replace hf := hf.1 c1
    exact hw_vret E hR hS ⟨rfl, hf⟩ dX3_move_17
  · replace hf := hf.2 c1
    refine lv_iload_n hx hb dX3_move_4 rfl (lv_at hl 2 rfl) ?_
    refine lv_iconst (v := 4) hx hb dX3_move_5 (by decide) ?_
    refine lv_icmp_ge (tgt := 17) hx hb dX3_move_6 (by decide) (fun c2 => ?_) (fun c2 => ?_)
    · replace hf := hf.1 c2
      exact hw_vret E hR hS ⟨rfl, hf⟩ dX3_move_17
    · replace hf := hf.2 c2
      refine lv_aload_n hx hb dX3_move_9 rfl (lv_at hl 1 rfl) ?_
      refine lv_iload_n hx hb dX3_move_10 rfl (lv_at hl 2 rfl) ?_
      refine hw_callV (d := 2) E hR hS (As := [.int x2]) (rest := []) cI3 hs1 rfl mcX4_tenthsOf miX4_tenthsOf lmX3_111 (ok_X4_tenthsOf hs1 hf) rfl rfl (by decide) hl.1 (Nat.le_of_ble_eq_true rfl) dX3_move_11 (fun rr m3 H locs hp hR hS => ?_)
      obtain ⟨r4, rfl, hf⟩ := hp
      refine W.eq (g2 := F0 m 14 ls [.int r4]) rfl ?_
      refine lv_if_le (tgt := 18) hx hb dX3_move_14 (by decide) (fun c5 => ?_) (fun c5 => ?_)
      · replace hf := hf.1 c5
        refine lv_aload_n hx hb dX3_move_18 rfl (lv_at hl 1 rfl) ?_
        refine lv_iload_n hx hb dX3_move_19 rfl (lv_at hl 2 rfl) ?_
        refine lv_iload_n hx hb dX3_move_20 rfl (lv_at hl 3 rfl) ?_
        refine lv_aload_n hx hb dX3_move_21 rfl (lv_at hl 1 rfl) ?_
        refine lv_iload_n hx hb dX3_move_22 rfl (lv_at hl 2 rfl) ?_
        refine hw_callV (d := 2) E hR hS (As := [.int x2]) (rest := [.int x3, .int x2, .ref (ad g a1)]) cI3 hs1 rfl mcX4_targetOf miX4_targetOf lmX3_114 (ok_X4_targetOf hs1 hf) rfl rfl (by decide) hl.1 (Nat.le_of_ble_eq_true rfl) dX3_move_23 (fun rr m6 H locs hp hR hS => ?_)
        obtain ⟨r7, rfl, hf⟩ := hp
        refine W.eq (g2 := F0 m 26 ls [.int r7, .int x3, .int x2, .ref (ad g a1)]) rfl ?_
        refine lv_iload_n hx hb dX3_move_26 rfl (lv_at hl 3 rfl) ?_
        refine lv_icmp_ne (tgt := 34) hx hb dX3_move_27 (by decide) (fun c8 => ?_) (fun c8 => ?_)
        · replace hf := hf.2 c8
          refine lv_aload_n hx hb dX3_move_34 rfl (lv_at hl 0 rfl) ?_
          obtain ⟨b9, hb9, hf⟩ := hf
          refine hw_getR E hR cI2 hs0 6 (by decide) lfX3_33 rfl hb9 dX3_move_35 ?_
          refine lv_iload_n hx hb dX3_move_38 rfl (lv_at hl 2 rfl) ?_
          obtain ⟨n10, hn10, in10, hf⟩ := hf
          refine hw_iald E hR hS hn10 in10 dX3_move_39 ?_
          exact w_X3_move_J40 _ _ _ _ _ _ E hw hf _ _ _ hR hS (lv_sub hl [] rfl)
        · replace hf := hf.1 c8
          refine lv_iconst (v := 0) hx hb dX3_move_30 (by decide) ?_
          refine lv_goto (tgt := 40) hx hb dX3_move_31 (by decide) ?_
          exact w_X3_move_J40 _ _ _ _ _ _ E hw hf _ _ _ hR hS (lv_sub hl [] rfl)
      · replace hf := hf.2 c5
        exact hw_vret E hR hS ⟨rfl, hf⟩ dX3_move_17
def f_X3_act_J238 (S : Ss) (a1 : Nat) (x4 : Int64) (t0 : Int32) (t1 : Int32) (b02 : Nat) (M : Mm) (K : Mm → Prop) : Prop :=
  S[b02]? = some (3, 0) ∧
  f_X4_putLine S b02 t1 t0 M (fun (m30 : Mm) =>
    f_X4_endStep S a1 x4 m30 (fun (m32 : Mm) =>
    K m32))
set_option maxHeartbeats 4000000 in
set_option maxRecDepth 100000 in
theorem w_X3_act_J238 {p : Program} {l : Launch} {e : Env} {s : State} {m : MethodId} {args : Array Value} {below : List Frame} {meth : Method} {c : Code} {g : Gg} {S : Ss} (a1 : Nat) (x4 : Int64) (t0 : Int32) (t1 : Int32) (b02 : Nat) (M : Mm) (K : Mm → Prop) (E : EN p s m args meth c cX3_act 13 none RX3 g) (hw : ad g 100000 < s.heap.size) (hs1 : S[a1]? = some (3, 0)) (hf : f_X3_act_J238 S a1 x4 t0 t1 b02 M K) (H : Heap) (locs : List Loc) (ls : Array Slot) (hR : RP g S M H) (hS : va_S (gA g) s.heap H locs) (hl : lv_has ls 13 [(1, .ref (ad g a1)), (4, .long x4)]) : W p l e (rmD 3) s m args below meth c H locs 0 0 (MQ below (QA g S (pV K)) args s 0 0 (gA g)) (F0 m 238 ls [.int t0, .int t1, .ref (ad g b02)]) := by
  have hx := E.1
  have hb := E.2.1
  unfold f_X3_act_J238 at hf
  obtain ⟨h31, hf⟩ := hf
  refine hw_callV (d := 3) E hR hS (As := [.int t1, .int t0]) (rest := []) cI3 h31 rfl mcX4_putLine miX4_putLine lmX3_104 (ok_X4_putLine h31 hf) rfl rfl (by decide) hl.1 (Nat.le_of_ble_eq_true rfl) dX3_act_238 (fun rr m30 H locs hp hR hS => ?_)
  obtain ⟨rfl, hf⟩ := hp
  refine W.eq (g2 := F0 m 241 ls []) rfl ?_
  refine lv_aload_n hx hb dX3_act_241 rfl (lv_at hl 0 rfl) ?_
  refine lv_lload hx hb dX3_act_242 (lv_at hl 1 rfl) ?_
  refine hw_callV (d := 3) E hR hS (As := [.long x4]) (rest := []) cI3 hs1 rfl mcX4_endStep miX4_endStep lmX3_107 (ok_X4_endStep hs1 hf) rfl rfl (by decide) hl.1 (Nat.le_of_ble_eq_true rfl) dX3_act_244 (fun rr m32 H locs hp hR hS => ?_)
  obtain ⟨rfl, hf⟩ := hp
  refine W.eq (g2 := F0 m 247 ls []) rfl ?_
  exact hw_vret E hR hS ⟨rfl, hf⟩ dX3_act_247
def f_X3_act_J223 (S : Ss) (a1 : Nat) (x2 : Int32) (x4 : Int64) (x7 : Int32) (x12 : Int32) (M : Mm) (K : Mm → Prop) : Prop :=
  ((x7 ≤ x12 →
    f_X3_act_J238 S a1 x4 (0 : Int32) x2 a1 M K) ∧
   (¬ x7 ≤ x12 →
    f_X3_act_J238 S a1 x4 x12 x2 a1 M K))
set_option maxHeartbeats 4000000 in
set_option maxRecDepth 100000 in
theorem w_X3_act_J223 {p : Program} {l : Launch} {e : Env} {s : State} {m : MethodId} {args : Array Value} {below : List Frame} {meth : Method} {c : Code} {g : Gg} {S : Ss} (a1 : Nat) (x2 : Int32) (x4 : Int64) (x7 : Int32) (x12 : Int32) (M : Mm) (K : Mm → Prop) (E : EN p s m args meth c cX3_act 13 none RX3 g) (hw : ad g 100000 < s.heap.size) (hs1 : S[a1]? = some (3, 0)) (hf : f_X3_act_J223 S a1 x2 x4 x7 x12 M K) (H : Heap) (locs : List Loc) (ls : Array Slot) (hR : RP g S M H) (hS : va_S (gA g) s.heap H locs) (hl : lv_has ls 13 [(1, .ref (ad g a1)), (2, .int x2), (4, .long x4), (7, .int x7), (12, .int x12)]) : W p l e (rmD 3) s m args below meth c H locs 0 0 (MQ below (QA g S (pV K)) args s 0 0 (gA g)) (F0 m 223 ls []) := by
  have hx := E.1
  have hb := E.2.1
  unfold f_X3_act_J223 at hf
  refine lv_aload_n hx hb dX3_act_223 rfl (lv_at hl 0 rfl) ?_
  refine lv_iload_n hx hb dX3_act_224 rfl (lv_at hl 1 rfl) ?_
  refine lv_iload hx hb dX3_act_225 (lv_at hl 4 rfl) ?_
  refine lv_iload hx hb dX3_act_227 (lv_at hl 3 rfl) ?_
  refine lv_icmp_ge (tgt := 237) hx hb dX3_act_229 (by decide) (fun c29 => ?_) (fun c29 => ?_)
  · replace hf := hf.1 c29
    refine lv_iconst (v := 0) hx hb dX3_act_237 (by decide) ?_
    exact w_X3_act_J238 _ _ _ _ _ _ _ E hw hs1 hf _ _ _ hR hS (lv_sub hl [0, 2] rfl)
  · replace hf := hf.2 c29
    refine lv_iload hx hb dX3_act_232 (lv_at hl 4 rfl) ?_
    refine lv_goto (tgt := 238) hx hb dX3_act_234 (by decide) ?_
    exact w_X3_act_J238 _ _ _ _ _ _ _ E hw hs1 hf _ _ _ hR hS (lv_sub hl [0, 2] rfl)
def f_X3_act_J171 (S : Ss) (a1 : Nat) (x2 : Int32) (x4 : Int64) (x7 : Int32) (t0 : Int32) (M : Mm) (K : Mm → Prop) : Prop :=
  f_X3_act_J223 S a1 x2 x4 x7 t0 M K
set_option maxHeartbeats 4000000 in
set_option maxRecDepth 100000 in
theorem w_X3_act_J171 {p : Program} {l : Launch} {e : Env} {s : State} {m : MethodId} {args : Array Value} {below : List Frame} {meth : Method} {c : Code} {g : Gg} {S : Ss} (a1 : Nat) (x2 : Int32) (x4 : Int64) (x7 : Int32) (t0 : Int32) (M : Mm) (K : Mm → Prop) (E : EN p s m args meth c cX3_act 13 none RX3 g) (hw : ad g 100000 < s.heap.size) (hs1 : S[a1]? = some (3, 0)) (hf : f_X3_act_J171 S a1 x2 x4 x7 t0 M K) (H : Heap) (locs : List Loc) (ls : Array Slot) (hR : RP g S M H) (hS : va_S (gA g) s.heap H locs) (hl : lv_has ls 13 [(1, .ref (ad g a1)), (2, .int x2), (4, .long x4), (7, .int x7)]) : W p l e (rmD 3) s m args below meth c H locs 0 0 (MQ below (QA g S (pV K)) args s 0 0 (gA g)) (F0 m 171 ls [.int t0]) := by
  have hx := E.1
  have hb := E.2.1
  unfold f_X3_act_J171 at hf
  refine lv_istore (lv' := [(12, .int t0), (1, .ref (ad g a1)), (2, .int x2), (4, .long x4), (7, .int x7)]) hx hb dX3_act_171 hl (by decide) rfl (fun ls hl => ?_)
  refine lv_goto (tgt := 223) hx hb dX3_act_173 (by decide) ?_
  exact w_X3_act_J223 _ _ _ _ _ _ _ E hw hs1 hf _ _ _ hR hS (lv_sub hl [1, 2, 3, 4, 0] rfl)
def f_X3_act_J202 (S : Ss) (a1 : Nat) (x2 : Int32) (x4 : Int64) (x7 : Int32) (t0 : Int32) (M : Mm) (K : Mm → Prop) : Prop :=
  f_X3_act_J223 S a1 x2 x4 x7 t0 M K
set_option maxHeartbeats 4000000 in
set_option maxRecDepth 100000 in
theorem w_X3_act_J202 {p : Program} {l : Launch} {e : Env} {s : State} {m : MethodId} {args : Array Value} {below : List Frame} {meth : Method} {c : Code} {g : Gg} {S : Ss} (a1 : Nat) (x2 : Int32) (x4 : Int64) (x7 : Int32) (t0 : Int32) (M : Mm) (K : Mm → Prop) (E : EN p s m args meth c cX3_act 13 none RX3 g) (hw : ad g 100000 < s.heap.size) (hs1 : S[a1]? = some (3, 0)) (hf : f_X3_act_J202 S a1 x2 x4 x7 t0 M K) (H : Heap) (locs : List Loc) (ls : Array Slot) (hR : RP g S M H) (hS : va_S (gA g) s.heap H locs) (hl : lv_has ls 13 [(1, .ref (ad g a1)), (2, .int x2), (4, .long x4), (7, .int x7)]) : W p l e (rmD 3) s m args below meth c H locs 0 0 (MQ below (QA g S (pV K)) args s 0 0 (gA g)) (F0 m 202 ls [.int t0]) := by
  have hx := E.1
  have hb := E.2.1
  unfold f_X3_act_J202 at hf
  refine lv_istore (lv' := [(12, .int t0), (1, .ref (ad g a1)), (2, .int x2), (4, .long x4), (7, .int x7)]) hx hb dX3_act_202 hl (by decide) rfl (fun ls hl => ?_)
  refine lv_goto (tgt := 223) hx hb dX3_act_204 (by decide) ?_
  exact w_X3_act_J223 _ _ _ _ _ _ _ E hw hs1 hf _ _ _ hR hS (lv_sub hl [1, 2, 3, 4, 0] rfl)
def f_X3_act_J77 (S : Ss) (a0 : Nat) (a1 : Nat) (x2 : Int32) (x4 : Int64) (x6 : Int32) (x7 : Int32) (a8 : Nat) (x9 : Int32) (M : Mm) (K : Mm → Prop) : Prop :=
  S[a8]? = some (4, 0) ∧
  f_X3_value S a0 a8 x9 a1 M (fun (r20 : Int32) (m18 : Mm) =>
    ∃ b21 : Nat, m18.2.2 a8 2 = some b21 ∧
  ∃ n22 : Nat, shp S b21 = some (50, n22) ∧ vp_in x9 n22 ∧
  ∀ v23 : Int32, v23 = (m18.1 b21 x9.toNatClampNeg) →
  ∀ v24 : Int32, v24 = (x6 + (1 : Int32)) →
  ∃ b25 : Nat, m18.2.2 a8 1 = some b25 ∧
  ∃ n26 : Nat, shp S b25 = some (50, n26) ∧ vp_in x9 n26 ∧
  (((m18.1 b25 x9.toNatClampNeg) = 0 →
    f_X4_putSlot S a1 v23 r20 m18 (fun (m28 : Mm) =>
      f_X3_act_J223 S a1 x2 x4 x7 v24 m28 K)) ∧
   (¬ (m18.1 b25 x9.toNatClampNeg) = 0 →
    (((m18.1 b25 x9.toNatClampNeg) = 1 →
      ((r20 = 0 →
        f_X3_act_J171 S a1 x2 x4 x7 x6 m18 K) ∧
       (¬ r20 = 0 →
        f_X3_act_J171 S a1 x2 x4 x7 v24 m18 K))) ∧
     (¬ (m18.1 b25 x9.toNatClampNeg) = 1 →
      (((m18.1 b25 x9.toNatClampNeg) = 2 →
        f_X3_move S a0 a1 v23 (r20 &&& (3 : Int32)) m18 (fun (m36 : Mm) =>
          f_X3_act_J223 S a1 x2 x4 x7 v24 m36 K)) ∧
       (¬ (m18.1 b25 x9.toNatClampNeg) = 2 →
        (((m18.1 b25 x9.toNatClampNeg) = 3 →
          ((r20 = 0 →
            f_X3_act_J202 S a1 x2 x4 x7 v24 m18 K) ∧
           (¬ r20 = 0 →
            f_X3_act_J202 S a1 x2 x4 x7 v23 m18 K))) ∧
         (¬ (m18.1 b25 x9.toNatClampNeg) = 3 →
          (((m18.1 b25 x9.toNatClampNeg) = 4 →
            ∀ m40 : Mm, m40 = stI m18 a1 4 (v23 + (1 : Int32)) →
            f_X3_act_J223 S a1 x2 x4 x7 v24 m40 K) ∧
           (¬ (m18.1 b25 x9.toNatClampNeg) = 4 →
            f_X3_fire S a0 a1 m18 (fun (m41 : Mm) =>
              f_X3_act_J223 S a1 x2 x4 x7 v24 m41 K))))))))))))
set_option maxHeartbeats 4000000 in
set_option maxRecDepth 100000 in
theorem w_X3_act_J77 {p : Program} {l : Launch} {e : Env} {s : State} {m : MethodId} {args : Array Value} {below : List Frame} {meth : Method} {c : Code} {g : Gg} {S : Ss} (a0 : Nat) (a1 : Nat) (x2 : Int32) (x4 : Int64) (x6 : Int32) (x7 : Int32) (a8 : Nat) (x9 : Int32) (M : Mm) (K : Mm → Prop) (E : EN p s m args meth c cX3_act 13 none RX3 g) (hw : ad g 100000 < s.heap.size) (hs0 : S[a0]? = some (2, 0)) (hs1 : S[a1]? = some (3, 0)) (hf : f_X3_act_J77 S a0 a1 x2 x4 x6 x7 a8 x9 M K) (H : Heap) (locs : List Loc) (ls : Array Slot) (hR : RP g S M H) (hS : va_S (gA g) s.heap H locs) (hl : lv_has ls 13 [(0, .ref (ad g a0)), (1, .ref (ad g a1)), (2, .int x2), (4, .long x4), (6, .int x6), (7, .int x7), (8, .ref (ad g a8)), (9, .int x9)]) : W p l e (rmD 3) s m args below meth c H locs 0 0 (MQ below (QA g S (pV K)) args s 0 0 (gA g)) (F0 m 77 ls []) := by
  have hx := E.1
  have hb := E.2.1
  unfold f_X3_act_J77 at hf
  refine lv_aload_n hx hb dX3_act_77 rfl (lv_at hl 0 rfl) ?_
  refine lv_aload hx hb dX3_act_78 (lv_at hl 6 rfl) ?_
  refine lv_iload hx hb dX3_act_80 (lv_at hl 7 rfl) ?_
  refine lv_aload_n hx hb dX3_act_82 rfl (lv_at hl 1 rfl) ?_
  obtain ⟨h19, hf⟩ := hf
  refine hw_callV (d := 3) E hR hS (As := [.ref (ad g a8), .int x9, .ref (ad g a1)]) (rest := []) cI2 hs0 rfl mcX3_value miX3_value lmX3_66 (ok_X3_value hs0 h19 hs1 hf) rfl rfl (by decide) hl.1 (Nat.le_of_ble_eq_true rfl) dX3_act_83 (fun rr m18 H locs hp hR hS => ?_)
  obtain ⟨r20, rfl, hf⟩ := hp
  refine W.eq (g2 := F0 m 86 ls [.int r20]) rfl ?_
  refine lv_istore (lv' := [(10, .int r20), (0, .ref (ad g a0)), (1, .ref (ad g a1)), (2, .int x2), (4, .long x4), (6, .int x6), (7, .int x7), (8, .ref (ad g a8)), (9, .int x9)]) hx hb dX3_act_86 hl (by decide) rfl (fun ls hl => ?_)
  refine lv_aload hx hb dX3_act_88 (lv_at hl 7 rfl) ?_
  obtain ⟨b21, hb21, hf⟩ := hf
  refine hw_getR E hR cI4 h19 2 (by decide) lfX3_84 rfl hb21 dX3_act_90 ?_
  refine lv_iload hx hb dX3_act_93 (lv_at hl 8 rfl) ?_
  obtain ⟨n22, hn22, in22, hf⟩ := hf
  refine hw_iald E hR hS hn22 in22 dX3_act_95 ?_
  refine lv_topi (fun v23 ev23 => ?_)
  replace hf := hf v23 ev23
  refine lv_istore (lv' := [(11, .int v23), (10, .int r20), (0, .ref (ad g a0)), (1, .ref (ad g a1)), (2, .int x2), (4, .long x4), (6, .int x6), (7, .int x7), (8, .ref (ad g a8)), (9, .int x9)]) hx hb dX3_act_96 hl (by decide) rfl (fun ls hl => ?_)
  refine lv_iload hx hb dX3_act_98 (lv_at hl 6 rfl) ?_
  refine lv_iconst (v := 1) hx hb dX3_act_100 (by decide) ?_
  refine lv_iadd hx hb dX3_act_101 ?_
  refine lv_topi (fun v24 ev24 => ?_)
  replace hf := hf v24 ev24
  refine lv_istore (lv' := [(12, .int v24), (11, .int v23), (10, .int r20), (0, .ref (ad g a0)), (1, .ref (ad g a1)), (2, .int x2), (4, .long x4), (6, .int x6), (7, .int x7), (8, .ref (ad g a8)), (9, .int x9)]) hx hb dX3_act_102 hl (by decide) rfl (fun ls hl => ?_)
  refine lv_aload hx hb dX3_act_104 (lv_at hl 9 rfl) ?_
  obtain ⟨b25, hb25, hf⟩ := hf
  refine hw_getR E hR cI4 h19 1 (by decide) lfX3_87 rfl hb25 dX3_act_106 ?_
  refine lv_iload hx hb dX3_act_109 (lv_at hl 10 rfl) ?_
  obtain ⟨n26, hn26, in26, hf⟩ := hf
  refine hw_iald E hR hS hn26 in26 dX3_act_111 ?_
  rcases Decidable.em ((m18.1 b25 x9.toNatClampNeg) = 0) with w27 | w27
  · replace hf := hf.1 w27
    refine lv_tableIn (tgt := 148) hx hb dX3_act_112 (by rw [w27]; decide) (by rw [w27]; decide) (by rw [w27]; rfl) (by decide) ?_
    refine lv_aload_n hx hb dX3_act_148 rfl (lv_at hl 4 rfl) ?_
    refine lv_iload hx hb dX3_act_149 (lv_at hl 1 rfl) ?_
    refine lv_iload hx hb dX3_act_151 (lv_at hl 2 rfl) ?_
    refine hw_callV (d := 3) E hR hS (As := [.int v23, .int r20]) (rest := []) cI3 hs1 rfl mcX4_putSlot miX4_putSlot lmX3_90 (ok_X4_putSlot hs1 hf) rfl rfl (by decide) hl.1 (Nat.le_of_ble_eq_true rfl) dX3_act_153 (fun rr m28 H locs hp hR hS => ?_)
    obtain ⟨rfl, hf⟩ := hp
    refine W.eq (g2 := F0 m 156 ls []) rfl ?_
    refine lv_goto (tgt := 223) hx hb dX3_act_156 (by decide) ?_
    exact w_X3_act_J223 _ _ _ _ _ _ _ E hw hs1 hf _ _ _ hR hS (lv_sub hl [4, 5, 6, 8, 0] rfl)
  · replace hf := hf.2 w27
    rcases Decidable.em ((m18.1 b25 x9.toNatClampNeg) = 1) with w33 | w33
    · replace hf := hf.1 w33
      refine lv_tableIn (tgt := 159) hx hb dX3_act_112 (by rw [w33]; decide) (by rw [w33]; decide) (by rw [w33]; rfl) (by decide) ?_
      refine lv_iload hx hb dX3_act_159 (lv_at hl 2 rfl) ?_
      refine lv_if_ne (tgt := 169) hx hb dX3_act_161 (by decide) (fun c34 => ?_) (fun c34 => ?_)
      · replace hf := hf.2 c34
        refine lv_iload hx hb dX3_act_169 (lv_at hl 0 rfl) ?_
        exact w_X3_act_J171 _ _ _ _ _ _ _ E hw hs1 hf _ _ _ hR hS (lv_sub hl [4, 5, 6, 8] rfl)
      · replace hf := hf.1 c34
        refine lv_iload hx hb dX3_act_164 (lv_at hl 7 rfl) ?_
        refine lv_goto (tgt := 171) hx hb dX3_act_166 (by decide) ?_
        exact w_X3_act_J171 _ _ _ _ _ _ _ E hw hs1 hf _ _ _ hR hS (lv_sub hl [4, 5, 6, 8] rfl)
    · replace hf := hf.2 w33
      rcases Decidable.em ((m18.1 b25 x9.toNatClampNeg) = 2) with w35 | w35
      · replace hf := hf.1 w35
        refine lv_tableIn (tgt := 176) hx hb dX3_act_112 (by rw [w35]; decide) (by rw [w35]; decide) (by rw [w35]; rfl) (by decide) ?_
        refine lv_aload_n hx hb dX3_act_176 rfl (lv_at hl 3 rfl) ?_
        refine lv_aload_n hx hb dX3_act_177 rfl (lv_at hl 4 rfl) ?_
        refine lv_iload hx hb dX3_act_178 (lv_at hl 1 rfl) ?_
        refine lv_iload hx hb dX3_act_180 (lv_at hl 2 rfl) ?_
        refine lv_iconst (v := 3) hx hb dX3_act_182 (by decide) ?_
        refine lv_iand hx hb dX3_act_183 ?_
        refine hw_callV (d := 3) E hR hS (As := [.ref (ad g a1), .int v23, .int (r20 &&& (3 : Int32))]) (rest := []) cI2 hs0 rfl mcX3_move miX3_move lmX3_93 (ok_X3_move hs0 hs1 hf) rfl rfl (by decide) hl.1 (Nat.le_of_ble_eq_true rfl) dX3_act_184 (fun rr m36 H locs hp hR hS => ?_)
        obtain ⟨rfl, hf⟩ := hp
        refine W.eq (g2 := F0 m 187 ls []) rfl ?_
        refine lv_goto (tgt := 223) hx hb dX3_act_187 (by decide) ?_
        exact w_X3_act_J223 _ _ _ _ _ _ _ E hw hs1 hf _ _ _ hR hS (lv_sub hl [4, 5, 6, 8, 0] rfl)
      · replace hf := hf.2 w35
        rcases Decidable.em ((m18.1 b25 x9.toNatClampNeg) = 3) with w37 | w37
        · replace hf := hf.1 w37
          refine lv_tableIn (tgt := 190) hx hb dX3_act_112 (by rw [w37]; decide) (by rw [w37]; decide) (by rw [w37]; rfl) (by decide) ?_
          refine lv_iload hx hb dX3_act_190 (lv_at hl 2 rfl) ?_
          refine lv_if_ne (tgt := 200) hx hb dX3_act_192 (by decide) (fun c38 => ?_) (fun c38 => ?_)
          · replace hf := hf.2 c38
            refine lv_iload hx hb dX3_act_200 (lv_at hl 1 rfl) ?_
            exact w_X3_act_J202 _ _ _ _ _ _ _ E hw hs1 hf _ _ _ hR hS (lv_sub hl [4, 5, 6, 8] rfl)
          · replace hf := hf.1 c38
            refine lv_iload hx hb dX3_act_195 (lv_at hl 0 rfl) ?_
            refine lv_goto (tgt := 202) hx hb dX3_act_197 (by decide) ?_
            exact w_X3_act_J202 _ _ _ _ _ _ _ E hw hs1 hf _ _ _ hR hS (lv_sub hl [4, 5, 6, 8] rfl)
        · replace hf := hf.2 w37
          rcases Decidable.em ((m18.1 b25 x9.toNatClampNeg) = 4) with w39 | w39
          · replace hf := hf.1 w39
            refine lv_tableIn (tgt := 207) hx hb dX3_act_112 (by rw [w39]; decide) (by rw [w39]; decide) (by rw [w39]; rfl) (by decide) ?_
            refine lv_aload_n hx hb dX3_act_207 rfl (lv_at hl 4 rfl) ?_
            refine lv_iload hx hb dX3_act_208 (lv_at hl 1 rfl) ?_
            refine lv_iconst (v := 1) hx hb dX3_act_210 (by decide) ?_
            refine lv_iadd hx hb dX3_act_211 ?_
            refine hw_putI E hR hS hw cI3 hs1 4 (by decide) lfX3_97 rfl (Or.inl rfl) dX3_act_212 (fun m40 H locs em40 hR hS => ?_)
            replace hf := hf m40 em40
            refine lv_goto (tgt := 223) hx hb dX3_act_215 (by decide) ?_
            exact w_X3_act_J223 _ _ _ _ _ _ _ E hw hs1 hf _ _ _ hR hS (lv_sub hl [4, 5, 6, 8, 0] rfl)
          · replace hf := hf.2 w39
            refine lv_tableOut (tgt := 218) hx hb dX3_act_112 (by have := lv_neT w27 (a := 0) (by decide); have := lv_neT w33 (a := 1) (by decide); have := lv_neT w35 (a := 2) (by decide); have := lv_neT w37 (a := 3) (by decide); have := lv_neT w39 (a := 4) (by decide); omega) (by decide) ?_
            refine lv_aload_n hx hb dX3_act_218 rfl (lv_at hl 3 rfl) ?_
            refine lv_aload_n hx hb dX3_act_219 rfl (lv_at hl 4 rfl) ?_
            refine hw_callV (d := 3) E hR hS (As := [.ref (ad g a1)]) (rest := []) cI2 hs0 rfl mcX3_fire miX3_fire lmX3_100 (ok_X3_fire hs0 hs1 hf) rfl rfl (by decide) hl.1 (Nat.le_of_ble_eq_true rfl) dX3_act_220 (fun rr m41 H locs hp hR hS => ?_)
            obtain ⟨rfl, hf⟩ := hp
            refine W.eq (g2 := F0 m 223 ls []) rfl ?_
            exact w_X3_act_J223 _ _ _ _ _ _ _ E hw hs1 hf _ _ _ hR hS (lv_sub hl [4, 5, 6, 8, 0] rfl)
def f_X3_act (S : Ss) (a0 : Nat) (a1 : Nat) (x2 : Int32) (x3 : Int32) (M : Mm) (K : Mm → Prop) : Prop :=
  ((x2 < 0 →
    K M) ∧
   (¬ x2 < 0 →
    ((x2 < (M.1 a0 10) →
      f_X4_beginStep S a1 x2 x3 M (fun (m3 : Mm) =>
        ∀ v4 : Int64, v4 = (m3.2.1 a1 1) →
      f_X4_lineOf S a1 x2 m3 (fun (r6 : Int32) (m5 : Mm) =>
        ∃ b7 : Nat, m5.2.2 a0 0 = some b7 ∧
      ∃ n8 : Nat, S[b7]? = some (55, n8) ∧ vp_in x2 n8 ∧
      ∃ b9 : Nat, m5.2.2 b7 x2.toNatClampNeg = some b9 ∧
      S[b9]? = some (4, 0) ∧
      ∀ v11 : Int32, v11 = (m5.1 b9 6) →
      ∃ b12 : Nat, m5.2.2 a0 5 = some b12 ∧
      ∃ n13 : Nat, S[b12]? = some (55, n13) ∧ vp_in ((x2 * (16 : Int32)) + r6) n13 ∧
      ((m5.2.2 b12 ((x2 * (16 : Int32)) + r6).toNatClampNeg = none ∧
        ∃ b15 : Nat, m5.2.2 a0 0 = some b15 ∧
        ∃ n16 : Nat, S[b15]? = some (55, n16) ∧ vp_in x2 n16 ∧
        ∃ b17 : Nat, m5.2.2 b15 x2.toNatClampNeg = some b17 ∧
        f_X3_act_J77 S a0 a1 x2 v4 r6 v11 b17 r6 m5 K) ∨
       (∃ b14 : Nat, m5.2.2 b12 ((x2 * (16 : Int32)) + r6).toNatClampNeg = some b14 ∧
        f_X3_act_J77 S a0 a1 x2 v4 r6 v11 b14 (0 : Int32) m5 K))))) ∧
     (¬ x2 < (M.1 a0 10) →
      K M))))
set_option maxHeartbeats 4000000 in
set_option maxRecDepth 100000 in
theorem ok_X3_act {l : Launch} {g : Gg} {S : Ss} {a0 : Nat} {a1 : Nat} {x2 : Int32} {x3 : Int32} {M : Mm} {K : Mm → Prop} (hs0 : S[a0]? = some (2, 0)) (hs1 : S[a1]? = some (3, 0)) (hf : f_X3_act S a0 a1 x2 x3 M K) : MT l g S yX3_act cX3_act 13 none 3 [.ref (ad g a0), .ref (ad g a1), .int x2, .int x3] M (pV K) := by
  refine MT.of (by decide +kernel) (Nat.le_of_ble_eq_true rfl) ?_
  intro p e s m below meth c ls E hw hR hS hl
  have hl : lv_has ls 13 [(0, .ref (ad g a0)), (1, .ref (ad g a1)), (2, .int x2), (3, .int x3)] := hl
  generalize ([.ref (ad g a0), .ref (ad g a1), .int x2, .int x3] : List Value).toArray = args at E ⊢
  have E : EN p s m args meth c cX3_act 13 none RX3 g := E
  have hx := E.1
  have hb := E.2.1
  unfold f_X3_act at hf
  refine lv_iload_n hx hb dX3_act_0 rfl (lv_at hl 2 rfl) ?_
  refine lv_if_lt (tgt := 12) hx hb dX3_act_1 (by decide) (fun c1 => ?_) (fun c1 => ?_)
  · replace hf := hf.1 c1
    exact hw_vret E hR hS ⟨rfl, hf⟩ dX3_act_12
  · replace hf := hf.2 c1
    refine lv_iload_n hx hb dX3_act_4 rfl (lv_at hl 2 rfl) ?_
    refine lv_aload_n hx hb dX3_act_5 rfl (lv_at hl 0 rfl) ?_
    refine hw_getI E hR cI2 hs0 10 (by decide) lfX3_47 rfl dX3_act_6 ?_
    refine lv_icmp_lt (tgt := 13) hx hb dX3_act_9 (by decide) (fun c2 => ?_) (fun c2 => ?_)
    · replace hf := hf.1 c2
      refine lv_aload_n hx hb dX3_act_13 rfl (lv_at hl 1 rfl) ?_
      refine lv_iload_n hx hb dX3_act_14 rfl (lv_at hl 2 rfl) ?_
      refine lv_iload_n hx hb dX3_act_15 rfl (lv_at hl 3 rfl) ?_
      refine hw_callV (d := 3) E hR hS (As := [.int x2, .int x3]) (rest := []) cI3 hs1 rfl mcX4_beginStep miX4_beginStep lmX3_70 (ok_X4_beginStep hs1 hf) rfl rfl (by decide) hl.1 (Nat.le_of_ble_eq_true rfl) dX3_act_16 (fun rr m3 H locs hp hR hS => ?_)
      obtain ⟨rfl, hf⟩ := hp
      refine W.eq (g2 := F0 m 19 ls []) rfl ?_
      refine lv_aload_n hx hb dX3_act_19 rfl (lv_at hl 1 rfl) ?_
      refine hw_getJ E hR cI3 hs1 1 (by decide) lfX3_76 rfl dX3_act_20 ?_
      refine lv_topl (fun v4 ev4 => ?_)
      replace hf := hf v4 ev4
      refine lv_lstore (lv' := [(4, .long v4), (0, .ref (ad g a0)), (1, .ref (ad g a1)), (2, .int x2), (3, .int x3)]) hx hb dX3_act_23 hl (by decide) rfl (fun ls hl => ?_)
      refine lv_aload_n hx hb dX3_act_25 rfl (lv_at hl 2 rfl) ?_
      refine lv_iload_n hx hb dX3_act_26 rfl (lv_at hl 3 rfl) ?_
      refine hw_callV (d := 3) E hR hS (As := [.int x2]) (rest := []) cI3 hs1 rfl mcX4_lineOf miX4_lineOf lmX3_80 (ok_X4_lineOf hs1 hf) rfl rfl (by decide) hl.1 (Nat.le_of_ble_eq_true rfl) dX3_act_27 (fun rr m5 H locs hp hR hS => ?_)
      obtain ⟨r6, rfl, hf⟩ := hp
      refine W.eq (g2 := F0 m 30 ls [.int r6]) rfl ?_
      refine lv_istore (lv' := [(6, .int r6), (4, .long v4), (0, .ref (ad g a0)), (1, .ref (ad g a1)), (2, .int x2), (3, .int x3)]) hx hb dX3_act_30 hl (by decide) rfl (fun ls hl => ?_)
      refine lv_aload_n hx hb dX3_act_32 rfl (lv_at hl 2 rfl) ?_
      obtain ⟨b7, hb7, hf⟩ := hf
      refine hw_getR E hR cI2 hs0 0 (by decide) lfX3_11 rfl hb7 dX3_act_33 ?_
      refine lv_iload_n hx hb dX3_act_36 rfl (lv_at hl 4 rfl) ?_
      obtain ⟨n8, hn8, in8, hf⟩ := hf
      obtain ⟨b9, hb9, hf⟩ := hf
      refine hw_aaldS E hR (t := 55) (by decide) hn8 in8 hb9 dX3_act_37 ?_
      obtain ⟨h10, hf⟩ := hf
      refine hw_getI E hR cI4 h10 6 (by decide) lfX3_63 rfl dX3_act_38 ?_
      refine lv_topi (fun v11 ev11 => ?_)
      replace hf := hf v11 ev11
      refine lv_istore (lv' := [(7, .int v11), (6, .int r6), (4, .long v4), (0, .ref (ad g a0)), (1, .ref (ad g a1)), (2, .int x2), (3, .int x3)]) hx hb dX3_act_41 hl (by decide) rfl (fun ls hl => ?_)
      refine lv_aload_n hx hb dX3_act_43 rfl (lv_at hl 3 rfl) ?_
      obtain ⟨b12, hb12, hf⟩ := hf
      refine hw_getR E hR cI2 hs0 5 (by decide) lfX3_30 rfl hb12 dX3_act_44 ?_
      refine lv_iload_n hx hb dX3_act_47 rfl (lv_at hl 5 rfl) ?_
      refine lv_bipush (v := 16) hx hb dX3_act_48 (by decide) ?_
      refine lv_imul hx hb dX3_act_50 ?_
      refine lv_iload hx hb dX3_act_51 (lv_at hl 1 rfl) ?_
      refine lv_iadd hx hb dX3_act_53 ?_
      obtain ⟨n13, hn13, in13, hf⟩ := hf
      rcases hf with ⟨hb14, hf⟩ | ⟨b14, hb14, hf⟩
      · refine hw_aaldN E hR (t := 55) (by decide) hn13 in13 hb14 dX3_act_54 ?_
        refine lv_astoreN (lv' := [(8, .null), (7, .int v11), (6, .int r6), (4, .long v4), (0, .ref (ad g a0)), (1, .ref (ad g a1)), (2, .int x2), (3, .int x3)]) hx hb dX3_act_55 hl (by decide) rfl (fun ls hl => ?_)
        refine lv_iconst (v := 0) hx hb dX3_act_57 (by decide) ?_
        refine lv_istore (lv' := [(9, .int (0 : Int32)), (8, .null), (7, .int v11), (6, .int r6), (4, .long v4), (0, .ref (ad g a0)), (1, .ref (ad g a1)), (2, .int x2), (3, .int x3)]) hx hb dX3_act_58 hl (by decide) rfl (fun ls hl => ?_)
        refine lv_aloadN hx hb dX3_act_60 (lv_at hl 1 rfl) ?_
        refine lv_ifnonnullN hx hb dX3_act_62 ?_
        refine lv_aload_n hx hb dX3_act_65 rfl (lv_at hl 5 rfl) ?_
        obtain ⟨b15, hb15, hf⟩ := hf
        refine hw_getR E hR cI2 hs0 0 (by decide) lfX3_11 rfl hb15 dX3_act_66 ?_
        refine lv_iload_n hx hb dX3_act_69 rfl (lv_at hl 7 rfl) ?_
        obtain ⟨n16, hn16, in16, hf⟩ := hf
        obtain ⟨b17, hb17, hf⟩ := hf
        refine hw_aaldS E hR (t := 55) (by decide) hn16 in16 hb17 dX3_act_70 ?_
        refine lv_astore (lv' := [(8, .ref (ad g b17)), (9, .int (0 : Int32)), (7, .int v11), (6, .int r6), (4, .long v4), (0, .ref (ad g a0)), (1, .ref (ad g a1)), (2, .int x2), (3, .int x3)]) hx hb dX3_act_71 hl (by decide) rfl (fun ls hl => ?_)
        refine lv_iload hx hb dX3_act_73 (lv_at hl 3 rfl) ?_
        refine lv_istore (lv' := [(9, .int r6), (8, .ref (ad g b17)), (7, .int v11), (6, .int r6), (4, .long v4), (0, .ref (ad g a0)), (1, .ref (ad g a1)), (2, .int x2), (3, .int x3)]) hx hb dX3_act_75 hl (by decide) rfl (fun ls hl => ?_)
        exact w_X3_act_J77 _ _ _ _ _ _ _ _ _ _ E hw hs0 hs1 hf _ _ _ hR hS (lv_sub hl [5, 6, 7, 4, 3, 2, 1, 0] rfl)
      · refine hw_aaldS E hR (t := 55) (by decide) hn13 in13 hb14 dX3_act_54 ?_
        refine lv_astore (lv' := [(8, .ref (ad g b14)), (7, .int v11), (6, .int r6), (4, .long v4), (0, .ref (ad g a0)), (1, .ref (ad g a1)), (2, .int x2), (3, .int x3)]) hx hb dX3_act_55 hl (by decide) rfl (fun ls hl => ?_)
        refine lv_iconst (v := 0) hx hb dX3_act_57 (by decide) ?_
        refine lv_istore (lv' := [(9, .int (0 : Int32)), (8, .ref (ad g b14)), (7, .int v11), (6, .int r6), (4, .long v4), (0, .ref (ad g a0)), (1, .ref (ad g a1)), (2, .int x2), (3, .int x3)]) hx hb dX3_act_58 hl (by decide) rfl (fun ls hl => ?_)
        refine lv_aload hx hb dX3_act_60 (lv_at hl 1 rfl) ?_
        refine lv_ifnonnull (tgt := 77) hx hb dX3_act_62 (by decide) ?_
        exact w_X3_act_J77 _ _ _ _ _ _ _ _ _ _ E hw hs0 hs1 hf _ _ _ hR hS (lv_sub hl [5, 6, 7, 4, 3, 2, 1, 0] rfl)
    · replace hf := hf.2 c2
      exact hw_vret E hR hS ⟨rfl, hf⟩ dX3_act_12
