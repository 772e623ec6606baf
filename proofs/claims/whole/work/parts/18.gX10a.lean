def f_X10_sign_B19 (S : Ss) (a0 : Nat) (x1 : Int32) (x2 : Int32) (M : Mm) (BK19 : Int32 → Mm → Prop) (EK19 : Mm → Prop) (K : Int32 → Mm → Prop) : Prop :=
  ((x2 < 0 →
    EK19 M) ∧
   (¬ x2 < 0 →
    ∃ b5 : Nat, M.2.2 a0 0 = some b5 ∧
    S[b5]? = some (5, 0) ∧
    ∃ b7 : Nat, M.2.2 b5 0 = some b7 ∧
    ∃ b8 : Nat, M.2.2 a0 0 = some b8 ∧
    S[b8]? = some (5, 0) ∧
    ∃ n10 : Nat, S[b7]? = some (51, n10) ∧ vp_in (M.1 b8 1) n10 ∧
    ∀ m11 : Mm, m11 = stI M b7 (M.1 b8 1).toNatClampNeg (vp_nar .char (((x1.toUInt32 >>> (x2.toUInt32 &&& Int32.toUInt32 31)).toInt32 &&& (255 : Int32)).toUInt32 % 65536).toInt32) →
    ∃ b12 : Nat, m11.2.2 a0 0 = some b12 ∧
    S[b12]? = some (5, 0) ∧
    ∀ m14 : Mm, m14 = stI m11 b12 1 ((m11.1 b12 1) + (1 : Int32)) →
    ∀ v15 : Int32, v15 = x2 + (-8 : Int32) →
    BK19 v15 m14))
set_option maxHeartbeats 4000000 in
set_option maxRecDepth 100000 in
theorem w_X10_sign_B19 {p : Program} {l : Launch} {e : Env} {s : State} {m : MethodId} {args : Array Value} {below : List Frame} {meth : Method} {c : Code} {g : Gg} {S : Ss} (a0 : Nat) (x1 : Int32) (x2 : Int32) (M : Mm) (BK19 : Int32 → Mm → Prop) (EK19 : Mm → Prop) (K : Int32 → Mm → Prop) (E : EN p s m args meth c cX10_sign 3 (some .int) RX10 g) (hw : ad g 100000 < s.heap.size) (hs0 : S[a0]? = some (9, 0)) (hBK19 : ∀ (x2' : Int32) (M' : Mm) (H : Heap) (locs : List Loc) (ls : Array Slot), BK19 x2' M' → RP g S M' H → va_S (gA g) s.heap H locs → lv_has ls 3 [(0, .ref (ad g a0)), (1, .int x1), (2, .int x2')] → W p l e (rmD 0) s m args below meth c H locs 0 0 (MQ below (QA g S (pI K)) args s 0 0 (gA g)) (F0 m 19 ls [])) (hEK19 : ∀ (M' : Mm) (H : Heap) (locs : List Loc) (ls : Array Slot), EK19 M' → RP g S M' H → va_S (gA g) s.heap H locs → lv_has ls 3 [(0, .ref (ad g a0))] → W p l e (rmD 0) s m args below meth c H locs 0 0 (MQ below (QA g S (pI K)) args s 0 0 (gA g)) (F0 m 65 ls [])) (hf : f_X10_sign_B19 S a0 x1 x2 M BK19 EK19 K) (H : Heap) (locs : List Loc) (ls : Array Slot) (hR : RP g S M H) (hS : va_S (gA g) s.heap H locs) (hl : lv_has ls 3 [(0, .ref (ad g a0)), (1, .int x1), (2, .int x2)]) : W p l e (rmD 0) s m args below meth c H locs 0 0 (MQ below (QA g S (pI K)) args s 0 0 (gA g)) (F0 m 19 ls []) := by
  have hx := E.1
  have hb := E.2.1
  unfold f_X10_sign_B19 at hf
  refine lv_iload_n hx hb dX10_sign_19 rfl (lv_at hl 2 rfl) ?_
  refine lv_if_lt (tgt := 65) hx hb dX10_sign_20 (by decide) (fun c4 => ?_) (fun c4 => ?_)
  · replace hf := hf.1 c4
    exact hEK19  _ _ _ _ hf hR hS (lv_sub hl [0] rfl)
  · replace hf := hf.2 c4
    refine lv_aload_n hx hb dX10_sign_23 rfl (lv_at hl 0 rfl) ?_
    obtain ⟨b5, hb5, hf⟩ := hf
    refine hw_getR E hR cI9 hs0 0 (by decide) lfX10_10 rfl hb5 dX10_sign_24 ?_
    obtain ⟨h6, hf⟩ := hf
    obtain ⟨b7, hb7, hf⟩ := hf
    refine hw_getR E hR cI5 h6 0 (by decide) lfX10_84 rfl hb7 dX10_sign_27 ?_
    refine lv_aload_n hx hb dX10_sign_30 rfl (lv_at hl 0 rfl) ?_
    obtain ⟨b8, hb8, hf⟩ := hf
    refine hw_getR E hR cI9 hs0 0 (by decide) lfX10_10 rfl hb8 dX10_sign_31 ?_
    obtain ⟨h9, hf⟩ := hf
    refine hw_getI E hR cI5 h9 1 (by decide) lfX10_81 rfl dX10_sign_34 ?_
    refine lv_iload_n hx hb dX10_sign_37 rfl (lv_at hl 1 rfl) ?_
    refine lv_iload_n hx hb dX10_sign_38 rfl (lv_at hl 2 rfl) ?_
    refine lv_iushr hx hb dX10_sign_39 rfl ?_
    refine lv_sipush (v := 255) hx hb dX10_sign_40 (by decide) ?_
    refine lv_iand hx hb dX10_sign_43 ?_
    refine lv_i2c hx hb dX10_sign_44 rfl ?_
    obtain ⟨n10, hn10, in10, hf⟩ := hf
    refine hw_cast E hR hS hw hn10 in10 dX10_sign_45 (fun m11 H locs em11 hR hS => ?_)
    replace hf := hf m11 em11
    refine lv_aload_n hx hb dX10_sign_46 rfl (lv_at hl 0 rfl) ?_
    obtain ⟨b12, hb12, hf⟩ := hf
    refine hw_getR E hR cI9 hs0 0 (by decide) lfX10_10 rfl hb12 dX10_sign_47 ?_
    refine lv_dup hx hb dX10_sign_50 rfl ?_
    obtain ⟨h13, hf⟩ := hf
    refine hw_getI E hR cI5 h13 1 (by decide) lfX10_81 rfl dX10_sign_51 ?_
    refine lv_iconst (v := 1) hx hb dX10_sign_54 (by decide) ?_
    refine lv_iadd hx hb dX10_sign_55 ?_
    refine hw_putI E hR hS hw cI5 h13 1 (by decide) lfX10_81 rfl (Or.inl rfl) dX10_sign_56 (fun m14 H locs em14 hR hS => ?_)
    replace hf := hf m14 em14
    obtain ⟨v15, ev15⟩ : ∃ y : Int32, y = x2 + (-8 : Int32) := ⟨_, rfl⟩
    replace hf := hf v15 ev15
    refine lv_iinc (v := v15) (lv' := [(2, .int v15), (0, .ref (ad g a0)), (1, .int x1)]) hx hb dX10_sign_59 hl (k := 2) rfl (by rw [ev15]; rfl) (by decide) rfl (fun ls hl => ?_)
    refine lv_goto (tgt := 19) hx hb dX10_sign_62 (by decide) ?_
    exact hBK19 _ _ _ _ _ hf hR hS (lv_sub hl [1, 2, 0] rfl)
def f_X10_sign_L19 (S : Ss) (a0 : Nat) (x1 : Int32) (EK19 : Mm → Prop) (K : Int32 → Mm → Prop) : Nat → Int32 → Mm → Prop
  | 0, _, _ => False
  | n + 1, x2, M => f_X10_sign_B19 S a0 x1 x2 M (fun (x2 : Int32) (M : Mm) => f_X10_sign_L19 S a0 x1 EK19 K n x2 M) EK19 K
set_option maxHeartbeats 4000000 in
set_option maxRecDepth 100000 in
theorem w_X10_sign_L19 {p : Program} {l : Launch} {e : Env} {s : State} {m : MethodId} {args : Array Value} {below : List Frame} {meth : Method} {c : Code} {g : Gg} {S : Ss} (a0 : Nat) (x1 : Int32) (EK19 : Mm → Prop) (K : Int32 → Mm → Prop) (E : EN p s m args meth c cX10_sign 3 (some .int) RX10 g) (hw : ad g 100000 < s.heap.size) (hs0 : S[a0]? = some (9, 0)) (hEK19 : ∀ (M' : Mm) (H : Heap) (locs : List Loc) (ls : Array Slot), EK19 M' → RP g S M' H → va_S (gA g) s.heap H locs → lv_has ls 3 [(0, .ref (ad g a0))] → W p l e (rmD 0) s m args below meth c H locs 0 0 (MQ below (QA g S (pI K)) args s 0 0 (gA g)) (F0 m 65 ls [])) : ∀ (n : Nat) (x2 : Int32) (M : Mm), f_X10_sign_L19 S a0 x1 EK19 K n x2 M → ∀ (H : Heap) (locs : List Loc) (ls : Array Slot), RP g S M H → va_S (gA g) s.heap H locs → lv_has ls 3 [(0, .ref (ad g a0)), (1, .int x1), (2, .int x2)] → W p l e (rmD 0) s m args below meth c H locs 0 0 (MQ below (QA g S (pI K)) args s 0 0 (gA g)) (F0 m 19 ls []) := by
  intro n
  induction n with
  | zero => intro x2 M hf; exact hf.elim
  | succ n ih =>
    intro x2 M hf H locs ls hR hS hl
    exact w_X10_sign_B19 _ _ _ _ _ _ _ E hw hs0 (fun _ M H locs ls h hR hS hl => ih _ M h H locs ls hR hS hl) hEK19 hf H locs ls hR hS hl
def f_X10_sign (S : Ss) (a0 : Nat) (x1 : Int32) (M : Mm) (K : Int32 → Mm → Prop) : Prop :=
  ∃ b1 : Nat, M.2.2 a0 0 = some b1 ∧
  S[b1]? = some (5, 0) ∧
  ((((M.1 b1 1) + (4 : Int32)) ≤ (100 : Int32) →
    ∃ n19 : Nat, f_X10_sign_L19 S a0 x1 (fun (m16 : Mm) =>
      ∃ b17 : Nat, m16.2.2 a0 0 = some b17 ∧
      S[b17]? = some (5, 0) ∧
      K (m16.1 b17 1) m16) K n19 (24 : Int32) M) ∧
   (¬ ((M.1 b1 1) + (4 : Int32)) ≤ (100 : Int32) →
    K (-1 : Int32) M))
set_option maxHeartbeats 4000000 in
set_option maxRecDepth 100000 in
theorem ok_X10_sign {l : Launch} {g : Gg} {S : Ss} {a0 : Nat} {x1 : Int32} {M : Mm} {K : Int32 → Mm → Prop} (hs0 : S[a0]? = some (9, 0)) (hf : f_X10_sign S a0 x1 M K) : MT l g S yX10_sign cX10_sign 3 (some .int) 0 [.ref (ad g a0), .int x1] M (pI K) := by
  refine MT.of (by decide +kernel) (Nat.le_of_ble_eq_true rfl) ?_
  intro p e s m below meth c ls E hw hR hS hl
  have hl : lv_has ls 3 [(0, .ref (ad g a0)), (1, .int x1)] := hl
  generalize ([.ref (ad g a0), .int x1] : List Value).toArray = args at E ⊢
  have E : EN p s m args meth c cX10_sign 3 (some .int) RX10 g := E
  have hx := E.1
  have hb := E.2.1
  unfold f_X10_sign at hf
  refine lv_aload_n hx hb dX10_sign_0 rfl (lv_at hl 0 rfl) ?_
  obtain ⟨b1, hb1, hf⟩ := hf
  refine hw_getR E hR cI9 hs0 0 (by decide) lfX10_10 rfl hb1 dX10_sign_1 ?_
  obtain ⟨h2, hf⟩ := hf
  refine hw_getI E hR cI5 h2 1 (by decide) lfX10_81 rfl dX10_sign_4 ?_
  refine lv_iconst (v := 4) hx hb dX10_sign_7 (by decide) ?_
  refine lv_iadd hx hb dX10_sign_8 ?_
  refine lv_bipush (v := 100) hx hb dX10_sign_9 (by decide) ?_
  refine lv_icmp_le (tgt := 16) hx hb dX10_sign_11 (by decide) (fun c3 => ?_) (fun c3 => ?_)
  · replace hf := hf.1 c3
    refine lv_bipush (v := 24) hx hb dX10_sign_16 (by decide) ?_
    refine lv_istore_n (lv' := [(2, .int (24 : Int32)), (0, .ref (ad g a0)), (1, .int x1)]) hx hb dX10_sign_18 rfl hl (by decide) rfl (fun ls hl => ?_)
    obtain ⟨n19, hf⟩ := hf
    refine w_X10_sign_L19 _ _ _ _ E hw hs0 ?_ n19 _ _ hf _ _ _ hR hS (lv_sub hl [1, 2, 0] rfl)
    intro m16 H locs ls hf hR hS hl
    refine lv_aload_n hx hb dX10_sign_65 rfl (lv_at hl 0 rfl) ?_
    obtain ⟨b17, hb17, hf⟩ := hf
    refine hw_getR E hR cI9 hs0 0 (by decide) lfX10_10 rfl hb17 dX10_sign_66 ?_
    obtain ⟨h18, hf⟩ := hf
    refine hw_getI E hR cI5 h18 1 (by decide) lfX10_81 rfl dX10_sign_69 ?_
    exact hw_iret E hR hS ⟨_, rfl, hf⟩ dX10_sign_72
  · replace hf := hf.2 c3
    refine lv_iconst (v := -1) hx hb dX10_sign_14 (by decide) ?_
    exact hw_iret E hR hS ⟨_, rfl, hf⟩ dX10_sign_15
def f_X10_end (S : Ss) (a0 : Nat) (x1 : Int32) (M : Mm) (K : Int32 → Mm → Prop) : Prop :=
  ((x1 < 0 →
    K (0 : Int32) M) ∧
   (¬ x1 < 0 →
    ∃ b2 : Nat, M.2.2 a0 0 = some b2 ∧
    S[b2]? = some (5, 0) ∧
    ((x1 ≤ (M.1 b2 1) →
      ∃ b5 : Nat, M.2.2 a0 0 = some b5 ∧
      S[b5]? = some (5, 0) ∧
      ∀ m7 : Mm, m7 = stI M b5 1 x1 →
      K (1 : Int32) m7) ∧
     (¬ x1 ≤ (M.1 b2 1) →
      K (0 : Int32) M))))
set_option maxHeartbeats 4000000 in
set_option maxRecDepth 100000 in
theorem ok_X10_end {l : Launch} {g : Gg} {S : Ss} {a0 : Nat} {x1 : Int32} {M : Mm} {K : Int32 → Mm → Prop} (hs0 : S[a0]? = some (9, 0)) (hf : f_X10_end S a0 x1 M K) : MT l g S yX10_end cX10_end 2 (some .boolean) 0 [.ref (ad g a0), .int x1] M (pI K) := by
  refine MT.of (by decide +kernel) (Nat.le_of_ble_eq_true rfl) ?_
  intro p e s m below meth c ls E hw hR hS hl
  have hl : lv_has ls 2 [(0, .ref (ad g a0)), (1, .int x1)] := hl
  generalize ([.ref (ad g a0), .int x1] : List Value).toArray = args at E ⊢
  have E : EN p s m args meth c cX10_end 2 (some .boolean) RX10 g := E
  have hx := E.1
  have hb := E.2.1
  unfold f_X10_end at hf
  refine lv_iload_n hx hb dX10_end_0 rfl (lv_at hl 1 rfl) ?_
  refine lv_if_lt (tgt := 15) hx hb dX10_end_1 (by decide) (fun c1 => ?_) (fun c1 => ?_)
  · replace hf := hf.1 c1
    refine lv_iconst (v := 0) hx hb dX10_end_15 (by decide) ?_
    exact hw_zret E hR hS (by decide) ⟨_, rfl, hf⟩ dX10_end_16
  · replace hf := hf.2 c1
    refine lv_iload_n hx hb dX10_end_4 rfl (lv_at hl 1 rfl) ?_
    refine lv_aload_n hx hb dX10_end_5 rfl (lv_at hl 0 rfl) ?_
    obtain ⟨b2, hb2, hf⟩ := hf
    refine hw_getR E hR cI9 hs0 0 (by decide) lfX10_10 rfl hb2 dX10_end_6 ?_
    obtain ⟨h3, hf⟩ := hf
    refine hw_getI E hR cI5 h3 1 (by decide) lfX10_81 rfl dX10_end_9 ?_
    refine lv_icmp_le (tgt := 17) hx hb dX10_end_12 (by decide) (fun c4 => ?_) (fun c4 => ?_)
    · replace hf := hf.1 c4
      refine lv_aload_n hx hb dX10_end_17 rfl (lv_at hl 0 rfl) ?_
      obtain ⟨b5, hb5, hf⟩ := hf
      refine hw_getR E hR cI9 hs0 0 (by decide) lfX10_10 rfl hb5 dX10_end_18 ?_
      refine lv_iload_n hx hb dX10_end_21 rfl (lv_at hl 1 rfl) ?_
      obtain ⟨h6, hf⟩ := hf
      refine hw_putI E hR hS hw cI5 h6 1 (by decide) lfX10_81 rfl (Or.inl rfl) dX10_end_22 (fun m7 H locs em7 hR hS => ?_)
      replace hf := hf m7 em7
      refine lv_iconst (v := 1) hx hb dX10_end_25 (by decide) ?_
      exact hw_zret E hR hS (by decide) ⟨_, rfl, hf⟩ dX10_end_26
    · replace hf := hf.2 c4
      refine lv_iconst (v := 0) hx hb dX10_end_15 (by decide) ?_
      exact hw_zret E hR hS (by decide) ⟨_, rfl, hf⟩ dX10_end_16
def f_X10_forgetKept_B2 (S : Ss) (a0 : Nat) (x1 : Int32) (M : Mm) (BK2 : Int32 → Mm → Prop) (EK2 : Mm → Prop) (K : Mm → Prop) : Prop :=
  (((3 : Int32) ≤ x1 →
    EK2 M) ∧
   (¬ (3 : Int32) ≤ x1 →
    ∃ b2 : Nat, M.2.2 a0 9 = some b2 ∧
    ∃ n3 : Nat, S[b2]? = some (54, n3) ∧ vp_in x1 n3 ∧
    ∃ b4 : Nat, M.2.2 b2 x1.toNatClampNeg = some b4 ∧
    S[b4]? = some (1, 0) ∧
    ∀ m6 : Mm, m6 = stI M b4 4 (0 : Int32) →
    ∀ v7 : Int32, v7 = x1 + (1 : Int32) →
    BK2 v7 m6))
set_option maxHeartbeats 4000000 in
set_option maxRecDepth 100000 in
theorem w_X10_forgetKept_B2 {p : Program} {l : Launch} {e : Env} {s : State} {m : MethodId} {args : Array Value} {below : List Frame} {meth : Method} {c : Code} {g : Gg} {S : Ss} (a0 : Nat) (x1 : Int32) (M : Mm) (BK2 : Int32 → Mm → Prop) (EK2 : Mm → Prop) (K : Mm → Prop) (E : EN p s m args meth c cX10_forgetKept 2 none RX10 g) (hw : ad g 100000 < s.heap.size) (hs0 : S[a0]? = some (9, 0)) (hBK2 : ∀ (x1' : Int32) (M' : Mm) (H : Heap) (locs : List Loc) (ls : Array Slot), BK2 x1' M' → RP g S M' H → va_S (gA g) s.heap H locs → lv_has ls 2 [(0, .ref (ad g a0)), (1, .int x1')] → W p l e (rmD 0) s m args below meth c H locs 0 0 (MQ below (QA g S (pV K)) args s 0 0 (gA g)) (F0 m 2 ls [])) (hEK2 : ∀ (M' : Mm) (H : Heap) (locs : List Loc) (ls : Array Slot), EK2 M' → RP g S M' H → va_S (gA g) s.heap H locs → lv_has ls 2 [] → W p l e (rmD 0) s m args below meth c H locs 0 0 (MQ below (QA g S (pV K)) args s 0 0 (gA g)) (F0 m 23 ls [])) (hf : f_X10_forgetKept_B2 S a0 x1 M BK2 EK2 K) (H : Heap) (locs : List Loc) (ls : Array Slot) (hR : RP g S M H) (hS : va_S (gA g) s.heap H locs) (hl : lv_has ls 2 [(0, .ref (ad g a0)), (1, .int x1)]) : W p l e (rmD 0) s m args below meth c H locs 0 0 (MQ below (QA g S (pV K)) args s 0 0 (gA g)) (F0 m 2 ls []) := by
  have hx := E.1
  have hb := E.2.1
  unfold f_X10_forgetKept_B2 at hf
  refine lv_iload_n hx hb dX10_forgetKept_2 rfl (lv_at hl 1 rfl) ?_
  refine lv_iconst (v := 3) hx hb dX10_forgetKept_3 (by decide) ?_
  refine lv_icmp_ge (tgt := 23) hx hb dX10_forgetKept_4 (by decide) (fun c1 => ?_) (fun c1 => ?_)
  · replace hf := hf.1 c1
    exact hEK2  _ _ _ _ hf hR hS (lv_sub hl [] rfl)
  · replace hf := hf.2 c1
    refine lv_aload_n hx hb dX10_forgetKept_7 rfl (lv_at hl 0 rfl) ?_
    obtain ⟨b2, hb2, hf⟩ := hf
    refine hw_getR E hR cI9 hs0 9 (by decide) lfX10_65 rfl hb2 dX10_forgetKept_8 ?_
    refine lv_iload_n hx hb dX10_forgetKept_11 rfl (lv_at hl 1 rfl) ?_
    obtain ⟨n3, hn3, in3, hf⟩ := hf
    obtain ⟨b4, hb4, hf⟩ := hf
    refine hw_aaldS E hR (t := 54) (by decide) hn3 in3 hb4 dX10_forgetKept_12 ?_
    refine lv_iconst (v := 0) hx hb dX10_forgetKept_13 (by decide) ?_
    obtain ⟨h5, hf⟩ := hf
    refine hw_putI E hR hS hw cI1 h5 4 (by decide) lfX10_338 rfl (Or.inr ⟨rfl, by decide⟩) dX10_forgetKept_14 (fun m6 H locs em6 hR hS => ?_)
    replace hf := hf m6 em6
    obtain ⟨v7, ev7⟩ : ∃ y : Int32, y = x1 + (1 : Int32) := ⟨_, rfl⟩
    replace hf := hf v7 ev7
    refine lv_iinc (v := v7) (lv' := [(1, .int v7), (0, .ref (ad g a0))]) hx hb dX10_forgetKept_17 hl (k := 1) rfl (by rw [ev7]; rfl) (by decide) rfl (fun ls hl => ?_)
    refine lv_goto (tgt := 2) hx hb dX10_forgetKept_20 (by decide) ?_
    exact hBK2 _ _ _ _ _ hf hR hS (lv_sub hl [1, 0] rfl)
def f_X10_forgetKept_L2 (S : Ss) (a0 : Nat) (EK2 : Mm → Prop) (K : Mm → Prop) : Nat → Int32 → Mm → Prop
  | 0, _, _ => False
  | n + 1, x1, M => f_X10_forgetKept_B2 S a0 x1 M (fun (x1 : Int32) (M : Mm) => f_X10_forgetKept_L2 S a0 EK2 K n x1 M) EK2 K
set_option maxHeartbeats 4000000 in
set_option maxRecDepth 100000 in
theorem w_X10_forgetKept_L2 {p : Program} {l : Launch} {e : Env} {s : State} {m : MethodId} {args : Array Value} {below : List Frame} {meth : Method} {c : Code} {g : Gg} {S : Ss} (a0 : Nat) (EK2 : Mm → Prop) (K : Mm → Prop) (E : EN p s m args meth c cX10_forgetKept 2 none RX10 g) (hw : ad g 100000 < s.heap.size) (hs0 : S[a0]? = some (9, 0)) (hEK2 : ∀ (M' : Mm) (H : Heap) (locs : List Loc) (ls : Array Slot), EK2 M' → RP g S M' H → va_S (gA g) s.heap H locs → lv_has ls 2 [] → W p l e (rmD 0) s m args below meth c H locs 0 0 (MQ below (QA g S (pV K)) args s 0 0 (gA g)) (F0 m 23 ls [])) : ∀ (n : Nat) (x1 : Int32) (M : Mm), f_X10_forgetKept_L2 S a0 EK2 K n x1 M → ∀ (H : Heap) (locs : List Loc) (ls : Array Slot), RP g S M H → va_S (gA g) s.heap H locs → lv_has ls 2 [(0, .ref (ad g a0)), (1, .int x1)] → W p l e (rmD 0) s m args below meth c H locs 0 0 (MQ below (QA g S (pV K)) args s 0 0 (gA g)) (F0 m 2 ls []) := by
  intro n
  induction n with
  | zero => intro x1 M hf; exact hf.elim
  | succ n ih =>
    intro x1 M hf H locs ls hR hS hl
    exact w_X10_forgetKept_B2 _ _ _ _ _ _ E hw hs0 (fun _ M H locs ls h hR hS hl => ih _ M h H locs ls hR hS hl) hEK2 hf H locs ls hR hS hl
def f_X10_forgetKept (S : Ss) (a0 : Nat) (M : Mm) (K : Mm → Prop) : Prop :=
  ∃ n9 : Nat, f_X10_forgetKept_L2 S a0 (fun (m8 : Mm) =>
    K m8) K n9 (0 : Int32) M
set_option maxHeartbeats 4000000 in
set_option maxRecDepth 100000 in
theorem ok_X10_forgetKept {l : Launch} {g : Gg} {S : Ss} {a0 : Nat} {M : Mm} {K : Mm → Prop} (hs0 : S[a0]? = some (9, 0)) (hf : f_X10_forgetKept S a0 M K) : MT l g S yX10_forgetKept cX10_forgetKept 2 none 0 [.ref (ad g a0)] M (pV K) := by
  refine MT.of (by decide +kernel) (Nat.le_of_ble_eq_true rfl) ?_
  intro p e s m below meth c ls E hw hR hS hl
  have hl : lv_has ls 2 [(0, .ref (ad g a0))] := hl
  generalize ([.ref (ad g a0)] : List Value).toArray = args at E ⊢
  have E : EN p s m args meth c cX10_forgetKept 2 none RX10 g := E
  have hx := E.1
  have hb := E.2.1
  unfold f_X10_forgetKept at hf
  refine lv_iconst (v := 0) hx hb dX10_forgetKept_0 (by decide) ?_
  refine lv_istore_n (lv' := [(1, .int (0 : Int32)), (0, .ref (ad g a0))]) hx hb dX10_forgetKept_1 rfl hl (by decide) rfl (fun ls hl => ?_)
  obtain ⟨n9, hf⟩ := hf
  refine w_X10_forgetKept_L2 _ _ _ E hw hs0 ?_ n9 _ _ hf _ _ _ hR hS (lv_sub hl [1, 0] rfl)
  intro m8 H locs ls hf hR hS hl
  exact hw_vret E hR hS ⟨rfl, hf⟩ dX10_forgetKept_23
def f_X10_takeText (S : Ss) (a0 : Nat) (M : Mm) (K : Int32 → Mm → Prop) : Prop :=
  ∃ b1 : Nat, M.2.2 a0 0 = some b1 ∧
  S[b1]? = some (5, 0) ∧
  ∀ v3 : Int32, v3 = (M.1 b1 1) →
  ∃ b4 : Nat, M.2.2 a0 0 = some b4 ∧
  S[b4]? = some (5, 0) ∧
  ∀ m6 : Mm, m6 = stI M b4 1 (0 : Int32) →
  K v3 m6
set_option maxHeartbeats 4000000 in
set_option maxRecDepth 100000 in
theorem ok_X10_takeText {l : Launch} {g : Gg} {S : Ss} {a0 : Nat} {M : Mm} {K : Int32 → Mm → Prop} (hs0 : S[a0]? = some (9, 0)) (hf : f_X10_takeText S a0 M K) : MT l g S yX10_takeText cX10_takeText 2 (some .int) 0 [.ref (ad g a0)] M (pI K) := by
  refine MT.of (by decide +kernel) (Nat.le_of_ble_eq_true rfl) ?_
  intro p e s m below meth c ls E hw hR hS hl
  have hl : lv_has ls 2 [(0, .ref (ad g a0))] := hl
  generalize ([.ref (ad g a0)] : List Value).toArray = args at E ⊢
  have E : EN p s m args meth c cX10_takeText 2 (some .int) RX10 g := E
  have hx := E.1
  have hb := E.2.1
  unfold f_X10_takeText at hf
  refine lv_aload_n hx hb dX10_takeText_0 rfl (lv_at hl 0 rfl) ?_
  obtain ⟨b1, hb1, hf⟩ := hf
  refine hw_getR E hR cI9 hs0 0 (by decide) lfX10_10 rfl hb1 dX10_takeText_1 ?_
  obtain ⟨h2, hf⟩ := hf
  refine hw_getI E hR cI5 h2 1 (by decide) lfX10_81 rfl dX10_takeText_4 ?_
  refine lv_topi (fun v3 ev3 => ?_)
  replace hf := hf v3 ev3
  refine lv_istore_n (lv' := [(1, .int v3), (0, .ref (ad g a0))]) hx hb dX10_takeText_7 rfl hl (by decide) rfl (fun ls hl => ?_)
  refine lv_aload_n hx hb dX10_takeText_8 rfl (lv_at hl 1 rfl) ?_
  obtain ⟨b4, hb4, hf⟩ := hf
  refine hw_getR E hR cI9 hs0 0 (by decide) lfX10_10 rfl hb4 dX10_takeText_9 ?_
  refine lv_iconst (v := 0) hx hb dX10_takeText_12 (by decide) ?_
  obtain ⟨h5, hf⟩ := hf
  refine hw_putI E hR hS hw cI5 h5 1 (by decide) lfX10_81 rfl (Or.inl rfl) dX10_takeText_13 (fun m6 H locs em6 hR hS => ?_)
  replace hf := hf m6 em6
  refine lv_iload_n hx hb dX10_takeText_16 rfl (lv_at hl 0 rfl) ?_
  exact hw_iret E hR hS ⟨_, rfl, hf⟩ dX10_takeText_17
def f_X10_task_J96 (S : Ss) (a0 : Nat) (x1 : Int32) (M : Mm) (K : Int32 → Mm → Prop) : Prop :=
  ∃ b32 : Nat, M.2.2 a0 3 = some b32 ∧
  S[b32]? = some (3, 0) ∧
  f_X4_putLine S b32 x1 (0 : Int32) M (fun (m33 : Mm) =>
    f_X10_forgetKept S a0  m33 (fun (m35 : Mm) =>
    ∃ b36 : Nat, m35.2.2 a0 2 = some b36 ∧
  S[b36]? = some (2, 0) ∧
  ∃ b38 : Nat, m35.2.2 b36 0 = some b38 ∧
  ∃ n39 : Nat, S[b38]? = some (55, n39) ∧ vp_in x1 n39 ∧
  ∃ b40 : Nat, m35.2.2 b38 x1.toNatClampNeg = some b40 ∧
  S[b40]? = some (4, 0) ∧
  K (m35.1 b40 6) m35))
set_option maxHeartbeats 4000000 in
set_option maxRecDepth 100000 in
theorem w_X10_task_J96 {p : Program} {l : Launch} {e : Env} {s : State} {m : MethodId} {args : Array Value} {below : List Frame} {meth : Method} {c : Code} {g : Gg} {S : Ss} (a0 : Nat) (x1 : Int32) (M : Mm) (K : Int32 → Mm → Prop) (E : EN p s m args meth c cX10_task 4 (some .int) RX10 g) (hw : ad g 100000 < s.heap.size) (hs0 : S[a0]? = some (9, 0)) (hf : f_X10_task_J96 S a0 x1 M K) (H : Heap) (locs : List Loc) (ls : Array Slot) (hR : RP g S M H) (hS : va_S (gA g) s.heap H locs) (hl : lv_has ls 4 [(0, .ref (ad g a0)), (1, .int x1)]) : W p l e (rmD 7) s m args below meth c H locs 0 0 (MQ below (QA g S (pI K)) args s 0 0 (gA g)) (F0 m 96 ls []) := by
  have hx := E.1
  have hb := E.2.1
  unfold f_X10_task_J96 at hf
  refine lv_aload_n hx hb dX10_task_96 rfl (lv_at hl 0 rfl) ?_
  obtain ⟨b32, hb32, hf⟩ := hf
  refine hw_getR E hR cI9 hs0 3 (by decide) lfX10_31 rfl hb32 dX10_task_97 ?_
  refine lv_iload_n hx hb dX10_task_100 rfl (lv_at hl 1 rfl) ?_
  refine lv_iconst (v := 0) hx hb dX10_task_101 (by decide) ?_
  obtain ⟨h34, hf⟩ := hf
  refine hw_callV (d := 7) E hR hS (As := [.int x1, .int (0 : Int32)]) (rest := []) cI3 h34 rfl mcX4_putLine miX4_putLine lmX10_109 (ok_X4_putLine h34 hf) rfl rfl (by decide) hl.1 (Nat.le_of_ble_eq_true rfl) dX10_task_102 (fun rr m33 H locs hp hR hS => ?_)
  obtain ⟨rfl, hf⟩ := hp
  refine W.eq (g2 := F0 m 105 ls []) rfl ?_
  refine lv_aload_n hx hb dX10_task_105 rfl (lv_at hl 0 rfl) ?_
  refine hw_callV (d := 7) E hR hS (As := []) (rest := []) cI9 hs0 rfl mcX10_forgetKept miX10_forgetKept lmX10_113 (ok_X10_forgetKept hs0 hf) rfl rfl (by decide) hl.1 (Nat.le_of_ble_eq_true rfl) dX10_task_106 (fun rr m35 H locs hp hR hS => ?_)
  obtain ⟨rfl, hf⟩ := hp
  refine W.eq (g2 := F0 m 109 ls []) rfl ?_
  refine lv_aload_n hx hb dX10_task_109 rfl (lv_at hl 0 rfl) ?_
  obtain ⟨b36, hb36, hf⟩ := hf
  refine hw_getR E hR cI9 hs0 2 (by decide) lfX10_27 rfl hb36 dX10_task_110 ?_
  obtain ⟨h37, hf⟩ := hf
  obtain ⟨b38, hb38, hf⟩ := hf
  refine hw_getR E hR cI2 h37 0 (by decide) lfX10_101 rfl hb38 dX10_task_113 ?_
  refine lv_iload_n hx hb dX10_task_116 rfl (lv_at hl 1 rfl) ?_
  obtain ⟨n39, hn39, in39, hf⟩ := hf
  obtain ⟨b40, hb40, hf⟩ := hf
  refine hw_aaldS E hR (t := 55) (by decide) hn39 in39 hb40 dX10_task_117 ?_
  obtain ⟨h41, hf⟩ := hf
  refine hw_getI E hR cI4 h41 6 (by decide) lfX10_116 rfl dX10_task_118 ?_
  exact hw_iret E hR hS ⟨_, rfl, hf⟩ dX10_task_121
def f_X10_task (S : Ss) (a0 : Nat) (x1 : Int32) (M : Mm) (K : Int32 → Mm → Prop) : Prop :=
  f_X10_takeText S a0  M (fun (r2 : Int32) (m1 : Mm) =>
    ((x1 < 0 →
    K (-100 : Int32) m1) ∧
   (¬ x1 < 0 →
    ∃ b4 : Nat, m1.2.2 a0 2 = some b4 ∧
    S[b4]? = some (2, 0) ∧
    (((m1.1 b4 10) < x1 →
      K (-100 : Int32) m1) ∧
     (¬ (m1.1 b4 10) < x1 →
      ((x1 < (4 : Int32) →
        ∃ b8 : Nat, m1.2.2 a0 0 = some b8 ∧
        S[b8]? = some (5, 0) ∧
        f_X6_readLines S b8 r2 (16 : Int32) m1 (fun (r11 : Int32) (m9 : Mm) =>
          ((r11 < 0 →
          ∃ b13 : Nat, m9.2.2 a0 2 = some b13 ∧
          S[b13]? = some (2, 0) ∧
          ∃ b15 : Nat, m9.2.2 b13 0 = some b15 ∧
          ∃ b16 : Nat, m9.2.2 a0 0 = some b16 ∧
          ∃ b17 : Nat, m9.2.2 a0 2 = some b17 ∧
          S[b17]? = some (2, 0) ∧
          ∃ b19 : Nat, m9.2.2 b17 0 = some b19 ∧
          ∃ n20 : Nat, S[b19]? = some (55, n20) ∧ vp_in x1 n20 ∧
          ∃ b21 : Nat, m9.2.2 b19 x1.toNatClampNeg = some b21 ∧
          S[b16]? = some (5, 0) ∧
          S[b21]? = some (4, 0) ∧
          f_X6_exchange S b16 b21 m9 (fun (r25 : Nat) (m22 : Mm) =>
            S[r25]? = some (4, 0) ∧
          ∃ n26 : Nat, S[b15]? = some (55, n26) ∧ vp_in x1 n26 ∧
          ∀ m27 : Mm, m27 = stR m22 b15 x1.toNatClampNeg (some r25) →
          ∃ b29 : Nat, m27.2.2 a0 2 = some b29 ∧
          S[b29]? = some (2, 0) ∧
          ((x1 = (m27.1 b29 10) →
            ∃ b42 : Nat, m27.2.2 a0 2 = some b42 ∧
            S[b42]? = some (2, 0) ∧
            ∀ m44 : Mm, m44 = stI m27 b42 10 ((m27.1 b42 10) + (1 : Int32)) →
            f_X10_task_J96 S a0 x1 m44 K) ∧
           (¬ x1 = (m27.1 b29 10) →
            f_X10_task_J96 S a0 x1 m27 K)))) ∧
         (¬ r11 < 0 →
          K ((-1 : Int32) - r11) m9)))) ∧
       (¬ x1 < (4 : Int32) →
        K (-100 : Int32) m1)))))))
set_option maxHeartbeats 4000000 in
set_option maxRecDepth 100000 in
theorem ok_X10_task {l : Launch} {g : Gg} {S : Ss} {a0 : Nat} {x1 : Int32} {M : Mm} {K : Int32 → Mm → Prop} (hs0 : S[a0]? = some (9, 0)) (hf : f_X10_task S a0 x1 M K) : MT l g S yX10_task cX10_task 4 (some .int) 7 [.ref (ad g a0), .int x1] M (pI K) := by
  refine MT.of (by decide +kernel) (Nat.le_of_ble_eq_true rfl) ?_
  intro p e s m below meth c ls E hw hR hS hl
  have hl : lv_has ls 4 [(0, .ref (ad g a0)), (1, .int x1)] := hl
  generalize ([.ref (ad g a0), .int x1] : List Value).toArray = args at E ⊢
  have E : EN p s m args meth c cX10_task 4 (some .int) RX10 g := E
  have hx := E.1
  have hb := E.2.1
  unfold f_X10_task at hf
  refine lv_aload_n hx hb dX10_task_0 rfl (lv_at hl 0 rfl) ?_
  refine hw_callV (d := 7) E hR hS (As := []) (rest := []) cI9 hs0 rfl mcX10_takeText miX10_takeText lmX10_88 (ok_X10_takeText hs0 hf) rfl rfl (by decide) hl.1 (Nat.le_of_ble_eq_true rfl) dX10_task_1 (fun rr m1 H locs hp hR hS => ?_)
  obtain ⟨r2, rfl, hf⟩ := hp
  refine W.eq (g2 := F0 m 4 ls [.int r2]) rfl ?_
  refine lv_istore_n (lv' := [(2, .int r2), (0, .ref (ad g a0)), (1, .int x1)]) hx hb dX10_task_4 rfl hl (by decide) rfl (fun ls hl => ?_)
  refine lv_iload_n hx hb dX10_task_5 rfl (lv_at hl 2 rfl) ?_
  refine lv_if_lt (tgt := 25) hx hb dX10_task_6 (by decide) (fun c3 => ?_) (fun c3 => ?_)
  · replace hf := hf.1 c3
    refine lv_bipush (v := -100) hx hb dX10_task_25 (by decide) ?_
    exact hw_iret E hR hS ⟨_, rfl, hf⟩ dX10_task_27
  · replace hf := hf.2 c3
    refine lv_iload_n hx hb dX10_task_9 rfl (lv_at hl 2 rfl) ?_
    refine lv_aload_n hx hb dX10_task_10 rfl (lv_at hl 1 rfl) ?_
    obtain ⟨b4, hb4, hf⟩ := hf
    refine hw_getR E hR cI9 hs0 2 (by decide) lfX10_27 rfl hb4 dX10_task_11 ?_
    obtain ⟨h5, hf⟩ := hf
    refine hw_getI E hR cI2 h5 10 (by decide) lfX10_92 rfl dX10_task_14 ?_
    refine lv_icmp_gt (tgt := 25) hx hb dX10_task_17 (by decide) (fun c6 => ?_) (fun c6 => ?_)
    · replace hf := hf.1 c6
      refine lv_bipush (v := -100) hx hb dX10_task_25 (by decide) ?_
      exact hw_iret E hR hS ⟨_, rfl, hf⟩ dX10_task_27
    · replace hf := hf.2 c6
      refine lv_iload_n hx hb dX10_task_20 rfl (lv_at hl 2 rfl) ?_
      refine lv_iconst (v := 4) hx hb dX10_task_21 (by decide) ?_
      refine lv_icmp_lt (tgt := 28) hx hb dX10_task_22 (by decide) (fun c7 => ?_) (fun c7 => ?_)
      · replace hf := hf.1 c7
        refine lv_aload_n hx hb dX10_task_28 rfl (lv_at hl 1 rfl) ?_
        obtain ⟨b8, hb8, hf⟩ := hf
        refine hw_getR E hR cI9 hs0 0 (by decide) lfX10_10 rfl hb8 dX10_task_29 ?_
        refine lv_iload_n hx hb dX10_task_32 rfl (lv_at hl 0 rfl) ?_
        refine lv_bipush (v := 16) hx hb dX10_task_33 (by decide) ?_
        obtain ⟨h10, hf⟩ := hf
        refine hw_callV (d := 7) E hR hS (As := [.int r2, .int (16 : Int32)]) (rest := []) cI5 h10 rfl mcX6_readLines miX6_readLines lmX10_97 (ok_X6_readLines h10 hf) rfl rfl (by decide) hl.1 (Nat.le_of_ble_eq_true rfl) dX10_task_35 (fun rr m9 H locs hp hR hS => ?_)
        obtain ⟨r11, rfl, hf⟩ := hp
        refine W.eq (g2 := F0 m 38 ls [.int r11]) rfl ?_
        refine lv_istore_n (lv' := [(3, .int r11), (2, .int r2), (0, .ref (ad g a0)), (1, .int x1)]) hx hb dX10_task_38 rfl hl (by decide) rfl (fun ls hl => ?_)
        refine lv_iload_n hx hb dX10_task_39 rfl (lv_at hl 0 rfl) ?_
        refine lv_if_lt (tgt := 47) hx hb dX10_task_40 (by decide) (fun c12 => ?_) (fun c12 => ?_)
        · replace hf := hf.1 c12
          refine lv_aload_n hx hb dX10_task_47 rfl (lv_at hl 2 rfl) ?_
          obtain ⟨b13, hb13, hf⟩ := hf
          refine hw_getR E hR cI9 hs0 2 (by decide) lfX10_27 rfl hb13 dX10_task_48 ?_
          obtain ⟨h14, hf⟩ := hf
          obtain ⟨b15, hb15, hf⟩ := hf
          refine hw_getR E hR cI2 h14 0 (by decide) lfX10_101 rfl hb15 dX10_task_51 ?_
          refine lv_iload_n hx hb dX10_task_54 rfl (lv_at hl 3 rfl) ?_
          refine lv_aload_n hx hb dX10_task_55 rfl (lv_at hl 2 rfl) ?_
          obtain ⟨b16, hb16, hf⟩ := hf
          refine hw_getR E hR cI9 hs0 0 (by decide) lfX10_10 rfl hb16 dX10_task_56 ?_
          refine lv_aload_n hx hb dX10_task_59 rfl (lv_at hl 2 rfl) ?_
          obtain ⟨b17, hb17, hf⟩ := hf
          refine hw_getR E hR cI9 hs0 2 (by decide) lfX10_27 rfl hb17 dX10_task_60 ?_
          obtain ⟨h18, hf⟩ := hf
          obtain ⟨b19, hb19, hf⟩ := hf
          refine hw_getR E hR cI2 h18 0 (by decide) lfX10_101 rfl hb19 dX10_task_63 ?_
          refine lv_iload_n hx hb dX10_task_66 rfl (lv_at hl 3 rfl) ?_
          obtain ⟨n20, hn20, in20, hf⟩ := hf
          obtain ⟨b21, hb21, hf⟩ := hf
          refine hw_aaldS E hR (t := 55) (by decide) hn20 in20 hb21 dX10_task_67 ?_
          obtain ⟨h23, hf⟩ := hf
          obtain ⟨h24, hf⟩ := hf
          refine hw_callV (d := 7) E hR hS (As := [.ref (ad g b21)]) (rest := [.int x1, .ref (ad g b15)]) cI5 h23 rfl mcX6_exchange miX6_exchange lmX10_105 (ok_X6_exchange h23 h24 hf) rfl rfl (by decide) hl.1 (Nat.le_of_ble_eq_true rfl) dX10_task_68 (fun rr m22 H locs hp hR hS => ?_)
          obtain ⟨r25, rfl, hf⟩ := hp
          refine W.eq (g2 := F0 m 71 ls [.ref (ad g r25), .int x1, .ref (ad g b15)]) rfl ?_
          obtain ⟨h28, hf⟩ := hf
          obtain ⟨n26, hn26, in26, hf⟩ := hf
          refine hw_aast55 E hR hS hw hn26 h28 in26 dX10_task_71 (fun m27 H locs em27 hR hS => ?_)
          replace hf := hf m27 em27
          refine lv_iload_n hx hb dX10_task_72 rfl (lv_at hl 3 rfl) ?_
          refine lv_aload_n hx hb dX10_task_73 rfl (lv_at hl 2 rfl) ?_
          obtain ⟨b29, hb29, hf⟩ := hf
          refine hw_getR E hR cI9 hs0 2 (by decide) lfX10_27 rfl hb29 dX10_task_74 ?_
          obtain ⟨h30, hf⟩ := hf
          refine hw_getI E hR cI2 h30 10 (by decide) lfX10_92 rfl dX10_task_77 ?_
          refine lv_icmp_ne (tgt := 96) hx hb dX10_task_80 (by decide) (fun c31 => ?_) (fun c31 => ?_)
          · replace hf := hf.2 c31
            exact w_X10_task_J96 _ _ _ _ E hw hs0 hf _ _ _ hR hS (lv_sub hl [2, 3] rfl)
          · replace hf := hf.1 c31
            refine lv_aload_n hx hb dX10_task_83 rfl (lv_at hl 2 rfl) ?_
            obtain ⟨b42, hb42, hf⟩ := hf
            refine hw_getR E hR cI9 hs0 2 (by decide) lfX10_27 rfl hb42 dX10_task_84 ?_
            refine lv_dup hx hb dX10_task_87 rfl ?_
            obtain ⟨h43, hf⟩ := hf
            refine hw_getI E hR cI2 h43 10 (by decide) lfX10_92 rfl dX10_task_88 ?_
            refine lv_iconst (v := 1) hx hb dX10_task_91 (by decide) ?_
            refine lv_iadd hx hb dX10_task_92 ?_
            refine hw_putI E hR hS hw cI2 h43 10 (by decide) lfX10_92 rfl (Or.inl rfl) dX10_task_93 (fun m44 H locs em44 hR hS => ?_)
            replace hf := hf m44 em44
            exact w_X10_task_J96 _ _ _ _ E hw hs0 hf _ _ _ hR hS (lv_sub hl [2, 3] rfl)
        · replace hf := hf.2 c12
          refine lv_iconst (v := -1) hx hb dX10_task_43 (by decide) ?_
          refine lv_iload_n hx hb dX10_task_44 rfl (lv_at hl 0 rfl) ?_
          refine lv_isub hx hb dX10_task_45 ?_
          exact hw_iret E hR hS ⟨_, rfl, hf⟩ dX10_task_46
      · replace hf := hf.2 c7
        refine lv_bipush (v := -100) hx hb dX10_task_25 (by decide) ?_
        exact hw_iret E hR hS ⟨_, rfl, hf⟩ dX10_task_27
def f_X10_must (S : Ss) (a0 : Nat) (M : Mm) (K : Int32 → Mm → Prop) : Prop :=
  f_X10_takeText S a0  M (fun (r2 : Int32) (m1 : Mm) =>
    ((r2 = 0 →
    ∃ b20 : Nat, m1.2.2 a0 2 = some b20 ∧
    S[b20]? = some (2, 0) ∧
    ∃ b22 : Nat, m1.2.2 b20 8 = some b22 ∧
    S[b22]? = some (4, 0) ∧
    f_X5_clear S b22  m1 (fun (m23 : Mm) =>
      K (0 : Int32) m23)) ∧
   (¬ r2 = 0 →
    ∃ b4 : Nat, m1.2.2 a0 0 = some b4 ∧
    S[b4]? = some (5, 0) ∧
    f_X6_readAsked S b4 r2 m1 (fun (r7 : Int32) (m5 : Mm) =>
      ((r7 < 0 →
      ∃ b9 : Nat, m5.2.2 a0 2 = some b9 ∧
      ∃ b10 : Nat, m5.2.2 a0 0 = some b10 ∧
      ∃ b11 : Nat, m5.2.2 a0 2 = some b11 ∧
      S[b11]? = some (2, 0) ∧
      ∃ b13 : Nat, m5.2.2 b11 8 = some b13 ∧
      S[b10]? = some (5, 0) ∧
      S[b13]? = some (4, 0) ∧
      f_X6_exchange S b10 b13 m5 (fun (r17 : Nat) (m14 : Mm) =>
        S[b9]? = some (2, 0) ∧
      ∀ m19 : Mm, m19 = stR m14 b9 8 (some r17) →
      K (0 : Int32) m19)) ∧
     (¬ r7 < 0 →
      K ((-1 : Int32) - r7) m5))))))
set_option maxHeartbeats 4000000 in
set_option maxRecDepth 100000 in
theorem ok_X10_must {l : Launch} {g : Gg} {S : Ss} {a0 : Nat} {M : Mm} {K : Int32 → Mm → Prop} (hs0 : S[a0]? = some (9, 0)) (hf : f_X10_must S a0 M K) : MT l g S yX10_must cX10_must 3 (some .int) 6 [.ref (ad g a0)] M (pI K) := by
  refine MT.of (by decide +kernel) (Nat.le_of_ble_eq_true rfl) ?_
  intro p e s m below meth c ls E hw hR hS hl
  have hl : lv_has ls 3 [(0, .ref (ad g a0))] := hl
  generalize ([.ref (ad g a0)] : List Value).toArray = args at E ⊢
  have E : EN p s m args meth c cX10_must 3 (some .int) RX10 g := E
  have hx := E.1
  have hb := E.2.1
  unfold f_X10_must at hf
  refine lv_aload_n hx hb dX10_must_0 rfl (lv_at hl 0 rfl) ?_
  refine hw_callV (d := 6) E hR hS (As := []) (rest := []) cI9 hs0 rfl mcX10_takeText miX10_takeText lmX10_88 (ok_X10_takeText hs0 hf) rfl rfl (by decide) hl.1 (Nat.le_of_ble_eq_true rfl) dX10_must_1 (fun rr m1 H locs hp hR hS => ?_)
  obtain ⟨r2, rfl, hf⟩ := hp
  refine W.eq (g2 := F0 m 4 ls [.int r2]) rfl ?_
  refine lv_istore_n (lv' := [(1, .int r2), (0, .ref (ad g a0))]) hx hb dX10_must_4 rfl hl (by decide) rfl (fun ls hl => ?_)
  refine lv_iload_n hx hb dX10_must_5 rfl (lv_at hl 0 rfl) ?_
  refine lv_if_ne (tgt := 21) hx hb dX10_must_6 (by decide) (fun c3 => ?_) (fun c3 => ?_)
  · replace hf := hf.2 c3
    refine lv_aload_n hx hb dX10_must_21 rfl (lv_at hl 1 rfl) ?_
    obtain ⟨b4, hb4, hf⟩ := hf
    refine hw_getR E hR cI9 hs0 0 (by decide) lfX10_10 rfl hb4 dX10_must_22 ?_
    refine lv_iload_n hx hb dX10_must_25 rfl (lv_at hl 0 rfl) ?_
    obtain ⟨h6, hf⟩ := hf
    refine hw_callV (d := 6) E hR hS (As := [.int r2]) (rest := []) cI5 h6 rfl mcX6_readAsked miX6_readAsked lmX10_128 (ok_X6_readAsked h6 hf) rfl rfl (by decide) hl.1 (Nat.le_of_ble_eq_true rfl) dX10_must_26 (fun rr m5 H locs hp hR hS => ?_)
    obtain ⟨r7, rfl, hf⟩ := hp
    refine W.eq (g2 := F0 m 29 ls [.int r7]) rfl ?_
    refine lv_istore_n (lv' := [(2, .int r7), (1, .int r2), (0, .ref (ad g a0))]) hx hb dX10_must_29 rfl hl (by decide) rfl (fun ls hl => ?_)
    refine lv_iload_n hx hb dX10_must_30 rfl (lv_at hl 0 rfl) ?_
    refine lv_if_lt (tgt := 38) hx hb dX10_must_31 (by decide) (fun c8 => ?_) (fun c8 => ?_)
    · replace hf := hf.1 c8
      refine lv_aload_n hx hb dX10_must_38 rfl (lv_at hl 2 rfl) ?_
      obtain ⟨b9, hb9, hf⟩ := hf
      refine hw_getR E hR cI9 hs0 2 (by decide) lfX10_27 rfl hb9 dX10_must_39 ?_
      refine lv_aload_n hx hb dX10_must_42 rfl (lv_at hl 2 rfl) ?_
      obtain ⟨b10, hb10, hf⟩ := hf
      refine hw_getR E hR cI9 hs0 0 (by decide) lfX10_10 rfl hb10 dX10_must_43 ?_
      refine lv_aload_n hx hb dX10_must_46 rfl (lv_at hl 2 rfl) ?_
      obtain ⟨b11, hb11, hf⟩ := hf
      refine hw_getR E hR cI9 hs0 2 (by decide) lfX10_27 rfl hb11 dX10_must_47 ?_
      obtain ⟨h12, hf⟩ := hf
      obtain ⟨b13, hb13, hf⟩ := hf
      refine hw_getR E hR cI2 h12 8 (by decide) lfX10_121 rfl hb13 dX10_must_50 ?_
      obtain ⟨h15, hf⟩ := hf
      obtain ⟨h16, hf⟩ := hf
      refine hw_callV (d := 6) E hR hS (As := [.ref (ad g b13)]) (rest := [.ref (ad g b9)]) cI5 h15 rfl mcX6_exchange miX6_exchange lmX10_105 (ok_X6_exchange h15 h16 hf) rfl rfl (by decide) hl.1 (Nat.le_of_ble_eq_true rfl) dX10_must_53 (fun rr m14 H locs hp hR hS => ?_)
      obtain ⟨r17, rfl, hf⟩ := hp
      refine W.eq (g2 := F0 m 56 ls [.ref (ad g r17), .ref (ad g b9)]) rfl ?_
      obtain ⟨h18, hf⟩ := hf
      refine hw_putR (o := (some r17)) E hR hS hw cI2 h18 8 (by decide) lfX10_121 rfl rfl dX10_must_56 (fun m19 H locs em19 hR hS => ?_)
      replace hf := hf m19 em19
      refine lv_iconst (v := 0) hx hb dX10_must_59 (by decide) ?_
      exact hw_iret E hR hS ⟨_, rfl, hf⟩ dX10_must_60
    · replace hf := hf.2 c8
      refine lv_iconst (v := -1) hx hb dX10_must_34 (by decide) ?_
      refine lv_iload_n hx hb dX10_must_35 rfl (lv_at hl 0 rfl) ?_
      refine lv_isub hx hb dX10_must_36 ?_
      exact hw_iret E hR hS ⟨_, rfl, hf⟩ dX10_must_37
  · replace hf := hf.1 c3
    refine lv_aload_n hx hb dX10_must_9 rfl (lv_at hl 1 rfl) ?_
    obtain ⟨b20, hb20, hf⟩ := hf
    refine hw_getR E hR cI9 hs0 2 (by decide) lfX10_27 rfl hb20 dX10_must_10 ?_
    obtain ⟨h21, hf⟩ := hf
    obtain ⟨b22, hb22, hf⟩ := hf
    refine hw_getR E hR cI2 h21 8 (by decide) lfX10_121 rfl hb22 dX10_must_13 ?_
    obtain ⟨h24, hf⟩ := hf
    refine hw_callV (d := 6) E hR hS (As := []) (rest := []) cI4 h24 rfl mcX5_clear miX5_clear lmX10_125 (ok_X5_clear h24 hf) rfl rfl (by decide) hl.1 (Nat.le_of_ble_eq_true rfl) dX10_must_16 (fun rr m23 H locs hp hR hS => ?_)
    obtain ⟨rfl, hf⟩ := hp
    refine W.eq (g2 := F0 m 19 ls []) rfl ?_
    refine lv_iconst (v := 0) hx hb dX10_must_19 (by decide) ?_
    exact hw_iret E hR hS ⟨_, rfl, hf⟩ dX10_must_20
def f_X10_bolt (S : Ss) (a0 : Nat) (M : Mm) (K : Int32 → Mm → Prop) : Prop :=
  f_X10_takeText S a0  M (fun (r2 : Int32) (m1 : Mm) =>
    ∃ b3 : Nat, m1.2.2 a0 2 = some b3 ∧
  S[b3]? = some (2, 0) ∧
  ∀ v5 : Int32, v5 = (m1.1 b3 11) →
  ((v5 < (3 : Int32) →
    ∃ b7 : Nat, m1.2.2 a0 0 = some b7 ∧
    S[b7]? = some (5, 0) ∧
    f_X6_readAsked S b7 r2 m1 (fun (r10 : Int32) (m8 : Mm) =>
      ((r10 < 0 →
      ∃ b12 : Nat, m8.2.2 a0 2 = some b12 ∧
      S[b12]? = some (2, 0) ∧
      ∃ b14 : Nat, m8.2.2 b12 1 = some b14 ∧
      ∃ b15 : Nat, m8.2.2 a0 0 = some b15 ∧
      ∃ b16 : Nat, m8.2.2 a0 2 = some b16 ∧
      S[b16]? = some (2, 0) ∧
      ∃ b18 : Nat, m8.2.2 b16 1 = some b18 ∧
      ∃ n19 : Nat, S[b18]? = some (55, n19) ∧ vp_in v5 n19 ∧
      ∃ b20 : Nat, m8.2.2 b18 v5.toNatClampNeg = some b20 ∧
      S[b15]? = some (5, 0) ∧
      S[b20]? = some (4, 0) ∧
      f_X6_exchange S b15 b20 m8 (fun (r24 : Nat) (m21 : Mm) =>
        S[r24]? = some (4, 0) ∧
      ∃ n25 : Nat, S[b14]? = some (55, n25) ∧ vp_in v5 n25 ∧
      ∀ m26 : Mm, m26 = stR m21 b14 v5.toNatClampNeg (some r24) →
      ∃ b28 : Nat, m26.2.2 a0 2 = some b28 ∧
      S[b28]? = some (2, 0) ∧
      ∀ m30 : Mm, m30 = stI m26 b28 14 ((m26.1 b28 14) ||| ((1 : Int32) <<< (v5 &&& 31))) →
      ∃ b31 : Nat, m30.2.2 a0 2 = some b31 ∧
      S[b31]? = some (2, 0) ∧
      ∀ m33 : Mm, m33 = stI m30 b31 11 ((m30.1 b31 11) + (1 : Int32)) →
      f_X10_forgetKept S a0  m33 (fun (m34 : Mm) =>
        K v5 m34))) ∧
     (¬ r10 < 0 →
      K ((-1 : Int32) - r10) m8)))) ∧
   (¬ v5 < (3 : Int32) →
    K (-100 : Int32) m1)))
set_option maxHeartbeats 4000000 in
set_option maxRecDepth 100000 in
theorem ok_X10_bolt {l : Launch} {g : Gg} {S : Ss} {a0 : Nat} {M : Mm} {K : Int32 → Mm → Prop} (hs0 : S[a0]? = some (9, 0)) (hf : f_X10_bolt S a0 M K) : MT l g S yX10_bolt cX10_bolt 4 (some .int) 6 [.ref (ad g a0)] M (pI K) := by
  refine MT.of (by decide +kernel) (Nat.le_of_ble_eq_true rfl) ?_
  intro p e s m below meth c ls E hw hR hS hl
  have hl : lv_has ls 4 [(0, .ref (ad g a0))] := hl
  generalize ([.ref (ad g a0)] : List Value).toArray = args at E ⊢
  have E : EN p s m args meth c cX10_bolt 4 (some .int) RX10 g := E
  have hx := E.1
  have hb := E.2.1
  unfold f_X10_bolt at hf
  refine lv_aload_n hx hb dX10_bolt_0 rfl (lv_at hl 0 rfl) ?_
  refine hw_callV (d := 6) E hR hS (As := []) (rest := []) cI9 hs0 rfl mcX10_takeText miX10_takeText lmX10_88 (ok_X10_takeText hs0 hf) rfl rfl (by decide) hl.1 (Nat.le_of_ble_eq_true rfl) dX10_bolt_1 (fun rr m1 H locs hp hR hS => ?_)
  obtain ⟨r2, rfl, hf⟩ := hp
  refine W.eq (g2 := F0 m 4 ls [.int r2]) rfl ?_
  refine lv_istore_n (lv' := [(1, .int r2), (0, .ref (ad g a0))]) hx hb dX10_bolt_4 rfl hl (by decide) rfl (fun ls hl => ?_)
  refine lv_aload_n hx hb dX10_bolt_5 rfl (lv_at hl 1 rfl) ?_
  obtain ⟨b3, hb3, hf⟩ := hf
  refine hw_getR E hR cI9 hs0 2 (by decide) lfX10_27 rfl hb3 dX10_bolt_6 ?_
  obtain ⟨h4, hf⟩ := hf
  refine hw_getI E hR cI2 h4 11 (by decide) lfX10_132 rfl dX10_bolt_9 ?_
  refine lv_topi (fun v5 ev5 => ?_)
  replace hf := hf v5 ev5
  refine lv_istore_n (lv' := [(2, .int v5), (1, .int r2), (0, .ref (ad g a0))]) hx hb dX10_bolt_12 rfl hl (by decide) rfl (fun ls hl => ?_)
  refine lv_iload_n hx hb dX10_bolt_13 rfl (lv_at hl 0 rfl) ?_
  refine lv_iconst (v := 3) hx hb dX10_bolt_14 (by decide) ?_
  refine lv_icmp_lt (tgt := 21) hx hb dX10_bolt_15 (by decide) (fun c6 => ?_) (fun c6 => ?_)
  · replace hf := hf.1 c6
    refine lv_aload_n hx hb dX10_bolt_21 rfl (lv_at hl 2 rfl) ?_
    obtain ⟨b7, hb7, hf⟩ := hf
    refine hw_getR E hR cI9 hs0 0 (by decide) lfX10_10 rfl hb7 dX10_bolt_22 ?_
    refine lv_iload_n hx hb dX10_bolt_25 rfl (lv_at hl 1 rfl) ?_
    obtain ⟨h9, hf⟩ := hf
    refine hw_callV (d := 6) E hR hS (As := [.int r2]) (rest := []) cI5 h9 rfl mcX6_readAsked miX6_readAsked lmX10_128 (ok_X6_readAsked h9 hf) rfl rfl (by decide) hl.1 (Nat.le_of_ble_eq_true rfl) dX10_bolt_26 (fun rr m8 H locs hp hR hS => ?_)
    obtain ⟨r10, rfl, hf⟩ := hp
    refine W.eq (g2 := F0 m 29 ls [.int r10]) rfl ?_
    refine lv_istore_n (lv' := [(3, .int r10), (2, .int v5), (1, .int r2), (0, .ref (ad g a0))]) hx hb dX10_bolt_29 rfl hl (by decide) rfl (fun ls hl => ?_)
    refine lv_iload_n hx hb dX10_bolt_30 rfl (lv_at hl 0 rfl) ?_
    refine lv_if_lt (tgt := 38) hx hb dX10_bolt_31 (by decide) (fun c11 => ?_) (fun c11 => ?_)
    · replace hf := hf.1 c11
      refine lv_aload_n hx hb dX10_bolt_38 rfl (lv_at hl 3 rfl) ?_
      obtain ⟨b12, hb12, hf⟩ := hf
      refine hw_getR E hR cI9 hs0 2 (by decide) lfX10_27 rfl hb12 dX10_bolt_39 ?_
      obtain ⟨h13, hf⟩ := hf
      obtain ⟨b14, hb14, hf⟩ := hf
      refine hw_getR E hR cI2 h13 1 (by decide) lfX10_135 rfl hb14 dX10_bolt_42 ?_
      refine lv_iload_n hx hb dX10_bolt_45 rfl (lv_at hl 1 rfl) ?_
      refine lv_aload_n hx hb dX10_bolt_46 rfl (lv_at hl 3 rfl) ?_
      obtain ⟨b15, hb15, hf⟩ := hf
      refine hw_getR E hR cI9 hs0 0 (by decide) lfX10_10 rfl hb15 dX10_bolt_47 ?_
      refine lv_aload_n hx hb dX10_bolt_50 rfl (lv_at hl 3 rfl) ?_
      obtain ⟨b16, hb16, hf⟩ := hf
      refine hw_getR E hR cI9 hs0 2 (by decide) lfX10_27 rfl hb16 dX10_bolt_51 ?_
      obtain ⟨h17, hf⟩ := hf
      obtain ⟨b18, hb18, hf⟩ := hf
      refine hw_getR E hR cI2 h17 1 (by decide) lfX10_135 rfl hb18 dX10_bolt_54 ?_
      refine lv_iload_n hx hb dX10_bolt_57 rfl (lv_at hl 1 rfl) ?_
      obtain ⟨n19, hn19, in19, hf⟩ := hf
      obtain ⟨b20, hb20, hf⟩ := hf
      refine hw_aaldS E hR (t := 55) (by decide) hn19 in19 hb20 dX10_bolt_58 ?_
      obtain ⟨h22, hf⟩ := hf
      obtain ⟨h23, hf⟩ := hf
      refine hw_callV (d := 6) E hR hS (As := [.ref (ad g b20)]) (rest := [.int v5, .ref (ad g b14)]) cI5 h22 rfl mcX6_exchange miX6_exchange lmX10_105 (ok_X6_exchange h22 h23 hf) rfl rfl (by decide) hl.1 (Nat.le_of_ble_eq_true rfl) dX10_bolt_59 (fun rr m21 H locs hp hR hS => ?_)
      obtain ⟨r24, rfl, hf⟩ := hp
      refine W.eq (g2 := F0 m 62 ls [.ref (ad g r24), .int v5, .ref (ad g b14)]) rfl ?_
      obtain ⟨h27, hf⟩ := hf
      obtain ⟨n25, hn25, in25, hf⟩ := hf
      refine hw_aast55 E hR hS hw hn25 h27 in25 dX10_bolt_62 (fun m26 H locs em26 hR hS => ?_)
      replace hf := hf m26 em26
      refine lv_aload_n hx hb dX10_bolt_63 rfl (lv_at hl 3 rfl) ?_
      obtain ⟨b28, hb28, hf⟩ := hf
      refine hw_getR E hR cI9 hs0 2 (by decide) lfX10_27 rfl hb28 dX10_bolt_64 ?_
      refine lv_dup hx hb dX10_bolt_67 rfl ?_
      obtain ⟨h29, hf⟩ := hf
      refine hw_getI E hR cI2 h29 14 (by decide) lfX10_138 rfl dX10_bolt_68 ?_
      refine lv_iconst (v := 1) hx hb dX10_bolt_71 (by decide) ?_
      refine lv_iload_n hx hb dX10_bolt_72 rfl (lv_at hl 1 rfl) ?_
      refine lv_ishl hx hb dX10_bolt_73 ?_
      refine lv_ior hx hb dX10_bolt_74 ?_
      refine hw_putI E hR hS hw cI2 h29 14 (by decide) lfX10_138 rfl (Or.inl rfl) dX10_bolt_75 (fun m30 H locs em30 hR hS => ?_)
      replace hf := hf m30 em30
      refine lv_aload_n hx hb dX10_bolt_78 rfl (lv_at hl 3 rfl) ?_
      obtain ⟨b31, hb31, hf⟩ := hf
      refine hw_getR E hR cI9 hs0 2 (by decide) lfX10_27 rfl hb31 dX10_bolt_79 ?_
      refine lv_dup hx hb dX10_bolt_82 rfl ?_
      obtain ⟨h32, hf⟩ := hf
      refine hw_getI E hR cI2 h32 11 (by decide) lfX10_132 rfl dX10_bolt_83 ?_
      refine lv_iconst (v := 1) hx hb dX10_bolt_86 (by decide) ?_
      refine lv_iadd hx hb dX10_bolt_87 ?_
      refine hw_putI E hR hS hw cI2 h32 11 (by decide) lfX10_132 rfl (Or.inl rfl) dX10_bolt_88 (fun m33 H locs em33 hR hS => ?_)
      replace hf := hf m33 em33
      refine lv_aload_n hx hb dX10_bolt_91 rfl (lv_at hl 3 rfl) ?_
      refine hw_callV (d := 6) E hR hS (As := []) (rest := []) cI9 hs0 rfl mcX10_forgetKept miX10_forgetKept lmX10_113 (ok_X10_forgetKept hs0 hf) rfl rfl (by decide) hl.1 (Nat.le_of_ble_eq_true rfl) dX10_bolt_92 (fun rr m34 H locs hp hR hS => ?_)
      obtain ⟨rfl, hf⟩ := hp
      refine W.eq (g2 := F0 m 95 ls []) rfl ?_
      refine lv_iload_n hx hb dX10_bolt_95 rfl (lv_at hl 1 rfl) ?_
      exact hw_iret E hR hS ⟨_, rfl, hf⟩ dX10_bolt_96
    · replace hf := hf.2 c11
      refine lv_iconst (v := -1) hx hb dX10_bolt_34 (by decide) ?_
      refine lv_iload_n hx hb dX10_bolt_35 rfl (lv_at hl 0 rfl) ?_
      refine lv_isub hx hb dX10_bolt_36 ?_
      exact hw_iret E hR hS ⟨_, rfl, hf⟩ dX10_bolt_37
  · replace hf := hf.2 c6
    refine lv_bipush (v := -100) hx hb dX10_bolt_18 (by decide) ?_
    exact hw_iret E hR hS ⟨_, rfl, hf⟩ dX10_bolt_20
def f_X10_turn (S : Ss) (a0 : Nat) (x1 : Int32) (x2 : Int32) (M : Mm) (K : Int32 → Mm → Prop) : Prop :=
  ((x1 < 0 →
    K (0 : Int32) M) ∧
   (¬ x1 < 0 →
    ∃ b2 : Nat, M.2.2 a0 2 = some b2 ∧
    S[b2]? = some (2, 0) ∧
    ((x1 < (M.1 b2 11) →
      ∀ v5 : Int32, v5 = ((1 : Int32) <<< (x1 &&& 31)) →
      ∃ b6 : Nat, M.2.2 a0 2 = some b6 ∧
      ((x2 = 0 →
        ∃ b8 : Nat, M.2.2 a0 2 = some b8 ∧
        S[b8]? = some (2, 0) ∧
        S[b6]? = some (2, 0) ∧
        ∀ m11 : Mm, m11 = stI M b6 14 ((M.1 b8 14) &&& (v5 ^^^ (-1 : Int32))) →
        K (1 : Int32) m11) ∧
       (¬ x2 = 0 →
        ∃ b12 : Nat, M.2.2 a0 2 = some b12 ∧
        S[b12]? = some (2, 0) ∧
        S[b6]? = some (2, 0) ∧
        ∀ m15 : Mm, m15 = stI M b6 14 ((M.1 b12 14) ||| v5) →
        K (1 : Int32) m15))) ∧
     (¬ x1 < (M.1 b2 11) →
      K (0 : Int32) M))))
set_option maxHeartbeats 4000000 in
set_option maxRecDepth 100000 in
theorem ok_X10_turn {l : Launch} {g : Gg} {S : Ss} {a0 : Nat} {x1 : Int32} {x2 : Int32} {M : Mm} {K : Int32 → Mm → Prop} (hs0 : S[a0]? = some (9, 0)) (hf : f_X10_turn S a0 x1 x2 M K) : MT l g S yX10_turn cX10_turn 4 (some .boolean) 0 [.ref (ad g a0), .int x1, .int x2] M (pI K) := by
  refine MT.of (by decide +kernel) (Nat.le_of_ble_eq_true rfl) ?_
  intro p e s m below meth c ls E hw hR hS hl
  have hl : lv_has ls 4 [(0, .ref (ad g a0)), (1, .int x1), (2, .int x2)] := hl
  generalize ([.ref (ad g a0), .int x1, .int x2] : List Value).toArray = args at E ⊢
  have E : EN p s m args meth c cX10_turn 4 (some .boolean) RX10 g := E
  have hx := E.1
  have hb := E.2.1
  unfold f_X10_turn at hf
  refine lv_iload_n hx hb dX10_turn_0 rfl (lv_at hl 1 rfl) ?_
  refine lv_if_lt (tgt := 15) hx hb dX10_turn_1 (by decide) (fun c1 => ?_) (fun c1 => ?_)
  · replace hf := hf.1 c1
    refine lv_iconst (v := 0) hx hb dX10_turn_15 (by decide) ?_
    exact hw_zret E hR hS (by decide) ⟨_, rfl, hf⟩ dX10_turn_16
  · replace hf := hf.2 c1
    refine lv_iload_n hx hb dX10_turn_4 rfl (lv_at hl 1 rfl) ?_
    refine lv_aload_n hx hb dX10_turn_5 rfl (lv_at hl 0 rfl) ?_
    obtain ⟨b2, hb2, hf⟩ := hf
    refine hw_getR E hR cI9 hs0 2 (by decide) lfX10_27 rfl hb2 dX10_turn_6 ?_
    obtain ⟨h3, hf⟩ := hf
    refine hw_getI E hR cI2 h3 11 (by decide) lfX10_132 rfl dX10_turn_9 ?_
    refine lv_icmp_lt (tgt := 17) hx hb dX10_turn_12 (by decide) (fun c4 => ?_) (fun c4 => ?_)
    · replace hf := hf.1 c4
      refine lv_iconst (v := 1) hx hb dX10_turn_17 (by decide) ?_
      refine lv_iload_n hx hb dX10_turn_18 rfl (lv_at hl 1 rfl) ?_
      refine lv_ishl hx hb dX10_turn_19 ?_
      refine lv_topi (fun v5 ev5 => ?_)
      replace hf := hf v5 ev5
      refine lv_istore_n (lv' := [(3, .int v5), (0, .ref (ad g a0)), (1, .int x1), (2, .int x2)]) hx hb dX10_turn_20 rfl hl (by decide) rfl (fun ls hl => ?_)
      refine lv_aload_n hx hb dX10_turn_21 rfl (lv_at hl 1 rfl) ?_
      obtain ⟨b6, hb6, hf⟩ := hf
      refine hw_getR E hR cI9 hs0 2 (by decide) lfX10_27 rfl hb6 dX10_turn_22 ?_
      refine lv_iload_n hx hb dX10_turn_25 rfl (lv_at hl 3 rfl) ?_
      refine lv_if_eq (tgt := 41) hx hb dX10_turn_26 (by decide) (fun c7 => ?_) (fun c7 => ?_)
      · replace hf := hf.1 c7
        refine lv_aload_n hx hb dX10_turn_41 rfl (lv_at hl 1 rfl) ?_
        obtain ⟨b8, hb8, hf⟩ := hf
        refine hw_getR E hR cI9 hs0 2 (by decide) lfX10_27 rfl hb8 dX10_turn_42 ?_
        obtain ⟨h9, hf⟩ := hf
        refine hw_getI E hR cI2 h9 14 (by decide) lfX10_138 rfl dX10_turn_45 ?_
        refine lv_iload_n hx hb dX10_turn_48 rfl (lv_at hl 0 rfl) ?_
        refine lv_iconst (v := -1) hx hb dX10_turn_49 (by decide) ?_
        refine lv_ixor hx hb dX10_turn_50 ?_
        refine lv_iand hx hb dX10_turn_51 ?_
        obtain ⟨h10, hf⟩ := hf
        refine hw_putI E hR hS hw cI2 h10 14 (by decide) lfX10_138 rfl (Or.inl rfl) dX10_turn_52 (fun m11 H locs em11 hR hS => ?_)
        replace hf := hf m11 em11
        refine lv_iconst (v := 1) hx hb dX10_turn_55 (by decide) ?_
        exact hw_zret E hR hS (by decide) ⟨_, rfl, hf⟩ dX10_turn_56
      · replace hf := hf.2 c7
        refine lv_aload_n hx hb dX10_turn_29 rfl (lv_at hl 1 rfl) ?_
        obtain ⟨b12, hb12, hf⟩ := hf
        refine hw_getR E hR cI9 hs0 2 (by decide) lfX10_27 rfl hb12 dX10_turn_30 ?_
        obtain ⟨h13, hf⟩ := hf
        refine hw_getI E hR cI2 h13 14 (by decide) lfX10_138 rfl dX10_turn_33 ?_
        refine lv_iload_n hx hb dX10_turn_36 rfl (lv_at hl 0 rfl) ?_
        refine lv_ior hx hb dX10_turn_37 ?_
        refine lv_goto (tgt := 52) hx hb dX10_turn_38 (by decide) ?_
        obtain ⟨h14, hf⟩ := hf
        refine hw_putI E hR hS hw cI2 h14 14 (by decide) lfX10_138 rfl (Or.inl rfl) dX10_turn_52 (fun m15 H locs em15 hR hS => ?_)
        replace hf := hf m15 em15
        refine lv_iconst (v := 1) hx hb dX10_turn_55 (by decide) ?_
        exact hw_zret E hR hS (by decide) ⟨_, rfl, hf⟩ dX10_turn_56
    · replace hf := hf.2 c4
      refine lv_iconst (v := 0) hx hb dX10_turn_15 (by decide) ?_
      exact hw_zret E hR hS (by decide) ⟨_, rfl, hf⟩ dX10_turn_16
def f_X10_slot (S : Ss) (a0 : Nat) (x1 : Int32) (x2 : Int32) (M : Mm) (K : Int32 → Mm → Prop) : Prop :=
  ((x1 < 0 →
    K (-1 : Int32) M) ∧
   (¬ x1 < 0 →
    (((8 : Int32) ≤ x1 →
      K (-1 : Int32) M) ∧
     (¬ (8 : Int32) ≤ x1 →
      ((x2 < 0 →
        K (-1 : Int32) M) ∧
       (¬ x2 < 0 →
        ((x2 ≤ (255 : Int32) →
          ∃ b5 : Nat, M.2.2 a0 3 = some b5 ∧
          S[b5]? = some (3, 0) ∧
          f_X4_slotValue S b5 x1 M (fun (r8 : Int32) (m6 : Mm) =>
            ∃ b9 : Nat, m6.2.2 a0 3 = some b9 ∧
          S[b9]? = some (3, 0) ∧
          f_X4_putSlot S b9 x1 x2 m6 (fun (m10 : Mm) =>
            K r8 m10))) ∧
         (¬ x2 ≤ (255 : Int32) →
          K (-1 : Int32) M))))))))
set_option maxHeartbeats 4000000 in
set_option maxRecDepth 100000 in
theorem ok_X10_slot {l : Launch} {g : Gg} {S : Ss} {a0 : Nat} {x1 : Int32} {x2 : Int32} {M : Mm} {K : Int32 → Mm → Prop} (hs0 : S[a0]? = some (9, 0)) (hf : f_X10_slot S a0 x1 x2 M K) : MT l g S yX10_slot cX10_slot 4 (some .int) 1 [.ref (ad g a0), .int x1, .int x2] M (pI K) := by
  refine MT.of (by decide +kernel) (Nat.le_of_ble_eq_true rfl) ?_
  intro p e s m below meth c ls E hw hR hS hl
  have hl : lv_has ls 4 [(0, .ref (ad g a0)), (1, .int x1), (2, .int x2)] := hl
  generalize ([.ref (ad g a0), .int x1, .int x2] : List Value).toArray = args at E ⊢
  have E : EN p s m args meth c cX10_slot 4 (some .int) RX10 g := E
  have hx := E.1
  have hb := E.2.1
  unfold f_X10_slot at hf
  refine lv_iload_n hx hb dX10_slot_0 rfl (lv_at hl 1 rfl) ?_
  refine lv_if_lt (tgt := 21) hx hb dX10_slot_1 (by decide) (fun c1 => ?_) (fun c1 => ?_)
  · replace hf := hf.1 c1
    refine lv_iconst (v := -1) hx hb dX10_slot_21 (by decide) ?_
    exact hw_iret E hR hS ⟨_, rfl, hf⟩ dX10_slot_22
  · replace hf := hf.2 c1
    refine lv_iload_n hx hb dX10_slot_4 rfl (lv_at hl 1 rfl) ?_
    refine lv_bipush (v := 8) hx hb dX10_slot_5 (by decide) ?_
    refine lv_icmp_ge (tgt := 21) hx hb dX10_slot_7 (by decide) (fun c2 => ?_) (fun c2 => ?_)
    · replace hf := hf.1 c2
      refine lv_iconst (v := -1) hx hb dX10_slot_21 (by decide) ?_
      exact hw_iret E hR hS ⟨_, rfl, hf⟩ dX10_slot_22
    · replace hf := hf.2 c2
      refine lv_iload_n hx hb dX10_slot_10 rfl (lv_at hl 2 rfl) ?_
      refine lv_if_lt (tgt := 21) hx hb dX10_slot_11 (by decide) (fun c3 => ?_) (fun c3 => ?_)
      · replace hf := hf.1 c3
        refine lv_iconst (v := -1) hx hb dX10_slot_21 (by decide) ?_
        exact hw_iret E hR hS ⟨_, rfl, hf⟩ dX10_slot_22
      · replace hf := hf.2 c3
        refine lv_iload_n hx hb dX10_slot_14 rfl (lv_at hl 2 rfl) ?_
        refine lv_sipush (v := 255) hx hb dX10_slot_15 (by decide) ?_
        refine lv_icmp_le (tgt := 23) hx hb dX10_slot_18 (by decide) (fun c4 => ?_) (fun c4 => ?_)
        · replace hf := hf.1 c4
          refine lv_aload_n hx hb dX10_slot_23 rfl (lv_at hl 0 rfl) ?_
          obtain ⟨b5, hb5, hf⟩ := hf
          refine hw_getR E hR cI9 hs0 3 (by decide) lfX10_31 rfl hb5 dX10_slot_24 ?_
          refine lv_iload_n hx hb dX10_slot_27 rfl (lv_at hl 1 rfl) ?_
          obtain ⟨h7, hf⟩ := hf
          refine hw_callV (d := 1) E hR hS (As := [.int x1]) (rest := []) cI3 h7 rfl mcX4_slotValue miX4_slotValue lmX10_141 (ok_X4_slotValue h7 hf) rfl rfl (by decide) hl.1 (Nat.le_of_ble_eq_true rfl) dX10_slot_28 (fun rr m6 H locs hp hR hS => ?_)
          obtain ⟨r8, rfl, hf⟩ := hp
          refine W.eq (g2 := F0 m 31 ls [.int r8]) rfl ?_
          refine lv_istore_n (lv' := [(3, .int r8), (0, .ref (ad g a0)), (1, .int x1), (2, .int x2)]) hx hb dX10_slot_31 rfl hl (by decide) rfl (fun ls hl => ?_)
          refine lv_aload_n hx hb dX10_slot_32 rfl (lv_at hl 1 rfl) ?_
          obtain ⟨b9, hb9, hf⟩ := hf
          refine hw_getR E hR cI9 hs0 3 (by decide) lfX10_31 rfl hb9 dX10_slot_33 ?_
          refine lv_iload_n hx hb dX10_slot_36 rfl (lv_at hl 2 rfl) ?_
          refine lv_iload_n hx hb dX10_slot_37 rfl (lv_at hl 3 rfl) ?_
          obtain ⟨h11, hf⟩ := hf
          refine hw_callV (d := 1) E hR hS (As := [.int x1, .int x2]) (rest := []) cI3 h11 rfl mcX4_putSlot miX4_putSlot lmX10_144 (ok_X4_putSlot h11 hf) rfl rfl (by decide) hl.1 (Nat.le_of_ble_eq_true rfl) dX10_slot_38 (fun rr m10 H locs hp hR hS => ?_)
          obtain ⟨rfl, hf⟩ := hp
          refine W.eq (g2 := F0 m 41 ls []) rfl ?_
          refine lv_iload_n hx hb dX10_slot_41 rfl (lv_at hl 0 rfl) ?_
          exact hw_iret E hR hS ⟨_, rfl, hf⟩ dX10_slot_42
        · replace hf := hf.2 c4
          refine lv_iconst (v := -1) hx hb dX10_slot_21 (by decide) ?_
          exact hw_iret E hR hS ⟨_, rfl, hf⟩ dX10_slot_22
def f_X10_speed (S : Ss) (a0 : Nat) (x1 : Int32) (x2 : Int32) (M : Mm) (K : Int32 → Mm → Prop) : Prop :=
  ((x1 < 0 →
    K (-1 : Int32) M) ∧
   (¬ x1 < 0 →
    (((4 : Int32) ≤ x1 →
      K (-1 : Int32) M) ∧
     (¬ (4 : Int32) ≤ x1 →
      ((x2 < 0 →
        K (-1 : Int32) M) ∧
       (¬ x2 < 0 →
        ((x2 ≤ (15 : Int32) →
          ∃ b5 : Nat, M.2.2 a0 2 = some b5 ∧
          S[b5]? = some (2, 0) ∧
          ∃ b7 : Nat, M.2.2 b5 6 = some b7 ∧
          ∃ n8 : Nat, shp S b7 = some (50, n8) ∧ vp_in x1 n8 ∧
          ∀ v9 : Int32, v9 = (M.1 b7 x1.toNatClampNeg) →
          ∃ b10 : Nat, M.2.2 a0 2 = some b10 ∧
          S[b10]? = some (2, 0) ∧
          ∃ b12 : Nat, M.2.2 b10 6 = some b12 ∧
          ∃ n13 : Nat, S[b12]? = some (50, n13) ∧ vp_in x1 n13 ∧
          ∀ m14 : Mm, m14 = stI M b12 x1.toNatClampNeg x2 →
          K v9 m14) ∧
         (¬ x2 ≤ (15 : Int32) →
          K (-1 : Int32) M))))))))
set_option maxHeartbeats 4000000 in
set_option maxRecDepth 100000 in
theorem ok_X10_speed {l : Launch} {g : Gg} {S : Ss} {a0 : Nat} {x1 : Int32} {x2 : Int32} {M : Mm} {K : Int32 → Mm → Prop} (hs0 : S[a0]? = some (9, 0)) (hf : f_X10_speed S a0 x1 x2 M K) : MT l g S yX10_speed cX10_speed 4 (some .int) 0 [.ref (ad g a0), .int x1, .int x2] M (pI K) := by
  refine MT.of (by decide +kernel) (Nat.le_of_ble_eq_true rfl) ?_
  intro p e s m below meth c ls E hw hR hS hl
  have hl : lv_has ls 4 [(0, .ref (ad g a0)), (1, .int x1), (2, .int x2)] := hl
  generalize ([.ref (ad g a0), .int x1, .int x2] : List Value).toArray = args at E ⊢
  have E : EN p s m args meth c cX10_speed 4 (some .int) RX10 g := E
  have hx := E.1
  have hb := E.2.1
  unfold f_X10_speed at hf
  refine lv_iload_n hx hb dX10_speed_0 rfl (lv_at hl 1 rfl) ?_
  refine lv_if_lt (tgt := 19) hx hb dX10_speed_1 (by decide) (fun c1 => ?_) (fun c1 => ?_)
  · replace hf := hf.1 c1
    refine lv_iconst (v := -1) hx hb dX10_speed_19 (by decide) ?_
    exact hw_iret E hR hS ⟨_, rfl, hf⟩ dX10_speed_20
  · replace hf := hf.2 c1
    refine lv_iload_n hx hb dX10_speed_4 rfl (lv_at hl 1 rfl) ?_
    refine lv_iconst (v := 4) hx hb dX10_speed_5 (by decide) ?_
    refine lv_icmp_ge (tgt := 19) hx hb dX10_speed_6 (by decide) (fun c2 => ?_) (fun c2 => ?_)
    · replace hf := hf.1 c2
      refine lv_iconst (v := -1) hx hb dX10_speed_19 (by decide) ?_
      exact hw_iret E hR hS ⟨_, rfl, hf⟩ dX10_speed_20
    · replace hf := hf.2 c2
      refine lv_iload_n hx hb dX10_speed_9 rfl (lv_at hl 2 rfl) ?_
      refine lv_if_lt (tgt := 19) hx hb dX10_speed_10 (by decide) (fun c3 => ?_) (fun c3 => ?_)
      · replace hf := hf.1 c3
        refine lv_iconst (v := -1) hx hb dX10_speed_19 (by decide) ?_
        exact hw_iret E hR hS ⟨_, rfl, hf⟩ dX10_speed_20
      · replace hf := hf.2 c3
        refine lv_iload_n hx hb dX10_speed_13 rfl (lv_at hl 2 rfl) ?_
        refine lv_bipush (v := 15) hx hb dX10_speed_14 (by decide) ?_
        refine lv_icmp_le (tgt := 21) hx hb dX10_speed_16 (by decide) (fun c4 => ?_) (fun c4 => ?_)
        · replace hf := hf.1 c4
          refine lv_aload_n hx hb dX10_speed_21 rfl (lv_at hl 0 rfl) ?_
          obtain ⟨b5, hb5, hf⟩ := hf
          refine hw_getR E hR cI9 hs0 2 (by decide) lfX10_27 rfl hb5 dX10_speed_22 ?_
          obtain ⟨h6, hf⟩ := hf
          obtain ⟨b7, hb7, hf⟩ := hf
          refine hw_getR E hR cI2 h6 6 (by decide) lfX10_147 rfl hb7 dX10_speed_25 ?_
          refine lv_iload_n hx hb dX10_speed_28 rfl (lv_at hl 1 rfl) ?_
          obtain ⟨n8, hn8, in8, hf⟩ := hf
          refine hw_iald E hR hS hn8 in8 dX10_speed_29 ?_
          refine lv_topi (fun v9 ev9 => ?_)
          replace hf := hf v9 ev9
          refine lv_istore_n (lv' := [(3, .int v9), (0, .ref (ad g a0)), (1, .int x1), (2, .int x2)]) hx hb dX10_speed_30 rfl hl (by decide) rfl (fun ls hl => ?_)
          refine lv_aload_n hx hb dX10_speed_31 rfl (lv_at hl 1 rfl) ?_
          obtain ⟨b10, hb10, hf⟩ := hf
          refine hw_getR E hR cI9 hs0 2 (by decide) lfX10_27 rfl hb10 dX10_speed_32 ?_
          obtain ⟨h11, hf⟩ := hf
          obtain ⟨b12, hb12, hf⟩ := hf
          refine hw_getR E hR cI2 h11 6 (by decide) lfX10_147 rfl hb12 dX10_speed_35 ?_
          refine lv_iload_n hx hb dX10_speed_38 rfl (lv_at hl 2 rfl) ?_
          refine lv_iload_n hx hb dX10_speed_39 rfl (lv_at hl 3 rfl) ?_
          obtain ⟨n13, hn13, in13, hf⟩ := hf
          refine hw_iast E hR hS hw hn13 in13 dX10_speed_40 (fun m14 H locs em14 hR hS => ?_)
          replace hf := hf m14 em14
          refine lv_iload_n hx hb dX10_speed_41 rfl (lv_at hl 0 rfl) ?_
          exact hw_iret E hR hS ⟨_, rfl, hf⟩ dX10_speed_42
        · replace hf := hf.2 c4
          refine lv_iconst (v := -1) hx hb dX10_speed_19 (by decide) ?_
          exact hw_iret E hR hS ⟨_, rfl, hf⟩ dX10_speed_20
def f_X10_keys (S : Ss) (a0 : Nat) (x1 : Int32) (M : Mm) (K : Int32 → Mm → Prop) : Prop :=
  ((x1 < 0 →
    K (-1 : Int32) M) ∧
   (¬ x1 < 0 →
    ((x1 ≤ (4 : Int32) →
      ∃ b3 : Nat, M.2.2 a0 2 = some b3 ∧
      S[b3]? = some (2, 0) ∧
      ∀ v5 : Int32, v5 = (M.1 b3 13) →
      ∃ b6 : Nat, M.2.2 a0 2 = some b6 ∧
      S[b6]? = some (2, 0) ∧
      ∀ m8 : Mm, m8 = stI M b6 13 x1 →
      K v5 m8) ∧
     (¬ x1 ≤ (4 : Int32) →
      K (-1 : Int32) M))))
set_option maxHeartbeats 4000000 in
set_option maxRecDepth 100000 in
theorem ok_X10_keys {l : Launch} {g : Gg} {S : Ss} {a0 : Nat} {x1 : Int32} {M : Mm} {K : Int32 → Mm → Prop} (hs0 : S[a0]? = some (9, 0)) (hf : f_X10_keys S a0 x1 M K) : MT l g S yX10_keys cX10_keys 3 (some .int) 0 [.ref (ad g a0), .int x1] M (pI K) := by
  refine MT.of (by decide +kernel) (Nat.le_of_ble_eq_true rfl) ?_
  intro p e s m below meth c ls E hw hR hS hl
  have hl : lv_has ls 3 [(0, .ref (ad g a0)), (1, .int x1)] := hl
  generalize ([.ref (ad g a0), .int x1] : List Value).toArray = args at E ⊢
  have E : EN p s m args meth c cX10_keys 3 (some .int) RX10 g := E
  have hx := E.1
  have hb := E.2.1
  unfold f_X10_keys at hf
  refine lv_iload_n hx hb dX10_keys_0 rfl (lv_at hl 1 rfl) ?_
  refine lv_if_lt (tgt := 9) hx hb dX10_keys_1 (by decide) (fun c1 => ?_) (fun c1 => ?_)
  · replace hf := hf.1 c1
    refine lv_iconst (v := -1) hx hb dX10_keys_9 (by decide) ?_
    exact hw_iret E hR hS ⟨_, rfl, hf⟩ dX10_keys_10
  · replace hf := hf.2 c1
    refine lv_iload_n hx hb dX10_keys_4 rfl (lv_at hl 1 rfl) ?_
    refine lv_iconst (v := 4) hx hb dX10_keys_5 (by decide) ?_
    refine lv_icmp_le (tgt := 11) hx hb dX10_keys_6 (by decide) (fun c2 => ?_) (fun c2 => ?_)
    · replace hf := hf.1 c2
      refine lv_aload_n hx hb dX10_keys_11 rfl (lv_at hl 0 rfl) ?_
      obtain ⟨b3, hb3, hf⟩ := hf
      refine hw_getR E hR cI9 hs0 2 (by decide) lfX10_27 rfl hb3 dX10_keys_12 ?_
      obtain ⟨h4, hf⟩ := hf
      refine hw_getI E hR cI2 h4 13 (by decide) lfX10_150 rfl dX10_keys_15 ?_
      refine lv_topi (fun v5 ev5 => ?_)
      replace hf := hf v5 ev5
      refine lv_istore_n (lv' := [(2, .int v5), (0, .ref (ad g a0)), (1, .int x1)]) hx hb dX10_keys_18 rfl hl (by decide) rfl (fun ls hl => ?_)
      refine lv_aload_n hx hb dX10_keys_19 rfl (lv_at hl 1 rfl) ?_
      obtain ⟨b6, hb6, hf⟩ := hf
      refine hw_getR E hR cI9 hs0 2 (by decide) lfX10_27 rfl hb6 dX10_keys_20 ?_
      refine lv_iload_n hx hb dX10_keys_23 rfl (lv_at hl 2 rfl) ?_
      obtain ⟨h7, hf⟩ := hf
      refine hw_putI E hR hS hw cI2 h7 13 (by decide) lfX10_150 rfl (Or.inl rfl) dX10_keys_24 (fun m8 H locs em8 hR hS => ?_)
      replace hf := hf m8 em8
      refine lv_iload_n hx hb dX10_keys_27 rfl (lv_at hl 0 rfl) ?_
      exact hw_iret E hR hS ⟨_, rfl, hf⟩ dX10_keys_28
    · replace hf := hf.2 c2
      refine lv_iconst (v := -1) hx hb dX10_keys_9 (by decide) ?_
      exact hw_iret E hR hS ⟨_, rfl, hf⟩ dX10_keys_10
def f_X10_stepByHand (S : Ss) (a0 : Nat) (x1 : Int32) (x2 : Int32) (M : Mm) (K : Mm → Prop) : Prop :=
  ∃ b1 : Nat, M.2.2 a0 2 = some b1 ∧
  ∃ b2 : Nat, M.2.2 a0 3 = some b2 ∧
  S[b1]? = some (2, 0) ∧
  S[b2]? = some (3, 0) ∧
  f_X3_act S b1 b2 x1 x2 M (fun (m3 : Mm) =>
    ∀ m6 : Mm, m6 = stI m3 a0 12 ((m3.1 a0 12) + (1 : Int32)) →
  K m6)
set_option maxHeartbeats 4000000 in
set_option maxRecDepth 100000 in
theorem ok_X10_stepByHand {l : Launch} {g : Gg} {S : Ss} {a0 : Nat} {x1 : Int32} {x2 : Int32} {M : Mm} {K : Mm → Prop} (hs0 : S[a0]? = some (9, 0)) (hf : f_X10_stepByHand S a0 x1 x2 M K) : MT l g S yX10_stepByHand cX10_stepByHand 3 none 4 [.ref (ad g a0), .int x1, .int x2] M (pV K) := by
  refine MT.of (by decide +kernel) (Nat.le_of_ble_eq_true rfl) ?_
  intro p e s m below meth c ls E hw hR hS hl
  have hl : lv_has ls 3 [(0, .ref (ad g a0)), (1, .int x1), (2, .int x2)] := hl
  generalize ([.ref (ad g a0), .int x1, .int x2] : List Value).toArray = args at E ⊢
  have E : EN p s m args meth c cX10_stepByHand 3 none RX10 g := E
  have hx := E.1
  have hb := E.2.1
  unfold f_X10_stepByHand at hf
  refine lv_aload_n hx hb dX10_stepByHand_0 rfl (lv_at hl 0 rfl) ?_
  obtain ⟨b1, hb1, hf⟩ := hf
  refine hw_getR E hR cI9 hs0 2 (by decide) lfX10_27 rfl hb1 dX10_stepByHand_1 ?_
  refine lv_aload_n hx hb dX10_stepByHand_4 rfl (lv_at hl 0 rfl) ?_
  obtain ⟨b2, hb2, hf⟩ := hf
  refine hw_getR E hR cI9 hs0 3 (by decide) lfX10_31 rfl hb2 dX10_stepByHand_5 ?_
  refine lv_iload_n hx hb dX10_stepByHand_8 rfl (lv_at hl 1 rfl) ?_
  refine lv_iload_n hx hb dX10_stepByHand_9 rfl (lv_at hl 2 rfl) ?_
  obtain ⟨h4, hf⟩ := hf
  obtain ⟨h5, hf⟩ := hf
  refine hw_callV (d := 4) E hR hS (As := [.ref (ad g b2), .int x1, .int x2]) (rest := []) cI2 h4 rfl mcX3_act miX3_act lmX10_368 (ok_X3_act h4 h5 hf) rfl rfl (by decide) hl.1 (Nat.le_of_ble_eq_true rfl) dX10_stepByHand_10 (fun rr m3 H locs hp hR hS => ?_)
  obtain ⟨rfl, hf⟩ := hp
  refine W.eq (g2 := F0 m 13 ls []) rfl ?_
  refine lv_aload_n hx hb dX10_stepByHand_13 rfl (lv_at hl 0 rfl) ?_
  refine lv_dup hx hb dX10_stepByHand_14 rfl ?_
  refine hw_getI E hR cI9 hs0 12 (by decide) lfX10_76 rfl dX10_stepByHand_15 ?_
  refine lv_iconst (v := 1) hx hb dX10_stepByHand_18 (by decide) ?_
  refine lv_iadd hx hb dX10_stepByHand_19 ?_
  refine hw_putI E hR hS hw cI9 hs0 12 (by decide) lfX10_76 rfl (Or.inl rfl) dX10_stepByHand_20 (fun m6 H locs em6 hR hS => ?_)
  replace hf := hf m6 em6
  exact hw_vret E hR hS ⟨rfl, hf⟩ dX10_stepByHand_23
def f_X10_step (S : Ss) (a0 : Nat) (x1 : Int32) (x2 : Int32) (M : Mm) (K : Int32 → Mm → Prop) : Prop :=
  ((x1 < 0 →
    K (-1 : Int32) M) ∧
   (¬ x1 < 0 →
    ∃ b2 : Nat, M.2.2 a0 2 = some b2 ∧
    S[b2]? = some (2, 0) ∧
    (((M.1 b2 10) ≤ x1 →
      K (-1 : Int32) M) ∧
     (¬ (M.1 b2 10) ≤ x1 →
      ((x2 < 0 →
        K (-1 : Int32) M) ∧
       (¬ x2 < 0 →
        ∃ b6 : Nat, M.2.2 a0 2 = some b6 ∧
        S[b6]? = some (2, 0) ∧
        ((x2 ≤ (M.1 b6 13) →
          f_X10_stepByHand S a0 x1 x2 M (fun (m9 : Mm) =>
            ∃ b10 : Nat, m9.2.2 a0 3 = some b10 ∧
          S[b10]? = some (3, 0) ∧
          (((m9.1 b10 2) = 0 →
            ∃ b13 : Nat, m9.2.2 a0 3 = some b13 ∧
            S[b13]? = some (3, 0) ∧
            (((m9.1 b13 3) = 0 →
              ∃ b16 : Nat, m9.2.2 a0 3 = some b16 ∧
              S[b16]? = some (3, 0) ∧
              (((m9.1 b16 4) = 0 →
                K (0 : Int32) m9) ∧
               (¬ (m9.1 b16 4) = 0 →
                ∃ b19 : Nat, m9.2.2 a0 3 = some b19 ∧
                S[b19]? = some (3, 0) ∧
                K ((m9.1 b19 4) + (2 : Int32)) m9))) ∧
             (¬ (m9.1 b13 3) = 0 →
              K (2 : Int32) m9))) ∧
           (¬ (m9.1 b10 2) = 0 →
            K (1 : Int32) m9)))) ∧
         (¬ x2 ≤ (M.1 b6 13) →
          K (-1 : Int32) M))))))))
set_option maxHeartbeats 4000000 in
set_option maxRecDepth 100000 in
theorem ok_X10_step {l : Launch} {g : Gg} {S : Ss} {a0 : Nat} {x1 : Int32} {x2 : Int32} {M : Mm} {K : Int32 → Mm → Prop} (hs0 : S[a0]? = some (9, 0)) (hf : f_X10_step S a0 x1 x2 M K) : MT l g S yX10_step cX10_step 3 (some .int) 5 [.ref (ad g a0), .int x1, .int x2] M (pI K) := by
  refine MT.of (by decide +kernel) (Nat.le_of_ble_eq_true rfl) ?_
  intro p e s m below meth c ls E hw hR hS hl
  have hl : lv_has ls 3 [(0, .ref (ad g a0)), (1, .int x1), (2, .int x2)] := hl
  generalize ([.ref (ad g a0), .int x1, .int x2] : List Value).toArray = args at E ⊢
  have E : EN p s m args meth c cX10_step 3 (some .int) RX10 g := E
  have hx := E.1
  have hb := E.2.1
  unfold f_X10_step at hf
  refine lv_iload_n hx hb dX10_step_0 rfl (lv_at hl 1 rfl) ?_
  refine lv_if_lt (tgt := 30) hx hb dX10_step_1 (by decide) (fun c1 => ?_) (fun c1 => ?_)
  · replace hf := hf.1 c1
    refine lv_iconst (v := -1) hx hb dX10_step_30 (by decide) ?_
    exact hw_iret E hR hS ⟨_, rfl, hf⟩ dX10_step_31
  · replace hf := hf.2 c1
    refine lv_iload_n hx hb dX10_step_4 rfl (lv_at hl 1 rfl) ?_
    refine lv_aload_n hx hb dX10_step_5 rfl (lv_at hl 0 rfl) ?_
    obtain ⟨b2, hb2, hf⟩ := hf
    refine hw_getR E hR cI9 hs0 2 (by decide) lfX10_27 rfl hb2 dX10_step_6 ?_
    obtain ⟨h3, hf⟩ := hf
    refine hw_getI E hR cI2 h3 10 (by decide) lfX10_92 rfl dX10_step_9 ?_
    refine lv_icmp_ge (tgt := 30) hx hb dX10_step_12 (by decide) (fun c4 => ?_) (fun c4 => ?_)
    · replace hf := hf.1 c4
      refine lv_iconst (v := -1) hx hb dX10_step_30 (by decide) ?_
      exact hw_iret E hR hS ⟨_, rfl, hf⟩ dX10_step_31
    · replace hf := hf.2 c4
      refine lv_iload_n hx hb dX10_step_15 rfl (lv_at hl 2 rfl) ?_
      refine lv_if_lt (tgt := 30) hx hb dX10_step_16 (by decide) (fun c5 => ?_) (fun c5 => ?_)
      · replace hf := hf.1 c5
        refine lv_iconst (v := -1) hx hb dX10_step_30 (by decide) ?_
        exact hw_iret E hR hS ⟨_, rfl, hf⟩ dX10_step_31
      · replace hf := hf.2 c5
        refine lv_iload_n hx hb dX10_step_19 rfl (lv_at hl 2 rfl) ?_
        refine lv_aload_n hx hb dX10_step_20 rfl (lv_at hl 0 rfl) ?_
        obtain ⟨b6, hb6, hf⟩ := hf
        refine hw_getR E hR cI9 hs0 2 (by decide) lfX10_27 rfl hb6 dX10_step_21 ?_
        obtain ⟨h7, hf⟩ := hf
        refine hw_getI E hR cI2 h7 13 (by decide) lfX10_150 rfl dX10_step_24 ?_
        refine lv_icmp_le (tgt := 32) hx hb dX10_step_27 (by decide) (fun c8 => ?_) (fun c8 => ?_)
        · replace hf := hf.1 c8
          refine lv_aload_n hx hb dX10_step_32 rfl (lv_at hl 0 rfl) ?_
          refine lv_iload_n hx hb dX10_step_33 rfl (lv_at hl 1 rfl) ?_
          refine lv_iload_n hx hb dX10_step_34 rfl (lv_at hl 2 rfl) ?_
          refine hw_callV (d := 5) E hR hS (As := [.int x1, .int x2]) (rest := []) cI9 hs0 rfl mcX10_stepByHand miX10_stepByHand lmX10_153 (ok_X10_stepByHand hs0 hf) rfl rfl (by decide) hl.1 (Nat.le_of_ble_eq_true rfl) dX10_step_35 (fun rr m9 H locs hp hR hS => ?_)
          obtain ⟨rfl, hf⟩ := hp
          refine W.eq (g2 := F0 m 38 ls []) rfl ?_
          refine lv_aload_n hx hb dX10_step_38 rfl (lv_at hl 0 rfl) ?_
          obtain ⟨b10, hb10, hf⟩ := hf
          refine hw_getR E hR cI9 hs0 3 (by decide) lfX10_31 rfl hb10 dX10_step_39 ?_
          obtain ⟨h11, hf⟩ := hf
          refine hw_getI E hR cI3 h11 2 (by decide) lfX10_156 rfl dX10_step_42 ?_
          refine lv_if_eq (tgt := 50) hx hb dX10_step_45 (by decide) (fun c12 => ?_) (fun c12 => ?_)
          · replace hf := hf.1 c12
            refine lv_aload_n hx hb dX10_step_50 rfl (lv_at hl 0 rfl) ?_
            obtain ⟨b13, hb13, hf⟩ := hf
            refine hw_getR E hR cI9 hs0 3 (by decide) lfX10_31 rfl hb13 dX10_step_51 ?_
            obtain ⟨h14, hf⟩ := hf
            refine hw_getI E hR cI3 h14 3 (by decide) lfX10_159 rfl dX10_step_54 ?_
            refine lv_if_eq (tgt := 62) hx hb dX10_step_57 (by decide) (fun c15 => ?_) (fun c15 => ?_)
            · replace hf := hf.1 c15
              refine lv_aload_n hx hb dX10_step_62 rfl (lv_at hl 0 rfl) ?_
              obtain ⟨b16, hb16, hf⟩ := hf
              refine hw_getR E hR cI9 hs0 3 (by decide) lfX10_31 rfl hb16 dX10_step_63 ?_
              obtain ⟨h17, hf⟩ := hf
              refine hw_getI E hR cI3 h17 4 (by decide) lfX10_162 rfl dX10_step_66 ?_
              refine lv_if_ne (tgt := 76) hx hb dX10_step_69 (by decide) (fun c18 => ?_) (fun c18 => ?_)
              · replace hf := hf.2 c18
                refine lv_aload_n hx hb dX10_step_76 rfl (lv_at hl 0 rfl) ?_
                obtain ⟨b19, hb19, hf⟩ := hf
                refine hw_getR E hR cI9 hs0 3 (by decide) lfX10_31 rfl hb19 dX10_step_77 ?_
                obtain ⟨h20, hf⟩ := hf
                refine hw_getI E hR cI3 h20 4 (by decide) lfX10_162 rfl dX10_step_80 ?_
                refine lv_iconst (v := 2) hx hb dX10_step_83 (by decide) ?_
                refine lv_iadd hx hb dX10_step_84 ?_
                exact hw_iret E hR hS ⟨_, rfl, hf⟩ dX10_step_85
              · replace hf := hf.1 c18
                refine lv_iconst (v := 0) hx hb dX10_step_72 (by decide) ?_
                refine lv_goto (tgt := 85) hx hb dX10_step_73 (by decide) ?_
                exact hw_iret E hR hS ⟨_, rfl, hf⟩ dX10_step_85
            · replace hf := hf.2 c15
              refine lv_iconst (v := 2) hx hb dX10_step_60 (by decide) ?_
              exact hw_iret E hR hS ⟨_, rfl, hf⟩ dX10_step_61
          · replace hf := hf.2 c12
            refine lv_iconst (v := 1) hx hb dX10_step_48 (by decide) ?_
            exact hw_iret E hR hS ⟨_, rfl, hf⟩ dX10_step_49
        · replace hf := hf.2 c8
          refine lv_iconst (v := -1) hx hb dX10_step_30 (by decide) ?_
          exact hw_iret E hR hS ⟨_, rfl, hf⟩ dX10_step_31
def f_X10_narrowed (S : Ss) (x0 : Int32) (x1 : Int32) (M : Mm) (K : Int32 → Mm → Prop) : Prop :=
  ((x0 = 0 →
    K x1.toInt8.toInt32 M) ∧
   (¬ x0 = 0 →
    ((x0 = (1 : Int32) →
      K x1.toInt16.toInt32 M) ∧
     (¬ x0 = (1 : Int32) →
      K x1 M))))
set_option maxHeartbeats 4000000 in
set_option maxRecDepth 100000 in
theorem ok_X10_narrowed {l : Launch} {g : Gg} {S : Ss} {x0 : Int32} {x1 : Int32} {M : Mm} {K : Int32 → Mm → Prop} (hf : f_X10_narrowed S x0 x1 M K) : MT l g S yX10_narrowed cX10_narrowed 2 (some .int) 0 [.int x0, .int x1] M (pI K) := by
  refine MT.of (by decide +kernel) (Nat.le_of_ble_eq_true rfl) ?_
  intro p e s m below meth c ls E hw hR hS hl
  have hl : lv_has ls 2 [(0, .int x0), (1, .int x1)] := hl
  generalize ([.int x0, .int x1] : List Value).toArray = args at E ⊢
  have E : EN p s m args meth c cX10_narrowed 2 (some .int) RX10 g := E
  have hx := E.1
  have hb := E.2.1
  unfold f_X10_narrowed at hf
  refine lv_iload_n hx hb dX10_narrowed_0 rfl (lv_at hl 0 rfl) ?_
  refine lv_if_ne (tgt := 7) hx hb dX10_narrowed_1 (by decide) (fun c1 => ?_) (fun c1 => ?_)
  · replace hf := hf.2 c1
    refine lv_iload_n hx hb dX10_narrowed_7 rfl (lv_at hl 0 rfl) ?_
    refine lv_iconst (v := 1) hx hb dX10_narrowed_8 (by decide) ?_
    refine lv_icmp_ne (tgt := 17) hx hb dX10_narrowed_9 (by decide) (fun c2 => ?_) (fun c2 => ?_)
    · replace hf := hf.2 c2
      refine lv_iload_n hx hb dX10_narrowed_17 rfl (lv_at hl 1 rfl) ?_
      exact hw_iret E hR hS ⟨_, rfl, hf⟩ dX10_narrowed_18
    · replace hf := hf.1 c2
      refine lv_iload_n hx hb dX10_narrowed_12 rfl (lv_at hl 1 rfl) ?_
      refine lv_i2s hx hb dX10_narrowed_13 rfl ?_
      refine lv_goto (tgt := 18) hx hb dX10_narrowed_14 (by decide) ?_
      exact hw_iret E hR hS ⟨_, rfl, hf⟩ dX10_narrowed_18
  · replace hf := hf.1 c1
    refine lv_iload_n hx hb dX10_narrowed_4 rfl (lv_at hl 1 rfl) ?_
    refine lv_i2b hx hb dX10_narrowed_5 rfl ?_
    exact hw_iret E hR hS ⟨_, rfl, hf⟩ dX10_narrowed_6
def f_X10_steps_B46 (S : Ss) (a0 : Nat) (x1 : Int32) (x2 : Int32) (x3 : Int32) (x4 : Int32) (x5 : Int32) (x6 : Int32) (M : Mm) (BK46 : Int32 → Mm → Prop) (EK46 : Mm → Prop) (K : Int32 → Mm → Prop) : Prop :=
  ((x2 ≤ x6 →
    EK46 M) ∧
   (¬ x2 ≤ x6 →
    f_X10_narrowed S  x1 (x3 + (x6 * x4)) M (fun (r11 : Int32) (m10 : Mm) =>
      ((r11 < 0 →
      K x6 m10) ∧
     (¬ r11 < 0 →
      ∃ b13 : Nat, m10.2.2 a0 2 = some b13 ∧
      S[b13]? = some (2, 0) ∧
      ((r11 < ((m10.1 b13 10) * x5) →
        ¬ x5 = 0 ∧
        ¬ x5 = 0 ∧
        f_X10_stepByHand S a0 (r11 / x5) (r11 - r11 / x5 * x5) m10 (fun (m18 : Mm) =>
          ∀ v19 : Int32, v19 = x6 + (1 : Int32) →
        BK46 v19 m18)) ∧
       (¬ r11 < ((m10.1 b13 10) * x5) →
        K x6 m10)))))))
set_option maxHeartbeats 4000000 in
set_option maxRecDepth 100000 in
theorem w_X10_steps_B46 {p : Program} {l : Launch} {e : Env} {s : State} {m : MethodId} {args : Array Value} {below : List Frame} {meth : Method} {c : Code} {g : Gg} {S : Ss} (a0 : Nat) (x1 : Int32) (x2 : Int32) (x3 : Int32) (x4 : Int32) (x5 : Int32) (x6 : Int32) (M : Mm) (BK46 : Int32 → Mm → Prop) (EK46 : Mm → Prop) (K : Int32 → Mm → Prop) (E : EN p s m args meth c cX10_steps 8 (some .int) RX10 g) (hw : ad g 100000 < s.heap.size) (hs0 : S[a0]? = some (9, 0)) (hBK46 : ∀ (x6' : Int32) (M' : Mm) (H : Heap) (locs : List Loc) (ls : Array Slot), BK46 x6' M' → RP g S M' H → va_S (gA g) s.heap H locs → lv_has ls 8 [(0, .ref (ad g a0)), (1, .int x1), (2, .int x2), (3, .int x3), (4, .int x4), (5, .int x5), (6, .int x6')] → W p l e (rmD 5) s m args below meth c H locs 0 0 (MQ below (QA g S (pI K)) args s 0 0 (gA g)) (F0 m 46 ls [])) (hEK46 : ∀ (M' : Mm) (H : Heap) (locs : List Loc) (ls : Array Slot), EK46 M' → RP g S M' H → va_S (gA g) s.heap H locs → lv_has ls 8 [(2, .int x2)] → W p l e (rmD 5) s m args below meth c H locs 0 0 (MQ below (QA g S (pI K)) args s 0 0 (gA g)) (F0 m 108 ls [])) (hf : f_X10_steps_B46 S a0 x1 x2 x3 x4 x5 x6 M BK46 EK46 K) (H : Heap) (locs : List Loc) (ls : Array Slot) (hR : RP g S M H) (hS : va_S (gA g) s.heap H locs) (hl : lv_has ls 8 [(0, .ref (ad g a0)), (1, .int x1), (2, .int x2), (3, .int x3), (4, .int x4), (5, .int x5), (6, .int x6)]) : W p l e (rmD 5) s m args below meth c H locs 0 0 (MQ below (QA g S (pI K)) args s 0 0 (gA g)) (F0 m 46 ls []) := by
  have hx := E.1
  have hb := E.2.1
  unfold f_X10_steps_B46 at hf
  refine lv_iload hx hb dX10_steps_46 (lv_at hl 6 rfl) ?_
  refine lv_iload_n hx hb dX10_steps_48 rfl (lv_at hl 2 rfl) ?_
  refine lv_icmp_ge (tgt := 108) hx hb dX10_steps_49 (by decide) (fun c9 => ?_) (fun c9 => ?_)
  · replace hf := hf.1 c9
    exact hEK46  _ _ _ _ hf hR hS (lv_sub hl [2] rfl)
  · replace hf := hf.2 c9
    refine lv_iload_n hx hb dX10_steps_52 rfl (lv_at hl 1 rfl) ?_
    refine lv_iload_n hx hb dX10_steps_53 rfl (lv_at hl 3 rfl) ?_
    refine lv_iload hx hb dX10_steps_54 (lv_at hl 6 rfl) ?_
    refine lv_iload hx hb dX10_steps_56 (lv_at hl 4 rfl) ?_
    refine lv_imul hx hb dX10_steps_58 ?_
    refine lv_iadd hx hb dX10_steps_59 ?_
    refine hw_callS (d := 5) E hR hS (As := [.int x1, .int (x3 + (x6 * x4))]) (rest := []) mcX10_narrowed msX10_narrowed lmX10_165 (ok_X10_narrowed  hf) rfl rfl (by decide) hl.1 (Nat.le_of_ble_eq_true rfl) dX10_steps_60 (fun rr m10 H locs hp hR hS => ?_)
    obtain ⟨r11, rfl, hf⟩ := hp
    refine W.eq (g2 := F0 m 63 ls [.int r11]) rfl ?_
    refine lv_istore (lv' := [(7, .int r11), (0, .ref (ad g a0)), (1, .int x1), (2, .int x2), (3, .int x3), (4, .int x4), (5, .int x5), (6, .int x6)]) hx hb dX10_steps_63 hl (by decide) rfl (fun ls hl => ?_)
    refine lv_iload hx hb dX10_steps_65 (lv_at hl 0 rfl) ?_
    refine lv_if_lt (tgt := 85) hx hb dX10_steps_67 (by decide) (fun c12 => ?_) (fun c12 => ?_)
    · replace hf := hf.1 c12
      refine lv_iload hx hb dX10_steps_85 (lv_at hl 7 rfl) ?_
      exact hw_iret E hR hS ⟨_, rfl, hf⟩ dX10_steps_87
    · replace hf := hf.2 c12
      refine lv_iload hx hb dX10_steps_70 (lv_at hl 0 rfl) ?_
      refine lv_aload_n hx hb dX10_steps_72 rfl (lv_at hl 1 rfl) ?_
      obtain ⟨b13, hb13, hf⟩ := hf
      refine hw_getR E hR cI9 hs0 2 (by decide) lfX10_27 rfl hb13 dX10_steps_73 ?_
      obtain ⟨h14, hf⟩ := hf
      refine hw_getI E hR cI2 h14 10 (by decide) lfX10_92 rfl dX10_steps_76 ?_
      refine lv_iload hx hb dX10_steps_79 (lv_at hl 6 rfl) ?_
      refine lv_imul hx hb dX10_steps_81 ?_
      refine lv_icmp_lt (tgt := 88) hx hb dX10_steps_82 (by decide) (fun c15 => ?_) (fun c15 => ?_)
      · replace hf := hf.1 c15
        refine lv_aload_n hx hb dX10_steps_88 rfl (lv_at hl 1 rfl) ?_
        refine lv_iload hx hb dX10_steps_89 (lv_at hl 0 rfl) ?_
        refine lv_iload hx hb dX10_steps_91 (lv_at hl 6 rfl) ?_
        obtain ⟨h16, hf⟩ := hf
        refine lv_idiv hx hb dX10_steps_93 h16 ?_
        refine lv_iload hx hb dX10_steps_94 (lv_at hl 0 rfl) ?_
        refine lv_iload hx hb dX10_steps_96 (lv_at hl 6 rfl) ?_
        obtain ⟨h17, hf⟩ := hf
        refine lv_irem hx hb dX10_steps_98 h17 ?_
        refine hw_callV (d := 5) E hR hS (As := [.int (r11 / x5), .int (r11 - r11 / x5 * x5)]) (rest := []) cI9 hs0 rfl mcX10_stepByHand miX10_stepByHand lmX10_153 (ok_X10_stepByHand hs0 hf) rfl rfl (by decide) hl.1 (Nat.le_of_ble_eq_true rfl) dX10_steps_99 (fun rr m18 H locs hp hR hS => ?_)
        obtain ⟨rfl, hf⟩ := hp
        refine W.eq (g2 := F0 m 102 ls []) rfl ?_
        obtain ⟨v19, ev19⟩ : ∃ y : Int32, y = x6 + (1 : Int32) := ⟨_, rfl⟩
        replace hf := hf v19 ev19
        refine lv_iinc (v := v19) (lv' := [(6, .int v19), (7, .int r11), (0, .ref (ad g a0)), (1, .int x1), (2, .int x2), (3, .int x3), (4, .int x4), (5, .int x5)]) hx hb dX10_steps_102 hl (k := 7) rfl (by rw [ev19]; rfl) (by decide) rfl (fun ls hl => ?_)
        refine lv_goto (tgt := 46) hx hb dX10_steps_105 (by decide) ?_
        exact hBK46 _ _ _ _ _ hf hR hS (lv_sub hl [2, 3, 4, 5, 6, 7, 0] rfl)
      · replace hf := hf.2 c15
        refine lv_iload hx hb dX10_steps_85 (lv_at hl 7 rfl) ?_
        exact hw_iret E hR hS ⟨_, rfl, hf⟩ dX10_steps_87
def f_X10_steps_L46 (S : Ss) (a0 : Nat) (x1 : Int32) (x2 : Int32) (x3 : Int32) (x4 : Int32) (x5 : Int32) (EK46 : Mm → Prop) (K : Int32 → Mm → Prop) : Nat → Int32 → Mm → Prop
  | 0, _, _ => False
  | n + 1, x6, M => f_X10_steps_B46 S a0 x1 x2 x3 x4 x5 x6 M (fun (x6 : Int32) (M : Mm) => f_X10_steps_L46 S a0 x1 x2 x3 x4 x5 EK46 K n x6 M) EK46 K
set_option maxHeartbeats 4000000 in
set_option maxRecDepth 100000 in
theorem w_X10_steps_L46 {p : Program} {l : Launch} {e : Env} {s : State} {m : MethodId} {args : Array Value} {below : List Frame} {meth : Method} {c : Code} {g : Gg} {S : Ss} (a0 : Nat) (x1 : Int32) (x2 : Int32) (x3 : Int32) (x4 : Int32) (x5 : Int32) (EK46 : Mm → Prop) (K : Int32 → Mm → Prop) (E : EN p s m args meth c cX10_steps 8 (some .int) RX10 g) (hw : ad g 100000 < s.heap.size) (hs0 : S[a0]? = some (9, 0)) (hEK46 : ∀ (M' : Mm) (H : Heap) (locs : List Loc) (ls : Array Slot), EK46 M' → RP g S M' H → va_S (gA g) s.heap H locs → lv_has ls 8 [(2, .int x2)] → W p l e (rmD 5) s m args below meth c H locs 0 0 (MQ below (QA g S (pI K)) args s 0 0 (gA g)) (F0 m 108 ls [])) : ∀ (n : Nat) (x6 : Int32) (M : Mm), f_X10_steps_L46 S a0 x1 x2 x3 x4 x5 EK46 K n x6 M → ∀ (H : Heap) (locs : List Loc) (ls : Array Slot), RP g S M H → va_S (gA g) s.heap H locs → lv_has ls 8 [(0, .ref (ad g a0)), (1, .int x1), (2, .int x2), (3, .int x3), (4, .int x4), (5, .int x5), (6, .int x6)] → W p l e (rmD 5) s m args below meth c H locs 0 0 (MQ below (QA g S (pI K)) args s 0 0 (gA g)) (F0 m 46 ls []) := by
  intro n
  induction n with
  | zero => intro x6 M hf; exact hf.elim
  | succ n ih =>
    intro x6 M hf H locs ls hR hS hl
    exact w_X10_steps_B46 _ _ _ _ _ _ _ _ _ _ _ E hw hs0 (fun _ M H locs ls h hR hS hl => ih _ M h H locs ls hR hS hl) hEK46 hf H locs ls hR hS hl
def f_X10_steps (S : Ss) (a0 : Nat) (x1 : Int32) (x2 : Int32) (x3 : Int32) (x4 : Int32) (M : Mm) (K : Int32 → Mm → Prop) : Prop :=
  ((x1 < 0 →
    K (-1 : Int32) M) ∧
   (¬ x1 < 0 →
    (((3 : Int32) < x1 →
      K (-1 : Int32) M) ∧
     (¬ (3 : Int32) < x1 →
      ((x2 ≤ (20 : Int32) →
        ((x1 = (3 : Int32) →
          K (-3 : Int32) M) ∧
         (¬ x1 = (3 : Int32) →
          ((0 ≤ x2 →
            ∃ b6 : Nat, M.2.2 a0 2 = some b6 ∧
            S[b6]? = some (2, 0) ∧
            ∀ v8 : Int32, v8 = ((M.1 b6 13) + (1 : Int32)) →
            ∃ n21 : Nat, f_X10_steps_L46 S a0 x1 x2 x3 x4 v8 (fun (m20 : Mm) =>
              K x2 m20) K n21 (0 : Int32) M) ∧
           (¬ 0 ≤ x2 →
            K (-2 : Int32) M))))) ∧
       (¬ x2 ≤ (20 : Int32) →
        K (-1 : Int32) M))))))
set_option maxHeartbeats 4000000 in
set_option maxRecDepth 100000 in
theorem ok_X10_steps {l : Launch} {g : Gg} {S : Ss} {a0 : Nat} {x1 : Int32} {x2 : Int32} {x3 : Int32} {x4 : Int32} {M : Mm} {K : Int32 → Mm → Prop} (hs0 : S[a0]? = some (9, 0)) (hf : f_X10_steps S a0 x1 x2 x3 x4 M K) : MT l g S yX10_steps cX10_steps 8 (some .int) 5 [.ref (ad g a0), .int x1, .int x2, .int x3, .int x4] M (pI K) := by
  refine MT.of (by decide +kernel) (Nat.le_of_ble_eq_true rfl) ?_
  intro p e s m below meth c ls E hw hR hS hl
  have hl : lv_has ls 8 [(0, .ref (ad g a0)), (1, .int x1), (2, .int x2), (3, .int x3), (4, .int x4)] := hl
  generalize ([.ref (ad g a0), .int x1, .int x2, .int x3, .int x4] : List Value).toArray = args at E ⊢
  have E : EN p s m args meth c cX10_steps 8 (some .int) RX10 g := E
  have hx := E.1
  have hb := E.2.1
  unfold f_X10_steps at hf
  refine lv_iload_n hx hb dX10_steps_0 rfl (lv_at hl 1 rfl) ?_
  refine lv_if_lt (tgt := 15) hx hb dX10_steps_1 (by decide) (fun c1 => ?_) (fun c1 => ?_)
  · replace hf := hf.1 c1
    refine lv_iconst (v := -1) hx hb dX10_steps_15 (by decide) ?_
    exact hw_iret E hR hS ⟨_, rfl, hf⟩ dX10_steps_16
  · replace hf := hf.2 c1
    refine lv_iload_n hx hb dX10_steps_4 rfl (lv_at hl 1 rfl) ?_
    refine lv_iconst (v := 3) hx hb dX10_steps_5 (by decide) ?_
    refine lv_icmp_gt (tgt := 15) hx hb dX10_steps_6 (by decide) (fun c2 => ?_) (fun c2 => ?_)
    · replace hf := hf.1 c2
      refine lv_iconst (v := -1) hx hb dX10_steps_15 (by decide) ?_
      exact hw_iret E hR hS ⟨_, rfl, hf⟩ dX10_steps_16
    · replace hf := hf.2 c2
      refine lv_iload_n hx hb dX10_steps_9 rfl (lv_at hl 2 rfl) ?_
      refine lv_bipush (v := 20) hx hb dX10_steps_10 (by decide) ?_
      refine lv_icmp_le (tgt := 17) hx hb dX10_steps_12 (by decide) (fun c3 => ?_) (fun c3 => ?_)
      · replace hf := hf.1 c3
        refine lv_iload_n hx hb dX10_steps_17 rfl (lv_at hl 1 rfl) ?_
        refine lv_iconst (v := 3) hx hb dX10_steps_18 (by decide) ?_
        refine lv_icmp_ne (tgt := 25) hx hb dX10_steps_19 (by decide) (fun c4 => ?_) (fun c4 => ?_)
        · replace hf := hf.2 c4
          refine lv_iload_n hx hb dX10_steps_25 rfl (lv_at hl 2 rfl) ?_
          refine lv_if_ge (tgt := 32) hx hb dX10_steps_26 (by decide) (fun c5 => ?_) (fun c5 => ?_)
          · replace hf := hf.1 c5
            refine lv_aload_n hx hb dX10_steps_32 rfl (lv_at hl 0 rfl) ?_
            obtain ⟨b6, hb6, hf⟩ := hf
            refine hw_getR E hR cI9 hs0 2 (by decide) lfX10_27 rfl hb6 dX10_steps_33 ?_
            obtain ⟨h7, hf⟩ := hf
            refine hw_getI E hR cI2 h7 13 (by decide) lfX10_150 rfl dX10_steps_36 ?_
            refine lv_iconst (v := 1) hx hb dX10_steps_39 (by decide) ?_
            refine lv_iadd hx hb dX10_steps_40 ?_
            refine lv_topi (fun v8 ev8 => ?_)
            replace hf := hf v8 ev8
            refine lv_istore (lv' := [(5, .int v8), (0, .ref (ad g a0)), (1, .int x1), (2, .int x2), (3, .int x3), (4, .int x4)]) hx hb dX10_steps_41 hl (by decide) rfl (fun ls hl => ?_)
            refine lv_iconst (v := 0) hx hb dX10_steps_43 (by decide) ?_
            refine lv_istore (lv' := [(6, .int (0 : Int32)), (5, .int v8), (0, .ref (ad g a0)), (1, .int x1), (2, .int x2), (3, .int x3), (4, .int x4)]) hx hb dX10_steps_44 hl (by decide) rfl (fun ls hl => ?_)
            obtain ⟨n21, hf⟩ := hf
            refine w_X10_steps_L46 _ _ _ _ _ _ _ _ E hw hs0 ?_ n21 _ _ hf _ _ _ hR hS (lv_sub hl [2, 3, 4, 5, 6, 1, 0] rfl)
            intro m20 H locs ls hf hR hS hl
            refine lv_iload_n hx hb dX10_steps_108 rfl (lv_at hl 0 rfl) ?_
            exact hw_iret E hR hS ⟨_, rfl, hf⟩ dX10_steps_109
          · replace hf := hf.2 c5
            refine lv_bipush (v := -2) hx hb dX10_steps_29 (by decide) ?_
            exact hw_iret E hR hS ⟨_, rfl, hf⟩ dX10_steps_31
        · replace hf := hf.1 c4
          refine lv_bipush (v := -3) hx hb dX10_steps_22 (by decide) ?_
          exact hw_iret E hR hS ⟨_, rfl, hf⟩ dX10_steps_24
      · replace hf := hf.2 c3
        refine lv_iconst (v := -1) hx hb dX10_steps_15 (by decide) ?_
        exact hw_iret E hR hS ⟨_, rfl, hf⟩ dX10_steps_16
def f_X10_ask (S : Ss) (a0 : Nat) (M : Mm) (K : Int32 → Mm → Prop) : Prop :=
  ∃ b1 : Nat, M.2.2 a0 0 = some b1 ∧
  f_X10_takeText S a0  M (fun (r3 : Int32) (m2 : Mm) =>
    S[b1]? = some (5, 0) ∧
  f_X6_readAsked S b1 r3 m2 (fun (r6 : Int32) (m4 : Mm) =>
    ((r6 < 0 →
    ∃ b8 : Nat, m4.2.2 a0 6 = some b8 ∧
    ∃ b9 : Nat, m4.2.2 a0 2 = some b9 ∧
    ∃ b10 : Nat, m4.2.2 a0 0 = some b10 ∧
    S[b10]? = some (5, 0) ∧
    ∃ b12 : Nat, m4.2.2 b10 6 = some b12 ∧
    ∃ b13 : Nat, m4.2.2 a0 3 = some b13 ∧
    S[b9]? = some (2, 0) ∧
    S[b12]? = some (4, 0) ∧
    S[b13]? = some (3, 0) ∧
    f_X3_value S b9 b12 (0 : Int32) b13 m4 (fun (r18 : Int32) (m14 : Mm) =>
      S[b8]? = some (6, 0) ∧
    f_X7_tellOne S b8 r18.toInt64 m14 (fun (m19 : Mm) =>
      K (0 : Int32) m19))) ∧
   (¬ r6 < 0 →
    K ((-1 : Int32) - r6) m4))))
set_option maxHeartbeats 4000000 in
set_option maxRecDepth 100000 in
theorem ok_X10_ask {l : Launch} {g : Gg} {S : Ss} {a0 : Nat} {M : Mm} {K : Int32 → Mm → Prop} (hs0 : S[a0]? = some (9, 0)) (hf : f_X10_ask S a0 M K) : MT l g S yX10_ask cX10_ask 2 (some .int) 6 [.ref (ad g a0)] M (pI K) := by
  refine MT.of (by decide +kernel) (Nat.le_of_ble_eq_true rfl) ?_
  intro p e s m below meth c ls E hw hR hS hl
  have hl : lv_has ls 2 [(0, .ref (ad g a0))] := hl
  generalize ([.ref (ad g a0)] : List Value).toArray = args at E ⊢
  have E : EN p s m args meth c cX10_ask 2 (some .int) RX10 g := E
  have hx := E.1
  have hb := E.2.1
  unfold f_X10_ask at hf
  refine lv_aload_n hx hb dX10_ask_0 rfl (lv_at hl 0 rfl) ?_
  obtain ⟨b1, hb1, hf⟩ := hf
  refine hw_getR E hR cI9 hs0 0 (by decide) lfX10_10 rfl hb1 dX10_ask_1 ?_
  refine lv_aload_n hx hb dX10_ask_4 rfl (lv_at hl 0 rfl) ?_
  refine hw_callV (d := 6) E hR hS (As := []) (rest := [.ref (ad g b1)]) cI9 hs0 rfl mcX10_takeText miX10_takeText lmX10_88 (ok_X10_takeText hs0 hf) rfl rfl (by decide) hl.1 (Nat.le_of_ble_eq_true rfl) dX10_ask_5 (fun rr m2 H locs hp hR hS => ?_)
  obtain ⟨r3, rfl, hf⟩ := hp
  refine W.eq (g2 := F0 m 8 ls [.int r3, .ref (ad g b1)]) rfl ?_
  obtain ⟨h5, hf⟩ := hf
  refine hw_callV (d := 6) E hR hS (As := [.int r3]) (rest := []) cI5 h5 rfl mcX6_readAsked miX6_readAsked lmX10_128 (ok_X6_readAsked h5 hf) rfl rfl (by decide) hl.1 (Nat.le_of_ble_eq_true rfl) dX10_ask_8 (fun rr m4 H locs hp hR hS => ?_)
  obtain ⟨r6, rfl, hf⟩ := hp
  refine W.eq (g2 := F0 m 11 ls [.int r6]) rfl ?_
  refine lv_istore_n (lv' := [(1, .int r6), (0, .ref (ad g a0))]) hx hb dX10_ask_11 rfl hl (by decide) rfl (fun ls hl => ?_)
  refine lv_iload_n hx hb dX10_ask_12 rfl (lv_at hl 0 rfl) ?_
  refine lv_if_lt (tgt := 20) hx hb dX10_ask_13 (by decide) (fun c7 => ?_) (fun c7 => ?_)
  · replace hf := hf.1 c7
    refine lv_aload_n hx hb dX10_ask_20 rfl (lv_at hl 1 rfl) ?_
    obtain ⟨b8, hb8, hf⟩ := hf
    refine hw_getR E hR cI9 hs0 6 (by decide) lfX10_45 rfl hb8 dX10_ask_21 ?_
    refine lv_aload_n hx hb dX10_ask_24 rfl (lv_at hl 1 rfl) ?_
    obtain ⟨b9, hb9, hf⟩ := hf
    refine hw_getR E hR cI9 hs0 2 (by decide) lfX10_27 rfl hb9 dX10_ask_25 ?_
    refine lv_aload_n hx hb dX10_ask_28 rfl (lv_at hl 1 rfl) ?_
    obtain ⟨b10, hb10, hf⟩ := hf
    refine hw_getR E hR cI9 hs0 0 (by decide) lfX10_10 rfl hb10 dX10_ask_29 ?_
    obtain ⟨h11, hf⟩ := hf
    obtain ⟨b12, hb12, hf⟩ := hf
    refine hw_getR E hR cI5 h11 6 (by decide) lfX10_183 rfl hb12 dX10_ask_32 ?_
    refine lv_iconst (v := 0) hx hb dX10_ask_35 (by decide) ?_
    refine lv_aload_n hx hb dX10_ask_36 rfl (lv_at hl 1 rfl) ?_
    obtain ⟨b13, hb13, hf⟩ := hf
    refine hw_getR E hR cI9 hs0 3 (by decide) lfX10_31 rfl hb13 dX10_ask_37 ?_
    obtain ⟨h15, hf⟩ := hf
    obtain ⟨h16, hf⟩ := hf
    obtain ⟨h17, hf⟩ := hf
    refine hw_callV (d := 6) E hR hS (As := [.ref (ad g b12), .int (0 : Int32), .ref (ad g b13)]) (rest := [.ref (ad g b8)]) cI2 h15 rfl mcX3_value miX3_value lmX10_186 (ok_X3_value h15 h16 h17 hf) rfl rfl (by decide) hl.1 (Nat.le_of_ble_eq_true rfl) dX10_ask_40 (fun rr m14 H locs hp hR hS => ?_)
    obtain ⟨r18, rfl, hf⟩ := hp
    refine W.eq (g2 := F0 m 43 ls [.int r18, .ref (ad g b8)]) rfl ?_
    refine lv_i2l hx hb dX10_ask_43 rfl ?_
    obtain ⟨h20, hf⟩ := hf
    refine hw_callV (d := 6) E hR hS (As := [.long r18.toInt64]) (rest := []) cI6 h20 rfl mcX7_tellOne miX7_tellOne lmX10_190 (ok_X7_tellOne h20 hf) rfl rfl (by decide) hl.1 (Nat.le_of_ble_eq_true rfl) dX10_ask_44 (fun rr m19 H locs hp hR hS => ?_)
    obtain ⟨rfl, hf⟩ := hp
    refine W.eq (g2 := F0 m 47 ls []) rfl ?_
    refine lv_iconst (v := 0) hx hb dX10_ask_47 (by decide) ?_
    exact hw_iret E hR hS ⟨_, rfl, hf⟩ dX10_ask_48
  · replace hf := hf.2 c7
    refine lv_iconst (v := -1) hx hb dX10_ask_16 (by decide) ?_
    refine lv_iload_n hx hb dX10_ask_17 rfl (lv_at hl 0 rfl) ?_
    refine lv_isub hx hb dX10_ask_18 ?_
    exact hw_iret E hR hS ⟨_, rfl, hf⟩ dX10_ask_19
def f_X10_explored (S : Ss) (a0 : Nat) (x1 : Int32) (M : Mm) (K : Int32 → Mm → Prop) : Prop :=
  ∃ b1 : Nat, M.2.2 a0 1 = some b1 ∧
  ∃ b2 : Nat, M.2.2 a0 3 = some b2 ∧
  S[b1]? = some (8, 0) ∧
  S[b2]? = some (3, 0) ∧
  f_X9_explore S b1 b2 x1 (4000 : Int32) (0 : Int32) (0 : Int32) M (fun (r6 : Int32) (m3 : Mm) =>
    (r6 = 0 ∨ r6 = 1) ∧ K r6 m3)
set_option maxHeartbeats 4000000 in
set_option maxRecDepth 100000 in
theorem ok_X10_explored {l : Launch} {g : Gg} {S : Ss} {a0 : Nat} {x1 : Int32} {M : Mm} {K : Int32 → Mm → Prop} (hs0 : S[a0]? = some (9, 0)) (hf : f_X10_explored S a0 x1 M K) : MT l g S yX10_explored cX10_explored 2 (some .boolean) 6 [.ref (ad g a0), .int x1] M (pI K) := by
  refine MT.of (by decide +kernel) (Nat.le_of_ble_eq_true rfl) ?_
  intro p e s m below meth c ls E hw hR hS hl
  have hl : lv_has ls 2 [(0, .ref (ad g a0)), (1, .int x1)] := hl
  generalize ([.ref (ad g a0), .int x1] : List Value).toArray = args at E ⊢
  have E : EN p s m args meth c cX10_explored 2 (some .boolean) RX10 g := E
  have hx := E.1
  have hb := E.2.1
  unfold f_X10_explored at hf
  refine lv_aload_n hx hb dX10_explored_0 rfl (lv_at hl 0 rfl) ?_
  obtain ⟨b1, hb1, hf⟩ := hf
  refine hw_getR E hR cI9 hs0 1 (by decide) lfX10_19 rfl hb1 dX10_explored_1 ?_
  refine lv_aload_n hx hb dX10_explored_4 rfl (lv_at hl 0 rfl) ?_
  obtain ⟨b2, hb2, hf⟩ := hf
  refine hw_getR E hR cI9 hs0 3 (by decide) lfX10_31 rfl hb2 dX10_explored_5 ?_
  refine lv_iload_n hx hb dX10_explored_8 rfl (lv_at hl 1 rfl) ?_
  refine lv_sipush (v := 4000) hx hb dX10_explored_9 (by decide) ?_
  refine lv_iconst (v := 0) hx hb dX10_explored_12 (by decide) ?_
  refine lv_iconst (v := 0) hx hb dX10_explored_13 (by decide) ?_
  obtain ⟨h4, hf⟩ := hf
  obtain ⟨h5, hf⟩ := hf
  refine hw_callV (d := 6) E hR hS (As := [.ref (ad g b2), .int x1, .int (4000 : Int32), .int (0 : Int32), .int (0 : Int32)]) (rest := []) cI8 h4 rfl mcX9_explore miX9_explore lmX10_213 (ok_X9_explore h4 h5 hf) rfl rfl (by decide) hl.1 (Nat.le_of_ble_eq_true rfl) dX10_explored_14 (fun rr m3 H locs hp hR hS => ?_)
  obtain ⟨r6, rfl, hf⟩ := hp
  refine W.eq (g2 := F0 m 17 ls [.int r6]) rfl ?_
  exact hw_zret E hR hS hf.1 ⟨_, rfl, hf.2⟩ dX10_explored_17
def f_X10_refusesRuns (S : Ss) (a0 : Nat) (x1 : Int32) (M : Mm) (K : Int32 → Mm → Prop) : Prop :=
  ((x1 < 0 →
    K (1 : Int32) M) ∧
   (¬ x1 < 0 →
    (((20 : Int32) < x1 →
      K (1 : Int32) M) ∧
     (¬ (20 : Int32) < x1 →
      ∃ b3 : Nat, M.2.2 a0 2 = some b3 ∧
      S[b3]? = some (2, 0) ∧
      (((M.1 b3 10) = 0 →
        K (1 : Int32) M) ∧
       (¬ (M.1 b3 10) = 0 →
        K (0 : Int32) M))))))
set_option maxHeartbeats 4000000 in
set_option maxRecDepth 100000 in
theorem ok_X10_refusesRuns {l : Launch} {g : Gg} {S : Ss} {a0 : Nat} {x1 : Int32} {M : Mm} {K : Int32 → Mm → Prop} (hs0 : S[a0]? = some (9, 0)) (hf : f_X10_refusesRuns S a0 x1 M K) : MT l g S yX10_refusesRuns cX10_refusesRuns 2 (some .boolean) 0 [.ref (ad g a0), .int x1] M (pI K) := by
  refine MT.of (by decide +kernel) (Nat.le_of_ble_eq_true rfl) ?_
  intro p e s m below meth c ls E hw hR hS hl
  have hl : lv_has ls 2 [(0, .ref (ad g a0)), (1, .int x1)] := hl
  generalize ([.ref (ad g a0), .int x1] : List Value).toArray = args at E ⊢
  have E : EN p s m args meth c cX10_refusesRuns 2 (some .boolean) RX10 g := E
  have hx := E.1
  have hb := E.2.1
  unfold f_X10_refusesRuns at hf
  refine lv_iload_n hx hb dX10_refusesRuns_0 rfl (lv_at hl 1 rfl) ?_
  refine lv_if_lt (tgt := 20) hx hb dX10_refusesRuns_1 (by decide) (fun c1 => ?_) (fun c1 => ?_)
  · replace hf := hf.1 c1
    refine lv_iconst (v := 1) hx hb dX10_refusesRuns_20 (by decide) ?_
    refine lv_goto (tgt := 25) hx hb dX10_refusesRuns_21 (by decide) ?_
    exact hw_zret E hR hS (by decide) ⟨_, rfl, hf⟩ dX10_refusesRuns_25
  · replace hf := hf.2 c1
    refine lv_iload_n hx hb dX10_refusesRuns_4 rfl (lv_at hl 1 rfl) ?_
    refine lv_bipush (v := 20) hx hb dX10_refusesRuns_5 (by decide) ?_
    refine lv_icmp_gt (tgt := 20) hx hb dX10_refusesRuns_7 (by decide) (fun c2 => ?_) (fun c2 => ?_)
    · replace hf := hf.1 c2
      refine lv_iconst (v := 1) hx hb dX10_refusesRuns_20 (by decide) ?_
      refine lv_goto (tgt := 25) hx hb dX10_refusesRuns_21 (by decide) ?_
      exact hw_zret E hR hS (by decide) ⟨_, rfl, hf⟩ dX10_refusesRuns_25
    · replace hf := hf.2 c2
      refine lv_aload_n hx hb dX10_refusesRuns_10 rfl (lv_at hl 0 rfl) ?_
      obtain ⟨b3, hb3, hf⟩ := hf
      refine hw_getR E hR cI9 hs0 2 (by decide) lfX10_27 rfl hb3 dX10_refusesRuns_11 ?_
      obtain ⟨h4, hf⟩ := hf
      refine hw_getI E hR cI2 h4 10 (by decide) lfX10_92 rfl dX10_refusesRuns_14 ?_
      refine lv_if_ne (tgt := 24) hx hb dX10_refusesRuns_17 (by decide) (fun c5 => ?_) (fun c5 => ?_)
      · replace hf := hf.2 c5
        refine lv_iconst (v := 0) hx hb dX10_refusesRuns_24 (by decide) ?_
        exact hw_zret E hR hS (by decide) ⟨_, rfl, hf⟩ dX10_refusesRuns_25
      · replace hf := hf.1 c5
        refine lv_iconst (v := 1) hx hb dX10_refusesRuns_20 (by decide) ?_
        refine lv_goto (tgt := 25) hx hb dX10_refusesRuns_21 (by decide) ?_
        exact hw_zret E hR hS (by decide) ⟨_, rfl, hf⟩ dX10_refusesRuns_25
def f_X10_all (S : Ss) (a0 : Nat) (x1 : Int32) (M : Mm) (K : Int32 → Mm → Prop) : Prop :=
  f_X10_refusesRuns S a0 x1 M (fun (r2 : Int32) (m1 : Mm) =>
    ((r2 = 0 →
    f_X10_explored S a0 x1 m1 (fun (r5 : Int32) (m4 : Mm) =>
      ((r5 = 0 →
      K (-3 : Int32) m4) ∧
     (¬ r5 = 0 →
      ∃ b7 : Nat, m4.2.2 a0 1 = some b7 ∧
      S[b7]? = some (8, 0) ∧
      K (m4.1 b7 10) m4)))) ∧
   (¬ r2 = 0 →
    K (-1 : Int32) m1)))
set_option maxHeartbeats 4000000 in
set_option maxRecDepth 100000 in
theorem ok_X10_all {l : Launch} {g : Gg} {S : Ss} {a0 : Nat} {x1 : Int32} {M : Mm} {K : Int32 → Mm → Prop} (hs0 : S[a0]? = some (9, 0)) (hf : f_X10_all S a0 x1 M K) : MT l g S yX10_all cX10_all 2 (some .int) 7 [.ref (ad g a0), .int x1] M (pI K) := by
  refine MT.of (by decide +kernel) (Nat.le_of_ble_eq_true rfl) ?_
  intro p e s m below meth c ls E hw hR hS hl
  have hl : lv_has ls 2 [(0, .ref (ad g a0)), (1, .int x1)] := hl
  generalize ([.ref (ad g a0), .int x1] : List Value).toArray = args at E ⊢
  have E : EN p s m args meth c cX10_all 2 (some .int) RX10 g := E
  have hx := E.1
  have hb := E.2.1
  unfold f_X10_all at hf
  refine lv_aload_n hx hb dX10_all_0 rfl (lv_at hl 0 rfl) ?_
  refine lv_iload_n hx hb dX10_all_1 rfl (lv_at hl 1 rfl) ?_
  refine hw_callV (d := 7) E hR hS (As := [.int x1]) (rest := []) cI9 hs0 rfl mcX10_refusesRuns miX10_refusesRuns lmX10_194 (ok_X10_refusesRuns hs0 hf) rfl rfl (by decide) hl.1 (Nat.le_of_ble_eq_true rfl) dX10_all_2 (fun rr m1 H locs hp hR hS => ?_)
  obtain ⟨r2, rfl, hf⟩ := hp
  refine W.eq (g2 := F0 m 5 ls [.int r2]) rfl ?_
  refine lv_if_eq (tgt := 10) hx hb dX10_all_5 (by decide) (fun c3 => ?_) (fun c3 => ?_)
  · replace hf := hf.1 c3
    refine lv_aload_n hx hb dX10_all_10 rfl (lv_at hl 0 rfl) ?_
    refine lv_iload_n hx hb dX10_all_11 rfl (lv_at hl 1 rfl) ?_
    refine hw_callV (d := 7) E hR hS (As := [.int x1]) (rest := []) cI9 hs0 rfl mcX10_explored miX10_explored lmX10_198 (ok_X10_explored hs0 hf) rfl rfl (by decide) hl.1 (Nat.le_of_ble_eq_true rfl) dX10_all_12 (fun rr m4 H locs hp hR hS => ?_)
    obtain ⟨r5, rfl, hf⟩ := hp
    refine W.eq (g2 := F0 m 15 ls [.int r5]) rfl ?_
    refine lv_if_eq (tgt := 28) hx hb dX10_all_15 (by decide) (fun c6 => ?_) (fun c6 => ?_)
    · replace hf := hf.1 c6
      refine lv_bipush (v := -3) hx hb dX10_all_28 (by decide) ?_
      exact hw_iret E hR hS ⟨_, rfl, hf⟩ dX10_all_30
    · replace hf := hf.2 c6
      refine lv_aload_n hx hb dX10_all_18 rfl (lv_at hl 0 rfl) ?_
      obtain ⟨b7, hb7, hf⟩ := hf
      refine hw_getR E hR cI9 hs0 1 (by decide) lfX10_19 rfl hb7 dX10_all_19 ?_
      obtain ⟨h8, hf⟩ := hf
      refine hw_getI E hR cI8 h8 10 (by decide) lfX10_201 rfl dX10_all_22 ?_
      refine lv_goto (tgt := 30) hx hb dX10_all_25 (by decide) ?_
      exact hw_iret E hR hS ⟨_, rfl, hf⟩ dX10_all_30
  · replace hf := hf.2 c3
    refine lv_iconst (v := -1) hx hb dX10_all_8 (by decide) ?_
    exact hw_iret E hR hS ⟨_, rfl, hf⟩ dX10_all_9
def f_X10_tellStepsTo (S : Ss) (a0 : Nat) (x1 : Int32) (M : Mm) (K : Int32 → Mm → Prop) : Prop :=
  ((0 ≤ x1 →
    ∃ b2 : Nat, M.2.2 a0 1 = some b2 ∧
    ∃ b3 : Nat, M.2.2 a0 6 = some b3 ∧
    S[b2]? = some (8, 0) ∧
    S[b3]? = some (6, 0) ∧
    f_X9_tellSteps S b2 x1 b3 M (fun (m4 : Mm) =>
      ∃ b7 : Nat, m4.2.2 a0 6 = some b7 ∧
    S[b7]? = some (6, 0) ∧
    K (m4.1 b7 1) m4)) ∧
   (¬ 0 ≤ x1 →
    K (-2 : Int32) M))
set_option maxHeartbeats 4000000 in
set_option maxRecDepth 100000 in
theorem ok_X10_tellStepsTo {l : Launch} {g : Gg} {S : Ss} {a0 : Nat} {x1 : Int32} {M : Mm} {K : Int32 → Mm → Prop} (hs0 : S[a0]? = some (9, 0)) (hf : f_X10_tellStepsTo S a0 x1 M K) : MT l g S yX10_tellStepsTo cX10_tellStepsTo 2 (some .int) 1 [.ref (ad g a0), .int x1] M (pI K) := by
  refine MT.of (by decide +kernel) (Nat.le_of_ble_eq_true rfl) ?_
  intro p e s m below meth c ls E hw hR hS hl
  have hl : lv_has ls 2 [(0, .ref (ad g a0)), (1, .int x1)] := hl
  generalize ([.ref (ad g a0), .int x1] : List Value).toArray = args at E ⊢
  have E : EN p s m args meth c cX10_tellStepsTo 2 (some .int) RX10 g := E
  have hx := E.1
  have hb := E.2.1
  unfold f_X10_tellStepsTo at hf
  refine lv_iload_n hx hb dX10_tellStepsTo_0 rfl (lv_at hl 1 rfl) ?_
  refine lv_if_ge (tgt := 7) hx hb dX10_tellStepsTo_1 (by decide) (fun c1 => ?_) (fun c1 => ?_)
  · replace hf := hf.1 c1
    refine lv_aload_n hx hb dX10_tellStepsTo_7 rfl (lv_at hl 0 rfl) ?_
    obtain ⟨b2, hb2, hf⟩ := hf
    refine hw_getR E hR cI9 hs0 1 (by decide) lfX10_19 rfl hb2 dX10_tellStepsTo_8 ?_
    refine lv_iload_n hx hb dX10_tellStepsTo_11 rfl (lv_at hl 1 rfl) ?_
    refine lv_aload_n hx hb dX10_tellStepsTo_12 rfl (lv_at hl 0 rfl) ?_
    obtain ⟨b3, hb3, hf⟩ := hf
    refine hw_getR E hR cI9 hs0 6 (by decide) lfX10_45 rfl hb3 dX10_tellStepsTo_13 ?_
    obtain ⟨h5, hf⟩ := hf
    obtain ⟨h6, hf⟩ := hf
    refine hw_callV (d := 1) E hR hS (As := [.int x1, .ref (ad g b3)]) (rest := []) cI8 h5 rfl mcX9_tellSteps miX9_tellSteps lmX10_227 (ok_X9_tellSteps h5 h6 hf) rfl rfl (by decide) hl.1 (Nat.le_of_ble_eq_true rfl) dX10_tellStepsTo_16 (fun rr m4 H locs hp hR hS => ?_)
    obtain ⟨rfl, hf⟩ := hp
    refine W.eq (g2 := F0 m 19 ls []) rfl ?_
    refine lv_aload_n hx hb dX10_tellStepsTo_19 rfl (lv_at hl 0 rfl) ?_
    obtain ⟨b7, hb7, hf⟩ := hf
    refine hw_getR E hR cI9 hs0 6 (by decide) lfX10_45 rfl hb7 dX10_tellStepsTo_20 ?_
    obtain ⟨h8, hf⟩ := hf
    refine hw_getI E hR cI6 h8 1 (by decide) lfX10_231 rfl dX10_tellStepsTo_23 ?_
    exact hw_iret E hR hS ⟨_, rfl, hf⟩ dX10_tellStepsTo_26
  · replace hf := hf.2 c1
    refine lv_bipush (v := -2) hx hb dX10_tellStepsTo_4 (by decide) ?_
    exact hw_iret E hR hS ⟨_, rfl, hf⟩ dX10_tellStepsTo_6
def f_X10_never (S : Ss) (a0 : Nat) (x1 : Int32) (M : Mm) (K : Int32 → Mm → Prop) : Prop :=
  f_X10_refusesRuns S a0 x1 M (fun (r2 : Int32) (m1 : Mm) =>
    ((r2 = 0 →
    f_X10_explored S a0 x1 m1 (fun (r5 : Int32) (m4 : Mm) =>
      ((r5 = 0 →
      K (-3 : Int32) m4) ∧
     (¬ r5 = 0 →
      ∃ b7 : Nat, m4.2.2 a0 1 = some b7 ∧
      S[b7]? = some (8, 0) ∧
      f_X10_tellStepsTo S a0 (m4.1 b7 14) m4 (fun (r10 : Int32) (m9 : Mm) =>
        K r10 m9))))) ∧
   (¬ r2 = 0 →
    K (-1 : Int32) m1)))
set_option maxHeartbeats 4000000 in
set_option maxRecDepth 100000 in
theorem ok_X10_never {l : Launch} {g : Gg} {S : Ss} {a0 : Nat} {x1 : Int32} {M : Mm} {K : Int32 → Mm → Prop} (hs0 : S[a0]? = some (9, 0)) (hf : f_X10_never S a0 x1 M K) : MT l g S yX10_never cX10_never 2 (some .int) 7 [.ref (ad g a0), .int x1] M (pI K) := by
  refine MT.of (by decide +kernel) (Nat.le_of_ble_eq_true rfl) ?_
  intro p e s m below meth c ls E hw hR hS hl
  have hl : lv_has ls 2 [(0, .ref (ad g a0)), (1, .int x1)] := hl
  generalize ([.ref (ad g a0), .int x1] : List Value).toArray = args at E ⊢
  have E : EN p s m args meth c cX10_never 2 (some .int) RX10 g := E
  have hx := E.1
  have hb := E.2.1
  unfold f_X10_never at hf
  refine lv_aload_n hx hb dX10_never_0 rfl (lv_at hl 0 rfl) ?_
  refine lv_iload_n hx hb dX10_never_1 rfl (lv_at hl 1 rfl) ?_
  refine hw_callV (d := 7) E hR hS (As := [.int x1]) (rest := []) cI9 hs0 rfl mcX10_refusesRuns miX10_refusesRuns lmX10_194 (ok_X10_refusesRuns hs0 hf) rfl rfl (by decide) hl.1 (Nat.le_of_ble_eq_true rfl) dX10_never_2 (fun rr m1 H locs hp hR hS => ?_)
  obtain ⟨r2, rfl, hf⟩ := hp
  refine W.eq (g2 := F0 m 5 ls [.int r2]) rfl ?_
  refine lv_if_eq (tgt := 10) hx hb dX10_never_5 (by decide) (fun c3 => ?_) (fun c3 => ?_)
  · replace hf := hf.1 c3
    refine lv_aload_n hx hb dX10_never_10 rfl (lv_at hl 0 rfl) ?_
    refine lv_iload_n hx hb dX10_never_11 rfl (lv_at hl 1 rfl) ?_
    refine hw_callV (d := 7) E hR hS (As := [.int x1]) (rest := []) cI9 hs0 rfl mcX10_explored miX10_explored lmX10_198 (ok_X10_explored hs0 hf) rfl rfl (by decide) hl.1 (Nat.le_of_ble_eq_true rfl) dX10_never_12 (fun rr m4 H locs hp hR hS => ?_)
    obtain ⟨r5, rfl, hf⟩ := hp
    refine W.eq (g2 := F0 m 15 ls [.int r5]) rfl ?_
    refine lv_if_ne (tgt := 21) hx hb dX10_never_15 (by decide) (fun c6 => ?_) (fun c6 => ?_)
    · replace hf := hf.2 c6
      refine lv_aload_n hx hb dX10_never_21 rfl (lv_at hl 0 rfl) ?_
      refine lv_aload_n hx hb dX10_never_22 rfl (lv_at hl 0 rfl) ?_
      obtain ⟨b7, hb7, hf⟩ := hf
      refine hw_getR E hR cI9 hs0 1 (by decide) lfX10_19 rfl hb7 dX10_never_23 ?_
      obtain ⟨h8, hf⟩ := hf
      refine hw_getI E hR cI8 h8 14 (by decide) lfX10_204 rfl dX10_never_26 ?_
      refine hw_callV (d := 7) E hR hS (As := [.int (m4.1 b7 14)]) (rest := []) cI9 hs0 rfl mcX10_tellStepsTo miX10_tellStepsTo lmX10_207 (ok_X10_tellStepsTo hs0 hf) rfl rfl (by decide) hl.1 (Nat.le_of_ble_eq_true rfl) dX10_never_29 (fun rr m9 H locs hp hR hS => ?_)
      obtain ⟨r10, rfl, hf⟩ := hp
      refine W.eq (g2 := F0 m 32 ls [.int r10]) rfl ?_
      exact hw_iret E hR hS ⟨_, rfl, hf⟩ dX10_never_32
    · replace hf := hf.1 c6
      refine lv_bipush (v := -3) hx hb dX10_never_18 (by decide) ?_
      exact hw_iret E hR hS ⟨_, rfl, hf⟩ dX10_never_20
  · replace hf := hf.2 c3
    refine lv_iconst (v := -1) hx hb dX10_never_8 (by decide) ?_
    exact hw_iret E hR hS ⟨_, rfl, hf⟩ dX10_never_9
def f_X10_reach (S : Ss) (a0 : Nat) (x1 : Int32) (M : Mm) (K : Int32 → Mm → Prop) : Prop :=
  ∃ b1 : Nat, M.2.2 a0 0 = some b1 ∧
  f_X10_takeText S a0  M (fun (r3 : Int32) (m2 : Mm) =>
    S[b1]? = some (5, 0) ∧
  f_X6_readAsked S b1 r3 m2 (fun (r6 : Int32) (m4 : Mm) =>
    f_X10_refusesRuns S a0 x1 m4 (fun (r8 : Int32) (m7 : Mm) =>
    ((r8 = 0 →
    ((r6 < 0 →
      ∃ b11 : Nat, m7.2.2 a0 2 = some b11 ∧
      ∃ b12 : Nat, m7.2.2 a0 0 = some b12 ∧
      ∃ b13 : Nat, m7.2.2 a0 2 = some b13 ∧
      S[b13]? = some (2, 0) ∧
      ∃ b15 : Nat, m7.2.2 b13 9 = some b15 ∧
      S[b12]? = some (5, 0) ∧
      S[b15]? = some (4, 0) ∧
      f_X6_exchange S b12 b15 m7 (fun (r19 : Nat) (m16 : Mm) =>
        S[b11]? = some (2, 0) ∧
      ∀ m21 : Mm, m21 = stR m16 b11 9 (some r19) →
      ∃ b22 : Nat, m21.2.2 a0 1 = some b22 ∧
      ∃ b23 : Nat, m21.2.2 a0 3 = some b23 ∧
      S[b22]? = some (8, 0) ∧
      S[b23]? = some (3, 0) ∧
      f_X9_explore S b22 b23 x1 (4000 : Int32) (1 : Int32) (0 : Int32) m21 (fun (r27 : Int32) (m24 : Mm) =>
        ((r27 = 0 →
        K (-3 : Int32) m24) ∧
       (¬ r27 = 0 →
        ∃ b29 : Nat, m24.2.2 a0 2 = some b29 ∧
        ∃ b30 : Nat, m24.2.2 a0 2 = some b30 ∧
        S[b30]? = some (2, 0) ∧
        ∃ b32 : Nat, m24.2.2 b30 9 = some b32 ∧
        ∃ b33 : Nat, m24.2.2 a0 3 = some b33 ∧
        S[b29]? = some (2, 0) ∧
        S[b32]? = some (4, 0) ∧
        S[b33]? = some (3, 0) ∧
        f_X3_value S b29 b32 (0 : Int32) b33 m24 (fun (r38 : Int32) (m34 : Mm) =>
          ((r38 = 0 →
          ∃ b40 : Nat, m34.2.2 a0 1 = some b40 ∧
          S[b40]? = some (8, 0) ∧
          f_X10_tellStepsTo S a0 (m34.1 b40 15) m34 (fun (r43 : Int32) (m42 : Mm) =>
            K r43 m42)) ∧
         (¬ r38 = 0 →
          ∃ b44 : Nat, m34.2.2 a0 6 = some b44 ∧
          S[b44]? = some (6, 0) ∧
          f_X7_clear S b44  m34 (fun (m45 : Mm) =>
            K (0 : Int32) m45))))))))) ∧
     (¬ r6 < 0 →
      K ((-100 : Int32) - r6) m7))) ∧
   (¬ r8 = 0 →
    K (-1 : Int32) m7)))))
set_option maxHeartbeats 4000000 in
set_option maxRecDepth 100000 in
theorem ok_X10_reach {l : Launch} {g : Gg} {S : Ss} {a0 : Nat} {x1 : Int32} {M : Mm} {K : Int32 → Mm → Prop} (hs0 : S[a0]? = some (9, 0)) (hf : f_X10_reach S a0 x1 M K) : MT l g S yX10_reach cX10_reach 3 (some .int) 6 [.ref (ad g a0), .int x1] M (pI K) := by
  refine MT.of (by decide +kernel) (Nat.le_of_ble_eq_true rfl) ?_
  intro p e s m below meth c ls E hw hR hS hl
  have hl : lv_has ls 3 [(0, .ref (ad g a0)), (1, .int x1)] := hl
  generalize ([.ref (ad g a0), .int x1] : List Value).toArray = args at E ⊢
  have E : EN p s m args meth c cX10_reach 3 (some .int) RX10 g := E
  have hx := E.1
  have hb := E.2.1
  unfold f_X10_reach at hf
  refine lv_aload_n hx hb dX10_reach_0 rfl (lv_at hl 0 rfl) ?_
  obtain ⟨b1, hb1, hf⟩ := hf
  refine hw_getR E hR cI9 hs0 0 (by decide) lfX10_10 rfl hb1 dX10_reach_1 ?_
  refine lv_aload_n hx hb dX10_reach_4 rfl (lv_at hl 0 rfl) ?_
  refine hw_callV (d := 6) E hR hS (As := []) (rest := [.ref (ad g b1)]) cI9 hs0 rfl mcX10_takeText miX10_takeText lmX10_88 (ok_X10_takeText hs0 hf) rfl rfl (by decide) hl.1 (Nat.le_of_ble_eq_true rfl) dX10_reach_5 (fun rr m2 H locs hp hR hS => ?_)
  obtain ⟨r3, rfl, hf⟩ := hp
  refine W.eq (g2 := F0 m 8 ls [.int r3, .ref (ad g b1)]) rfl ?_
  obtain ⟨h5, hf⟩ := hf
  refine hw_callV (d := 6) E hR hS (As := [.int r3]) (rest := []) cI5 h5 rfl mcX6_readAsked miX6_readAsked lmX10_128 (ok_X6_readAsked h5 hf) rfl rfl (by decide) hl.1 (Nat.le_of_ble_eq_true rfl) dX10_reach_8 (fun rr m4 H locs hp hR hS => ?_)
  obtain ⟨r6, rfl, hf⟩ := hp
  refine W.eq (g2 := F0 m 11 ls [.int r6]) rfl ?_
  refine lv_istore_n (lv' := [(2, .int r6), (0, .ref (ad g a0)), (1, .int x1)]) hx hb dX10_reach_11 rfl hl (by decide) rfl (fun ls hl => ?_)
  refine lv_aload_n hx hb dX10_reach_12 rfl (lv_at hl 1 rfl) ?_
  refine lv_iload_n hx hb dX10_reach_13 rfl (lv_at hl 2 rfl) ?_
  refine hw_callV (d := 6) E hR hS (As := [.int x1]) (rest := []) cI9 hs0 rfl mcX10_refusesRuns miX10_refusesRuns lmX10_194 (ok_X10_refusesRuns hs0 hf) rfl rfl (by decide) hl.1 (Nat.le_of_ble_eq_true rfl) dX10_reach_14 (fun rr m7 H locs hp hR hS => ?_)
  obtain ⟨r8, rfl, hf⟩ := hp
  refine W.eq (g2 := F0 m 17 ls [.int r8]) rfl ?_
  refine lv_if_eq (tgt := 22) hx hb dX10_reach_17 (by decide) (fun c9 => ?_) (fun c9 => ?_)
  · replace hf := hf.1 c9
    refine lv_iload_n hx hb dX10_reach_22 rfl (lv_at hl 0 rfl) ?_
    refine lv_if_lt (tgt := 31) hx hb dX10_reach_23 (by decide) (fun c10 => ?_) (fun c10 => ?_)
    · replace hf := hf.1 c10
      refine lv_aload_n hx hb dX10_reach_31 rfl (lv_at hl 1 rfl) ?_
      obtain ⟨b11, hb11, hf⟩ := hf
      refine hw_getR E hR cI9 hs0 2 (by decide) lfX10_27 rfl hb11 dX10_reach_32 ?_
      refine lv_aload_n hx hb dX10_reach_35 rfl (lv_at hl 1 rfl) ?_
      obtain ⟨b12, hb12, hf⟩ := hf
      refine hw_getR E hR cI9 hs0 0 (by decide) lfX10_10 rfl hb12 dX10_reach_36 ?_
      refine lv_aload_n hx hb dX10_reach_39 rfl (lv_at hl 1 rfl) ?_
      obtain ⟨b13, hb13, hf⟩ := hf
      refine hw_getR E hR cI9 hs0 2 (by decide) lfX10_27 rfl hb13 dX10_reach_40 ?_
      obtain ⟨h14, hf⟩ := hf
      obtain ⟨b15, hb15, hf⟩ := hf
      refine hw_getR E hR cI2 h14 9 (by decide) lfX10_210 rfl hb15 dX10_reach_43 ?_
      obtain ⟨h17, hf⟩ := hf
      obtain ⟨h18, hf⟩ := hf
      refine hw_callV (d := 6) E hR hS (As := [.ref (ad g b15)]) (rest := [.ref (ad g b11)]) cI5 h17 rfl mcX6_exchange miX6_exchange lmX10_105 (ok_X6_exchange h17 h18 hf) rfl rfl (by decide) hl.1 (Nat.le_of_ble_eq_true rfl) dX10_reach_46 (fun rr m16 H locs hp hR hS => ?_)
      obtain ⟨r19, rfl, hf⟩ := hp
      refine W.eq (g2 := F0 m 49 ls [.ref (ad g r19), .ref (ad g b11)]) rfl ?_
      obtain ⟨h20, hf⟩ := hf
      refine hw_putR (o := (some r19)) E hR hS hw cI2 h20 9 (by decide) lfX10_210 rfl rfl dX10_reach_49 (fun m21 H locs em21 hR hS => ?_)
      replace hf := hf m21 em21
      refine lv_aload_n hx hb dX10_reach_52 rfl (lv_at hl 1 rfl) ?_
      obtain ⟨b22, hb22, hf⟩ := hf
      refine hw_getR E hR cI9 hs0 1 (by decide) lfX10_19 rfl hb22 dX10_reach_53 ?_
      refine lv_aload_n hx hb dX10_reach_56 rfl (lv_at hl 1 rfl) ?_
      obtain ⟨b23, hb23, hf⟩ := hf
      refine hw_getR E hR cI9 hs0 3 (by decide) lfX10_31 rfl hb23 dX10_reach_57 ?_
      refine lv_iload_n hx hb dX10_reach_60 rfl (lv_at hl 2 rfl) ?_
      refine lv_sipush (v := 4000) hx hb dX10_reach_61 (by decide) ?_
      refine lv_iconst (v := 1) hx hb dX10_reach_64 (by decide) ?_
      refine lv_iconst (v := 0) hx hb dX10_reach_65 (by decide) ?_
      obtain ⟨h25, hf⟩ := hf
      obtain ⟨h26, hf⟩ := hf
      refine hw_callV (d := 6) E hR hS (As := [.ref (ad g b23), .int x1, .int (4000 : Int32), .int (1 : Int32), .int (0 : Int32)]) (rest := []) cI8 h25 rfl mcX9_explore miX9_explore lmX10_213 (ok_X9_explore h25 h26 hf) rfl rfl (by decide) hl.1 (Nat.le_of_ble_eq_true rfl) dX10_reach_66 (fun rr m24 H locs hp hR hS => ?_)
      obtain ⟨r27, rfl, hf⟩ := hp
      refine W.eq (g2 := F0 m 69 ls [.int r27]) rfl ?_
      refine lv_if_ne (tgt := 75) hx hb dX10_reach_69 (by decide) (fun c28 => ?_) (fun c28 => ?_)
      · replace hf := hf.2 c28
        refine lv_aload_n hx hb dX10_reach_75 rfl (lv_at hl 1 rfl) ?_
        obtain ⟨b29, hb29, hf⟩ := hf
        refine hw_getR E hR cI9 hs0 2 (by decide) lfX10_27 rfl hb29 dX10_reach_76 ?_
        refine lv_aload_n hx hb dX10_reach_79 rfl (lv_at hl 1 rfl) ?_
        obtain ⟨b30, hb30, hf⟩ := hf
        refine hw_getR E hR cI9 hs0 2 (by decide) lfX10_27 rfl hb30 dX10_reach_80 ?_
        obtain ⟨h31, hf⟩ := hf
        obtain ⟨b32, hb32, hf⟩ := hf
        refine hw_getR E hR cI2 h31 9 (by decide) lfX10_210 rfl hb32 dX10_reach_83 ?_
        refine lv_iconst (v := 0) hx hb dX10_reach_86 (by decide) ?_
        refine lv_aload_n hx hb dX10_reach_87 rfl (lv_at hl 1 rfl) ?_
        obtain ⟨b33, hb33, hf⟩ := hf
        refine hw_getR E hR cI9 hs0 3 (by decide) lfX10_31 rfl hb33 dX10_reach_88 ?_
        obtain ⟨h35, hf⟩ := hf
        obtain ⟨h36, hf⟩ := hf
        obtain ⟨h37, hf⟩ := hf
        refine hw_callV (d := 6) E hR hS (As := [.ref (ad g b32), .int (0 : Int32), .ref (ad g b33)]) (rest := []) cI2 h35 rfl mcX3_value miX3_value lmX10_186 (ok_X3_value h35 h36 h37 hf) rfl rfl (by decide) hl.1 (Nat.le_of_ble_eq_true rfl) dX10_reach_91 (fun rr m34 H locs hp hR hS => ?_)
        obtain ⟨r38, rfl, hf⟩ := hp
        refine W.eq (g2 := F0 m 94 ls [.int r38]) rfl ?_
        refine lv_if_eq (tgt := 106) hx hb dX10_reach_94 (by decide) (fun c39 => ?_) (fun c39 => ?_)
        · replace hf := hf.1 c39
          refine lv_aload_n hx hb dX10_reach_106 rfl (lv_at hl 1 rfl) ?_
          refine lv_aload_n hx hb dX10_reach_107 rfl (lv_at hl 1 rfl) ?_
          obtain ⟨b40, hb40, hf⟩ := hf
          refine hw_getR E hR cI9 hs0 1 (by decide) lfX10_19 rfl hb40 dX10_reach_108 ?_
          obtain ⟨h41, hf⟩ := hf
          refine hw_getI E hR cI8 h41 15 (by decide) lfX10_218 rfl dX10_reach_111 ?_
          refine hw_callV (d := 6) E hR hS (As := [.int (m34.1 b40 15)]) (rest := []) cI9 hs0 rfl mcX10_tellStepsTo miX10_tellStepsTo lmX10_207 (ok_X10_tellStepsTo hs0 hf) rfl rfl (by decide) hl.1 (Nat.le_of_ble_eq_true rfl) dX10_reach_114 (fun rr m42 H locs hp hR hS => ?_)
          obtain ⟨r43, rfl, hf⟩ := hp
          refine W.eq (g2 := F0 m 117 ls [.int r43]) rfl ?_
          exact hw_iret E hR hS ⟨_, rfl, hf⟩ dX10_reach_117
        · replace hf := hf.2 c39
          refine lv_aload_n hx hb dX10_reach_97 rfl (lv_at hl 1 rfl) ?_
          obtain ⟨b44, hb44, hf⟩ := hf
          refine hw_getR E hR cI9 hs0 6 (by decide) lfX10_45 rfl hb44 dX10_reach_98 ?_
          obtain ⟨h46, hf⟩ := hf
          refine hw_callV (d := 6) E hR hS (As := []) (rest := []) cI6 h46 rfl mcX7_clear miX7_clear lmX10_217 (ok_X7_clear h46 hf) rfl rfl (by decide) hl.1 (Nat.le_of_ble_eq_true rfl) dX10_reach_101 (fun rr m45 H locs hp hR hS => ?_)
          obtain ⟨rfl, hf⟩ := hp
          refine W.eq (g2 := F0 m 104 ls []) rfl ?_
          refine lv_iconst (v := 0) hx hb dX10_reach_104 (by decide) ?_
          exact hw_iret E hR hS ⟨_, rfl, hf⟩ dX10_reach_105
      · replace hf := hf.1 c28
        refine lv_bipush (v := -3) hx hb dX10_reach_72 (by decide) ?_
        exact hw_iret E hR hS ⟨_, rfl, hf⟩ dX10_reach_74
    · replace hf := hf.2 c10
      refine lv_bipush (v := -100) hx hb dX10_reach_26 (by decide) ?_
      refine lv_iload_n hx hb dX10_reach_28 rfl (lv_at hl 0 rfl) ?_
      refine lv_isub hx hb dX10_reach_29 ?_
      exact hw_iret E hR hS ⟨_, rfl, hf⟩ dX10_reach_30
  · replace hf := hf.2 c9
    refine lv_iconst (v := -1) hx hb dX10_reach_20 (by decide) ?_
    exact hw_iret E hR hS ⟨_, rfl, hf⟩ dX10_reach_21
def f_X10_stuck (S : Ss) (a0 : Nat) (x1 : Int32) (M : Mm) (K : Int32 → Mm → Prop) : Prop :=
  f_X10_refusesRuns S a0 x1 M (fun (r2 : Int32) (m1 : Mm) =>
    ((r2 = 0 →
    f_X10_explored S a0 x1 m1 (fun (r5 : Int32) (m4 : Mm) =>
      ((r5 = 0 →
      K (-3 : Int32) m4) ∧
     (¬ r5 = 0 →
      ∃ b7 : Nat, m4.2.2 a0 1 = some b7 ∧
      S[b7]? = some (8, 0) ∧
      ((0 ≤ (m4.1 b7 16) →
        ∃ b10 : Nat, m4.2.2 a0 1 = some b10 ∧
        ∃ b11 : Nat, m4.2.2 a0 1 = some b11 ∧
        S[b11]? = some (8, 0) ∧
        ∃ b13 : Nat, m4.2.2 b11 4 = some b13 ∧
        ∃ b14 : Nat, m4.2.2 a0 1 = some b14 ∧
        S[b14]? = some (8, 0) ∧
        ∃ n16 : Nat, shp S b13 = some (50, n16) ∧ vp_in (m4.1 b14 16) n16 ∧
        ∃ b17 : Nat, m4.2.2 a0 6 = some b17 ∧
        S[b10]? = some (8, 0) ∧
        S[b17]? = some (6, 0) ∧
        f_X9_tellSteps S b10 (m4.1 b13 (m4.1 b14 16).toNatClampNeg) b17 m4 (fun (m18 : Mm) =>
          ∃ b21 : Nat, m18.2.2 a0 6 = some b21 ∧
        S[b21]? = some (6, 0) ∧
        K (m18.1 b21 1) m18)) ∧
       (¬ 0 ≤ (m4.1 b7 16) →
        K (-2 : Int32) m4)))))) ∧
   (¬ r2 = 0 →
    K (-1 : Int32) m1)))
set_option maxHeartbeats 4000000 in
set_option maxRecDepth 100000 in
theorem ok_X10_stuck {l : Launch} {g : Gg} {S : Ss} {a0 : Nat} {x1 : Int32} {M : Mm} {K : Int32 → Mm → Prop} (hs0 : S[a0]? = some (9, 0)) (hf : f_X10_stuck S a0 x1 M K) : MT l g S yX10_stuck cX10_stuck 2 (some .int) 7 [.ref (ad g a0), .int x1] M (pI K) := by
  refine MT.of (by decide +kernel) (Nat.le_of_ble_eq_true rfl) ?_
  intro p e s m below meth c ls E hw hR hS hl
  have hl : lv_has ls 2 [(0, .ref (ad g a0)), (1, .int x1)] := hl
  generalize ([.ref (ad g a0), .int x1] : List Value).toArray = args at E ⊢
  have E : EN p s m args meth c cX10_stuck 2 (some .int) RX10 g := E
  have hx := E.1
  have hb := E.2.1
  unfold f_X10_stuck at hf
  refine lv_aload_n hx hb dX10_stuck_0 rfl (lv_at hl 0 rfl) ?_
  refine lv_iload_n hx hb dX10_stuck_1 rfl (lv_at hl 1 rfl) ?_
  refine hw_callV (d := 7) E hR hS (As := [.int x1]) (rest := []) cI9 hs0 rfl mcX10_refusesRuns miX10_refusesRuns lmX10_194 (ok_X10_refusesRuns hs0 hf) rfl rfl (by decide) hl.1 (Nat.le_of_ble_eq_true rfl) dX10_stuck_2 (fun rr m1 H locs hp hR hS => ?_)
  obtain ⟨r2, rfl, hf⟩ := hp
  refine W.eq (g2 := F0 m 5 ls [.int r2]) rfl ?_
  refine lv_if_eq (tgt := 10) hx hb dX10_stuck_5 (by decide) (fun c3 => ?_) (fun c3 => ?_)
  · replace hf := hf.1 c3
    refine lv_aload_n hx hb dX10_stuck_10 rfl (lv_at hl 0 rfl) ?_
    refine lv_iload_n hx hb dX10_stuck_11 rfl (lv_at hl 1 rfl) ?_
    refine hw_callV (d := 7) E hR hS (As := [.int x1]) (rest := []) cI9 hs0 rfl mcX10_explored miX10_explored lmX10_198 (ok_X10_explored hs0 hf) rfl rfl (by decide) hl.1 (Nat.le_of_ble_eq_true rfl) dX10_stuck_12 (fun rr m4 H locs hp hR hS => ?_)
    obtain ⟨r5, rfl, hf⟩ := hp
    refine W.eq (g2 := F0 m 15 ls [.int r5]) rfl ?_
    refine lv_if_ne (tgt := 21) hx hb dX10_stuck_15 (by decide) (fun c6 => ?_) (fun c6 => ?_)
    · replace hf := hf.2 c6
      refine lv_aload_n hx hb dX10_stuck_21 rfl (lv_at hl 0 rfl) ?_
      obtain ⟨b7, hb7, hf⟩ := hf
      refine hw_getR E hR cI9 hs0 1 (by decide) lfX10_19 rfl hb7 dX10_stuck_22 ?_
      obtain ⟨h8, hf⟩ := hf
      refine hw_getI E hR cI8 h8 16 (by decide) lfX10_221 rfl dX10_stuck_25 ?_
      refine lv_if_ge (tgt := 34) hx hb dX10_stuck_28 (by decide) (fun c9 => ?_) (fun c9 => ?_)
      · replace hf := hf.1 c9
        refine lv_aload_n hx hb dX10_stuck_34 rfl (lv_at hl 0 rfl) ?_
        obtain ⟨b10, hb10, hf⟩ := hf
        refine hw_getR E hR cI9 hs0 1 (by decide) lfX10_19 rfl hb10 dX10_stuck_35 ?_
        refine lv_aload_n hx hb dX10_stuck_38 rfl (lv_at hl 0 rfl) ?_
        obtain ⟨b11, hb11, hf⟩ := hf
        refine hw_getR E hR cI9 hs0 1 (by decide) lfX10_19 rfl hb11 dX10_stuck_39 ?_
        obtain ⟨h12, hf⟩ := hf
        obtain ⟨b13, hb13, hf⟩ := hf
        refine hw_getR E hR cI8 h12 4 (by decide) lfX10_224 rfl hb13 dX10_stuck_42 ?_
        refine lv_aload_n hx hb dX10_stuck_45 rfl (lv_at hl 0 rfl) ?_
        obtain ⟨b14, hb14, hf⟩ := hf
        refine hw_getR E hR cI9 hs0 1 (by decide) lfX10_19 rfl hb14 dX10_stuck_46 ?_
        obtain ⟨h15, hf⟩ := hf
        refine hw_getI E hR cI8 h15 16 (by decide) lfX10_221 rfl dX10_stuck_49 ?_
        obtain ⟨n16, hn16, in16, hf⟩ := hf
        refine hw_iald E hR hS hn16 in16 dX10_stuck_52 ?_
        refine lv_aload_n hx hb dX10_stuck_53 rfl (lv_at hl 0 rfl) ?_
        obtain ⟨b17, hb17, hf⟩ := hf
        refine hw_getR E hR cI9 hs0 6 (by decide) lfX10_45 rfl hb17 dX10_stuck_54 ?_
        obtain ⟨h19, hf⟩ := hf
        obtain ⟨h20, hf⟩ := hf
        refine hw_callV (d := 7) E hR hS (As := [.int (m4.1 b13 (m4.1 b14 16).toNatClampNeg), .ref (ad g b17)]) (rest := []) cI8 h19 rfl mcX9_tellSteps miX9_tellSteps lmX10_227 (ok_X9_tellSteps h19 h20 hf) rfl rfl (by decide) hl.1 (Nat.le_of_ble_eq_true rfl) dX10_stuck_57 (fun rr m18 H locs hp hR hS => ?_)
        obtain ⟨rfl, hf⟩ := hp
        refine W.eq (g2 := F0 m 60 ls []) rfl ?_
        refine lv_aload_n hx hb dX10_stuck_60 rfl (lv_at hl 0 rfl) ?_
        obtain ⟨b21, hb21, hf⟩ := hf
        refine hw_getR E hR cI9 hs0 6 (by decide) lfX10_45 rfl hb21 dX10_stuck_61 ?_
        obtain ⟨h22, hf⟩ := hf
        refine hw_getI E hR cI6 h22 1 (by decide) lfX10_231 rfl dX10_stuck_64 ?_
        exact hw_iret E hR hS ⟨_, rfl, hf⟩ dX10_stuck_67
      · replace hf := hf.2 c9
        refine lv_bipush (v := -2) hx hb dX10_stuck_31 (by decide) ?_
        exact hw_iret E hR hS ⟨_, rfl, hf⟩ dX10_stuck_33
    · replace hf := hf.1 c6
      refine lv_bipush (v := -3) hx hb dX10_stuck_18 (by decide) ?_
      exact hw_iret E hR hS ⟨_, rfl, hf⟩ dX10_stuck_20
  · replace hf := hf.2 c3
    refine lv_iconst (v := -1) hx hb dX10_stuck_8 (by decide) ?_
    exact hw_iret E hR hS ⟨_, rfl, hf⟩ dX10_stuck_9
def f_X10_power_B5 (S : Ss) (x0 : Int32) (x1 : Int32) (x2 : Int64) (x4 : Int32) (M : Mm) (BK5 : Int64 → Int32 → Mm → Prop) (EK5 : Int64 → Mm → Prop) (K : Int64 → Mm → Prop) : Prop :=
  ((x1 ≤ x4 →
    EK5 x2 M) ∧
   (¬ x1 ≤ x4 →
    (((1000000000000 : Int64) < x2 →
      EK5 x2 M) ∧
     (¬ (1000000000000 : Int64) < x2 →
      ∀ v3 : Int64, v3 = (x2 * x0.toInt64) →
      ∀ v4 : Int32, v4 = x4 + (1 : Int32) →
      BK5 v3 v4 M))))
set_option maxHeartbeats 4000000 in
set_option maxRecDepth 100000 in
theorem w_X10_power_B5 {p : Program} {l : Launch} {e : Env} {s : State} {m : MethodId} {args : Array Value} {below : List Frame} {meth : Method} {c : Code} {g : Gg} {S : Ss} (x0 : Int32) (x1 : Int32) (x2 : Int64) (x4 : Int32) (M : Mm) (BK5 : Int64 → Int32 → Mm → Prop) (EK5 : Int64 → Mm → Prop) (K : Int64 → Mm → Prop) (E : EN p s m args meth c cX10_power 5 (some .long) RX10 g) (hw : ad g 100000 < s.heap.size) (hBK5 : ∀ (x2' : Int64) (x4' : Int32) (M' : Mm) (H : Heap) (locs : List Loc) (ls : Array Slot), BK5 x2' x4' M' → RP g S M' H → va_S (gA g) s.heap H locs → lv_has ls 5 [(0, .int x0), (1, .int x1), (2, .long x2'), (4, .int x4')] → W p l e (rmD 0) s m args below meth c H locs 0 0 (MQ below (QA g S (pJ K)) args s 0 0 (gA g)) (F0 m 5 ls [])) (hEK5 : ∀ (x2' : Int64) (M' : Mm) (H : Heap) (locs : List Loc) (ls : Array Slot), EK5 x2' M' → RP g S M' H → va_S (gA g) s.heap H locs → lv_has ls 5 [(2, .long x2')] → W p l e (rmD 0) s m args below meth c H locs 0 0 (MQ below (QA g S (pJ K)) args s 0 0 (gA g)) (F0 m 30 ls [])) (hf : f_X10_power_B5 S x0 x1 x2 x4 M BK5 EK5 K) (H : Heap) (locs : List Loc) (ls : Array Slot) (hR : RP g S M H) (hS : va_S (gA g) s.heap H locs) (hl : lv_has ls 5 [(0, .int x0), (1, .int x1), (2, .long x2), (4, .int x4)]) : W p l e (rmD 0) s m args below meth c H locs 0 0 (MQ below (QA g S (pJ K)) args s 0 0 (gA g)) (F0 m 5 ls []) := by
  have hx := E.1
  have hb := E.2.1
  unfold f_X10_power_B5 at hf
  refine lv_iload hx hb dX10_power_5 (lv_at hl 3 rfl) ?_
  refine lv_iload_n hx hb dX10_power_7 rfl (lv_at hl 1 rfl) ?_
  refine lv_icmp_ge (tgt := 30) hx hb dX10_power_8 (by decide) (fun c1 => ?_) (fun c1 => ?_)
  · replace hf := hf.1 c1
    exact hEK5 _ _ _ _ _ hf hR hS (lv_sub hl [2] rfl)
  · replace hf := hf.2 c1
    refine lv_lload_n hx hb dX10_power_11 rfl (lv_at hl 2 rfl) ?_
    refine lv_ldc2 (v := 1000000000000) hx hb E.2.2.2.2.1 (E.2.2.2.2.2.1 _ ljX10_238) dX10_power_12 ?_
    refine hw_lif_gt (tgt := 30) hx hb dX10_power_15 dX10_power_16 (by decide) (fun c2 => ?_) (fun c2 => ?_)
    · replace hf := hf.1 c2
      exact hEK5 _ _ _ _ _ hf hR hS (lv_sub hl [2] rfl)
    · replace hf := hf.2 c2
      refine lv_lload_n hx hb dX10_power_19 rfl (lv_at hl 2 rfl) ?_
      refine lv_iload_n hx hb dX10_power_20 rfl (lv_at hl 0 rfl) ?_
      refine lv_i2l hx hb dX10_power_21 rfl ?_
      refine lv_lmul hx hb dX10_power_22 ?_
      refine lv_topl (fun v3 ev3 => ?_)
      replace hf := hf v3 ev3
      refine lv_lstore_n (lv' := [(2, .long v3), (0, .int x0), (1, .int x1), (4, .int x4)]) hx hb dX10_power_23 rfl hl (by decide) rfl (fun ls hl => ?_)
      obtain ⟨v4, ev4⟩ : ∃ y : Int32, y = x4 + (1 : Int32) := ⟨_, rfl⟩
      replace hf := hf v4 ev4
      refine lv_iinc (v := v4) (lv' := [(4, .int v4), (2, .long v3), (0, .int x0), (1, .int x1)]) hx hb dX10_power_24 hl (k := 3) rfl (by rw [ev4]; rfl) (by decide) rfl (fun ls hl => ?_)
      refine lv_goto (tgt := 5) hx hb dX10_power_27 (by decide) ?_
      exact hBK5 _ _ _ _ _ _ hf hR hS (lv_sub hl [2, 3, 1, 0] rfl)
def f_X10_power_L5 (S : Ss) (x0 : Int32) (x1 : Int32) (EK5 : Int64 → Mm → Prop) (K : Int64 → Mm → Prop) : Nat → Int64 → Int32 → Mm → Prop
  | 0, _, _, _ => False
  | n + 1, x2, x4, M => f_X10_power_B5 S x0 x1 x2 x4 M (fun (x2 : Int64) (x4 : Int32) (M : Mm) => f_X10_power_L5 S x0 x1 EK5 K n x2 x4 M) EK5 K
set_option maxHeartbeats 4000000 in
set_option maxRecDepth 100000 in
theorem w_X10_power_L5 {p : Program} {l : Launch} {e : Env} {s : State} {m : MethodId} {args : Array Value} {below : List Frame} {meth : Method} {c : Code} {g : Gg} {S : Ss} (x0 : Int32) (x1 : Int32) (EK5 : Int64 → Mm → Prop) (K : Int64 → Mm → Prop) (E : EN p s m args meth c cX10_power 5 (some .long) RX10 g) (hw : ad g 100000 < s.heap.size) (hEK5 : ∀ (x2' : Int64) (M' : Mm) (H : Heap) (locs : List Loc) (ls : Array Slot), EK5 x2' M' → RP g S M' H → va_S (gA g) s.heap H locs → lv_has ls 5 [(2, .long x2')] → W p l e (rmD 0) s m args below meth c H locs 0 0 (MQ below (QA g S (pJ K)) args s 0 0 (gA g)) (F0 m 30 ls [])) : ∀ (n : Nat) (x2 : Int64) (x4 : Int32) (M : Mm), f_X10_power_L5 S x0 x1 EK5 K n x2 x4 M → ∀ (H : Heap) (locs : List Loc) (ls : Array Slot), RP g S M H → va_S (gA g) s.heap H locs → lv_has ls 5 [(0, .int x0), (1, .int x1), (2, .long x2), (4, .int x4)] → W p l e (rmD 0) s m args below meth c H locs 0 0 (MQ below (QA g S (pJ K)) args s 0 0 (gA g)) (F0 m 5 ls []) := by
  intro n
  induction n with
  | zero => intro x2 x4 M hf; exact hf.elim
  | succ n ih =>
    intro x2 x4 M hf H locs ls hR hS hl
    exact w_X10_power_B5 _ _ _ _ _ _ _ _ E hw (fun _ _ M H locs ls h hR hS hl => ih _ _ M h H locs ls hR hS hl) hEK5 hf H locs ls hR hS hl
def f_X10_power (S : Ss) (x0 : Int32) (x1 : Int32) (M : Mm) (K : Int64 → Mm → Prop) : Prop :=
  ∃ n7 : Nat, f_X10_power_L5 S x0 x1 (fun (v5 : Int64) (m6 : Mm) =>
    K v5 m6) K n7 (1 : Int64) (0 : Int32) M
set_option maxHeartbeats 4000000 in
set_option maxRecDepth 100000 in
theorem ok_X10_power {l : Launch} {g : Gg} {S : Ss} {x0 : Int32} {x1 : Int32} {M : Mm} {K : Int64 → Mm → Prop} (hf : f_X10_power S x0 x1 M K) : MT l g S yX10_power cX10_power 5 (some .long) 0 [.int x0, .int x1] M (pJ K) := by
  refine MT.of (by decide +kernel) (Nat.le_of_ble_eq_true rfl) ?_
  intro p e s m below meth c ls E hw hR hS hl
  have hl : lv_has ls 5 [(0, .int x0), (1, .int x1)] := hl
  generalize ([.int x0, .int x1] : List Value).toArray = args at E ⊢
  have E : EN p s m args meth c cX10_power 5 (some .long) RX10 g := E
  have hx := E.1
  have hb := E.2.1
  unfold f_X10_power at hf
  refine lv_lconst (v := 1) hx hb dX10_power_0 (by decide) ?_
  refine lv_lstore_n (lv' := [(2, .long (1 : Int64)), (0, .int x0), (1, .int x1)]) hx hb dX10_power_1 rfl hl (by decide) rfl (fun ls hl => ?_)
  refine lv_iconst (v := 0) hx hb dX10_power_2 (by decide) ?_
  refine lv_istore (lv' := [(4, .int (0 : Int32)), (2, .long (1 : Int64)), (0, .int x0), (1, .int x1)]) hx hb dX10_power_3 hl (by decide) rfl (fun ls hl => ?_)
  obtain ⟨n7, hf⟩ := hf
  refine w_X10_power_L5 _ _ _ _ E hw ?_ n7 _ _ _ hf _ _ _ hR hS (lv_sub hl [2, 3, 1, 0] rfl)
  intro v5 m6 H locs ls hf hR hS hl
  refine lv_lload_n hx hb dX10_power_30 rfl (lv_at hl 0 rfl) ?_
  exact hw_lret E hR hS ⟨_, rfl, hf⟩ dX10_power_31
def f_X10_runs (S : Ss) (a0 : Nat) (x1 : Int32) (M : Mm) (K : Int32 → Mm → Prop) : Prop :=
  f_X10_refusesRuns S a0 x1 M (fun (r2 : Int32) (m1 : Mm) =>
    ((r2 = 0 →
    ∃ b4 : Nat, m1.2.2 a0 2 = some b4 ∧
    S[b4]? = some (2, 0) ∧
    ∃ b6 : Nat, m1.2.2 a0 2 = some b6 ∧
    S[b6]? = some (2, 0) ∧
    f_X10_power S  ((m1.1 b4 10) * ((m1.1 b6 13) + (1 : Int32))) x1 m1 (fun (r9 : Int64) (m8 : Mm) =>
      ((r9 ≤ (1000000000000 : Int64) →
      f_X10_explored S a0 x1 m8 (fun (r12 : Int32) (m11 : Mm) =>
        ((r12 = 0 →
        K (-3 : Int32) m11) ∧
       (¬ r12 = 0 →
        ∃ b14 : Nat, m11.2.2 a0 6 = some b14 ∧
        ∃ b15 : Nat, m11.2.2 a0 1 = some b15 ∧
        S[b15]? = some (8, 0) ∧
        f_X9_weightWithout S b15 (1 : Int32) x1 100000 m11 (fun (r18 : Int64) (m16 : Mm) =>
          S[b14]? = some (6, 0) ∧
        f_X7_tellTwo S b14 (r9 - r18) r9 m16 (fun (m19 : Mm) =>
          K (0 : Int32) m19)))))) ∧
     (¬ r9 ≤ (1000000000000 : Int64) →
      K (-1 : Int32) m8)))) ∧
   (¬ r2 = 0 →
    K (-1 : Int32) m1)))
set_option maxHeartbeats 4000000 in
set_option maxRecDepth 100000 in
theorem ok_X10_runs {l : Launch} {g : Gg} {S : Ss} {a0 : Nat} {x1 : Int32} {M : Mm} {K : Int32 → Mm → Prop} (hs0 : S[a0]? = some (9, 0)) (hf : f_X10_runs S a0 x1 M K) : MT l g S yX10_runs cX10_runs 4 (some .int) 7 [.ref (ad g a0), .int x1] M (pI K) := by
  refine MT.of (by decide +kernel) (Nat.le_of_ble_eq_true rfl) ?_
  intro p e s m below meth c ls E hw hR hS hl
  have hl : lv_has ls 4 [(0, .ref (ad g a0)), (1, .int x1)] := hl
  generalize ([.ref (ad g a0), .int x1] : List Value).toArray = args at E ⊢
  have E : EN p s m args meth c cX10_runs 4 (some .int) RX10 g := E
  have hx := E.1
  have hb := E.2.1
  unfold f_X10_runs at hf
  refine lv_aload_n hx hb dX10_runs_0 rfl (lv_at hl 0 rfl) ?_
  refine lv_iload_n hx hb dX10_runs_1 rfl (lv_at hl 1 rfl) ?_
  refine hw_callV (d := 7) E hR hS (As := [.int x1]) (rest := []) cI9 hs0 rfl mcX10_refusesRuns miX10_refusesRuns lmX10_194 (ok_X10_refusesRuns hs0 hf) rfl rfl (by decide) hl.1 (Nat.le_of_ble_eq_true rfl) dX10_runs_2 (fun rr m1 H locs hp hR hS => ?_)
  obtain ⟨r2, rfl, hf⟩ := hp
  refine W.eq (g2 := F0 m 5 ls [.int r2]) rfl ?_
  refine lv_if_eq (tgt := 10) hx hb dX10_runs_5 (by decide) (fun c3 => ?_) (fun c3 => ?_)
  · replace hf := hf.1 c3
    refine lv_aload_n hx hb dX10_runs_10 rfl (lv_at hl 0 rfl) ?_
    obtain ⟨b4, hb4, hf⟩ := hf
    refine hw_getR E hR cI9 hs0 2 (by decide) lfX10_27 rfl hb4 dX10_runs_11 ?_
    obtain ⟨h5, hf⟩ := hf
    refine hw_getI E hR cI2 h5 10 (by decide) lfX10_92 rfl dX10_runs_14 ?_
    refine lv_aload_n hx hb dX10_runs_17 rfl (lv_at hl 0 rfl) ?_
    obtain ⟨b6, hb6, hf⟩ := hf
    refine hw_getR E hR cI9 hs0 2 (by decide) lfX10_27 rfl hb6 dX10_runs_18 ?_
    obtain ⟨h7, hf⟩ := hf
    refine hw_getI E hR cI2 h7 13 (by decide) lfX10_150 rfl dX10_runs_21 ?_
    refine lv_iconst (v := 1) hx hb dX10_runs_24 (by decide) ?_
    refine lv_iadd hx hb dX10_runs_25 ?_
    refine lv_imul hx hb dX10_runs_26 ?_
    refine lv_iload_n hx hb dX10_runs_27 rfl (lv_at hl 1 rfl) ?_
    refine hw_callS (d := 7) E hR hS (As := [.int ((m1.1 b4 10) * ((m1.1 b6 13) + (1 : Int32))), .int x1]) (rest := []) mcX10_power msX10_power lmX10_234 (ok_X10_power  hf) rfl rfl (by decide) hl.1 (Nat.le_of_ble_eq_true rfl) dX10_runs_28 (fun rr m8 H locs hp hR hS => ?_)
    obtain ⟨r9, rfl, hf⟩ := hp
    refine W.eq (g2 := F0 m 31 ls [.long r9]) rfl ?_
    refine lv_lstore_n (lv' := [(2, .long r9), (0, .ref (ad g a0)), (1, .int x1)]) hx hb dX10_runs_31 rfl hl (by decide) rfl (fun ls hl => ?_)
    refine lv_lload_n hx hb dX10_runs_32 rfl (lv_at hl 0 rfl) ?_
    refine lv_ldc2 (v := 1000000000000) hx hb E.2.2.2.2.1 (E.2.2.2.2.2.1 _ ljX10_238) dX10_runs_33 ?_
    refine hw_lif_le (tgt := 42) hx hb dX10_runs_36 dX10_runs_37 (by decide) (fun c10 => ?_) (fun c10 => ?_)
    · replace hf := hf.1 c10
      refine lv_aload_n hx hb dX10_runs_42 rfl (lv_at hl 1 rfl) ?_
      refine lv_iload_n hx hb dX10_runs_43 rfl (lv_at hl 2 rfl) ?_
      refine hw_callV (d := 7) E hR hS (As := [.int x1]) (rest := []) cI9 hs0 rfl mcX10_explored miX10_explored lmX10_198 (ok_X10_explored hs0 hf) rfl rfl (by decide) hl.1 (Nat.le_of_ble_eq_true rfl) dX10_runs_44 (fun rr m11 H locs hp hR hS => ?_)
      obtain ⟨r12, rfl, hf⟩ := hp
      refine W.eq (g2 := F0 m 47 ls [.int r12]) rfl ?_
      refine lv_if_ne (tgt := 53) hx hb dX10_runs_47 (by decide) (fun c13 => ?_) (fun c13 => ?_)
      · replace hf := hf.2 c13
        refine lv_aload_n hx hb dX10_runs_53 rfl (lv_at hl 1 rfl) ?_
        obtain ⟨b14, hb14, hf⟩ := hf
        refine hw_getR E hR cI9 hs0 6 (by decide) lfX10_45 rfl hb14 dX10_runs_54 ?_
        refine lv_lload_n hx hb dX10_runs_57 rfl (lv_at hl 0 rfl) ?_
        refine lv_aload_n hx hb dX10_runs_58 rfl (lv_at hl 1 rfl) ?_
        obtain ⟨b15, hb15, hf⟩ := hf
        refine hw_getR E hR cI9 hs0 1 (by decide) lfX10_19 rfl hb15 dX10_runs_59 ?_
        refine lv_iconst (v := 1) hx hb dX10_runs_62 (by decide) ?_
        refine lv_iload_n hx hb dX10_runs_63 rfl (lv_at hl 2 rfl) ?_
        refine va_gets hx hb E.2.2.2.2.2.2.2.2.1 hS E.2.2.2.2.1 (E.2.2.2.2.2.1 _ lsX10_240) (fun _ h => h) dX10_runs_64 ?_
        obtain ⟨h17, hf⟩ := hf
        refine hw_callV (d := 7) E hR hS (As := [.int (1 : Int32), .int x1, .ref (ad g 100000)]) (rest := [.long r9, .ref (ad g b14)]) cI8 h17 rfl mcX9_weightWithout miX9_weightWithout lmX10_243 (ok_X9_weightWithout h17 hf) rfl rfl (by decide) hl.1 (Nat.le_of_ble_eq_true rfl) dX10_runs_67 (fun rr m16 H locs hp hR hS => ?_)
        obtain ⟨r18, rfl, hf⟩ := hp
        refine W.eq (g2 := F0 m 70 ls [.long r18, .long r9, .ref (ad g b14)]) rfl ?_
        refine lv_lsub hx hb dX10_runs_70 ?_
        refine lv_lload_n hx hb dX10_runs_71 rfl (lv_at hl 0 rfl) ?_
        obtain ⟨h20, hf⟩ := hf
        refine hw_callV (d := 7) E hR hS (As := [.long (r9 - r18), .long r9]) (rest := []) cI6 h20 rfl mcX7_tellTwo miX7_tellTwo lmX10_247 (ok_X7_tellTwo h20 hf) rfl rfl (by decide) hl.1 (Nat.le_of_ble_eq_true rfl) dX10_runs_72 (fun rr m19 H locs hp hR hS => ?_)
        obtain ⟨rfl, hf⟩ := hp
        refine W.eq (g2 := F0 m 75 ls []) rfl ?_
        refine lv_iconst (v := 0) hx hb dX10_runs_75 (by decide) ?_
        exact hw_iret E hR hS ⟨_, rfl, hf⟩ dX10_runs_76
      · replace hf := hf.1 c13
        refine lv_bipush (v := -3) hx hb dX10_runs_50 (by decide) ?_
        exact hw_iret E hR hS ⟨_, rfl, hf⟩ dX10_runs_52
    · replace hf := hf.2 c10
      refine lv_iconst (v := -1) hx hb dX10_runs_40 (by decide) ?_
      exact hw_iret E hR hS ⟨_, rfl, hf⟩ dX10_runs_41
  · replace hf := hf.2 c3
    refine lv_iconst (v := -1) hx hb dX10_runs_8 (by decide) ?_
    exact hw_iret E hR hS ⟨_, rfl, hf⟩ dX10_runs_9
def f_X10_weightsOf (S : Ss) (a0 : Nat) (x1 : Int32) (M : Mm) (K : Nat → Mm → Prop) : Prop :=
  ((x1 = 0 →
    ∃ b3 : Nat, M.2.2 a0 10 = some b3 ∧
    K b3 M) ∧
   (¬ x1 = 0 →
    ∃ b2 : Nat, M.2.2 a0 11 = some b2 ∧
    K b2 M))
set_option maxHeartbeats 4000000 in
set_option maxRecDepth 100000 in
theorem ok_X10_weightsOf {l : Launch} {g : Gg} {S : Ss} {a0 : Nat} {x1 : Int32} {M : Mm} {K : Nat → Mm → Prop} (hs0 : S[a0]? = some (9, 0)) (hf : f_X10_weightsOf S a0 x1 M K) : MT l g S yX10_weightsOf cX10_weightsOf 2 (some (.array .int)) 0 [.ref (ad g a0), .int x1] M (pR g K) := by
  refine MT.of (by decide +kernel) (Nat.le_of_ble_eq_true rfl) ?_
  intro p e s m below meth c ls E hw hR hS hl
  have hl : lv_has ls 2 [(0, .ref (ad g a0)), (1, .int x1)] := hl
  generalize ([.ref (ad g a0), .int x1] : List Value).toArray = args at E ⊢
  have E : EN p s m args meth c cX10_weightsOf 2 (some (.array .int)) RX10 g := E
  have hx := E.1
  have hb := E.2.1
  unfold f_X10_weightsOf at hf
  refine lv_iload_n hx hb dX10_weightsOf_0 rfl (lv_at hl 1 rfl) ?_
  refine lv_if_ne (tgt := 11) hx hb dX10_weightsOf_1 (by decide) (fun c1 => ?_) (fun c1 => ?_)
  · replace hf := hf.2 c1
    refine lv_aload_n hx hb dX10_weightsOf_11 rfl (lv_at hl 0 rfl) ?_
    obtain ⟨b2, hb2, hf⟩ := hf
    refine hw_getR E hR cI9 hs0 11 (by decide) lfX10_73 rfl hb2 dX10_weightsOf_12 ?_
    exact hw_aret (o := some b2) E (by first | exact Or.inl ⟨_, rfl⟩ | exact Or.inr ⟨_, rfl⟩) hR hS ⟨_, rfl, hf⟩ dX10_weightsOf_15
  · replace hf := hf.1 c1
    refine lv_aload_n hx hb dX10_weightsOf_4 rfl (lv_at hl 0 rfl) ?_
    obtain ⟨b3, hb3, hf⟩ := hf
    refine hw_getR E hR cI9 hs0 10 (by decide) lfX10_69 rfl hb3 dX10_weightsOf_5 ?_
    refine lv_goto (tgt := 15) hx hb dX10_weightsOf_8 (by decide) ?_
    exact hw_aret (o := some b3) E (by first | exact Or.inl ⟨_, rfl⟩ | exact Or.inr ⟨_, rfl⟩) hR hS ⟨_, rfl, hf⟩ dX10_weightsOf_15
def f_X10_weight (S : Ss) (a0 : Nat) (x1 : Int32) (x2 : Int32) (x3 : Int32) (M : Mm) (K : Int32 → Mm → Prop) : Prop :=
  ((x1 < 0 →
    K (-1 : Int32) M) ∧
   (¬ x1 < 0 →
    (((1 : Int32) < x1 →
      K (-1 : Int32) M) ∧
     (¬ (1 : Int32) < x1 →
      ((x2 < 0 →
        K (-1 : Int32) M) ∧
       (¬ x2 < 0 →
        (((4 : Int32) < x2 →
          K (-1 : Int32) M) ∧
         (¬ (4 : Int32) < x2 →
          ((x3 < 0 →
            K (-1 : Int32) M) ∧
           (¬ x3 < 0 →
            ((x3 ≤ (9 : Int32) →
              f_X10_weightsOf S a0 x1 M (fun (r8 : Nat) (m7 : Mm) =>
                ∃ n9 : Nat, shp S r8 = some (50, n9) ∧ vp_in x2 n9 ∧
              ∀ v10 : Int32, v10 = (m7.1 r8 x2.toNatClampNeg) →
              ∃ n11 : Nat, S[r8]? = some (50, n11) ∧ vp_in x2 n11 ∧
              ∀ m12 : Mm, m12 = stI m7 r8 x2.toNatClampNeg x3 →
              K v10 m12)) ∧
             (¬ x3 ≤ (9 : Int32) →
              K (-1 : Int32) M))))))))))))
set_option maxHeartbeats 4000000 in
set_option maxRecDepth 100000 in
theorem ok_X10_weight {l : Launch} {g : Gg} {S : Ss} {a0 : Nat} {x1 : Int32} {x2 : Int32} {x3 : Int32} {M : Mm} {K : Int32 → Mm → Prop} (hs0 : S[a0]? = some (9, 0)) (hf : f_X10_weight S a0 x1 x2 x3 M K) : MT l g S yX10_weight cX10_weight 6 (some .int) 1 [.ref (ad g a0), .int x1, .int x2, .int x3] M (pI K) := by
  refine MT.of (by decide +kernel) (Nat.le_of_ble_eq_true rfl) ?_
  intro p e s m below meth c ls E hw hR hS hl
  have hl : lv_has ls 6 [(0, .ref (ad g a0)), (1, .int x1), (2, .int x2), (3, .int x3)] := hl
  generalize ([.ref (ad g a0), .int x1, .int x2, .int x3] : List Value).toArray = args at E ⊢
  have E : EN p s m args meth c cX10_weight 6 (some .int) RX10 g := E
  have hx := E.1
  have hb := E.2.1
  unfold f_X10_weight at hf
  refine lv_iload_n hx hb dX10_weight_0 rfl (lv_at hl 1 rfl) ?_
  refine lv_if_lt (tgt := 28) hx hb dX10_weight_1 (by decide) (fun c1 => ?_) (fun c1 => ?_)
  · replace hf := hf.1 c1
    refine lv_iconst (v := -1) hx hb dX10_weight_28 (by decide) ?_
    exact hw_iret E hR hS ⟨_, rfl, hf⟩ dX10_weight_29
  · replace hf := hf.2 c1
    refine lv_iload_n hx hb dX10_weight_4 rfl (lv_at hl 1 rfl) ?_
    refine lv_iconst (v := 1) hx hb dX10_weight_5 (by decide) ?_
    refine lv_icmp_gt (tgt := 28) hx hb dX10_weight_6 (by decide) (fun c2 => ?_) (fun c2 => ?_)
    · replace hf := hf.1 c2
      refine lv_iconst (v := -1) hx hb dX10_weight_28 (by decide) ?_
      exact hw_iret E hR hS ⟨_, rfl, hf⟩ dX10_weight_29
    · replace hf := hf.2 c2
      refine lv_iload_n hx hb dX10_weight_9 rfl (lv_at hl 2 rfl) ?_
      refine lv_if_lt (tgt := 28) hx hb dX10_weight_10 (by decide) (fun c3 => ?_) (fun c3 => ?_)
      · replace hf := hf.1 c3
        refine lv_iconst (v := -1) hx hb dX10_weight_28 (by decide) ?_
        exact hw_iret E hR hS ⟨_, rfl, hf⟩ dX10_weight_29
      · replace hf := hf.2 c3
        refine lv_iload_n hx hb dX10_weight_13 rfl (lv_at hl 2 rfl) ?_
        refine lv_iconst (v := 4) hx hb dX10_weight_14 (by decide) ?_
        refine lv_icmp_gt (tgt := 28) hx hb dX10_weight_15 (by decide) (fun c4 => ?_) (fun c4 => ?_)
        · replace hf := hf.1 c4
          refine lv_iconst (v := -1) hx hb dX10_weight_28 (by decide) ?_
          exact hw_iret E hR hS ⟨_, rfl, hf⟩ dX10_weight_29
        · replace hf := hf.2 c4
          refine lv_iload_n hx hb dX10_weight_18 rfl (lv_at hl 3 rfl) ?_
          refine lv_if_lt (tgt := 28) hx hb dX10_weight_19 (by decide) (fun c5 => ?_) (fun c5 => ?_)
          · replace hf := hf.1 c5
            refine lv_iconst (v := -1) hx hb dX10_weight_28 (by decide) ?_
            exact hw_iret E hR hS ⟨_, rfl, hf⟩ dX10_weight_29
          · replace hf := hf.2 c5
            refine lv_iload_n hx hb dX10_weight_22 rfl (lv_at hl 3 rfl) ?_
            refine lv_bipush (v := 9) hx hb dX10_weight_23 (by decide) ?_
            refine lv_icmp_le (tgt := 30) hx hb dX10_weight_25 (by decide) (fun c6 => ?_) (fun c6 => ?_)
            · replace hf := hf.1 c6
              refine lv_aload_n hx hb dX10_weight_30 rfl (lv_at hl 0 rfl) ?_
              refine lv_iload_n hx hb dX10_weight_31 rfl (lv_at hl 1 rfl) ?_
              refine hw_callV (d := 1) E hR hS (As := [.int x1]) (rest := []) cI9 hs0 rfl mcX10_weightsOf miX10_weightsOf lmX10_251 (ok_X10_weightsOf hs0 hf) rfl rfl (by decide) hl.1 (Nat.le_of_ble_eq_true rfl) dX10_weight_32 (fun rr m7 H locs hp hR hS => ?_)
              obtain ⟨r8, rfl, hf⟩ := hp
              refine W.eq (g2 := F0 m 35 ls [.ref (ad g r8)]) rfl ?_
              refine lv_astore (lv' := [(4, .ref (ad g r8)), (0, .ref (ad g a0)), (1, .int x1), (2, .int x2), (3, .int x3)]) hx hb dX10_weight_35 hl (by decide) rfl (fun ls hl => ?_)
              refine lv_aload hx hb dX10_weight_37 (lv_at hl 0 rfl) ?_
              refine lv_iload_n hx hb dX10_weight_39 rfl (lv_at hl 3 rfl) ?_
              obtain ⟨n9, hn9, in9, hf⟩ := hf
              refine hw_iald E hR hS hn9 in9 dX10_weight_40 ?_
              refine lv_topi (fun v10 ev10 => ?_)
              replace hf := hf v10 ev10
              refine lv_istore (lv' := [(5, .int v10), (4, .ref (ad g r8)), (0, .ref (ad g a0)), (1, .int x1), (2, .int x2), (3, .int x3)]) hx hb dX10_weight_41 hl (by decide) rfl (fun ls hl => ?_)
              refine lv_aload hx hb dX10_weight_43 (lv_at hl 1 rfl) ?_
              refine lv_iload_n hx hb dX10_weight_45 rfl (lv_at hl 4 rfl) ?_
              refine lv_iload_n hx hb dX10_weight_46 rfl (lv_at hl 5 rfl) ?_
              obtain ⟨n11, hn11, in11, hf⟩ := hf
              refine hw_iast E hR hS hw hn11 in11 dX10_weight_47 (fun m12 H locs em12 hR hS => ?_)
              replace hf := hf m12 em12
              refine lv_iload hx hb dX10_weight_48 (lv_at hl 0 rfl) ?_
              exact hw_iret E hR hS ⟨_, rfl, hf⟩ dX10_weight_50
            · replace hf := hf.2 c6
              refine lv_iconst (v := -1) hx hb dX10_weight_28 (by decide) ?_
              exact hw_iret E hR hS ⟨_, rfl, hf⟩ dX10_weight_29
def f_X10_commonDivisor_B9 (S : Ss) (x4 : Int64) (x6 : Int64) (x8 : Int32) (M : Mm) (BK9 : Int64 → Int64 → Int32 → Mm → Prop) (EK9 : Int64 → Mm → Prop) (K : Int64 → Mm → Prop) : Prop :=
  (((200 : Int32) ≤ x8 →
    EK9 x4 M) ∧
   (¬ (200 : Int32) ≤ x8 →
    ((x6 = (0 : Int64) →
      EK9 x4 M) ∧
     (¬ x6 = (0 : Int64) →
      ¬ x6 = 0 ∧
      ∀ v4 : Int64, v4 = (x4 - x4 / x6 * x6) →
      ∀ v5 : Int32, v5 = x8 + (1 : Int32) →
      BK9 x6 v4 v5 M))))
set_option maxHeartbeats 4000000 in
set_option maxRecDepth 100000 in
theorem w_X10_commonDivisor_B9 {p : Program} {l : Launch} {e : Env} {s : State} {m : MethodId} {args : Array Value} {below : List Frame} {meth : Method} {c : Code} {g : Gg} {S : Ss} (x4 : Int64) (x6 : Int64) (x8 : Int32) (M : Mm) (BK9 : Int64 → Int64 → Int32 → Mm → Prop) (EK9 : Int64 → Mm → Prop) (K : Int64 → Mm → Prop) (E : EN p s m args meth c cX10_commonDivisor 11 (some .long) RX10 g) (hw : ad g 100000 < s.heap.size) (hBK9 : ∀ (x4' : Int64) (x6' : Int64) (x8' : Int32) (M' : Mm) (H : Heap) (locs : List Loc) (ls : Array Slot), BK9 x4' x6' x8' M' → RP g S M' H → va_S (gA g) s.heap H locs → lv_has ls 11 [(4, .long x4'), (6, .long x6'), (8, .int x8')] → W p l e (rmD 0) s m args below meth c H locs 0 0 (MQ below (QA g S (pJ K)) args s 0 0 (gA g)) (F0 m 9 ls [])) (hEK9 : ∀ (x4' : Int64) (M' : Mm) (H : Heap) (locs : List Loc) (ls : Array Slot), EK9 x4' M' → RP g S M' H → va_S (gA g) s.heap H locs → lv_has ls 11 [(4, .long x4')] → W p l e (rmD 0) s m args below meth c H locs 0 0 (MQ below (QA g S (pJ K)) args s 0 0 (gA g)) (F0 m 45 ls [])) (hf : f_X10_commonDivisor_B9 S x4 x6 x8 M BK9 EK9 K) (H : Heap) (locs : List Loc) (ls : Array Slot) (hR : RP g S M H) (hS : va_S (gA g) s.heap H locs) (hl : lv_has ls 11 [(4, .long x4), (6, .long x6), (8, .int x8)]) : W p l e (rmD 0) s m args below meth c H locs 0 0 (MQ below (QA g S (pJ K)) args s 0 0 (gA g)) (F0 m 9 ls []) := by
  have hx := E.1
  have hb := E.2.1
  unfold f_X10_commonDivisor_B9 at hf
  refine lv_iload hx hb dX10_commonDivisor_9 (lv_at hl 2 rfl) ?_
  refine lv_sipush (v := 200) hx hb dX10_commonDivisor_11 (by decide) ?_
  refine lv_icmp_ge (tgt := 45) hx hb dX10_commonDivisor_14 (by decide) (fun c1 => ?_) (fun c1 => ?_)
  · replace hf := hf.1 c1
    exact hEK9 _ _ _ _ _ hf hR hS (lv_sub hl [0] rfl)
  · replace hf := hf.2 c1
    refine lv_lload hx hb dX10_commonDivisor_17 (lv_at hl 1 rfl) ?_
    refine lv_lconst (v := 0) hx hb dX10_commonDivisor_19 (by decide) ?_
    refine hw_lif_eq (tgt := 45) hx hb dX10_commonDivisor_20 dX10_commonDivisor_21 (by decide) (fun c2 => ?_) (fun c2 => ?_)
    · replace hf := hf.1 c2
      exact hEK9 _ _ _ _ _ hf hR hS (lv_sub hl [0] rfl)
    · replace hf := hf.2 c2
      refine lv_lload hx hb dX10_commonDivisor_24 (lv_at hl 0 rfl) ?_
      refine lv_lload hx hb dX10_commonDivisor_26 (lv_at hl 1 rfl) ?_
      obtain ⟨h3, hf⟩ := hf
      refine lv_lrem hx hb dX10_commonDivisor_28 h3 ?_
      refine lv_topl (fun v4 ev4 => ?_)
      replace hf := hf v4 ev4
      refine lv_lstore (lv' := [(9, .long v4), (4, .long x4), (6, .long x6), (8, .int x8)]) hx hb dX10_commonDivisor_29 hl (by decide) rfl (fun ls hl => ?_)
      refine lv_lload hx hb dX10_commonDivisor_31 (lv_at hl 2 rfl) ?_
      refine lv_lstore (lv' := [(4, .long x6), (9, .long v4), (6, .long x6), (8, .int x8)]) hx hb dX10_commonDivisor_33 hl (by decide) rfl (fun ls hl => ?_)
      refine lv_lload hx hb dX10_commonDivisor_35 (lv_at hl 1 rfl) ?_
      refine lv_lstore (lv' := [(6, .long v4), (4, .long x6), (9, .long v4), (8, .int x8)]) hx hb dX10_commonDivisor_37 hl (by decide) rfl (fun ls hl => ?_)
      obtain ⟨v5, ev5⟩ : ∃ y : Int32, y = x8 + (1 : Int32) := ⟨_, rfl⟩
      replace hf := hf v5 ev5
      refine lv_iinc (v := v5) (lv' := [(8, .int v5), (6, .long v4), (4, .long x6), (9, .long v4)]) hx hb dX10_commonDivisor_39 hl (k := 3) rfl (by rw [ev5]; rfl) (by decide) rfl (fun ls hl => ?_)
      refine lv_goto (tgt := 9) hx hb dX10_commonDivisor_42 (by decide) ?_
      exact hBK9 _ _ _ _ _ _ _ hf hR hS (lv_sub hl [2, 1, 0] rfl)
def f_X10_commonDivisor_L9 (S : Ss) (EK9 : Int64 → Mm → Prop) (K : Int64 → Mm → Prop) : Nat → Int64 → Int64 → Int32 → Mm → Prop
  | 0, _, _, _, _ => False
  | n + 1, x4, x6, x8, M => f_X10_commonDivisor_B9 S x4 x6 x8 M (fun (x4 : Int64) (x6 : Int64) (x8 : Int32) (M : Mm) => f_X10_commonDivisor_L9 S EK9 K n x4 x6 x8 M) EK9 K
set_option maxHeartbeats 4000000 in
set_option maxRecDepth 100000 in
theorem w_X10_commonDivisor_L9 {p : Program} {l : Launch} {e : Env} {s : State} {m : MethodId} {args : Array Value} {below : List Frame} {meth : Method} {c : Code} {g : Gg} {S : Ss} (EK9 : Int64 → Mm → Prop) (K : Int64 → Mm → Prop) (E : EN p s m args meth c cX10_commonDivisor 11 (some .long) RX10 g) (hw : ad g 100000 < s.heap.size) (hEK9 : ∀ (x4' : Int64) (M' : Mm) (H : Heap) (locs : List Loc) (ls : Array Slot), EK9 x4' M' → RP g S M' H → va_S (gA g) s.heap H locs → lv_has ls 11 [(4, .long x4')] → W p l e (rmD 0) s m args below meth c H locs 0 0 (MQ below (QA g S (pJ K)) args s 0 0 (gA g)) (F0 m 45 ls [])) : ∀ (n : Nat) (x4 : Int64) (x6 : Int64) (x8 : Int32) (M : Mm), f_X10_commonDivisor_L9 S EK9 K n x4 x6 x8 M → ∀ (H : Heap) (locs : List Loc) (ls : Array Slot), RP g S M H → va_S (gA g) s.heap H locs → lv_has ls 11 [(4, .long x4), (6, .long x6), (8, .int x8)] → W p l e (rmD 0) s m args below meth c H locs 0 0 (MQ below (QA g S (pJ K)) args s 0 0 (gA g)) (F0 m 9 ls []) := by
  intro n
  induction n with
  | zero => intro x4 x6 x8 M hf; exact hf.elim
  | succ n ih =>
    intro x4 x6 x8 M hf H locs ls hR hS hl
    exact w_X10_commonDivisor_B9 _ _ _ _ _ _ _ E hw (fun _ _ _ M H locs ls h hR hS hl => ih _ _ _ M h H locs ls hR hS hl) hEK9 hf H locs ls hR hS hl
def f_X10_commonDivisor (S : Ss) (x0 : Int64) (x2 : Int64) (M : Mm) (K : Int64 → Mm → Prop) : Prop :=
  ∃ n9 : Nat, f_X10_commonDivisor_L9 S (fun (v6 : Int64) (m7 : Mm) =>
    ((v6 = (0 : Int64) →
      K (1 : Int64) m7) ∧
     (¬ v6 = (0 : Int64) →
      K v6 m7))) K n9 x0 x2 (0 : Int32) M
set_option maxHeartbeats 4000000 in
set_option maxRecDepth 100000 in
theorem ok_X10_commonDivisor {l : Launch} {g : Gg} {S : Ss} {x0 : Int64} {x2 : Int64} {M : Mm} {K : Int64 → Mm → Prop} (hf : f_X10_commonDivisor S x0 x2 M K) : MT l g S yX10_commonDivisor cX10_commonDivisor 11 (some .long) 0 [.long x0, .long x2] M (pJ K) := by
  refine MT.of (by decide +kernel) (Nat.le_of_ble_eq_true rfl) ?_
  intro p e s m below meth c ls E hw hR hS hl
  have hl : lv_has ls 11 [(0, .long x0), (2, .long x2)] := hl
  generalize ([.long x0, .long x2] : List Value).toArray = args at E ⊢
  have E : EN p s m args meth c cX10_commonDivisor 11 (some .long) RX10 g := E
  have hx := E.1
  have hb := E.2.1
  unfold f_X10_commonDivisor at hf
  refine lv_lload_n hx hb dX10_commonDivisor_0 rfl (lv_at hl 0 rfl) ?_
  refine lv_lstore (lv' := [(4, .long x0), (0, .long x0), (2, .long x2)]) hx hb dX10_commonDivisor_1 hl (by decide) rfl (fun ls hl => ?_)
  refine lv_lload_n hx hb dX10_commonDivisor_3 rfl (lv_at hl 2 rfl) ?_
  refine lv_lstore (lv' := [(6, .long x2), (4, .long x0), (0, .long x0), (2, .long x2)]) hx hb dX10_commonDivisor_4 hl (by decide) rfl (fun ls hl => ?_)
  refine lv_iconst (v := 0) hx hb dX10_commonDivisor_6 (by decide) ?_
  refine lv_istore (lv' := [(8, .int (0 : Int32)), (6, .long x2), (4, .long x0), (0, .long x0), (2, .long x2)]) hx hb dX10_commonDivisor_7 hl (by decide) rfl (fun ls hl => ?_)
  obtain ⟨n9, hf⟩ := hf
  refine w_X10_commonDivisor_L9 _ _ E hw ?_ n9 _ _ _ _ hf _ _ _ hR hS (lv_sub hl [2, 1, 0] rfl)
  intro v6 m7 H locs ls hf hR hS hl
  refine lv_lload hx hb dX10_commonDivisor_45 (lv_at hl 0 rfl) ?_
  refine lv_lconst (v := 0) hx hb dX10_commonDivisor_47 (by decide) ?_
  refine hw_lif_ne (tgt := 56) hx hb dX10_commonDivisor_48 dX10_commonDivisor_49 (by decide) (fun c8 => ?_) (fun c8 => ?_)
  · replace hf := hf.2 c8
    refine lv_lload hx hb dX10_commonDivisor_56 (lv_at hl 0 rfl) ?_
    exact hw_lret E hR hS ⟨_, rfl, hf⟩ dX10_commonDivisor_58
  · replace hf := hf.1 c8
    refine lv_lconst (v := 1) hx hb dX10_commonDivisor_52 (by decide) ?_
    refine lv_goto (tgt := 58) hx hb dX10_commonDivisor_53 (by decide) ?_
    exact hw_lret E hR hS ⟨_, rfl, hf⟩ dX10_commonDivisor_58
def f_X10_weightOfAll_B12 (S : Ss) (a0 : Nat) (x2 : Int32) (a3 : Nat) (x4 : Int32) (x5 : Int32) (M : Mm) (BK12 : Int32 → Int32 → Mm → Prop) (EK12 : Int32 → Mm → Prop) (K : Int64 → Mm → Prop) : Prop :=
  ∃ b3 : Nat, M.2.2 a0 2 = some b3 ∧
  S[b3]? = some (2, 0) ∧
  (((M.1 b3 13) < x5 →
    EK12 x4 M) ∧
   (¬ (M.1 b3 13) < x5 →
    ∃ n6 : Nat, shp S a3 = some (50, n6) ∧ vp_in x5 n6 ∧
    ∀ v7 : Int32, v7 = (x4 + (M.1 a3 x5.toNatClampNeg)) →
    ∀ v8 : Int32, v8 = x5 + (1 : Int32) →
    BK12 v7 v8 M))
set_option maxHeartbeats 4000000 in
set_option maxRecDepth 100000 in
theorem w_X10_weightOfAll_B12 {p : Program} {l : Launch} {e : Env} {s : State} {m : MethodId} {args : Array Value} {below : List Frame} {meth : Method} {c : Code} {g : Gg} {S : Ss} (a0 : Nat) (x2 : Int32) (a3 : Nat) (x4 : Int32) (x5 : Int32) (M : Mm) (BK12 : Int32 → Int32 → Mm → Prop) (EK12 : Int32 → Mm → Prop) (K : Int64 → Mm → Prop) (E : EN p s m args meth c cX10_weightOfAll 6 (some .long) RX10 g) (hw : ad g 100000 < s.heap.size) (hs0 : S[a0]? = some (9, 0)) (hBK12 : ∀ (x4' : Int32) (x5' : Int32) (M' : Mm) (H : Heap) (locs : List Loc) (ls : Array Slot), BK12 x4' x5' M' → RP g S M' H → va_S (gA g) s.heap H locs → lv_has ls 6 [(0, .ref (ad g a0)), (2, .int x2), (3, .ref (ad g a3)), (4, .int x4'), (5, .int x5')] → W p l e (rmD 1) s m args below meth c H locs 0 0 (MQ below (QA g S (pJ K)) args s 0 0 (gA g)) (F0 m 12 ls [])) (hEK12 : ∀ (x4' : Int32) (M' : Mm) (H : Heap) (locs : List Loc) (ls : Array Slot), EK12 x4' M' → RP g S M' H → va_S (gA g) s.heap H locs → lv_has ls 6 [(0, .ref (ad g a0)), (2, .int x2), (4, .int x4')] → W p l e (rmD 1) s m args below meth c H locs 0 0 (MQ below (QA g S (pJ K)) args s 0 0 (gA g)) (F0 m 39 ls [])) (hf : f_X10_weightOfAll_B12 S a0 x2 a3 x4 x5 M BK12 EK12 K) (H : Heap) (locs : List Loc) (ls : Array Slot) (hR : RP g S M H) (hS : va_S (gA g) s.heap H locs) (hl : lv_has ls 6 [(0, .ref (ad g a0)), (2, .int x2), (3, .ref (ad g a3)), (4, .int x4), (5, .int x5)]) : W p l e (rmD 1) s m args below meth c H locs 0 0 (MQ below (QA g S (pJ K)) args s 0 0 (gA g)) (F0 m 12 ls []) := by
  have hx := E.1
  have hb := E.2.1
  unfold f_X10_weightOfAll_B12 at hf
  refine lv_iload hx hb dX10_weightOfAll_12 (lv_at hl 4 rfl) ?_
  refine lv_aload_n hx hb dX10_weightOfAll_14 rfl (lv_at hl 0 rfl) ?_
  obtain ⟨b3, hb3, hf⟩ := hf
  refine hw_getR E hR cI9 hs0 2 (by decide) lfX10_27 rfl hb3 dX10_weightOfAll_15 ?_
  obtain ⟨h4, hf⟩ := hf
  refine hw_getI E hR cI2 h4 13 (by decide) lfX10_150 rfl dX10_weightOfAll_18 ?_
  refine lv_icmp_gt (tgt := 39) hx hb dX10_weightOfAll_21 (by decide) (fun c5 => ?_) (fun c5 => ?_)
  · replace hf := hf.1 c5
    exact hEK12 _ _ _ _ _ hf hR hS (lv_sub hl [0, 1, 3] rfl)
  · replace hf := hf.2 c5
    refine lv_iload hx hb dX10_weightOfAll_24 (lv_at hl 3 rfl) ?_
    refine lv_aload_n hx hb dX10_weightOfAll_26 rfl (lv_at hl 2 rfl) ?_
    refine lv_iload hx hb dX10_weightOfAll_27 (lv_at hl 4 rfl) ?_
    obtain ⟨n6, hn6, in6, hf⟩ := hf
    refine hw_iald E hR hS hn6 in6 dX10_weightOfAll_29 ?_
    refine lv_iadd hx hb dX10_weightOfAll_30 ?_
    refine lv_topi (fun v7 ev7 => ?_)
    replace hf := hf v7 ev7
    refine lv_istore (lv' := [(4, .int v7), (0, .ref (ad g a0)), (2, .int x2), (3, .ref (ad g a3)), (5, .int x5)]) hx hb dX10_weightOfAll_31 hl (by decide) rfl (fun ls hl => ?_)
    obtain ⟨v8, ev8⟩ : ∃ y : Int32, y = x5 + (1 : Int32) := ⟨_, rfl⟩
    replace hf := hf v8 ev8
    refine lv_iinc (v := v8) (lv' := [(5, .int v8), (4, .int v7), (0, .ref (ad g a0)), (2, .int x2), (3, .ref (ad g a3))]) hx hb dX10_weightOfAll_33 hl (k := 4) rfl (by rw [ev8]; rfl) (by decide) rfl (fun ls hl => ?_)
    refine lv_goto (tgt := 12) hx hb dX10_weightOfAll_36 (by decide) ?_
    exact hBK12 _ _ _ _ _ _ hf hR hS (lv_sub hl [2, 3, 4, 1, 0] rfl)
def f_X10_weightOfAll_L12 (S : Ss) (a0 : Nat) (x2 : Int32) (a3 : Nat) (EK12 : Int32 → Mm → Prop) (K : Int64 → Mm → Prop) : Nat → Int32 → Int32 → Mm → Prop
  | 0, _, _, _ => False
  | n + 1, x4, x5, M => f_X10_weightOfAll_B12 S a0 x2 a3 x4 x5 M (fun (x4 : Int32) (x5 : Int32) (M : Mm) => f_X10_weightOfAll_L12 S a0 x2 a3 EK12 K n x4 x5 M) EK12 K
set_option maxHeartbeats 4000000 in
set_option maxRecDepth 100000 in
theorem w_X10_weightOfAll_L12 {p : Program} {l : Launch} {e : Env} {s : State} {m : MethodId} {args : Array Value} {below : List Frame} {meth : Method} {c : Code} {g : Gg} {S : Ss} (a0 : Nat) (x2 : Int32) (a3 : Nat) (EK12 : Int32 → Mm → Prop) (K : Int64 → Mm → Prop) (E : EN p s m args meth c cX10_weightOfAll 6 (some .long) RX10 g) (hw : ad g 100000 < s.heap.size) (hs0 : S[a0]? = some (9, 0)) (hEK12 : ∀ (x4' : Int32) (M' : Mm) (H : Heap) (locs : List Loc) (ls : Array Slot), EK12 x4' M' → RP g S M' H → va_S (gA g) s.heap H locs → lv_has ls 6 [(0, .ref (ad g a0)), (2, .int x2), (4, .int x4')] → W p l e (rmD 1) s m args below meth c H locs 0 0 (MQ below (QA g S (pJ K)) args s 0 0 (gA g)) (F0 m 39 ls [])) : ∀ (n : Nat) (x4 : Int32) (x5 : Int32) (M : Mm), f_X10_weightOfAll_L12 S a0 x2 a3 EK12 K n x4 x5 M → ∀ (H : Heap) (locs : List Loc) (ls : Array Slot), RP g S M H → va_S (gA g) s.heap H locs → lv_has ls 6 [(0, .ref (ad g a0)), (2, .int x2), (3, .ref (ad g a3)), (4, .int x4), (5, .int x5)] → W p l e (rmD 1) s m args below meth c H locs 0 0 (MQ below (QA g S (pJ K)) args s 0 0 (gA g)) (F0 m 12 ls []) := by
  intro n
  induction n with
  | zero => intro x4 x5 M hf; exact hf.elim
  | succ n ih =>
    intro x4 x5 M hf H locs ls hR hS hl
    exact w_X10_weightOfAll_B12 _ _ _ _ _ _ _ _ _ E hw hs0 (fun _ _ M H locs ls h hR hS hl => ih _ _ M h H locs ls hR hS hl) hEK12 hf H locs ls hR hS hl
def f_X10_weightOfAll (S : Ss) (a0 : Nat) (x1 : Int32) (x2 : Int32) (M : Mm) (K : Int64 → Mm → Prop) : Prop :=
  f_X10_weightsOf S a0 x1 M (fun (r2 : Nat) (m1 : Mm) =>
    ∃ n16 : Nat, f_X10_weightOfAll_L12 S a0 x2 r2 (fun (v9 : Int32) (m10 : Mm) =>
    ((v9 = 0 →
      K (0 : Int64) m10) ∧
     (¬ v9 = 0 →
      ∃ b12 : Nat, m10.2.2 a0 2 = some b12 ∧
      S[b12]? = some (2, 0) ∧
      f_X10_power S  ((m10.1 b12 10) * v9) x2 m10 (fun (r15 : Int64) (m14 : Mm) =>
        K r15 m14)))) K n16 (0 : Int32) (0 : Int32) m1)
set_option maxHeartbeats 4000000 in
set_option maxRecDepth 100000 in
theorem ok_X10_weightOfAll {l : Launch} {g : Gg} {S : Ss} {a0 : Nat} {x1 : Int32} {x2 : Int32} {M : Mm} {K : Int64 → Mm → Prop} (hs0 : S[a0]? = some (9, 0)) (hf : f_X10_weightOfAll S a0 x1 x2 M K) : MT l g S yX10_weightOfAll cX10_weightOfAll 6 (some .long) 1 [.ref (ad g a0), .int x1, .int x2] M (pJ K) := by
  refine MT.of (by decide +kernel) (Nat.le_of_ble_eq_true rfl) ?_
  intro p e s m below meth c ls E hw hR hS hl
  have hl : lv_has ls 6 [(0, .ref (ad g a0)), (1, .int x1), (2, .int x2)] := hl
  generalize ([.ref (ad g a0), .int x1, .int x2] : List Value).toArray = args at E ⊢
  have E : EN p s m args meth c cX10_weightOfAll 6 (some .long) RX10 g := E
  have hx := E.1
  have hb := E.2.1
  unfold f_X10_weightOfAll at hf
  refine lv_aload_n hx hb dX10_weightOfAll_0 rfl (lv_at hl 0 rfl) ?_
  refine lv_iload_n hx hb dX10_weightOfAll_1 rfl (lv_at hl 1 rfl) ?_
  refine hw_callV (d := 1) E hR hS (As := [.int x1]) (rest := []) cI9 hs0 rfl mcX10_weightsOf miX10_weightsOf lmX10_251 (ok_X10_weightsOf hs0 hf) rfl rfl (by decide) hl.1 (Nat.le_of_ble_eq_true rfl) dX10_weightOfAll_2 (fun rr m1 H locs hp hR hS => ?_)
  obtain ⟨r2, rfl, hf⟩ := hp
  refine W.eq (g2 := F0 m 5 ls [.ref (ad g r2)]) rfl ?_
  refine lv_astore_n (lv' := [(3, .ref (ad g r2)), (0, .ref (ad g a0)), (1, .int x1), (2, .int x2)]) hx hb dX10_weightOfAll_5 rfl hl (by decide) rfl (fun ls hl => ?_)
  refine lv_iconst (v := 0) hx hb dX10_weightOfAll_6 (by decide) ?_
  refine lv_istore (lv' := [(4, .int (0 : Int32)), (3, .ref (ad g r2)), (0, .ref (ad g a0)), (1, .int x1), (2, .int x2)]) hx hb dX10_weightOfAll_7 hl (by decide) rfl (fun ls hl => ?_)
  refine lv_iconst (v := 0) hx hb dX10_weightOfAll_9 (by decide) ?_
  refine lv_istore (lv' := [(5, .int (0 : Int32)), (4, .int (0 : Int32)), (3, .ref (ad g r2)), (0, .ref (ad g a0)), (1, .int x1), (2, .int x2)]) hx hb dX10_weightOfAll_10 hl (by decide) rfl (fun ls hl => ?_)
  obtain ⟨n16, hf⟩ := hf
  refine w_X10_weightOfAll_L12 _ _ _ _ _ E hw hs0 ?_ n16 _ _ _ hf _ _ _ hR hS (lv_sub hl [3, 5, 2, 1, 0] rfl)
  intro v9 m10 H locs ls hf hR hS hl
  refine lv_iload hx hb dX10_weightOfAll_39 (lv_at hl 2 rfl) ?_
  refine lv_if_ne (tgt := 48) hx hb dX10_weightOfAll_41 (by decide) (fun c11 => ?_) (fun c11 => ?_)
  · replace hf := hf.2 c11
    refine lv_aload_n hx hb dX10_weightOfAll_48 rfl (lv_at hl 0 rfl) ?_
    obtain ⟨b12, hb12, hf⟩ := hf
    refine hw_getR E hR cI9 hs0 2 (by decide) lfX10_27 rfl hb12 dX10_weightOfAll_49 ?_
    obtain ⟨h13, hf⟩ := hf
    refine hw_getI E hR cI2 h13 10 (by decide) lfX10_92 rfl dX10_weightOfAll_52 ?_
    refine lv_iload hx hb dX10_weightOfAll_55 (lv_at hl 2 rfl) ?_
    refine lv_imul hx hb dX10_weightOfAll_57 ?_
    refine lv_iload_n hx hb dX10_weightOfAll_58 rfl (lv_at hl 1 rfl) ?_
    refine hw_callS (d := 1) E hR hS (As := [.int ((m10.1 b12 10) * v9), .int x2]) (rest := []) mcX10_power msX10_power lmX10_234 (ok_X10_power  hf) rfl rfl (by decide) hl.1 (Nat.le_of_ble_eq_true rfl) dX10_weightOfAll_59 (fun rr m14 H locs hp hR hS => ?_)
    obtain ⟨r15, rfl, hf⟩ := hp
    refine W.eq (g2 := F0 m 62 ls [.long r15]) rfl ?_
    exact hw_lret E hR hS ⟨_, rfl, hf⟩ dX10_weightOfAll_62
  · replace hf := hf.1 c11
    refine lv_lconst (v := 0) hx hb dX10_weightOfAll_44 (by decide) ?_
    refine lv_goto (tgt := 62) hx hb dX10_weightOfAll_45 (by decide) ?_
    exact hw_lret E hR hS ⟨_, rfl, hf⟩ dX10_weightOfAll_62
