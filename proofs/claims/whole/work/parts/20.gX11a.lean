def f_X11_thrown (S : Ss) (a0 : Nat) (M : Mm) (K : Int32 → Mm → Prop) : Prop :=
  K (M.1 a0 0) M
set_option maxHeartbeats 4000000 in
set_option maxRecDepth 100000 in
theorem ok_X11_thrown {l : Launch} {g : Gg} {S : Ss} {a0 : Nat} {M : Mm} {K : Int32 → Mm → Prop} (hs0 : S[a0]? = some (10, 0)) (hf : f_X11_thrown S a0 M K) : MT l g S yX11_thrown cX11_thrown 1 (some .int) 0 [.ref (ad g a0)] M (pI K) := by
  refine MT.of (by decide +kernel) (Nat.le_of_ble_eq_true rfl) ?_
  intro p e s m below meth c ls E hw hR hS hl
  have hl : lv_has ls 1 [(0, .ref (ad g a0))] := hl
  generalize ([.ref (ad g a0)] : List Value).toArray = args at E ⊢
  have E : EN p s m args meth c cX11_thrown 1 (some .int) RX11 g := E
  have hx := E.1
  have hb := E.2.1
  unfold f_X11_thrown at hf
  refine lv_aload_n hx hb dX11_thrown_0 rfl (lv_at hl 0 rfl) ?_
  refine hw_getI E hR cI10 hs0 0 (by decide) lfX11_3 rfl dX11_thrown_1 ?_
  exact hw_iret E hR hS ⟨_, rfl, hf⟩ dX11_thrown_4
def f_X11_in (S : Ss) (x0 : Int64) (x2 : Int64) (x4 : Int64) (M : Mm) (K : Int32 → Mm → Prop) : Prop :=
  ((x0 < x2 →
    K (0 : Int32) M) ∧
   (¬ x0 < x2 →
    ((x4 < x0 →
      K (0 : Int32) M) ∧
     (¬ x4 < x0 →
      K (1 : Int32) M))))
set_option maxHeartbeats 4000000 in
set_option maxRecDepth 100000 in
theorem ok_X11_in {l : Launch} {g : Gg} {S : Ss} {x0 : Int64} {x2 : Int64} {x4 : Int64} {M : Mm} {K : Int32 → Mm → Prop} (hf : f_X11_in S x0 x2 x4 M K) : MT l g S yX11_in cX11_in 6 (some .boolean) 0 [.long x0, .long x2, .long x4] M (pI K) := by
  refine MT.of (by decide +kernel) (Nat.le_of_ble_eq_true rfl) ?_
  intro p e s m below meth c ls E hw hR hS hl
  have hl : lv_has ls 6 [(0, .long x0), (2, .long x2), (4, .long x4)] := hl
  generalize ([.long x0, .long x2, .long x4] : List Value).toArray = args at E ⊢
  have E : EN p s m args meth c cX11_in 6 (some .boolean) RX11 g := E
  have hx := E.1
  have hb := E.2.1
  unfold f_X11_in at hf
  refine lv_lload_n hx hb dX11_in_0 rfl (lv_at hl 0 rfl) ?_
  refine lv_lload_n hx hb dX11_in_1 rfl (lv_at hl 1 rfl) ?_
  refine hw_lif_lt (tgt := 17) hx hb dX11_in_2 dX11_in_3 (by decide) (fun c1 => ?_) (fun c1 => ?_)
  · replace hf := hf.1 c1
    refine lv_iconst (v := 0) hx hb dX11_in_17 (by decide) ?_
    exact hw_zret E hR hS (by decide) ⟨_, rfl, hf⟩ dX11_in_18
  · replace hf := hf.2 c1
    refine lv_lload_n hx hb dX11_in_6 rfl (lv_at hl 0 rfl) ?_
    refine lv_lload hx hb dX11_in_7 (lv_at hl 2 rfl) ?_
    refine hw_lif_gt (tgt := 17) hx hb dX11_in_9 dX11_in_10 (by decide) (fun c2 => ?_) (fun c2 => ?_)
    · replace hf := hf.1 c2
      refine lv_iconst (v := 0) hx hb dX11_in_17 (by decide) ?_
      exact hw_zret E hR hS (by decide) ⟨_, rfl, hf⟩ dX11_in_18
    · replace hf := hf.2 c2
      refine lv_iconst (v := 1) hx hb dX11_in_13 (by decide) ?_
      refine lv_goto (tgt := 18) hx hb dX11_in_14 (by decide) ?_
      exact hw_zret E hR hS (by decide) ⟨_, rfl, hf⟩ dX11_in_18
def f_X11_has (S : Ss) (x0 : Int32) (x1 : Int32) (M : Mm) (K : Int32 → Mm → Prop) : Prop :=
  ((((x0 >>> (x1 &&& 31)) &&& (1 : Int32)) = (1 : Int32) →
    K (1 : Int32) M) ∧
   (¬ ((x0 >>> (x1 &&& 31)) &&& (1 : Int32)) = (1 : Int32) →
    K (0 : Int32) M))
set_option maxHeartbeats 4000000 in
set_option maxRecDepth 100000 in
theorem ok_X11_has {l : Launch} {g : Gg} {S : Ss} {x0 : Int32} {x1 : Int32} {M : Mm} {K : Int32 → Mm → Prop} (hf : f_X11_has S x0 x1 M K) : MT l g S yX11_has cX11_has 2 (some .boolean) 0 [.int x0, .int x1] M (pI K) := by
  refine MT.of (by decide +kernel) (Nat.le_of_ble_eq_true rfl) ?_
  intro p e s m below meth c ls E hw hR hS hl
  have hl : lv_has ls 2 [(0, .int x0), (1, .int x1)] := hl
  generalize ([.int x0, .int x1] : List Value).toArray = args at E ⊢
  have E : EN p s m args meth c cX11_has 2 (some .boolean) RX11 g := E
  have hx := E.1
  have hb := E.2.1
  unfold f_X11_has at hf
  refine lv_iload_n hx hb dX11_has_0 rfl (lv_at hl 0 rfl) ?_
  refine lv_iload_n hx hb dX11_has_1 rfl (lv_at hl 1 rfl) ?_
  refine lv_ishr hx hb dX11_has_2 ?_
  refine lv_iconst (v := 1) hx hb dX11_has_3 (by decide) ?_
  refine lv_iand hx hb dX11_has_4 ?_
  refine lv_iconst (v := 1) hx hb dX11_has_5 (by decide) ?_
  refine lv_icmp_ne (tgt := 13) hx hb dX11_has_6 (by decide) (fun c1 => ?_) (fun c1 => ?_)
  · replace hf := hf.2 c1
    refine lv_iconst (v := 0) hx hb dX11_has_13 (by decide) ?_
    exact hw_zret E hR hS (by decide) ⟨_, rfl, hf⟩ dX11_has_14
  · replace hf := hf.1 c1
    refine lv_iconst (v := 1) hx hb dX11_has_9 (by decide) ?_
    refine lv_goto (tgt := 14) hx hb dX11_has_10 (by decide) ?_
    exact hw_zret E hR hS (by decide) ⟨_, rfl, hf⟩ dX11_has_14
def f_X11_truth (S : Ss) (x0 : Int32) (M : Mm) (K : Int32 → Mm → Prop) : Prop :=
  ((x0 = 0 →
    K (0 : Int32) M) ∧
   (¬ x0 = 0 →
    K (1 : Int32) M))
set_option maxHeartbeats 4000000 in
set_option maxRecDepth 100000 in
theorem ok_X11_truth {l : Launch} {g : Gg} {S : Ss} {x0 : Int32} {M : Mm} {K : Int32 → Mm → Prop} (hf : f_X11_truth S x0 M K) : MT l g S yX11_truth cX11_truth 1 (some .int) 0 [.int x0] M (pI K) := by
  refine MT.of (by decide +kernel) (Nat.le_of_ble_eq_true rfl) ?_
  intro p e s m below meth c ls E hw hR hS hl
  have hl : lv_has ls 1 [(0, .int x0)] := hl
  generalize ([.int x0] : List Value).toArray = args at E ⊢
  have E : EN p s m args meth c cX11_truth 1 (some .int) RX11 g := E
  have hx := E.1
  have hb := E.2.1
  unfold f_X11_truth at hf
  refine lv_iload_n hx hb dX11_truth_0 rfl (lv_at hl 0 rfl) ?_
  refine lv_if_eq (tgt := 8) hx hb dX11_truth_1 (by decide) (fun c1 => ?_) (fun c1 => ?_)
  · replace hf := hf.1 c1
    refine lv_iconst (v := 0) hx hb dX11_truth_8 (by decide) ?_
    exact hw_iret E hR hS ⟨_, rfl, hf⟩ dX11_truth_9
  · replace hf := hf.2 c1
    refine lv_iconst (v := 1) hx hb dX11_truth_4 (by decide) ?_
    refine lv_goto (tgt := 9) hx hb dX11_truth_5 (by decide) ?_
    exact hw_iret E hR hS ⟨_, rfl, hf⟩ dX11_truth_9
def f_X11_refuse (S : Ss) (a0 : Nat) (M : Mm) (K : Int32 → Mm → Prop) : Prop :=
  ∀ m1 : Mm, m1 = stI M a0 0 (1 : Int32) →
  K (0 : Int32) m1
set_option maxHeartbeats 4000000 in
set_option maxRecDepth 100000 in
theorem ok_X11_refuse {l : Launch} {g : Gg} {S : Ss} {a0 : Nat} {M : Mm} {K : Int32 → Mm → Prop} (hs0 : S[a0]? = some (10, 0)) (hf : f_X11_refuse S a0 M K) : MT l g S yX11_refuse cX11_refuse 1 (some .int) 0 [.ref (ad g a0)] M (pI K) := by
  refine MT.of (by decide +kernel) (Nat.le_of_ble_eq_true rfl) ?_
  intro p e s m below meth c ls E hw hR hS hl
  have hl : lv_has ls 1 [(0, .ref (ad g a0))] := hl
  generalize ([.ref (ad g a0)] : List Value).toArray = args at E ⊢
  have E : EN p s m args meth c cX11_refuse 1 (some .int) RX11 g := E
  have hx := E.1
  have hb := E.2.1
  unfold f_X11_refuse at hf
  refine lv_aload_n hx hb dX11_refuse_0 rfl (lv_at hl 0 rfl) ?_
  refine lv_iconst (v := 1) hx hb dX11_refuse_1 (by decide) ?_
  refine hw_putI E hR hS hw cI10 hs0 0 (by decide) lfX11_3 rfl (Or.inl rfl) dX11_refuse_2 (fun m1 H locs em1 hR hS => ?_)
  replace hf := hf m1 em1
  refine lv_iconst (v := 0) hx hb dX11_refuse_5 (by decide) ?_
  exact hw_iret E hR hS ⟨_, rfl, hf⟩ dX11_refuse_6
def f_X11_enters (S : Ss) (a0 : Nat) (x1 : Int64) (M : Mm) (K : Mm → Prop) : Prop :=
  ∃ b1 : Nat, M.2.2 a0 2 = some b1 ∧
  ∃ n2 : Nat, S[b1]? = some (53, n2) ∧ vp_in (M.1 a0 1) n2 ∧
  ∀ m3 : Mm, m3 = stJ M b1 (M.1 a0 1).toNatClampNeg x1 →
  ∀ m4 : Mm, m4 = stI m3 a0 1 ((m3.1 a0 1) + (1 : Int32)) →
  K m4
set_option maxHeartbeats 4000000 in
set_option maxRecDepth 100000 in
theorem ok_X11_enters {l : Launch} {g : Gg} {S : Ss} {a0 : Nat} {x1 : Int64} {M : Mm} {K : Mm → Prop} (hs0 : S[a0]? = some (10, 0)) (hf : f_X11_enters S a0 x1 M K) : MT l g S yX11_enters cX11_enters 3 none 0 [.ref (ad g a0), .long x1] M (pV K) := by
  refine MT.of (by decide +kernel) (Nat.le_of_ble_eq_true rfl) ?_
  intro p e s m below meth c ls E hw hR hS hl
  have hl : lv_has ls 3 [(0, .ref (ad g a0)), (1, .long x1)] := hl
  generalize ([.ref (ad g a0), .long x1] : List Value).toArray = args at E ⊢
  have E : EN p s m args meth c cX11_enters 3 none RX11 g := E
  have hx := E.1
  have hb := E.2.1
  unfold f_X11_enters at hf
  refine lv_aload_n hx hb dX11_enters_0 rfl (lv_at hl 0 rfl) ?_
  obtain ⟨b1, hb1, hf⟩ := hf
  refine hw_getR E hR cI10 hs0 2 (by decide) lfX11_7 rfl hb1 dX11_enters_1 ?_
  refine lv_aload_n hx hb dX11_enters_4 rfl (lv_at hl 0 rfl) ?_
  refine hw_getI E hR cI10 hs0 1 (by decide) lfX11_11 rfl dX11_enters_5 ?_
  refine lv_lload_n hx hb dX11_enters_8 rfl (lv_at hl 1 rfl) ?_
  obtain ⟨n2, hn2, in2, hf⟩ := hf
  refine hw_last E hR hS hw hn2 in2 dX11_enters_9 (fun m3 H locs em3 hR hS => ?_)
  replace hf := hf m3 em3
  refine lv_aload_n hx hb dX11_enters_10 rfl (lv_at hl 0 rfl) ?_
  refine lv_dup hx hb dX11_enters_11 rfl ?_
  refine hw_getI E hR cI10 hs0 1 (by decide) lfX11_11 rfl dX11_enters_12 ?_
  refine lv_iconst (v := 1) hx hb dX11_enters_15 (by decide) ?_
  refine lv_iadd hx hb dX11_enters_16 ?_
  refine hw_putI E hR hS hw cI10 hs0 1 (by decide) lfX11_11 rfl (Or.inl rfl) dX11_enters_17 (fun m4 H locs em4 hR hS => ?_)
  replace hf := hf m4 em4
  exact hw_vret E hR hS ⟨rfl, hf⟩ dX11_enters_20
def f_X11_sign_B18 (S : Ss) (a0 : Nat) (x1 : Int32) (x2 : Int32) (M : Mm) (BK18 : Int32 → Mm → Prop) (EK18 : Mm → Prop) (K : Int32 → Mm → Prop) : Prop :=
  (((4 : Int32) ≤ x2 →
    EK18 M) ∧
   (¬ (4 : Int32) ≤ x2 →
    ∃ b4 : Nat, M.2.2 a0 3 = some b4 ∧
    ∃ n5 : Nat, S[b4]? = some (50, n5) ∧ vp_in ((M.1 a0 4) + x2) n5 ∧
    ∀ m6 : Mm, m6 = stI M b4 ((M.1 a0 4) + x2).toNatClampNeg ((x1 >>> (((24 : Int32) - ((8 : Int32) * x2)) &&& 31)) &&& (255 : Int32)) →
    ∀ v7 : Int32, v7 = x2 + (1 : Int32) →
    BK18 v7 m6))
set_option maxHeartbeats 4000000 in
set_option maxRecDepth 100000 in
theorem w_X11_sign_B18 {p : Program} {l : Launch} {e : Env} {s : State} {m : MethodId} {args : Array Value} {below : List Frame} {meth : Method} {c : Code} {g : Gg} {S : Ss} (a0 : Nat) (x1 : Int32) (x2 : Int32) (M : Mm) (BK18 : Int32 → Mm → Prop) (EK18 : Mm → Prop) (K : Int32 → Mm → Prop) (E : EN p s m args meth c cX11_sign 3 (some .int) RX11 g) (hw : ad g 100000 < s.heap.size) (hs0 : S[a0]? = some (10, 0)) (hBK18 : ∀ (x2' : Int32) (M' : Mm) (H : Heap) (locs : List Loc) (ls : Array Slot), BK18 x2' M' → RP g S M' H → va_S (gA g) s.heap H locs → lv_has ls 3 [(0, .ref (ad g a0)), (1, .int x1), (2, .int x2')] → W p l e (rmD 0) s m args below meth c H locs 0 0 (MQ below (QA g S (pI K)) args s 0 0 (gA g)) (F0 m 18 ls [])) (hEK18 : ∀ (M' : Mm) (H : Heap) (locs : List Loc) (ls : Array Slot), EK18 M' → RP g S M' H → va_S (gA g) s.heap H locs → lv_has ls 3 [(0, .ref (ad g a0))] → W p l e (rmD 0) s m args below meth c H locs 0 0 (MQ below (QA g S (pI K)) args s 0 0 (gA g)) (F0 m 53 ls [])) (hf : f_X11_sign_B18 S a0 x1 x2 M BK18 EK18 K) (H : Heap) (locs : List Loc) (ls : Array Slot) (hR : RP g S M H) (hS : va_S (gA g) s.heap H locs) (hl : lv_has ls 3 [(0, .ref (ad g a0)), (1, .int x1), (2, .int x2)]) : W p l e (rmD 0) s m args below meth c H locs 0 0 (MQ below (QA g S (pI K)) args s 0 0 (gA g)) (F0 m 18 ls []) := by
  have hx := E.1
  have hb := E.2.1
  unfold f_X11_sign_B18 at hf
  refine lv_iload_n hx hb dX11_sign_18 rfl (lv_at hl 2 rfl) ?_
  refine lv_iconst (v := 4) hx hb dX11_sign_19 (by decide) ?_
  refine lv_icmp_ge (tgt := 53) hx hb dX11_sign_20 (by decide) (fun c3 => ?_) (fun c3 => ?_)
  · replace hf := hf.1 c3
    exact hEK18  _ _ _ _ hf hR hS (lv_sub hl [0] rfl)
  · replace hf := hf.2 c3
    refine lv_aload_n hx hb dX11_sign_23 rfl (lv_at hl 0 rfl) ?_
    obtain ⟨b4, hb4, hf⟩ := hf
    refine hw_getR E hR cI10 hs0 3 (by decide) lfX11_17 rfl hb4 dX11_sign_24 ?_
    refine lv_aload_n hx hb dX11_sign_27 rfl (lv_at hl 0 rfl) ?_
    refine hw_getI E hR cI10 hs0 4 (by decide) lfX11_14 rfl dX11_sign_28 ?_
    refine lv_iload_n hx hb dX11_sign_31 rfl (lv_at hl 2 rfl) ?_
    refine lv_iadd hx hb dX11_sign_32 ?_
    refine lv_iload_n hx hb dX11_sign_33 rfl (lv_at hl 1 rfl) ?_
    refine lv_bipush (v := 24) hx hb dX11_sign_34 (by decide) ?_
    refine lv_bipush (v := 8) hx hb dX11_sign_36 (by decide) ?_
    refine lv_iload_n hx hb dX11_sign_38 rfl (lv_at hl 2 rfl) ?_
    refine lv_imul hx hb dX11_sign_39 ?_
    refine lv_isub hx hb dX11_sign_40 ?_
    refine lv_ishr hx hb dX11_sign_41 ?_
    refine lv_sipush (v := 255) hx hb dX11_sign_42 (by decide) ?_
    refine lv_iand hx hb dX11_sign_45 ?_
    obtain ⟨n5, hn5, in5, hf⟩ := hf
    refine hw_iast E hR hS hw hn5 in5 dX11_sign_46 (fun m6 H locs em6 hR hS => ?_)
    replace hf := hf m6 em6
    obtain ⟨v7, ev7⟩ : ∃ y : Int32, y = x2 + (1 : Int32) := ⟨_, rfl⟩
    replace hf := hf v7 ev7
    refine lv_iinc (v := v7) (lv' := [(2, .int v7), (0, .ref (ad g a0)), (1, .int x1)]) hx hb dX11_sign_47 hl (k := 2) rfl (by rw [ev7]; rfl) (by decide) rfl (fun ls hl => ?_)
    refine lv_goto (tgt := 18) hx hb dX11_sign_50 (by decide) ?_
    exact hBK18 _ _ _ _ _ hf hR hS (lv_sub hl [1, 2, 0] rfl)
def f_X11_sign_L18 (S : Ss) (a0 : Nat) (x1 : Int32) (EK18 : Mm → Prop) (K : Int32 → Mm → Prop) : Nat → Int32 → Mm → Prop
  | 0, _, _ => False
  | n + 1, x2, M => f_X11_sign_B18 S a0 x1 x2 M (fun (x2 : Int32) (M : Mm) => f_X11_sign_L18 S a0 x1 EK18 K n x2 M) EK18 K
set_option maxHeartbeats 4000000 in
set_option maxRecDepth 100000 in
theorem w_X11_sign_L18 {p : Program} {l : Launch} {e : Env} {s : State} {m : MethodId} {args : Array Value} {below : List Frame} {meth : Method} {c : Code} {g : Gg} {S : Ss} (a0 : Nat) (x1 : Int32) (EK18 : Mm → Prop) (K : Int32 → Mm → Prop) (E : EN p s m args meth c cX11_sign 3 (some .int) RX11 g) (hw : ad g 100000 < s.heap.size) (hs0 : S[a0]? = some (10, 0)) (hEK18 : ∀ (M' : Mm) (H : Heap) (locs : List Loc) (ls : Array Slot), EK18 M' → RP g S M' H → va_S (gA g) s.heap H locs → lv_has ls 3 [(0, .ref (ad g a0))] → W p l e (rmD 0) s m args below meth c H locs 0 0 (MQ below (QA g S (pI K)) args s 0 0 (gA g)) (F0 m 53 ls [])) : ∀ (n : Nat) (x2 : Int32) (M : Mm), f_X11_sign_L18 S a0 x1 EK18 K n x2 M → ∀ (H : Heap) (locs : List Loc) (ls : Array Slot), RP g S M H → va_S (gA g) s.heap H locs → lv_has ls 3 [(0, .ref (ad g a0)), (1, .int x1), (2, .int x2)] → W p l e (rmD 0) s m args below meth c H locs 0 0 (MQ below (QA g S (pI K)) args s 0 0 (gA g)) (F0 m 18 ls []) := by
  intro n
  induction n with
  | zero => intro x2 M hf; exact hf.elim
  | succ n ih =>
    intro x2 M hf H locs ls hR hS hl
    exact w_X11_sign_B18 _ _ _ _ _ _ _ E hw hs0 (fun _ M H locs ls h hR hS hl => ih _ M h H locs ls hR hS hl) hEK18 hf H locs ls hR hS hl
def f_X11_sign (S : Ss) (a0 : Nat) (x1 : Int32) (M : Mm) (K : Int32 → Mm → Prop) : Prop :=
  ∀ m1 : Mm, m1 = stI M a0 0 (0 : Int32) →
  (((m1.1 a0 4) ≤ (96 : Int32) →
    ∃ n10 : Nat, f_X11_sign_L18 S a0 x1 (fun (m8 : Mm) =>
      ∀ m9 : Mm, m9 = stI m8 a0 4 ((m8.1 a0 4) + (4 : Int32)) →
      K (m9.1 a0 4) m9) K n10 (0 : Int32) m1) ∧
   (¬ (m1.1 a0 4) ≤ (96 : Int32) →
    K (-1 : Int32) m1))
set_option maxHeartbeats 4000000 in
set_option maxRecDepth 100000 in
theorem ok_X11_sign {l : Launch} {g : Gg} {S : Ss} {a0 : Nat} {x1 : Int32} {M : Mm} {K : Int32 → Mm → Prop} (hs0 : S[a0]? = some (10, 0)) (hf : f_X11_sign S a0 x1 M K) : MT l g S yX11_sign cX11_sign 3 (some .int) 0 [.ref (ad g a0), .int x1] M (pI K) := by
  refine MT.of (by decide +kernel) (Nat.le_of_ble_eq_true rfl) ?_
  intro p e s m below meth c ls E hw hR hS hl
  have hl : lv_has ls 3 [(0, .ref (ad g a0)), (1, .int x1)] := hl
  generalize ([.ref (ad g a0), .int x1] : List Value).toArray = args at E ⊢
  have E : EN p s m args meth c cX11_sign 3 (some .int) RX11 g := E
  have hx := E.1
  have hb := E.2.1
  unfold f_X11_sign at hf
  refine lv_aload_n hx hb dX11_sign_0 rfl (lv_at hl 0 rfl) ?_
  refine lv_iconst (v := 0) hx hb dX11_sign_1 (by decide) ?_
  refine hw_putI E hR hS hw cI10 hs0 0 (by decide) lfX11_3 rfl (Or.inl rfl) dX11_sign_2 (fun m1 H locs em1 hR hS => ?_)
  replace hf := hf m1 em1
  refine lv_aload_n hx hb dX11_sign_5 rfl (lv_at hl 0 rfl) ?_
  refine hw_getI E hR cI10 hs0 4 (by decide) lfX11_14 rfl dX11_sign_6 ?_
  refine lv_bipush (v := 96) hx hb dX11_sign_9 (by decide) ?_
  refine lv_icmp_le (tgt := 16) hx hb dX11_sign_11 (by decide) (fun c2 => ?_) (fun c2 => ?_)
  · replace hf := hf.1 c2
    refine lv_iconst (v := 0) hx hb dX11_sign_16 (by decide) ?_
    refine lv_istore_n (lv' := [(2, .int (0 : Int32)), (0, .ref (ad g a0)), (1, .int x1)]) hx hb dX11_sign_17 rfl hl (by decide) rfl (fun ls hl => ?_)
    obtain ⟨n10, hf⟩ := hf
    refine w_X11_sign_L18 _ _ _ _ E hw hs0 ?_ n10 _ _ hf _ _ _ hR hS (lv_sub hl [1, 2, 0] rfl)
    intro m8 H locs ls hf hR hS hl
    refine lv_aload_n hx hb dX11_sign_53 rfl (lv_at hl 0 rfl) ?_
    refine lv_dup hx hb dX11_sign_54 rfl ?_
    refine hw_getI E hR cI10 hs0 4 (by decide) lfX11_14 rfl dX11_sign_55 ?_
    refine lv_iconst (v := 4) hx hb dX11_sign_58 (by decide) ?_
    refine lv_iadd hx hb dX11_sign_59 ?_
    refine hw_putI E hR hS hw cI10 hs0 4 (by decide) lfX11_14 rfl (Or.inl rfl) dX11_sign_60 (fun m9 H locs em9 hR hS => ?_)
    replace hf := hf m9 em9
    refine lv_aload_n hx hb dX11_sign_63 rfl (lv_at hl 0 rfl) ?_
    refine hw_getI E hR cI10 hs0 4 (by decide) lfX11_14 rfl dX11_sign_64 ?_
    exact hw_iret E hR hS ⟨_, rfl, hf⟩ dX11_sign_67
  · replace hf := hf.2 c2
    refine lv_iconst (v := -1) hx hb dX11_sign_14 (by decide) ?_
    exact hw_iret E hR hS ⟨_, rfl, hf⟩ dX11_sign_15
def f_X11_end (S : Ss) (a0 : Nat) (x1 : Int32) (M : Mm) (K : Int32 → Mm → Prop) : Prop :=
  ∀ m1 : Mm, m1 = stI M a0 0 (0 : Int32) →
  f_X11_in S  x1.toInt64 (0 : Int64) (m1.1 a0 4).toInt64 m1 (fun (r3 : Int32) (m2 : Mm) =>
    ((r3 = 0 →
    K (0 : Int32) m2) ∧
   (¬ r3 = 0 →
    ∀ m5 : Mm, m5 = stI m2 a0 4 x1 →
    K (1 : Int32) m5)))
set_option maxHeartbeats 4000000 in
set_option maxRecDepth 100000 in
theorem ok_X11_end {l : Launch} {g : Gg} {S : Ss} {a0 : Nat} {x1 : Int32} {M : Mm} {K : Int32 → Mm → Prop} (hs0 : S[a0]? = some (10, 0)) (hf : f_X11_end S a0 x1 M K) : MT l g S yX11_end cX11_end 2 (some .boolean) 1 [.ref (ad g a0), .int x1] M (pI K) := by
  refine MT.of (by decide +kernel) (Nat.le_of_ble_eq_true rfl) ?_
  intro p e s m below meth c ls E hw hR hS hl
  have hl : lv_has ls 2 [(0, .ref (ad g a0)), (1, .int x1)] := hl
  generalize ([.ref (ad g a0), .int x1] : List Value).toArray = args at E ⊢
  have E : EN p s m args meth c cX11_end 2 (some .boolean) RX11 g := E
  have hx := E.1
  have hb := E.2.1
  unfold f_X11_end at hf
  refine lv_aload_n hx hb dX11_end_0 rfl (lv_at hl 0 rfl) ?_
  refine lv_iconst (v := 0) hx hb dX11_end_1 (by decide) ?_
  refine hw_putI E hR hS hw cI10 hs0 0 (by decide) lfX11_3 rfl (Or.inl rfl) dX11_end_2 (fun m1 H locs em1 hR hS => ?_)
  replace hf := hf m1 em1
  refine lv_iload_n hx hb dX11_end_5 rfl (lv_at hl 1 rfl) ?_
  refine lv_i2l hx hb dX11_end_6 rfl ?_
  refine lv_lconst (v := 0) hx hb dX11_end_7 (by decide) ?_
  refine lv_aload_n hx hb dX11_end_8 rfl (lv_at hl 0 rfl) ?_
  refine hw_getI E hR cI10 hs0 4 (by decide) lfX11_14 rfl dX11_end_9 ?_
  refine lv_i2l hx hb dX11_end_12 rfl ?_
  refine hw_callS (d := 1) E hR hS (As := [.long x1.toInt64, .long (0 : Int64), .long (m1.1 a0 4).toInt64]) (rest := []) mcX11_in msX11_in lmX11_21 (ok_X11_in  hf) rfl rfl (by decide) hl.1 (Nat.le_of_ble_eq_true rfl) dX11_end_13 (fun rr m2 H locs hp hR hS => ?_)
  obtain ⟨r3, rfl, hf⟩ := hp
  refine W.eq (g2 := F0 m 16 ls [.int r3]) rfl ?_
  refine lv_if_ne (tgt := 21) hx hb dX11_end_16 (by decide) (fun c4 => ?_) (fun c4 => ?_)
  · replace hf := hf.2 c4
    refine lv_aload_n hx hb dX11_end_21 rfl (lv_at hl 0 rfl) ?_
    refine lv_iload_n hx hb dX11_end_22 rfl (lv_at hl 1 rfl) ?_
    refine hw_putI E hR hS hw cI10 hs0 4 (by decide) lfX11_14 rfl (Or.inl rfl) dX11_end_23 (fun m5 H locs em5 hR hS => ?_)
    replace hf := hf m5 em5
    refine lv_iconst (v := 1) hx hb dX11_end_26 (by decide) ?_
    exact hw_zret E hR hS (by decide) ⟨_, rfl, hf⟩ dX11_end_27
  · replace hf := hf.1 c4
    refine lv_iconst (v := 0) hx hb dX11_end_19 (by decide) ?_
    exact hw_zret E hR hS (by decide) ⟨_, rfl, hf⟩ dX11_end_20
def f_X11_isAt (S : Ss) (a0 : Nat) (x1 : Int32) (M : Mm) (K : Int32 → Mm → Prop) : Prop :=
  (((M.1 a0 6) ≤ (M.1 a0 5) →
    K (0 : Int32) M) ∧
   (¬ (M.1 a0 6) ≤ (M.1 a0 5) →
    ∃ b2 : Nat, M.2.2 a0 3 = some b2 ∧
    ∃ n3 : Nat, shp S b2 = some (50, n3) ∧ vp_in (M.1 a0 5) n3 ∧
    (((M.1 b2 (M.1 a0 5).toNatClampNeg) = x1 →
      K (1 : Int32) M) ∧
     (¬ (M.1 b2 (M.1 a0 5).toNatClampNeg) = x1 →
      K (0 : Int32) M))))
set_option maxHeartbeats 4000000 in
set_option maxRecDepth 100000 in
theorem ok_X11_isAt {l : Launch} {g : Gg} {S : Ss} {a0 : Nat} {x1 : Int32} {M : Mm} {K : Int32 → Mm → Prop} (hs0 : S[a0]? = some (10, 0)) (hf : f_X11_isAt S a0 x1 M K) : MT l g S yX11_isAt cX11_isAt 2 (some .boolean) 0 [.ref (ad g a0), .int x1] M (pI K) := by
  refine MT.of (by decide +kernel) (Nat.le_of_ble_eq_true rfl) ?_
  intro p e s m below meth c ls E hw hR hS hl
  have hl : lv_has ls 2 [(0, .ref (ad g a0)), (1, .int x1)] := hl
  generalize ([.ref (ad g a0), .int x1] : List Value).toArray = args at E ⊢
  have E : EN p s m args meth c cX11_isAt 2 (some .boolean) RX11 g := E
  have hx := E.1
  have hb := E.2.1
  unfold f_X11_isAt at hf
  refine lv_aload_n hx hb dX11_isAt_0 rfl (lv_at hl 0 rfl) ?_
  refine hw_getI E hR cI10 hs0 5 (by decide) lfX11_25 rfl dX11_isAt_1 ?_
  refine lv_aload_n hx hb dX11_isAt_4 rfl (lv_at hl 0 rfl) ?_
  refine hw_getI E hR cI10 hs0 6 (by decide) lfX11_28 rfl dX11_isAt_5 ?_
  refine lv_icmp_ge (tgt := 28) hx hb dX11_isAt_8 (by decide) (fun c1 => ?_) (fun c1 => ?_)
  · replace hf := hf.1 c1
    refine lv_iconst (v := 0) hx hb dX11_isAt_28 (by decide) ?_
    exact hw_zret E hR hS (by decide) ⟨_, rfl, hf⟩ dX11_isAt_29
  · replace hf := hf.2 c1
    refine lv_aload_n hx hb dX11_isAt_11 rfl (lv_at hl 0 rfl) ?_
    obtain ⟨b2, hb2, hf⟩ := hf
    refine hw_getR E hR cI10 hs0 3 (by decide) lfX11_17 rfl hb2 dX11_isAt_12 ?_
    refine lv_aload_n hx hb dX11_isAt_15 rfl (lv_at hl 0 rfl) ?_
    refine hw_getI E hR cI10 hs0 5 (by decide) lfX11_25 rfl dX11_isAt_16 ?_
    obtain ⟨n3, hn3, in3, hf⟩ := hf
    refine hw_iald E hR hS hn3 in3 dX11_isAt_19 ?_
    refine lv_iload_n hx hb dX11_isAt_20 rfl (lv_at hl 1 rfl) ?_
    refine lv_icmp_ne (tgt := 28) hx hb dX11_isAt_21 (by decide) (fun c4 => ?_) (fun c4 => ?_)
    · replace hf := hf.2 c4
      refine lv_iconst (v := 0) hx hb dX11_isAt_28 (by decide) ?_
      exact hw_zret E hR hS (by decide) ⟨_, rfl, hf⟩ dX11_isAt_29
    · replace hf := hf.1 c4
      refine lv_iconst (v := 1) hx hb dX11_isAt_24 (by decide) ?_
      refine lv_goto (tgt := 29) hx hb dX11_isAt_25 (by decide) ?_
      exact hw_zret E hR hS (by decide) ⟨_, rfl, hf⟩ dX11_isAt_29
def f_X11_comes (S : Ss) (a0 : Nat) (x1 : Int32) (M : Mm) (K : Int32 → Mm → Prop) : Prop :=
  f_X11_isAt S a0 x1 M (fun (r2 : Int32) (m1 : Mm) =>
    f_X11_truth S  r2 m1 (fun (r4 : Int32) (m3 : Mm) =>
    ∀ m5 : Mm, m5 = stI m3 a0 5 ((m1.1 a0 5) + r4) →
  (r2 = 0 ∨ r2 = 1) ∧ K r2 m5))
set_option maxHeartbeats 4000000 in
set_option maxRecDepth 100000 in
theorem ok_X11_comes {l : Launch} {g : Gg} {S : Ss} {a0 : Nat} {x1 : Int32} {M : Mm} {K : Int32 → Mm → Prop} (hs0 : S[a0]? = some (10, 0)) (hf : f_X11_comes S a0 x1 M K) : MT l g S yX11_comes cX11_comes 3 (some .boolean) 1 [.ref (ad g a0), .int x1] M (pI K) := by
  refine MT.of (by decide +kernel) (Nat.le_of_ble_eq_true rfl) ?_
  intro p e s m below meth c ls E hw hR hS hl
  have hl : lv_has ls 3 [(0, .ref (ad g a0)), (1, .int x1)] := hl
  generalize ([.ref (ad g a0), .int x1] : List Value).toArray = args at E ⊢
  have E : EN p s m args meth c cX11_comes 3 (some .boolean) RX11 g := E
  have hx := E.1
  have hb := E.2.1
  unfold f_X11_comes at hf
  refine lv_aload_n hx hb dX11_comes_0 rfl (lv_at hl 0 rfl) ?_
  refine lv_iload_n hx hb dX11_comes_1 rfl (lv_at hl 1 rfl) ?_
  refine hw_callV (d := 1) E hR hS (As := [.int x1]) (rest := []) cI10 hs0 rfl mcX11_isAt miX11_isAt lmX11_31 (ok_X11_isAt hs0 hf) rfl rfl (by decide) hl.1 (Nat.le_of_ble_eq_true rfl) dX11_comes_2 (fun rr m1 H locs hp hR hS => ?_)
  obtain ⟨r2, rfl, hf⟩ := hp
  refine W.eq (g2 := F0 m 5 ls [.int r2]) rfl ?_
  refine lv_istore_n (lv' := [(2, .int r2), (0, .ref (ad g a0)), (1, .int x1)]) hx hb dX11_comes_5 rfl hl (by decide) rfl (fun ls hl => ?_)
  refine lv_aload_n hx hb dX11_comes_6 rfl (lv_at hl 1 rfl) ?_
  refine lv_dup hx hb dX11_comes_7 rfl ?_
  refine hw_getI E hR cI10 hs0 5 (by decide) lfX11_25 rfl dX11_comes_8 ?_
  refine lv_iload_n hx hb dX11_comes_11 rfl (lv_at hl 0 rfl) ?_
  refine hw_callS (d := 1) E hR hS (As := [.int r2]) (rest := [.int (m1.1 a0 5), .ref (ad g a0)]) mcX11_truth msX11_truth lmX11_35 (ok_X11_truth  hf) rfl rfl (by decide) hl.1 (Nat.le_of_ble_eq_true rfl) dX11_comes_12 (fun rr m3 H locs hp hR hS => ?_)
  obtain ⟨r4, rfl, hf⟩ := hp
  refine W.eq (g2 := F0 m 15 ls [.int r4, .int (m1.1 a0 5), .ref (ad g a0)]) rfl ?_
  refine lv_iadd hx hb dX11_comes_15 ?_
  refine hw_putI E hR hS hw cI10 hs0 5 (by decide) lfX11_25 rfl (Or.inl rfl) dX11_comes_16 (fun m5 H locs em5 hR hS => ?_)
  replace hf := hf m5 em5
  refine lv_iload_n hx hb dX11_comes_19 rfl (lv_at hl 0 rfl) ?_
  exact hw_zret E hR hS hf.1 ⟨_, rfl, hf.2⟩ dX11_comes_20
def f_X11_isDigit (S : Ss) (a0 : Nat) (M : Mm) (K : Int32 → Mm → Prop) : Prop :=
  (((M.1 a0 6) ≤ (M.1 a0 5) →
    K (0 : Int32) M) ∧
   (¬ (M.1 a0 6) ≤ (M.1 a0 5) →
    ∃ b2 : Nat, M.2.2 a0 3 = some b2 ∧
    ∃ n3 : Nat, shp S b2 = some (50, n3) ∧ vp_in (M.1 a0 5) n3 ∧
    f_X11_in S  (M.1 b2 (M.1 a0 5).toNatClampNeg).toInt64 (48 : Int64) (57 : Int64) M (fun (r5 : Int32) (m4 : Mm) =>
      ((r5 = 0 →
      K (0 : Int32) m4) ∧
     (¬ r5 = 0 →
      K (1 : Int32) m4)))))
set_option maxHeartbeats 4000000 in
set_option maxRecDepth 100000 in
theorem ok_X11_isDigit {l : Launch} {g : Gg} {S : Ss} {a0 : Nat} {M : Mm} {K : Int32 → Mm → Prop} (hs0 : S[a0]? = some (10, 0)) (hf : f_X11_isDigit S a0 M K) : MT l g S yX11_isDigit cX11_isDigit 1 (some .boolean) 1 [.ref (ad g a0)] M (pI K) := by
  refine MT.of (by decide +kernel) (Nat.le_of_ble_eq_true rfl) ?_
  intro p e s m below meth c ls E hw hR hS hl
  have hl : lv_has ls 1 [(0, .ref (ad g a0))] := hl
  generalize ([.ref (ad g a0)] : List Value).toArray = args at E ⊢
  have E : EN p s m args meth c cX11_isDigit 1 (some .boolean) RX11 g := E
  have hx := E.1
  have hb := E.2.1
  unfold f_X11_isDigit at hf
  refine lv_aload_n hx hb dX11_isDigit_0 rfl (lv_at hl 0 rfl) ?_
  refine hw_getI E hR cI10 hs0 5 (by decide) lfX11_25 rfl dX11_isDigit_1 ?_
  refine lv_aload_n hx hb dX11_isDigit_4 rfl (lv_at hl 0 rfl) ?_
  refine hw_getI E hR cI10 hs0 6 (by decide) lfX11_28 rfl dX11_isDigit_5 ?_
  refine lv_icmp_ge (tgt := 37) hx hb dX11_isDigit_8 (by decide) (fun c1 => ?_) (fun c1 => ?_)
  · replace hf := hf.1 c1
    refine lv_iconst (v := 0) hx hb dX11_isDigit_37 (by decide) ?_
    exact hw_zret E hR hS (by decide) ⟨_, rfl, hf⟩ dX11_isDigit_38
  · replace hf := hf.2 c1
    refine lv_aload_n hx hb dX11_isDigit_11 rfl (lv_at hl 0 rfl) ?_
    obtain ⟨b2, hb2, hf⟩ := hf
    refine hw_getR E hR cI10 hs0 3 (by decide) lfX11_17 rfl hb2 dX11_isDigit_12 ?_
    refine lv_aload_n hx hb dX11_isDigit_15 rfl (lv_at hl 0 rfl) ?_
    refine hw_getI E hR cI10 hs0 5 (by decide) lfX11_25 rfl dX11_isDigit_16 ?_
    obtain ⟨n3, hn3, in3, hf⟩ := hf
    refine hw_iald E hR hS hn3 in3 dX11_isDigit_19 ?_
    refine lv_i2l hx hb dX11_isDigit_20 rfl ?_
    refine lv_ldc2 (v := 48) hx hb E.2.2.2.2.1 (E.2.2.2.2.2.1 _ ljX11_39) dX11_isDigit_21 ?_
    refine lv_ldc2 (v := 57) hx hb E.2.2.2.2.1 (E.2.2.2.2.2.1 _ ljX11_41) dX11_isDigit_24 ?_
    refine hw_callS (d := 1) E hR hS (As := [.long (M.1 b2 (M.1 a0 5).toNatClampNeg).toInt64, .long (48 : Int64), .long (57 : Int64)]) (rest := []) mcX11_in msX11_in lmX11_21 (ok_X11_in  hf) rfl rfl (by decide) hl.1 (Nat.le_of_ble_eq_true rfl) dX11_isDigit_27 (fun rr m4 H locs hp hR hS => ?_)
    obtain ⟨r5, rfl, hf⟩ := hp
    refine W.eq (g2 := F0 m 30 ls [.int r5]) rfl ?_
    refine lv_if_eq (tgt := 37) hx hb dX11_isDigit_30 (by decide) (fun c6 => ?_) (fun c6 => ?_)
    · replace hf := hf.1 c6
      refine lv_iconst (v := 0) hx hb dX11_isDigit_37 (by decide) ?_
      exact hw_zret E hR hS (by decide) ⟨_, rfl, hf⟩ dX11_isDigit_38
    · replace hf := hf.2 c6
      refine lv_iconst (v := 1) hx hb dX11_isDigit_33 (by decide) ?_
      refine lv_goto (tgt := 38) hx hb dX11_isDigit_34 (by decide) ?_
      exact hw_zret E hR hS (by decide) ⟨_, rfl, hf⟩ dX11_isDigit_38
def f_X11_marks (S : Ss) (a0 : Nat) (x1 : Int32) (M : Mm) (K : Mm → Prop) : Prop :=
  ∃ b1 : Nat, M.2.2 a0 11 = some b1 ∧
  ∃ b2 : Nat, M.2.2 a0 12 = some b2 ∧
  ∃ n3 : Nat, shp S b2 = some (50, n3) ∧ vp_in (M.1 a0 13) n3 ∧
  ∃ n4 : Nat, S[b1]? = some (50, n4) ∧ vp_in (((64 : Int32) * (M.1 a0 13)) + (M.1 b2 (M.1 a0 13).toNatClampNeg)) n4 ∧
  ∀ m5 : Mm, m5 = stI M b1 (((64 : Int32) * (M.1 a0 13)) + (M.1 b2 (M.1 a0 13).toNatClampNeg)).toNatClampNeg x1 →
  ∃ b6 : Nat, m5.2.2 a0 12 = some b6 ∧
  ∃ n7 : Nat, shp S b6 = some (50, n7) ∧ vp_in (m5.1 a0 13) n7 ∧
  ∃ n8 : Nat, S[b6]? = some (50, n8) ∧ vp_in (m5.1 a0 13) n8 ∧
  ∀ m9 : Mm, m9 = stI m5 b6 (m5.1 a0 13).toNatClampNeg ((m5.1 b6 (m5.1 a0 13).toNatClampNeg) + (1 : Int32)) →
  K m9
set_option maxHeartbeats 4000000 in
set_option maxRecDepth 100000 in
theorem ok_X11_marks {l : Launch} {g : Gg} {S : Ss} {a0 : Nat} {x1 : Int32} {M : Mm} {K : Mm → Prop} (hs0 : S[a0]? = some (10, 0)) (hf : f_X11_marks S a0 x1 M K) : MT l g S yX11_marks cX11_marks 2 none 0 [.ref (ad g a0), .int x1] M (pV K) := by
  refine MT.of (by decide +kernel) (Nat.le_of_ble_eq_true rfl) ?_
  intro p e s m below meth c ls E hw hR hS hl
  have hl : lv_has ls 2 [(0, .ref (ad g a0)), (1, .int x1)] := hl
  generalize ([.ref (ad g a0), .int x1] : List Value).toArray = args at E ⊢
  have E : EN p s m args meth c cX11_marks 2 none RX11 g := E
  have hx := E.1
  have hb := E.2.1
  unfold f_X11_marks at hf
  refine lv_aload_n hx hb dX11_marks_0 rfl (lv_at hl 0 rfl) ?_
  obtain ⟨b1, hb1, hf⟩ := hf
  refine hw_getR E hR cI10 hs0 11 (by decide) lfX11_43 rfl hb1 dX11_marks_1 ?_
  refine lv_bipush (v := 64) hx hb dX11_marks_4 (by decide) ?_
  refine lv_aload_n hx hb dX11_marks_6 rfl (lv_at hl 0 rfl) ?_
  refine hw_getI E hR cI10 hs0 13 (by decide) lfX11_46 rfl dX11_marks_7 ?_
  refine lv_imul hx hb dX11_marks_10 ?_
  refine lv_aload_n hx hb dX11_marks_11 rfl (lv_at hl 0 rfl) ?_
  obtain ⟨b2, hb2, hf⟩ := hf
  refine hw_getR E hR cI10 hs0 12 (by decide) lfX11_49 rfl hb2 dX11_marks_12 ?_
  refine lv_aload_n hx hb dX11_marks_15 rfl (lv_at hl 0 rfl) ?_
  refine hw_getI E hR cI10 hs0 13 (by decide) lfX11_46 rfl dX11_marks_16 ?_
  obtain ⟨n3, hn3, in3, hf⟩ := hf
  refine hw_iald E hR hS hn3 in3 dX11_marks_19 ?_
  refine lv_iadd hx hb dX11_marks_20 ?_
  refine lv_iload_n hx hb dX11_marks_21 rfl (lv_at hl 1 rfl) ?_
  obtain ⟨n4, hn4, in4, hf⟩ := hf
  refine hw_iast E hR hS hw hn4 in4 dX11_marks_22 (fun m5 H locs em5 hR hS => ?_)
  replace hf := hf m5 em5
  refine lv_aload_n hx hb dX11_marks_23 rfl (lv_at hl 0 rfl) ?_
  obtain ⟨b6, hb6, hf⟩ := hf
  refine hw_getR E hR cI10 hs0 12 (by decide) lfX11_49 rfl hb6 dX11_marks_24 ?_
  refine lv_aload_n hx hb dX11_marks_27 rfl (lv_at hl 0 rfl) ?_
  refine hw_getI E hR cI10 hs0 13 (by decide) lfX11_46 rfl dX11_marks_28 ?_
  refine lv_dup2_11 hx hb dX11_marks_31 rfl rfl ?_
  obtain ⟨n7, hn7, in7, hf⟩ := hf
  refine hw_iald E hR hS hn7 in7 dX11_marks_32 ?_
  refine lv_iconst (v := 1) hx hb dX11_marks_33 (by decide) ?_
  refine lv_iadd hx hb dX11_marks_34 ?_
  obtain ⟨n8, hn8, in8, hf⟩ := hf
  refine hw_iast E hR hS hw hn8 in8 dX11_marks_35 (fun m9 H locs em9 hR hS => ?_)
  replace hf := hf m9 em9
  exact hw_vret E hR hS ⟨rfl, hf⟩ dX11_marks_36
def f_X11_digits_B13 (S : Ss) (a0 : Nat) (x1 : Int32) (x2 : Int32) (x3 : Int32) (M : Mm) (BK13 : Int32 → Int32 → Mm → Prop) (EK13 : Int32 → Mm → Prop) (K : Int32 → Mm → Prop) : Prop :=
  ((x1 ≤ x3 →
    EK13 x2 M) ∧
   (¬ x1 ≤ x3 →
    f_X11_isDigit S a0  M (fun (r6 : Int32) (m5 : Mm) =>
      ((r6 = 0 →
      EK13 x2 m5) ∧
     (¬ r6 = 0 →
      ∃ b8 : Nat, m5.2.2 a0 3 = some b8 ∧
      ∃ n9 : Nat, shp S b8 = some (50, n9) ∧ vp_in (m5.1 a0 5) n9 ∧
      ∀ v10 : Int32, v10 = ((((10 : Int32) * x2) + (m5.1 b8 (m5.1 a0 5).toNatClampNeg)) - (48 : Int32)) →
      ∀ m11 : Mm, m11 = stI m5 a0 5 ((m5.1 a0 5) + (1 : Int32)) →
      ∀ v12 : Int32, v12 = x3 + (1 : Int32) →
      BK13 v10 v12 m11)))))
set_option maxHeartbeats 4000000 in
set_option maxRecDepth 100000 in
theorem w_X11_digits_B13 {p : Program} {l : Launch} {e : Env} {s : State} {m : MethodId} {args : Array Value} {below : List Frame} {meth : Method} {c : Code} {g : Gg} {S : Ss} (a0 : Nat) (x1 : Int32) (x2 : Int32) (x3 : Int32) (M : Mm) (BK13 : Int32 → Int32 → Mm → Prop) (EK13 : Int32 → Mm → Prop) (K : Int32 → Mm → Prop) (E : EN p s m args meth c cX11_digits 4 (some .int) RX11 g) (hw : ad g 100000 < s.heap.size) (hs0 : S[a0]? = some (10, 0)) (hBK13 : ∀ (x2' : Int32) (x3' : Int32) (M' : Mm) (H : Heap) (locs : List Loc) (ls : Array Slot), BK13 x2' x3' M' → RP g S M' H → va_S (gA g) s.heap H locs → lv_has ls 4 [(0, .ref (ad g a0)), (1, .int x1), (2, .int x2'), (3, .int x3')] → W p l e (rmD 2) s m args below meth c H locs 0 0 (MQ below (QA g S (pI K)) args s 0 0 (gA g)) (F0 m 13 ls [])) (hEK13 : ∀ (x2' : Int32) (M' : Mm) (H : Heap) (locs : List Loc) (ls : Array Slot), EK13 x2' M' → RP g S M' H → va_S (gA g) s.heap H locs → lv_has ls 4 [(2, .int x2')] → W p l e (rmD 2) s m args below meth c H locs 0 0 (MQ below (QA g S (pI K)) args s 0 0 (gA g)) (F0 m 59 ls [])) (hf : f_X11_digits_B13 S a0 x1 x2 x3 M BK13 EK13 K) (H : Heap) (locs : List Loc) (ls : Array Slot) (hR : RP g S M H) (hS : va_S (gA g) s.heap H locs) (hl : lv_has ls 4 [(0, .ref (ad g a0)), (1, .int x1), (2, .int x2), (3, .int x3)]) : W p l e (rmD 2) s m args below meth c H locs 0 0 (MQ below (QA g S (pI K)) args s 0 0 (gA g)) (F0 m 13 ls []) := by
  have hx := E.1
  have hb := E.2.1
  unfold f_X11_digits_B13 at hf
  refine lv_iload_n hx hb dX11_digits_13 rfl (lv_at hl 3 rfl) ?_
  refine lv_iload_n hx hb dX11_digits_14 rfl (lv_at hl 1 rfl) ?_
  refine lv_icmp_ge (tgt := 59) hx hb dX11_digits_15 (by decide) (fun c4 => ?_) (fun c4 => ?_)
  · replace hf := hf.1 c4
    exact hEK13 _ _ _ _ _ hf hR hS (lv_sub hl [2] rfl)
  · replace hf := hf.2 c4
    refine lv_aload_n hx hb dX11_digits_18 rfl (lv_at hl 0 rfl) ?_
    refine hw_callV (d := 2) E hR hS (As := []) (rest := []) cI10 hs0 rfl mcX11_isDigit miX11_isDigit lmX11_52 (ok_X11_isDigit hs0 hf) rfl rfl (by decide) hl.1 (Nat.le_of_ble_eq_true rfl) dX11_digits_19 (fun rr m5 H locs hp hR hS => ?_)
    obtain ⟨r6, rfl, hf⟩ := hp
    refine W.eq (g2 := F0 m 22 ls [.int r6]) rfl ?_
    refine lv_if_eq (tgt := 59) hx hb dX11_digits_22 (by decide) (fun c7 => ?_) (fun c7 => ?_)
    · replace hf := hf.1 c7
      exact hEK13 _ _ _ _ _ hf hR hS (lv_sub hl [2] rfl)
    · replace hf := hf.2 c7
      refine lv_bipush (v := 10) hx hb dX11_digits_25 (by decide) ?_
      refine lv_iload_n hx hb dX11_digits_27 rfl (lv_at hl 2 rfl) ?_
      refine lv_imul hx hb dX11_digits_28 ?_
      refine lv_aload_n hx hb dX11_digits_29 rfl (lv_at hl 0 rfl) ?_
      obtain ⟨b8, hb8, hf⟩ := hf
      refine hw_getR E hR cI10 hs0 3 (by decide) lfX11_17 rfl hb8 dX11_digits_30 ?_
      refine lv_aload_n hx hb dX11_digits_33 rfl (lv_at hl 0 rfl) ?_
      refine hw_getI E hR cI10 hs0 5 (by decide) lfX11_25 rfl dX11_digits_34 ?_
      obtain ⟨n9, hn9, in9, hf⟩ := hf
      refine hw_iald E hR hS hn9 in9 dX11_digits_37 ?_
      refine lv_iadd hx hb dX11_digits_38 ?_
      refine lv_bipush (v := 48) hx hb dX11_digits_39 (by decide) ?_
      refine lv_isub hx hb dX11_digits_41 ?_
      refine lv_topi (fun v10 ev10 => ?_)
      replace hf := hf v10 ev10
      refine lv_istore_n (lv' := [(2, .int v10), (0, .ref (ad g a0)), (1, .int x1), (3, .int x3)]) hx hb dX11_digits_42 rfl hl (by decide) rfl (fun ls hl => ?_)
      refine lv_aload_n hx hb dX11_digits_43 rfl (lv_at hl 1 rfl) ?_
      refine lv_dup hx hb dX11_digits_44 rfl ?_
      refine hw_getI E hR cI10 hs0 5 (by decide) lfX11_25 rfl dX11_digits_45 ?_
      refine lv_iconst (v := 1) hx hb dX11_digits_48 (by decide) ?_
      refine lv_iadd hx hb dX11_digits_49 ?_
      refine hw_putI E hR hS hw cI10 hs0 5 (by decide) lfX11_25 rfl (Or.inl rfl) dX11_digits_50 (fun m11 H locs em11 hR hS => ?_)
      replace hf := hf m11 em11
      obtain ⟨v12, ev12⟩ : ∃ y : Int32, y = x3 + (1 : Int32) := ⟨_, rfl⟩
      replace hf := hf v12 ev12
      refine lv_iinc (v := v12) (lv' := [(3, .int v12), (2, .int v10), (0, .ref (ad g a0)), (1, .int x1)]) hx hb dX11_digits_53 hl (k := 3) rfl (by rw [ev12]; rfl) (by decide) rfl (fun ls hl => ?_)
      refine lv_goto (tgt := 13) hx hb dX11_digits_56 (by decide) ?_
      exact hBK13 _ _ _ _ _ _ hf hR hS (lv_sub hl [2, 3, 1, 0] rfl)
def f_X11_digits_L13 (S : Ss) (a0 : Nat) (x1 : Int32) (EK13 : Int32 → Mm → Prop) (K : Int32 → Mm → Prop) : Nat → Int32 → Int32 → Mm → Prop
  | 0, _, _, _ => False
  | n + 1, x2, x3, M => f_X11_digits_B13 S a0 x1 x2 x3 M (fun (x2 : Int32) (x3 : Int32) (M : Mm) => f_X11_digits_L13 S a0 x1 EK13 K n x2 x3 M) EK13 K
set_option maxHeartbeats 4000000 in
set_option maxRecDepth 100000 in
theorem w_X11_digits_L13 {p : Program} {l : Launch} {e : Env} {s : State} {m : MethodId} {args : Array Value} {below : List Frame} {meth : Method} {c : Code} {g : Gg} {S : Ss} (a0 : Nat) (x1 : Int32) (EK13 : Int32 → Mm → Prop) (K : Int32 → Mm → Prop) (E : EN p s m args meth c cX11_digits 4 (some .int) RX11 g) (hw : ad g 100000 < s.heap.size) (hs0 : S[a0]? = some (10, 0)) (hEK13 : ∀ (x2' : Int32) (M' : Mm) (H : Heap) (locs : List Loc) (ls : Array Slot), EK13 x2' M' → RP g S M' H → va_S (gA g) s.heap H locs → lv_has ls 4 [(2, .int x2')] → W p l e (rmD 2) s m args below meth c H locs 0 0 (MQ below (QA g S (pI K)) args s 0 0 (gA g)) (F0 m 59 ls [])) : ∀ (n : Nat) (x2 : Int32) (x3 : Int32) (M : Mm), f_X11_digits_L13 S a0 x1 EK13 K n x2 x3 M → ∀ (H : Heap) (locs : List Loc) (ls : Array Slot), RP g S M H → va_S (gA g) s.heap H locs → lv_has ls 4 [(0, .ref (ad g a0)), (1, .int x1), (2, .int x2), (3, .int x3)] → W p l e (rmD 2) s m args below meth c H locs 0 0 (MQ below (QA g S (pI K)) args s 0 0 (gA g)) (F0 m 13 ls []) := by
  intro n
  induction n with
  | zero => intro x2 x3 M hf; exact hf.elim
  | succ n ih =>
    intro x2 x3 M hf H locs ls hR hS hl
    exact w_X11_digits_B13 _ _ _ _ _ _ _ _ E hw hs0 (fun _ _ M H locs ls h hR hS hl => ih _ _ M h H locs ls hR hS hl) hEK13 hf H locs ls hR hS hl
def f_X11_digits (S : Ss) (a0 : Nat) (x1 : Int32) (M : Mm) (K : Int32 → Mm → Prop) : Prop :=
  f_X11_isDigit S a0  M (fun (r2 : Int32) (m1 : Mm) =>
    ((r2 = 0 →
    K (-1 : Int32) m1) ∧
   (¬ r2 = 0 →
    ∃ n15 : Nat, f_X11_digits_L13 S a0 x1 (fun (v13 : Int32) (m14 : Mm) =>
      K v13 m14) K n15 (0 : Int32) (0 : Int32) m1)))
set_option maxHeartbeats 4000000 in
set_option maxRecDepth 100000 in
theorem ok_X11_digits {l : Launch} {g : Gg} {S : Ss} {a0 : Nat} {x1 : Int32} {M : Mm} {K : Int32 → Mm → Prop} (hs0 : S[a0]? = some (10, 0)) (hf : f_X11_digits S a0 x1 M K) : MT l g S yX11_digits cX11_digits 4 (some .int) 2 [.ref (ad g a0), .int x1] M (pI K) := by
  refine MT.of (by decide +kernel) (Nat.le_of_ble_eq_true rfl) ?_
  intro p e s m below meth c ls E hw hR hS hl
  have hl : lv_has ls 4 [(0, .ref (ad g a0)), (1, .int x1)] := hl
  generalize ([.ref (ad g a0), .int x1] : List Value).toArray = args at E ⊢
  have E : EN p s m args meth c cX11_digits 4 (some .int) RX11 g := E
  have hx := E.1
  have hb := E.2.1
  unfold f_X11_digits at hf
  refine lv_aload_n hx hb dX11_digits_0 rfl (lv_at hl 0 rfl) ?_
  refine hw_callV (d := 2) E hR hS (As := []) (rest := []) cI10 hs0 rfl mcX11_isDigit miX11_isDigit lmX11_52 (ok_X11_isDigit hs0 hf) rfl rfl (by decide) hl.1 (Nat.le_of_ble_eq_true rfl) dX11_digits_1 (fun rr m1 H locs hp hR hS => ?_)
  obtain ⟨r2, rfl, hf⟩ := hp
  refine W.eq (g2 := F0 m 4 ls [.int r2]) rfl ?_
  refine lv_if_ne (tgt := 9) hx hb dX11_digits_4 (by decide) (fun c3 => ?_) (fun c3 => ?_)
  · replace hf := hf.2 c3
    refine lv_iconst (v := 0) hx hb dX11_digits_9 (by decide) ?_
    refine lv_istore_n (lv' := [(2, .int (0 : Int32)), (0, .ref (ad g a0)), (1, .int x1)]) hx hb dX11_digits_10 rfl hl (by decide) rfl (fun ls hl => ?_)
    refine lv_iconst (v := 0) hx hb dX11_digits_11 (by decide) ?_
    refine lv_istore_n (lv' := [(3, .int (0 : Int32)), (2, .int (0 : Int32)), (0, .ref (ad g a0)), (1, .int x1)]) hx hb dX11_digits_12 rfl hl (by decide) rfl (fun ls hl => ?_)
    obtain ⟨n15, hf⟩ := hf
    refine w_X11_digits_L13 _ _ _ _ E hw hs0 ?_ n15 _ _ _ hf _ _ _ hR hS (lv_sub hl [2, 3, 1, 0] rfl)
    intro v13 m14 H locs ls hf hR hS hl
    refine lv_iload_n hx hb dX11_digits_59 rfl (lv_at hl 0 rfl) ?_
    exact hw_iret E hR hS ⟨_, rfl, hf⟩ dX11_digits_60
  · replace hf := hf.1 c3
    refine lv_iconst (v := -1) hx hb dX11_digits_7 (by decide) ?_
    exact hw_iret E hR hS ⟨_, rfl, hf⟩ dX11_digits_8
def f_X11_letter_J24 (S : Ss) (a0 : Nat) (t0 : Int32) (M : Mm) (K : Int32 → Mm → Prop) : Prop :=
  f_X11_in S  t0.toInt64 (97 : Int64) (104 : Int64) M (fun (r3 : Int32) (m2 : Mm) =>
    ((r3 = 0 →
    f_X11_in S  t0.toInt64 (65 : Int64) (68 : Int64) m2 (fun (r6 : Int32) (m5 : Mm) =>
      ((r6 = 0 →
      (((m5.1 a0 8) = 0 →
        K (-1 : Int32) m5) ∧
       (¬ (m5.1 a0 8) = 0 →
        ((t0 = (70 : Int32) →
          K (1020 : Int32) m5) ∧
         (¬ t0 = (70 : Int32) →
          ((t0 = (80 : Int32) →
            K (1021 : Int32) m5) ∧
           (¬ t0 = (80 : Int32) →
            ((t0 = (83 : Int32) →
              K (1022 : Int32) m5) ∧
             (¬ t0 = (83 : Int32) →
              ((t0 = (87 : Int32) →
                K (1023 : Int32) m5) ∧
               (¬ t0 = (87 : Int32) →
                K (-1 : Int32) m5))))))))))) ∧
     (¬ r6 = 0 →
      K (((1010 : Int32) + t0) - (65 : Int32)) m5)))) ∧
   (¬ r3 = 0 →
    K (((1000 : Int32) + t0) - (97 : Int32)) m2)))
set_option maxHeartbeats 4000000 in
set_option maxRecDepth 100000 in
theorem w_X11_letter_J24 {p : Program} {l : Launch} {e : Env} {s : State} {m : MethodId} {args : Array Value} {below : List Frame} {meth : Method} {c : Code} {g : Gg} {S : Ss} (a0 : Nat) (t0 : Int32) (M : Mm) (K : Int32 → Mm → Prop) (E : EN p s m args meth c cX11_letter 2 (some .int) RX11 g) (hw : ad g 100000 < s.heap.size) (hs0 : S[a0]? = some (10, 0)) (hf : f_X11_letter_J24 S a0 t0 M K) (H : Heap) (locs : List Loc) (ls : Array Slot) (hR : RP g S M H) (hS : va_S (gA g) s.heap H locs) (hl : lv_has ls 2 [(0, .ref (ad g a0))]) : W p l e (rmD 1) s m args below meth c H locs 0 0 (MQ below (QA g S (pI K)) args s 0 0 (gA g)) (F0 m 24 ls [.int t0]) := by
  have hx := E.1
  have hb := E.2.1
  unfold f_X11_letter_J24 at hf
  refine lv_istore_n (lv' := [(1, .int t0), (0, .ref (ad g a0))]) hx hb dX11_letter_24 rfl hl (by decide) rfl (fun ls hl => ?_)
  refine lv_iload_n hx hb dX11_letter_25 rfl (lv_at hl 0 rfl) ?_
  refine lv_i2l hx hb dX11_letter_26 rfl ?_
  refine lv_ldc2 (v := 97) hx hb E.2.2.2.2.1 (E.2.2.2.2.2.1 _ ljX11_56) dX11_letter_27 ?_
  refine lv_ldc2 (v := 104) hx hb E.2.2.2.2.1 (E.2.2.2.2.2.1 _ ljX11_58) dX11_letter_30 ?_
  refine hw_callS (d := 1) E hR hS (As := [.long t0.toInt64, .long (97 : Int64), .long (104 : Int64)]) (rest := []) mcX11_in msX11_in lmX11_21 (ok_X11_in  hf) rfl rfl (by decide) hl.1 (Nat.le_of_ble_eq_true rfl) dX11_letter_33 (fun rr m2 H locs hp hR hS => ?_)
  obtain ⟨r3, rfl, hf⟩ := hp
  refine W.eq (g2 := F0 m 36 ls [.int r3]) rfl ?_
  refine lv_if_eq (tgt := 48) hx hb dX11_letter_36 (by decide) (fun c4 => ?_) (fun c4 => ?_)
  · replace hf := hf.1 c4
    refine lv_iload_n hx hb dX11_letter_48 rfl (lv_at hl 0 rfl) ?_
    refine lv_i2l hx hb dX11_letter_49 rfl ?_
    refine lv_ldc2 (v := 65) hx hb E.2.2.2.2.1 (E.2.2.2.2.2.1 _ ljX11_60) dX11_letter_50 ?_
    refine lv_ldc2 (v := 68) hx hb E.2.2.2.2.1 (E.2.2.2.2.2.1 _ ljX11_62) dX11_letter_53 ?_
    refine hw_callS (d := 1) E hR hS (As := [.long t0.toInt64, .long (65 : Int64), .long (68 : Int64)]) (rest := []) mcX11_in msX11_in lmX11_21 (ok_X11_in  hf) rfl rfl (by decide) hl.1 (Nat.le_of_ble_eq_true rfl) dX11_letter_56 (fun rr m5 H locs hp hR hS => ?_)
    obtain ⟨r6, rfl, hf⟩ := hp
    refine W.eq (g2 := F0 m 59 ls [.int r6]) rfl ?_
    refine lv_if_eq (tgt := 71) hx hb dX11_letter_59 (by decide) (fun c7 => ?_) (fun c7 => ?_)
    · replace hf := hf.1 c7
      refine lv_aload_n hx hb dX11_letter_71 rfl (lv_at hl 1 rfl) ?_
      refine hw_getI E hR cI10 hs0 8 (by decide) lfX11_64 rfl dX11_letter_72 ?_
      refine lv_if_ne (tgt := 82) hx hb dX11_letter_75 (by decide) (fun c8 => ?_) (fun c8 => ?_)
      · replace hf := hf.2 c8
        refine lv_iload_n hx hb dX11_letter_82 rfl (lv_at hl 0 rfl) ?_
        refine lv_bipush (v := 70) hx hb dX11_letter_83 (by decide) ?_
        refine lv_icmp_ne (tgt := 94) hx hb dX11_letter_85 (by decide) (fun c9 => ?_) (fun c9 => ?_)
        · replace hf := hf.2 c9
          refine lv_iload_n hx hb dX11_letter_94 rfl (lv_at hl 0 rfl) ?_
          refine lv_bipush (v := 80) hx hb dX11_letter_95 (by decide) ?_
          refine lv_icmp_ne (tgt := 106) hx hb dX11_letter_97 (by decide) (fun c10 => ?_) (fun c10 => ?_)
          · replace hf := hf.2 c10
            refine lv_iload_n hx hb dX11_letter_106 rfl (lv_at hl 0 rfl) ?_
            refine lv_bipush (v := 83) hx hb dX11_letter_107 (by decide) ?_
            refine lv_icmp_ne (tgt := 118) hx hb dX11_letter_109 (by decide) (fun c11 => ?_) (fun c11 => ?_)
            · replace hf := hf.2 c11
              refine lv_iload_n hx hb dX11_letter_118 rfl (lv_at hl 0 rfl) ?_
              refine lv_bipush (v := 87) hx hb dX11_letter_119 (by decide) ?_
              refine lv_icmp_ne (tgt := 130) hx hb dX11_letter_121 (by decide) (fun c12 => ?_) (fun c12 => ?_)
              · replace hf := hf.2 c12
                refine lv_iconst (v := -1) hx hb dX11_letter_130 (by decide) ?_
                exact hw_iret E hR hS ⟨_, rfl, hf⟩ dX11_letter_131
              · replace hf := hf.1 c12
                refine lv_sipush (v := 1023) hx hb dX11_letter_124 (by decide) ?_
                refine lv_goto (tgt := 131) hx hb dX11_letter_127 (by decide) ?_
                exact hw_iret E hR hS ⟨_, rfl, hf⟩ dX11_letter_131
            · replace hf := hf.1 c11
              refine lv_sipush (v := 1022) hx hb dX11_letter_112 (by decide) ?_
              refine lv_goto (tgt := 131) hx hb dX11_letter_115 (by decide) ?_
              exact hw_iret E hR hS ⟨_, rfl, hf⟩ dX11_letter_131
          · replace hf := hf.1 c10
            refine lv_sipush (v := 1021) hx hb dX11_letter_100 (by decide) ?_
            refine lv_goto (tgt := 131) hx hb dX11_letter_103 (by decide) ?_
            exact hw_iret E hR hS ⟨_, rfl, hf⟩ dX11_letter_131
        · replace hf := hf.1 c9
          refine lv_sipush (v := 1020) hx hb dX11_letter_88 (by decide) ?_
          refine lv_goto (tgt := 131) hx hb dX11_letter_91 (by decide) ?_
          exact hw_iret E hR hS ⟨_, rfl, hf⟩ dX11_letter_131
      · replace hf := hf.1 c8
        refine lv_iconst (v := -1) hx hb dX11_letter_78 (by decide) ?_
        refine lv_goto (tgt := 131) hx hb dX11_letter_79 (by decide) ?_
        exact hw_iret E hR hS ⟨_, rfl, hf⟩ dX11_letter_131
    · replace hf := hf.2 c7
      refine lv_sipush (v := 1010) hx hb dX11_letter_62 (by decide) ?_
      refine lv_iload_n hx hb dX11_letter_65 rfl (lv_at hl 0 rfl) ?_
      refine lv_iadd hx hb dX11_letter_66 ?_
      refine lv_bipush (v := 65) hx hb dX11_letter_67 (by decide) ?_
      refine lv_isub hx hb dX11_letter_69 ?_
      exact hw_iret E hR hS ⟨_, rfl, hf⟩ dX11_letter_70
  · replace hf := hf.2 c4
    refine lv_sipush (v := 1000) hx hb dX11_letter_39 (by decide) ?_
    refine lv_iload_n hx hb dX11_letter_42 rfl (lv_at hl 0 rfl) ?_
    refine lv_iadd hx hb dX11_letter_43 ?_
    refine lv_bipush (v := 97) hx hb dX11_letter_44 (by decide) ?_
    refine lv_isub hx hb dX11_letter_46 ?_
    exact hw_iret E hR hS ⟨_, rfl, hf⟩ dX11_letter_47
def f_X11_letter (S : Ss) (a0 : Nat) (M : Mm) (K : Int32 → Mm → Prop) : Prop :=
  (((M.1 a0 6) ≤ (M.1 a0 5) →
    f_X11_letter_J24 S a0 (0 : Int32) M K) ∧
   (¬ (M.1 a0 6) ≤ (M.1 a0 5) →
    ∃ b13 : Nat, M.2.2 a0 3 = some b13 ∧
    ∃ n14 : Nat, shp S b13 = some (50, n14) ∧ vp_in (M.1 a0 5) n14 ∧
    f_X11_letter_J24 S a0 (M.1 b13 (M.1 a0 5).toNatClampNeg) M K))
set_option maxHeartbeats 4000000 in
set_option maxRecDepth 100000 in
theorem ok_X11_letter {l : Launch} {g : Gg} {S : Ss} {a0 : Nat} {M : Mm} {K : Int32 → Mm → Prop} (hs0 : S[a0]? = some (10, 0)) (hf : f_X11_letter S a0 M K) : MT l g S yX11_letter cX11_letter 2 (some .int) 1 [.ref (ad g a0)] M (pI K) := by
  refine MT.of (by decide +kernel) (Nat.le_of_ble_eq_true rfl) ?_
  intro p e s m below meth c ls E hw hR hS hl
  have hl : lv_has ls 2 [(0, .ref (ad g a0))] := hl
  generalize ([.ref (ad g a0)] : List Value).toArray = args at E ⊢
  have E : EN p s m args meth c cX11_letter 2 (some .int) RX11 g := E
  have hx := E.1
  have hb := E.2.1
  unfold f_X11_letter at hf
  refine lv_aload_n hx hb dX11_letter_0 rfl (lv_at hl 0 rfl) ?_
  refine hw_getI E hR cI10 hs0 5 (by decide) lfX11_25 rfl dX11_letter_1 ?_
  refine lv_aload_n hx hb dX11_letter_4 rfl (lv_at hl 0 rfl) ?_
  refine hw_getI E hR cI10 hs0 6 (by decide) lfX11_28 rfl dX11_letter_5 ?_
  refine lv_icmp_ge (tgt := 23) hx hb dX11_letter_8 (by decide) (fun c1 => ?_) (fun c1 => ?_)
  · replace hf := hf.1 c1
    refine lv_iconst (v := 0) hx hb dX11_letter_23 (by decide) ?_
    exact w_X11_letter_J24 _ _ _ _ E hw hs0 hf _ _ _ hR hS (lv_sub hl [0] rfl)
  · replace hf := hf.2 c1
    refine lv_aload_n hx hb dX11_letter_11 rfl (lv_at hl 0 rfl) ?_
    obtain ⟨b13, hb13, hf⟩ := hf
    refine hw_getR E hR cI10 hs0 3 (by decide) lfX11_17 rfl hb13 dX11_letter_12 ?_
    refine lv_aload_n hx hb dX11_letter_15 rfl (lv_at hl 0 rfl) ?_
    refine hw_getI E hR cI10 hs0 5 (by decide) lfX11_25 rfl dX11_letter_16 ?_
    obtain ⟨n14, hn14, in14, hf⟩ := hf
    refine hw_iald E hR hS hn14 in14 dX11_letter_19 ?_
    refine lv_goto (tgt := 24) hx hb dX11_letter_20 (by decide) ?_
    exact w_X11_letter_J24 _ _ _ _ E hw hs0 hf _ _ _ hR hS (lv_sub hl [0] rfl)
def f_X11_begins (S : Ss) (a0 : Nat) (x1 : Int32) (M : Mm) (K : Int32 → Mm → Prop) : Prop :=
  ∀ v1 : Int32, v1 = (M.1 a0 4) →
  ∀ m2 : Mm, m2 = stI M a0 4 (0 : Int32) →
  ∀ m3 : Mm, m3 = stI m2 a0 5 (0 : Int32) →
  ∀ m4 : Mm, m4 = stI m3 a0 7 (0 : Int32) →
  (x1 = 0 ∨ x1 = 1) ∧
  ∀ m5 : Mm, m5 = stI m4 a0 8 x1 →
  ∀ m7 : Mm, m7 = stI m5 a0 6 (if (60 : Int32) < v1 then (60 : Int32) else v1) →
  K v1 m7
set_option maxHeartbeats 4000000 in
set_option maxRecDepth 100000 in
theorem ok_X11_begins {l : Launch} {g : Gg} {S : Ss} {a0 : Nat} {x1 : Int32} {M : Mm} {K : Int32 → Mm → Prop} (hs0 : S[a0]? = some (10, 0)) (hf : f_X11_begins S a0 x1 M K) : MT l g S yX11_begins cX11_begins 3 (some .int) 1 [.ref (ad g a0), .int x1] M (pI K) := by
  refine MT.of (by decide +kernel) (Nat.le_of_ble_eq_true rfl) ?_
  intro p e s m below meth c ls E hw hR hS hl
  have hl : lv_has ls 3 [(0, .ref (ad g a0)), (1, .int x1)] := hl
  generalize ([.ref (ad g a0), .int x1] : List Value).toArray = args at E ⊢
  have E : EN p s m args meth c cX11_begins 3 (some .int) RX11 g := E
  have hx := E.1
  have hb := E.2.1
  unfold f_X11_begins at hf
  refine lv_aload_n hx hb dX11_begins_0 rfl (lv_at hl 0 rfl) ?_
  refine hw_getI E hR cI10 hs0 4 (by decide) lfX11_14 rfl dX11_begins_1 ?_
  refine lv_topi (fun v1 ev1 => ?_)
  replace hf := hf v1 ev1
  refine lv_istore_n (lv' := [(2, .int v1), (0, .ref (ad g a0)), (1, .int x1)]) hx hb dX11_begins_4 rfl hl (by decide) rfl (fun ls hl => ?_)
  refine lv_aload_n hx hb dX11_begins_5 rfl (lv_at hl 1 rfl) ?_
  refine lv_iconst (v := 0) hx hb dX11_begins_6 (by decide) ?_
  refine hw_putI E hR hS hw cI10 hs0 4 (by decide) lfX11_14 rfl (Or.inl rfl) dX11_begins_7 (fun m2 H locs em2 hR hS => ?_)
  replace hf := hf m2 em2
  refine lv_aload_n hx hb dX11_begins_10 rfl (lv_at hl 1 rfl) ?_
  refine lv_iconst (v := 0) hx hb dX11_begins_11 (by decide) ?_
  refine hw_putI E hR hS hw cI10 hs0 5 (by decide) lfX11_25 rfl (Or.inl rfl) dX11_begins_12 (fun m3 H locs em3 hR hS => ?_)
  replace hf := hf m3 em3
  refine lv_aload_n hx hb dX11_begins_15 rfl (lv_at hl 1 rfl) ?_
  refine lv_iconst (v := 0) hx hb dX11_begins_16 (by decide) ?_
  refine hw_putI E hR hS hw cI10 hs0 7 (by decide) lfX11_80 rfl (Or.inl rfl) dX11_begins_17 (fun m4 H locs em4 hR hS => ?_)
  replace hf := hf m4 em4
  refine lv_aload_n hx hb dX11_begins_20 rfl (lv_at hl 1 rfl) ?_
  refine lv_iload_n hx hb dX11_begins_21 rfl (lv_at hl 2 rfl) ?_
  obtain ⟨h6, hf⟩ := hf
  refine hw_putI E hR hS hw cI10 hs0 8 (by decide) lfX11_64 rfl (Or.inr ⟨rfl, h6⟩) dX11_begins_22 (fun m5 H locs em5 hR hS => ?_)
  replace hf := hf m5 em5
  refine lv_aload_n hx hb dX11_begins_25 rfl (lv_at hl 1 rfl) ?_
  refine lv_iload_n hx hb dX11_begins_26 rfl (lv_at hl 0 rfl) ?_
  refine lv_bipush (v := 60) hx hb dX11_begins_27 (by decide) ?_
  refine hw_min (d := 1) (rest := [.ref (ad g a0)]) E hl lxX11_112 (by decide) (Nat.le_of_ble_eq_true rfl) dX11_begins_29 ?_
  refine hw_putI E hR hS hw cI10 hs0 6 (by decide) lfX11_28 rfl (Or.inl rfl) dX11_begins_32 (fun m7 H locs em7 hR hS => ?_)
  replace hf := hf m7 em7
  refine lv_iload_n hx hb dX11_begins_35 rfl (lv_at hl 0 rfl) ?_
  exact hw_iret E hR hS ⟨_, rfl, hf⟩ dX11_begins_36
def f_X11_fault_J43 (S : Ss) (a0 : Nat) (x3 : Int32) (M : Mm) (K : Int32 → Mm → Prop) : Prop :=
  ((x3 = 0 →
    K ((-1 : Int32) - (M.1 a0 5)) M) ∧
   (¬ x3 = 0 →
    K (0 : Int32) M))
set_option maxHeartbeats 4000000 in
set_option maxRecDepth 100000 in
theorem w_X11_fault_J43 {p : Program} {l : Launch} {e : Env} {s : State} {m : MethodId} {args : Array Value} {below : List Frame} {meth : Method} {c : Code} {g : Gg} {S : Ss} (a0 : Nat) (x3 : Int32) (M : Mm) (K : Int32 → Mm → Prop) (E : EN p s m args meth c cX11_fault 4 (some .int) RX11 g) (hw : ad g 100000 < s.heap.size) (hs0 : S[a0]? = some (10, 0)) (hf : f_X11_fault_J43 S a0 x3 M K) (H : Heap) (locs : List Loc) (ls : Array Slot) (hR : RP g S M H) (hS : va_S (gA g) s.heap H locs) (hl : lv_has ls 4 [(0, .ref (ad g a0)), (3, .int x3)]) : W p l e (rmD 0) s m args below meth c H locs 0 0 (MQ below (QA g S (pI K)) args s 0 0 (gA g)) (F0 m 43 ls []) := by
  have hx := E.1
  have hb := E.2.1
  unfold f_X11_fault_J43 at hf
  refine lv_iload_n hx hb dX11_fault_43 rfl (lv_at hl 1 rfl) ?_
  refine lv_if_eq (tgt := 51) hx hb dX11_fault_44 (by decide) (fun c3 => ?_) (fun c3 => ?_)
  · replace hf := hf.1 c3
    refine lv_iconst (v := -1) hx hb dX11_fault_51 (by decide) ?_
    refine lv_aload_n hx hb dX11_fault_52 rfl (lv_at hl 0 rfl) ?_
    refine hw_getI E hR cI10 hs0 5 (by decide) lfX11_25 rfl dX11_fault_53 ?_
    refine lv_isub hx hb dX11_fault_56 ?_
    exact hw_iret E hR hS ⟨_, rfl, hf⟩ dX11_fault_57
  · replace hf := hf.2 c3
    refine lv_iconst (v := 0) hx hb dX11_fault_47 (by decide) ?_
    refine lv_goto (tgt := 57) hx hb dX11_fault_48 (by decide) ?_
    exact hw_iret E hR hS ⟨_, rfl, hf⟩ dX11_fault_57
def f_X11_fault_J20 (S : Ss) (a0 : Nat) (x1 : Int32) (t0 : Int32) (M : Mm) (K : Int32 → Mm → Prop) : Prop :=
  ((x1 ≤ (60 : Int32) →
    f_X11_fault_J43 S a0 t0 M K) ∧
   (¬ x1 ≤ (60 : Int32) →
    ((t0 = 0 →
      (((M.1 a0 5) < (60 : Int32) →
        f_X11_fault_J43 S a0 t0 M K) ∧
       (¬ (M.1 a0 5) < (60 : Int32) →
        K (-61 : Int32) M))) ∧
     (¬ t0 = 0 →
      K (-61 : Int32) M))))
set_option maxHeartbeats 4000000 in
set_option maxRecDepth 100000 in
theorem w_X11_fault_J20 {p : Program} {l : Launch} {e : Env} {s : State} {m : MethodId} {args : Array Value} {below : List Frame} {meth : Method} {c : Code} {g : Gg} {S : Ss} (a0 : Nat) (x1 : Int32) (t0 : Int32) (M : Mm) (K : Int32 → Mm → Prop) (E : EN p s m args meth c cX11_fault 4 (some .int) RX11 g) (hw : ad g 100000 < s.heap.size) (hs0 : S[a0]? = some (10, 0)) (hf : f_X11_fault_J20 S a0 x1 t0 M K) (H : Heap) (locs : List Loc) (ls : Array Slot) (hR : RP g S M H) (hS : va_S (gA g) s.heap H locs) (hl : lv_has ls 4 [(0, .ref (ad g a0)), (1, .int x1)]) : W p l e (rmD 0) s m args below meth c H locs 0 0 (MQ below (QA g S (pI K)) args s 0 0 (gA g)) (F0 m 20 ls [.int t0]) := by
  have hx := E.1
  have hb := E.2.1
  unfold f_X11_fault_J20 at hf
  refine lv_istore_n (lv' := [(3, .int t0), (0, .ref (ad g a0)), (1, .int x1)]) hx hb dX11_fault_20 rfl hl (by decide) rfl (fun ls hl => ?_)
  refine lv_iload_n hx hb dX11_fault_21 rfl (lv_at hl 2 rfl) ?_
  refine lv_bipush (v := 60) hx hb dX11_fault_22 (by decide) ?_
  refine lv_icmp_le (tgt := 43) hx hb dX11_fault_24 (by decide) (fun c2 => ?_) (fun c2 => ?_)
  · replace hf := hf.1 c2
    exact w_X11_fault_J43 _ _ _ _ E hw hs0 hf _ _ _ hR hS (lv_sub hl [1, 0] rfl)
  · replace hf := hf.2 c2
    refine lv_iload_n hx hb dX11_fault_27 rfl (lv_at hl 0 rfl) ?_
    refine lv_if_ne (tgt := 40) hx hb dX11_fault_28 (by decide) (fun c4 => ?_) (fun c4 => ?_)
    · replace hf := hf.2 c4
      refine lv_bipush (v := -61) hx hb dX11_fault_40 (by decide) ?_
      exact hw_iret E hR hS ⟨_, rfl, hf⟩ dX11_fault_42
    · replace hf := hf.1 c4
      refine lv_aload_n hx hb dX11_fault_31 rfl (lv_at hl 1 rfl) ?_
      refine hw_getI E hR cI10 hs0 5 (by decide) lfX11_25 rfl dX11_fault_32 ?_
      refine lv_bipush (v := 60) hx hb dX11_fault_35 (by decide) ?_
      refine lv_icmp_lt (tgt := 43) hx hb dX11_fault_37 (by decide) (fun c5 => ?_) (fun c5 => ?_)
      · replace hf := hf.1 c5
        exact w_X11_fault_J43 _ _ _ _ E hw hs0 hf _ _ _ hR hS (lv_sub hl [1, 0] rfl)
      · replace hf := hf.2 c5
        refine lv_bipush (v := -61) hx hb dX11_fault_40 (by decide) ?_
        exact hw_iret E hR hS ⟨_, rfl, hf⟩ dX11_fault_42
def f_X11_fault_J19 (S : Ss) (a0 : Nat) (x1 : Int32) (M : Mm) (K : Int32 → Mm → Prop) : Prop :=
  f_X11_fault_J20 S a0 x1 (0 : Int32) M K
set_option maxHeartbeats 4000000 in
set_option maxRecDepth 100000 in
theorem w_X11_fault_J19 {p : Program} {l : Launch} {e : Env} {s : State} {m : MethodId} {args : Array Value} {below : List Frame} {meth : Method} {c : Code} {g : Gg} {S : Ss} (a0 : Nat) (x1 : Int32) (M : Mm) (K : Int32 → Mm → Prop) (E : EN p s m args meth c cX11_fault 4 (some .int) RX11 g) (hw : ad g 100000 < s.heap.size) (hs0 : S[a0]? = some (10, 0)) (hf : f_X11_fault_J19 S a0 x1 M K) (H : Heap) (locs : List Loc) (ls : Array Slot) (hR : RP g S M H) (hS : va_S (gA g) s.heap H locs) (hl : lv_has ls 4 [(0, .ref (ad g a0)), (1, .int x1)]) : W p l e (rmD 0) s m args below meth c H locs 0 0 (MQ below (QA g S (pI K)) args s 0 0 (gA g)) (F0 m 19 ls []) := by
  have hx := E.1
  have hb := E.2.1
  unfold f_X11_fault_J19 at hf
  refine lv_iconst (v := 0) hx hb dX11_fault_19 (by decide) ?_
  exact w_X11_fault_J20 _ _ _ _ _ E hw hs0 hf _ _ _ hR hS (lv_sub hl [0, 1] rfl)
def f_X11_fault (S : Ss) (a0 : Nat) (x1 : Int32) (x2 : Int32) (M : Mm) (K : Int32 → Mm → Prop) : Prop :=
  ((x2 = 0 →
    f_X11_fault_J19 S a0 x1 M K) ∧
   (¬ x2 = 0 →
    (((M.1 a0 5) = (M.1 a0 6) →
      f_X11_fault_J20 S a0 x1 (1 : Int32) M K) ∧
     (¬ (M.1 a0 5) = (M.1 a0 6) →
      f_X11_fault_J19 S a0 x1 M K))))
set_option maxHeartbeats 4000000 in
set_option maxRecDepth 100000 in
theorem ok_X11_fault {l : Launch} {g : Gg} {S : Ss} {a0 : Nat} {x1 : Int32} {x2 : Int32} {M : Mm} {K : Int32 → Mm → Prop} (hs0 : S[a0]? = some (10, 0)) (hf : f_X11_fault S a0 x1 x2 M K) : MT l g S yX11_fault cX11_fault 4 (some .int) 0 [.ref (ad g a0), .int x1, .int x2] M (pI K) := by
  refine MT.of (by decide +kernel) (Nat.le_of_ble_eq_true rfl) ?_
  intro p e s m below meth c ls E hw hR hS hl
  have hl : lv_has ls 4 [(0, .ref (ad g a0)), (1, .int x1), (2, .int x2)] := hl
  generalize ([.ref (ad g a0), .int x1, .int x2] : List Value).toArray = args at E ⊢
  have E : EN p s m args meth c cX11_fault 4 (some .int) RX11 g := E
  have hx := E.1
  have hb := E.2.1
  unfold f_X11_fault at hf
  refine lv_iload_n hx hb dX11_fault_0 rfl (lv_at hl 2 rfl) ?_
  refine lv_if_eq (tgt := 19) hx hb dX11_fault_1 (by decide) (fun c1 => ?_) (fun c1 => ?_)
  · replace hf := hf.1 c1
    exact w_X11_fault_J19 _ _ _ _ E hw hs0 hf _ _ _ hR hS (lv_sub hl [0, 1] rfl)
  · replace hf := hf.2 c1
    refine lv_aload_n hx hb dX11_fault_4 rfl (lv_at hl 0 rfl) ?_
    refine hw_getI E hR cI10 hs0 5 (by decide) lfX11_25 rfl dX11_fault_5 ?_
    refine lv_aload_n hx hb dX11_fault_8 rfl (lv_at hl 0 rfl) ?_
    refine hw_getI E hR cI10 hs0 6 (by decide) lfX11_28 rfl dX11_fault_9 ?_
    refine lv_icmp_ne (tgt := 19) hx hb dX11_fault_12 (by decide) (fun c6 => ?_) (fun c6 => ?_)
    · replace hf := hf.2 c6
      exact w_X11_fault_J19 _ _ _ _ E hw hs0 hf _ _ _ hR hS (lv_sub hl [0, 1] rfl)
    · replace hf := hf.1 c6
      refine lv_iconst (v := 1) hx hb dX11_fault_15 (by decide) ?_
      refine lv_goto (tgt := 20) hx hb dX11_fault_16 (by decide) ?_
      exact w_X11_fault_J20 _ _ _ _ _ E hw hs0 hf _ _ _ hR hS (lv_sub hl [0, 1] rfl)
def f_X11_copies_B38 (S : Ss) (a0 : Nat) (x1 : Int32) (x2 : Int32) (x3 : Int32) (M : Mm) (BK38 : Int32 → Mm → Prop) (EK38 : Mm → Prop) (K : Mm → Prop) : Prop :=
  (((64 : Int32) ≤ x3 →
    EK38 M) ∧
   (¬ (64 : Int32) ≤ x3 →
    ∃ b17 : Nat, M.2.2 a0 11 = some b17 ∧
    ∃ b18 : Nat, M.2.2 a0 11 = some b18 ∧
    ∃ n19 : Nat, shp S b18 = some (50, n19) ∧ vp_in (((64 : Int32) * x1) + x3) n19 ∧
    ∃ n20 : Nat, S[b17]? = some (50, n20) ∧ vp_in (((64 : Int32) * x2) + x3) n20 ∧
    ∀ m21 : Mm, m21 = stI M b17 (((64 : Int32) * x2) + x3).toNatClampNeg (M.1 b18 (((64 : Int32) * x1) + x3).toNatClampNeg) →
    ∀ v22 : Int32, v22 = x3 + (1 : Int32) →
    BK38 v22 m21))
set_option maxHeartbeats 4000000 in
set_option maxRecDepth 100000 in
theorem w_X11_copies_B38 {p : Program} {l : Launch} {e : Env} {s : State} {m : MethodId} {args : Array Value} {below : List Frame} {meth : Method} {c : Code} {g : Gg} {S : Ss} (a0 : Nat) (x1 : Int32) (x2 : Int32) (x3 : Int32) (M : Mm) (BK38 : Int32 → Mm → Prop) (EK38 : Mm → Prop) (K : Mm → Prop) (E : EN p s m args meth c cX11_copies 4 none RX11 g) (hw : ad g 100000 < s.heap.size) (hs0 : S[a0]? = some (10, 0)) (hBK38 : ∀ (x3' : Int32) (M' : Mm) (H : Heap) (locs : List Loc) (ls : Array Slot), BK38 x3' M' → RP g S M' H → va_S (gA g) s.heap H locs → lv_has ls 4 [(0, .ref (ad g a0)), (1, .int x1), (2, .int x2), (3, .int x3')] → W p l e (rmD 0) s m args below meth c H locs 0 0 (MQ below (QA g S (pV K)) args s 0 0 (gA g)) (F0 m 38 ls [])) (hEK38 : ∀ (M' : Mm) (H : Heap) (locs : List Loc) (ls : Array Slot), EK38 M' → RP g S M' H → va_S (gA g) s.heap H locs → lv_has ls 4 [] → W p l e (rmD 0) s m args below meth c H locs 0 0 (MQ below (QA g S (pV K)) args s 0 0 (gA g)) (F0 m 72 ls [])) (hf : f_X11_copies_B38 S a0 x1 x2 x3 M BK38 EK38 K) (H : Heap) (locs : List Loc) (ls : Array Slot) (hR : RP g S M H) (hS : va_S (gA g) s.heap H locs) (hl : lv_has ls 4 [(0, .ref (ad g a0)), (1, .int x1), (2, .int x2), (3, .int x3)]) : W p l e (rmD 0) s m args below meth c H locs 0 0 (MQ below (QA g S (pV K)) args s 0 0 (gA g)) (F0 m 38 ls []) := by
  have hx := E.1
  have hb := E.2.1
  unfold f_X11_copies_B38 at hf
  refine lv_iload_n hx hb dX11_copies_38 rfl (lv_at hl 3 rfl) ?_
  refine lv_bipush (v := 64) hx hb dX11_copies_39 (by decide) ?_
  refine lv_icmp_ge (tgt := 72) hx hb dX11_copies_41 (by decide) (fun c16 => ?_) (fun c16 => ?_)
  · replace hf := hf.1 c16
    exact hEK38  _ _ _ _ hf hR hS (lv_sub hl [] rfl)
  · replace hf := hf.2 c16
    refine lv_aload_n hx hb dX11_copies_44 rfl (lv_at hl 0 rfl) ?_
    obtain ⟨b17, hb17, hf⟩ := hf
    refine hw_getR E hR cI10 hs0 11 (by decide) lfX11_43 rfl hb17 dX11_copies_45 ?_
    refine lv_bipush (v := 64) hx hb dX11_copies_48 (by decide) ?_
    refine lv_iload_n hx hb dX11_copies_50 rfl (lv_at hl 2 rfl) ?_
    refine lv_imul hx hb dX11_copies_51 ?_
    refine lv_iload_n hx hb dX11_copies_52 rfl (lv_at hl 3 rfl) ?_
    refine lv_iadd hx hb dX11_copies_53 ?_
    refine lv_aload_n hx hb dX11_copies_54 rfl (lv_at hl 0 rfl) ?_
    obtain ⟨b18, hb18, hf⟩ := hf
    refine hw_getR E hR cI10 hs0 11 (by decide) lfX11_43 rfl hb18 dX11_copies_55 ?_
    refine lv_bipush (v := 64) hx hb dX11_copies_58 (by decide) ?_
    refine lv_iload_n hx hb dX11_copies_60 rfl (lv_at hl 1 rfl) ?_
    refine lv_imul hx hb dX11_copies_61 ?_
    refine lv_iload_n hx hb dX11_copies_62 rfl (lv_at hl 3 rfl) ?_
    refine lv_iadd hx hb dX11_copies_63 ?_
    obtain ⟨n19, hn19, in19, hf⟩ := hf
    refine hw_iald E hR hS hn19 in19 dX11_copies_64 ?_
    obtain ⟨n20, hn20, in20, hf⟩ := hf
    refine hw_iast E hR hS hw hn20 in20 dX11_copies_65 (fun m21 H locs em21 hR hS => ?_)
    replace hf := hf m21 em21
    obtain ⟨v22, ev22⟩ : ∃ y : Int32, y = x3 + (1 : Int32) := ⟨_, rfl⟩
    replace hf := hf v22 ev22
    refine lv_iinc (v := v22) (lv' := [(3, .int v22), (0, .ref (ad g a0)), (1, .int x1), (2, .int x2)]) hx hb dX11_copies_66 hl (k := 3) rfl (by rw [ev22]; rfl) (by decide) rfl (fun ls hl => ?_)
    refine lv_goto (tgt := 38) hx hb dX11_copies_69 (by decide) ?_
    exact hBK38 _ _ _ _ _ hf hR hS (lv_sub hl [1, 2, 3, 0] rfl)
def f_X11_copies_L38 (S : Ss) (a0 : Nat) (x1 : Int32) (x2 : Int32) (EK38 : Mm → Prop) (K : Mm → Prop) : Nat → Int32 → Mm → Prop
  | 0, _, _ => False
  | n + 1, x3, M => f_X11_copies_B38 S a0 x1 x2 x3 M (fun (x3 : Int32) (M : Mm) => f_X11_copies_L38 S a0 x1 x2 EK38 K n x3 M) EK38 K
set_option maxHeartbeats 4000000 in
set_option maxRecDepth 100000 in
theorem w_X11_copies_L38 {p : Program} {l : Launch} {e : Env} {s : State} {m : MethodId} {args : Array Value} {below : List Frame} {meth : Method} {c : Code} {g : Gg} {S : Ss} (a0 : Nat) (x1 : Int32) (x2 : Int32) (EK38 : Mm → Prop) (K : Mm → Prop) (E : EN p s m args meth c cX11_copies 4 none RX11 g) (hw : ad g 100000 < s.heap.size) (hs0 : S[a0]? = some (10, 0)) (hEK38 : ∀ (M' : Mm) (H : Heap) (locs : List Loc) (ls : Array Slot), EK38 M' → RP g S M' H → va_S (gA g) s.heap H locs → lv_has ls 4 [] → W p l e (rmD 0) s m args below meth c H locs 0 0 (MQ below (QA g S (pV K)) args s 0 0 (gA g)) (F0 m 72 ls [])) : ∀ (n : Nat) (x3 : Int32) (M : Mm), f_X11_copies_L38 S a0 x1 x2 EK38 K n x3 M → ∀ (H : Heap) (locs : List Loc) (ls : Array Slot), RP g S M H → va_S (gA g) s.heap H locs → lv_has ls 4 [(0, .ref (ad g a0)), (1, .int x1), (2, .int x2), (3, .int x3)] → W p l e (rmD 0) s m args below meth c H locs 0 0 (MQ below (QA g S (pV K)) args s 0 0 (gA g)) (F0 m 38 ls []) := by
  intro n
  induction n with
  | zero => intro x3 M hf; exact hf.elim
  | succ n ih =>
    intro x3 M hf H locs ls hR hS hl
    exact w_X11_copies_B38 _ _ _ _ _ _ _ _ E hw hs0 (fun _ M H locs ls h hR hS hl => ih _ M h H locs ls hR hS hl) hEK38 hf H locs ls hR hS hl
def f_X11_copies (S : Ss) (a0 : Nat) (x1 : Int32) (x2 : Int32) (M : Mm) (K : Mm → Prop) : Prop :=
  ∃ b1 : Nat, M.2.2 a0 9 = some b1 ∧
  ∃ b2 : Nat, M.2.2 a0 9 = some b2 ∧
  ∃ n3 : Nat, shp S b2 = some (50, n3) ∧ vp_in x1 n3 ∧
  ∃ n4 : Nat, S[b1]? = some (50, n4) ∧ vp_in x2 n4 ∧
  ∀ m5 : Mm, m5 = stI M b1 x2.toNatClampNeg (M.1 b2 x1.toNatClampNeg) →
  ∃ b6 : Nat, m5.2.2 a0 10 = some b6 ∧
  ∃ b7 : Nat, m5.2.2 a0 10 = some b7 ∧
  ∃ n8 : Nat, shp S b7 = some (50, n8) ∧ vp_in x1 n8 ∧
  ∃ n9 : Nat, S[b6]? = some (50, n9) ∧ vp_in x2 n9 ∧
  ∀ m10 : Mm, m10 = stI m5 b6 x2.toNatClampNeg (m5.1 b7 x1.toNatClampNeg) →
  ∃ b11 : Nat, m10.2.2 a0 12 = some b11 ∧
  ∃ b12 : Nat, m10.2.2 a0 12 = some b12 ∧
  ∃ n13 : Nat, shp S b12 = some (50, n13) ∧ vp_in x1 n13 ∧
  ∃ n14 : Nat, S[b11]? = some (50, n14) ∧ vp_in x2 n14 ∧
  ∀ m15 : Mm, m15 = stI m10 b11 x2.toNatClampNeg (m10.1 b12 x1.toNatClampNeg) →
  ∃ n24 : Nat, f_X11_copies_L38 S a0 x1 x2 (fun (m23 : Mm) =>
    K m23) K n24 (0 : Int32) m15
set_option maxHeartbeats 4000000 in
set_option maxRecDepth 100000 in
theorem ok_X11_copies {l : Launch} {g : Gg} {S : Ss} {a0 : Nat} {x1 : Int32} {x2 : Int32} {M : Mm} {K : Mm → Prop} (hs0 : S[a0]? = some (10, 0)) (hf : f_X11_copies S a0 x1 x2 M K) : MT l g S yX11_copies cX11_copies 4 none 0 [.ref (ad g a0), .int x1, .int x2] M (pV K) := by
  refine MT.of (by decide +kernel) (Nat.le_of_ble_eq_true rfl) ?_
  intro p e s m below meth c ls E hw hR hS hl
  have hl : lv_has ls 4 [(0, .ref (ad g a0)), (1, .int x1), (2, .int x2)] := hl
  generalize ([.ref (ad g a0), .int x1, .int x2] : List Value).toArray = args at E ⊢
  have E : EN p s m args meth c cX11_copies 4 none RX11 g := E
  have hx := E.1
  have hb := E.2.1
  unfold f_X11_copies at hf
  refine lv_aload_n hx hb dX11_copies_0 rfl (lv_at hl 0 rfl) ?_
  obtain ⟨b1, hb1, hf⟩ := hf
  refine hw_getR E hR cI10 hs0 9 (by decide) lfX11_107 rfl hb1 dX11_copies_1 ?_
  refine lv_iload_n hx hb dX11_copies_4 rfl (lv_at hl 2 rfl) ?_
  refine lv_aload_n hx hb dX11_copies_5 rfl (lv_at hl 0 rfl) ?_
  obtain ⟨b2, hb2, hf⟩ := hf
  refine hw_getR E hR cI10 hs0 9 (by decide) lfX11_107 rfl hb2 dX11_copies_6 ?_
  refine lv_iload_n hx hb dX11_copies_9 rfl (lv_at hl 1 rfl) ?_
  obtain ⟨n3, hn3, in3, hf⟩ := hf
  refine hw_iald E hR hS hn3 in3 dX11_copies_10 ?_
  obtain ⟨n4, hn4, in4, hf⟩ := hf
  refine hw_iast E hR hS hw hn4 in4 dX11_copies_11 (fun m5 H locs em5 hR hS => ?_)
  replace hf := hf m5 em5
  refine lv_aload_n hx hb dX11_copies_12 rfl (lv_at hl 0 rfl) ?_
  obtain ⟨b6, hb6, hf⟩ := hf
  refine hw_getR E hR cI10 hs0 10 (by decide) lfX11_104 rfl hb6 dX11_copies_13 ?_
  refine lv_iload_n hx hb dX11_copies_16 rfl (lv_at hl 2 rfl) ?_
  refine lv_aload_n hx hb dX11_copies_17 rfl (lv_at hl 0 rfl) ?_
  obtain ⟨b7, hb7, hf⟩ := hf
  refine hw_getR E hR cI10 hs0 10 (by decide) lfX11_104 rfl hb7 dX11_copies_18 ?_
  refine lv_iload_n hx hb dX11_copies_21 rfl (lv_at hl 1 rfl) ?_
  obtain ⟨n8, hn8, in8, hf⟩ := hf
  refine hw_iald E hR hS hn8 in8 dX11_copies_22 ?_
  obtain ⟨n9, hn9, in9, hf⟩ := hf
  refine hw_iast E hR hS hw hn9 in9 dX11_copies_23 (fun m10 H locs em10 hR hS => ?_)
  replace hf := hf m10 em10
  refine lv_aload_n hx hb dX11_copies_24 rfl (lv_at hl 0 rfl) ?_
  obtain ⟨b11, hb11, hf⟩ := hf
  refine hw_getR E hR cI10 hs0 12 (by decide) lfX11_49 rfl hb11 dX11_copies_25 ?_
  refine lv_iload_n hx hb dX11_copies_28 rfl (lv_at hl 2 rfl) ?_
  refine lv_aload_n hx hb dX11_copies_29 rfl (lv_at hl 0 rfl) ?_
  obtain ⟨b12, hb12, hf⟩ := hf
  refine hw_getR E hR cI10 hs0 12 (by decide) lfX11_49 rfl hb12 dX11_copies_30 ?_
  refine lv_iload_n hx hb dX11_copies_33 rfl (lv_at hl 1 rfl) ?_
  obtain ⟨n13, hn13, in13, hf⟩ := hf
  refine hw_iald E hR hS hn13 in13 dX11_copies_34 ?_
  obtain ⟨n14, hn14, in14, hf⟩ := hf
  refine hw_iast E hR hS hw hn14 in14 dX11_copies_35 (fun m15 H locs em15 hR hS => ?_)
  replace hf := hf m15 em15
  refine lv_iconst (v := 0) hx hb dX11_copies_36 (by decide) ?_
  refine lv_istore_n (lv' := [(3, .int (0 : Int32)), (0, .ref (ad g a0)), (1, .int x1), (2, .int x2)]) hx hb dX11_copies_37 rfl hl (by decide) rfl (fun ls hl => ?_)
  obtain ⟨n24, hf⟩ := hf
  refine w_X11_copies_L38 _ _ _ _ _ E hw hs0 ?_ n24 _ _ hf _ _ _ hR hS (lv_sub hl [1, 2, 3, 0] rfl)
  intro m23 H locs ls hf hR hS hl
  exact hw_vret E hR hS ⟨rfl, hf⟩ dX11_copies_72
def f_X11_forgetsKept_B2 (S : Ss) (a0 : Nat) (x1 : Int32) (M : Mm) (BK2 : Int32 → Mm → Prop) (EK2 : Mm → Prop) (K : Mm → Prop) : Prop :=
  (((3 : Int32) ≤ x1 →
    EK2 M) ∧
   (¬ (3 : Int32) ≤ x1 →
    ∃ b2 : Nat, M.2.2 a0 80 = some b2 ∧
    ∃ n3 : Nat, S[b2]? = some (52, n3) ∧ vp_in x1 n3 ∧
    ∀ m4 : Mm, m4 = stI M b2 x1.toNatClampNeg (vp_nar .boolean (0 : Int32)) →
    ∀ v5 : Int32, v5 = x1 + (1 : Int32) →
    BK2 v5 m4))
set_option maxHeartbeats 4000000 in
set_option maxRecDepth 100000 in
theorem w_X11_forgetsKept_B2 {p : Program} {l : Launch} {e : Env} {s : State} {m : MethodId} {args : Array Value} {below : List Frame} {meth : Method} {c : Code} {g : Gg} {S : Ss} (a0 : Nat) (x1 : Int32) (M : Mm) (BK2 : Int32 → Mm → Prop) (EK2 : Mm → Prop) (K : Mm → Prop) (E : EN p s m args meth c cX11_forgetsKept 2 none RX11 g) (hw : ad g 100000 < s.heap.size) (hs0 : S[a0]? = some (10, 0)) (hBK2 : ∀ (x1' : Int32) (M' : Mm) (H : Heap) (locs : List Loc) (ls : Array Slot), BK2 x1' M' → RP g S M' H → va_S (gA g) s.heap H locs → lv_has ls 2 [(0, .ref (ad g a0)), (1, .int x1')] → W p l e (rmD 0) s m args below meth c H locs 0 0 (MQ below (QA g S (pV K)) args s 0 0 (gA g)) (F0 m 2 ls [])) (hEK2 : ∀ (M' : Mm) (H : Heap) (locs : List Loc) (ls : Array Slot), EK2 M' → RP g S M' H → va_S (gA g) s.heap H locs → lv_has ls 2 [] → W p l e (rmD 0) s m args below meth c H locs 0 0 (MQ below (QA g S (pV K)) args s 0 0 (gA g)) (F0 m 20 ls [])) (hf : f_X11_forgetsKept_B2 S a0 x1 M BK2 EK2 K) (H : Heap) (locs : List Loc) (ls : Array Slot) (hR : RP g S M H) (hS : va_S (gA g) s.heap H locs) (hl : lv_has ls 2 [(0, .ref (ad g a0)), (1, .int x1)]) : W p l e (rmD 0) s m args below meth c H locs 0 0 (MQ below (QA g S (pV K)) args s 0 0 (gA g)) (F0 m 2 ls []) := by
  have hx := E.1
  have hb := E.2.1
  unfold f_X11_forgetsKept_B2 at hf
  refine lv_iload_n hx hb dX11_forgetsKept_2 rfl (lv_at hl 1 rfl) ?_
  refine lv_iconst (v := 3) hx hb dX11_forgetsKept_3 (by decide) ?_
  refine lv_icmp_ge (tgt := 20) hx hb dX11_forgetsKept_4 (by decide) (fun c1 => ?_) (fun c1 => ?_)
  · replace hf := hf.1 c1
    exact hEK2  _ _ _ _ hf hR hS (lv_sub hl [] rfl)
  · replace hf := hf.2 c1
    refine lv_aload_n hx hb dX11_forgetsKept_7 rfl (lv_at hl 0 rfl) ?_
    obtain ⟨b2, hb2, hf⟩ := hf
    refine hw_getR E hR cI10 hs0 80 (by decide) lfX11_516 rfl hb2 dX11_forgetsKept_8 ?_
    refine lv_iload_n hx hb dX11_forgetsKept_11 rfl (lv_at hl 1 rfl) ?_
    refine lv_iconst (v := 0) hx hb dX11_forgetsKept_12 (by decide) ?_
    obtain ⟨n3, hn3, in3, hf⟩ := hf
    refine hw_zast E hR hS hw hn3 in3 dX11_forgetsKept_13 (fun m4 H locs em4 hR hS => ?_)
    replace hf := hf m4 em4
    obtain ⟨v5, ev5⟩ : ∃ y : Int32, y = x1 + (1 : Int32) := ⟨_, rfl⟩
    replace hf := hf v5 ev5
    refine lv_iinc (v := v5) (lv' := [(1, .int v5), (0, .ref (ad g a0))]) hx hb dX11_forgetsKept_14 hl (k := 1) rfl (by rw [ev5]; rfl) (by decide) rfl (fun ls hl => ?_)
    refine lv_goto (tgt := 2) hx hb dX11_forgetsKept_17 (by decide) ?_
    exact hBK2 _ _ _ _ _ hf hR hS (lv_sub hl [1, 0] rfl)
def f_X11_forgetsKept_L2 (S : Ss) (a0 : Nat) (EK2 : Mm → Prop) (K : Mm → Prop) : Nat → Int32 → Mm → Prop
  | 0, _, _ => False
  | n + 1, x1, M => f_X11_forgetsKept_B2 S a0 x1 M (fun (x1 : Int32) (M : Mm) => f_X11_forgetsKept_L2 S a0 EK2 K n x1 M) EK2 K
set_option maxHeartbeats 4000000 in
set_option maxRecDepth 100000 in
theorem w_X11_forgetsKept_L2 {p : Program} {l : Launch} {e : Env} {s : State} {m : MethodId} {args : Array Value} {below : List Frame} {meth : Method} {c : Code} {g : Gg} {S : Ss} (a0 : Nat) (EK2 : Mm → Prop) (K : Mm → Prop) (E : EN p s m args meth c cX11_forgetsKept 2 none RX11 g) (hw : ad g 100000 < s.heap.size) (hs0 : S[a0]? = some (10, 0)) (hEK2 : ∀ (M' : Mm) (H : Heap) (locs : List Loc) (ls : Array Slot), EK2 M' → RP g S M' H → va_S (gA g) s.heap H locs → lv_has ls 2 [] → W p l e (rmD 0) s m args below meth c H locs 0 0 (MQ below (QA g S (pV K)) args s 0 0 (gA g)) (F0 m 20 ls [])) : ∀ (n : Nat) (x1 : Int32) (M : Mm), f_X11_forgetsKept_L2 S a0 EK2 K n x1 M → ∀ (H : Heap) (locs : List Loc) (ls : Array Slot), RP g S M H → va_S (gA g) s.heap H locs → lv_has ls 2 [(0, .ref (ad g a0)), (1, .int x1)] → W p l e (rmD 0) s m args below meth c H locs 0 0 (MQ below (QA g S (pV K)) args s 0 0 (gA g)) (F0 m 2 ls []) := by
  intro n
  induction n with
  | zero => intro x1 M hf; exact hf.elim
  | succ n ih =>
    intro x1 M hf H locs ls hR hS hl
    exact w_X11_forgetsKept_B2 _ _ _ _ _ _ E hw hs0 (fun _ M H locs ls h hR hS hl => ih _ M h H locs ls hR hS hl) hEK2 hf H locs ls hR hS hl
def f_X11_forgetsKept (S : Ss) (a0 : Nat) (M : Mm) (K : Mm → Prop) : Prop :=
  ∃ n7 : Nat, f_X11_forgetsKept_L2 S a0 (fun (m6 : Mm) =>
    K m6) K n7 (0 : Int32) M
set_option maxHeartbeats 4000000 in
set_option maxRecDepth 100000 in
theorem ok_X11_forgetsKept {l : Launch} {g : Gg} {S : Ss} {a0 : Nat} {M : Mm} {K : Mm → Prop} (hs0 : S[a0]? = some (10, 0)) (hf : f_X11_forgetsKept S a0 M K) : MT l g S yX11_forgetsKept cX11_forgetsKept 2 none 0 [.ref (ad g a0)] M (pV K) := by
  refine MT.of (by decide +kernel) (Nat.le_of_ble_eq_true rfl) ?_
  intro p e s m below meth c ls E hw hR hS hl
  have hl : lv_has ls 2 [(0, .ref (ad g a0))] := hl
  generalize ([.ref (ad g a0)] : List Value).toArray = args at E ⊢
  have E : EN p s m args meth c cX11_forgetsKept 2 none RX11 g := E
  have hx := E.1
  have hb := E.2.1
  unfold f_X11_forgetsKept at hf
  refine lv_iconst (v := 0) hx hb dX11_forgetsKept_0 (by decide) ?_
  refine lv_istore_n (lv' := [(1, .int (0 : Int32)), (0, .ref (ad g a0))]) hx hb dX11_forgetsKept_1 rfl hl (by decide) rfl (fun ls hl => ?_)
  obtain ⟨n7, hf⟩ := hf
  refine w_X11_forgetsKept_L2 _ _ _ E hw hs0 ?_ n7 _ _ hf _ _ _ hR hS (lv_sub hl [1, 0] rfl)
  intro m6 H locs ls hf hR hS hl
  exact hw_vret E hR hS ⟨rfl, hf⟩ dX11_forgetsKept_20
def f_X11_turn (S : Ss) (a0 : Nat) (x1 : Int32) (x2 : Int32) (M : Mm) (K : Int32 → Mm → Prop) : Prop :=
  ∀ m1 : Mm, m1 = stI M a0 0 (0 : Int32) →
  f_X11_in S  x1.toInt64 (0 : Int64) ((m1.1 a0 20) - (1 : Int32)).toInt64 m1 (fun (r3 : Int32) (m2 : Mm) =>
    ((r3 = 0 →
    K (0 : Int32) m2) ∧
   (¬ r3 = 0 →
    ((x2 = 0 →
      ∀ m6 : Mm, m6 = stI m2 a0 21 ((m2.1 a0 21) &&& (((1 : Int32) <<< (x1 &&& 31)) ^^^ (-1 : Int32))) →
      K (1 : Int32) m6) ∧
     (¬ x2 = 0 →
      ∀ m7 : Mm, m7 = stI m2 a0 21 ((m2.1 a0 21) ||| ((1 : Int32) <<< (x1 &&& 31))) →
      K (1 : Int32) m7)))))
set_option maxHeartbeats 4000000 in
set_option maxRecDepth 100000 in
theorem ok_X11_turn {l : Launch} {g : Gg} {S : Ss} {a0 : Nat} {x1 : Int32} {x2 : Int32} {M : Mm} {K : Int32 → Mm → Prop} (hs0 : S[a0]? = some (10, 0)) (hf : f_X11_turn S a0 x1 x2 M K) : MT l g S yX11_turn cX11_turn 3 (some .boolean) 1 [.ref (ad g a0), .int x1, .int x2] M (pI K) := by
  refine MT.of (by decide +kernel) (Nat.le_of_ble_eq_true rfl) ?_
  intro p e s m below meth c ls E hw hR hS hl
  have hl : lv_has ls 3 [(0, .ref (ad g a0)), (1, .int x1), (2, .int x2)] := hl
  generalize ([.ref (ad g a0), .int x1, .int x2] : List Value).toArray = args at E ⊢
  have E : EN p s m args meth c cX11_turn 3 (some .boolean) RX11 g := E
  have hx := E.1
  have hb := E.2.1
  unfold f_X11_turn at hf
  refine lv_aload_n hx hb dX11_turn_0 rfl (lv_at hl 0 rfl) ?_
  refine lv_iconst (v := 0) hx hb dX11_turn_1 (by decide) ?_
  refine hw_putI E hR hS hw cI10 hs0 0 (by decide) lfX11_3 rfl (Or.inl rfl) dX11_turn_2 (fun m1 H locs em1 hR hS => ?_)
  replace hf := hf m1 em1
  refine lv_iload_n hx hb dX11_turn_5 rfl (lv_at hl 1 rfl) ?_
  refine lv_i2l hx hb dX11_turn_6 rfl ?_
  refine lv_lconst (v := 0) hx hb dX11_turn_7 (by decide) ?_
  refine lv_aload_n hx hb dX11_turn_8 rfl (lv_at hl 0 rfl) ?_
  refine hw_getI E hR cI10 hs0 20 (by decide) lfX11_158 rfl dX11_turn_9 ?_
  refine lv_iconst (v := 1) hx hb dX11_turn_12 (by decide) ?_
  refine lv_isub hx hb dX11_turn_13 ?_
  refine lv_i2l hx hb dX11_turn_14 rfl ?_
  refine hw_callS (d := 1) E hR hS (As := [.long x1.toInt64, .long (0 : Int64), .long ((m1.1 a0 20) - (1 : Int32)).toInt64]) (rest := []) mcX11_in msX11_in lmX11_21 (ok_X11_in  hf) rfl rfl (by decide) hl.1 (Nat.le_of_ble_eq_true rfl) dX11_turn_15 (fun rr m2 H locs hp hR hS => ?_)
  obtain ⟨r3, rfl, hf⟩ := hp
  refine W.eq (g2 := F0 m 18 ls [.int r3]) rfl ?_
  refine lv_if_ne (tgt := 23) hx hb dX11_turn_18 (by decide) (fun c4 => ?_) (fun c4 => ?_)
  · replace hf := hf.2 c4
    refine lv_aload_n hx hb dX11_turn_23 rfl (lv_at hl 0 rfl) ?_
    refine lv_iload_n hx hb dX11_turn_24 rfl (lv_at hl 2 rfl) ?_
    refine lv_if_eq (tgt := 39) hx hb dX11_turn_25 (by decide) (fun c5 => ?_) (fun c5 => ?_)
    · replace hf := hf.1 c5
      refine lv_aload_n hx hb dX11_turn_39 rfl (lv_at hl 0 rfl) ?_
      refine hw_getI E hR cI10 hs0 21 (by decide) lfX11_161 rfl dX11_turn_40 ?_
      refine lv_iconst (v := 1) hx hb dX11_turn_43 (by decide) ?_
      refine lv_iload_n hx hb dX11_turn_44 rfl (lv_at hl 1 rfl) ?_
      refine lv_ishl hx hb dX11_turn_45 ?_
      refine lv_iconst (v := -1) hx hb dX11_turn_46 (by decide) ?_
      refine lv_ixor hx hb dX11_turn_47 ?_
      refine lv_iand hx hb dX11_turn_48 ?_
      refine hw_putI E hR hS hw cI10 hs0 21 (by decide) lfX11_161 rfl (Or.inl rfl) dX11_turn_49 (fun m6 H locs em6 hR hS => ?_)
      replace hf := hf m6 em6
      refine lv_iconst (v := 1) hx hb dX11_turn_52 (by decide) ?_
      exact hw_zret E hR hS (by decide) ⟨_, rfl, hf⟩ dX11_turn_53
    · replace hf := hf.2 c5
      refine lv_aload_n hx hb dX11_turn_28 rfl (lv_at hl 0 rfl) ?_
      refine hw_getI E hR cI10 hs0 21 (by decide) lfX11_161 rfl dX11_turn_29 ?_
      refine lv_iconst (v := 1) hx hb dX11_turn_32 (by decide) ?_
      refine lv_iload_n hx hb dX11_turn_33 rfl (lv_at hl 1 rfl) ?_
      refine lv_ishl hx hb dX11_turn_34 ?_
      refine lv_ior hx hb dX11_turn_35 ?_
      refine lv_goto (tgt := 49) hx hb dX11_turn_36 (by decide) ?_
      refine hw_putI E hR hS hw cI10 hs0 21 (by decide) lfX11_161 rfl (Or.inl rfl) dX11_turn_49 (fun m7 H locs em7 hR hS => ?_)
      replace hf := hf m7 em7
      refine lv_iconst (v := 1) hx hb dX11_turn_52 (by decide) ?_
      exact hw_zret E hR hS (by decide) ⟨_, rfl, hf⟩ dX11_turn_53
  · replace hf := hf.1 c4
    refine lv_iconst (v := 0) hx hb dX11_turn_21 (by decide) ?_
    exact hw_zret E hR hS (by decide) ⟨_, rfl, hf⟩ dX11_turn_22
def f_X11_acted_J123 (S : Ss) (t0 : Int32) (M : Mm) (K : Int32 → Mm → Prop) : Prop :=
  f_X11_truth S  t0 M (fun (r4 : Int32) (m3 : Mm) =>
    K r4 m3)
set_option maxHeartbeats 4000000 in
set_option maxRecDepth 100000 in
theorem w_X11_acted_J123 {p : Program} {l : Launch} {e : Env} {s : State} {m : MethodId} {args : Array Value} {below : List Frame} {meth : Method} {c : Code} {g : Gg} {S : Ss} (t0 : Int32) (M : Mm) (K : Int32 → Mm → Prop) (E : EN p s m args meth c cX11_acted 3 (some .int) RX11 g) (hw : ad g 100000 < s.heap.size) (hf : f_X11_acted_J123 S t0 M K) (H : Heap) (locs : List Loc) (ls : Array Slot) (hR : RP g S M H) (hS : va_S (gA g) s.heap H locs) (hl : lv_has ls 3 []) : W p l e (rmD 1) s m args below meth c H locs 0 0 (MQ below (QA g S (pI K)) args s 0 0 (gA g)) (F0 m 123 ls [.int t0]) := by
  have hx := E.1
  have hb := E.2.1
  unfold f_X11_acted_J123 at hf
  refine hw_callS (d := 1) E hR hS (As := [.int t0]) (rest := []) mcX11_truth msX11_truth lmX11_35 (ok_X11_truth  hf) rfl rfl (by decide) hl.1 (Nat.le_of_ble_eq_true rfl) dX11_acted_123 (fun rr m3 H locs hp hR hS => ?_)
  obtain ⟨r4, rfl, hf⟩ := hp
  refine W.eq (g2 := F0 m 126 ls [.int r4]) rfl ?_
  exact hw_iret E hR hS ⟨_, rfl, hf⟩ dX11_acted_126
def f_X11_acted_J122 (S : Ss) (M : Mm) (K : Int32 → Mm → Prop) : Prop :=
  f_X11_acted_J123 S (0 : Int32) M K
set_option maxHeartbeats 4000000 in
set_option maxRecDepth 100000 in
theorem w_X11_acted_J122 {p : Program} {l : Launch} {e : Env} {s : State} {m : MethodId} {args : Array Value} {below : List Frame} {meth : Method} {c : Code} {g : Gg} {S : Ss} (M : Mm) (K : Int32 → Mm → Prop) (E : EN p s m args meth c cX11_acted 3 (some .int) RX11 g) (hw : ad g 100000 < s.heap.size) (hf : f_X11_acted_J122 S M K) (H : Heap) (locs : List Loc) (ls : Array Slot) (hR : RP g S M H) (hS : va_S (gA g) s.heap H locs) (hl : lv_has ls 3 []) : W p l e (rmD 1) s m args below meth c H locs 0 0 (MQ below (QA g S (pI K)) args s 0 0 (gA g)) (F0 m 122 ls []) := by
  have hx := E.1
  have hb := E.2.1
  unfold f_X11_acted_J122 at hf
  refine lv_iconst (v := 0) hx hb dX11_acted_122 (by decide) ?_
  exact w_X11_acted_J123 _ _ _ E hw hf _ _ _ hR hS (lv_sub hl [] rfl)
def f_X11_acted_J78 (S : Ss) (t0 : Int32) (M : Mm) (K : Int32 → Mm → Prop) : Prop :=
  f_X11_truth S  t0 M (fun (r11 : Int32) (m10 : Mm) =>
    K r11 m10)
set_option maxHeartbeats 4000000 in
set_option maxRecDepth 100000 in
theorem w_X11_acted_J78 {p : Program} {l : Launch} {e : Env} {s : State} {m : MethodId} {args : Array Value} {below : List Frame} {meth : Method} {c : Code} {g : Gg} {S : Ss} (t0 : Int32) (M : Mm) (K : Int32 → Mm → Prop) (E : EN p s m args meth c cX11_acted 3 (some .int) RX11 g) (hw : ad g 100000 < s.heap.size) (hf : f_X11_acted_J78 S t0 M K) (H : Heap) (locs : List Loc) (ls : Array Slot) (hR : RP g S M H) (hS : va_S (gA g) s.heap H locs) (hl : lv_has ls 3 []) : W p l e (rmD 1) s m args below meth c H locs 0 0 (MQ below (QA g S (pI K)) args s 0 0 (gA g)) (F0 m 78 ls [.int t0]) := by
  have hx := E.1
  have hb := E.2.1
  unfold f_X11_acted_J78 at hf
  refine hw_callS (d := 1) E hR hS (As := [.int t0]) (rest := []) mcX11_truth msX11_truth lmX11_35 (ok_X11_truth  hf) rfl rfl (by decide) hl.1 (Nat.le_of_ble_eq_true rfl) dX11_acted_78 (fun rr m10 H locs hp hR hS => ?_)
  obtain ⟨r11, rfl, hf⟩ := hp
  refine W.eq (g2 := F0 m 81 ls [.int r11]) rfl ?_
  exact hw_iret E hR hS ⟨_, rfl, hf⟩ dX11_acted_81
def f_X11_acted_J106 (S : Ss) (t0 : Int32) (M : Mm) (K : Int32 → Mm → Prop) : Prop :=
  f_X11_truth S  t0 M (fun (r15 : Int32) (m14 : Mm) =>
    K r15 m14)
set_option maxHeartbeats 4000000 in
set_option maxRecDepth 100000 in
theorem w_X11_acted_J106 {p : Program} {l : Launch} {e : Env} {s : State} {m : MethodId} {args : Array Value} {below : List Frame} {meth : Method} {c : Code} {g : Gg} {S : Ss} (t0 : Int32) (M : Mm) (K : Int32 → Mm → Prop) (E : EN p s m args meth c cX11_acted 3 (some .int) RX11 g) (hw : ad g 100000 < s.heap.size) (hf : f_X11_acted_J106 S t0 M K) (H : Heap) (locs : List Loc) (ls : Array Slot) (hR : RP g S M H) (hS : va_S (gA g) s.heap H locs) (hl : lv_has ls 3 []) : W p l e (rmD 1) s m args below meth c H locs 0 0 (MQ below (QA g S (pI K)) args s 0 0 (gA g)) (F0 m 106 ls [.int t0]) := by
  have hx := E.1
  have hb := E.2.1
  unfold f_X11_acted_J106 at hf
  refine hw_callS (d := 1) E hR hS (As := [.int t0]) (rest := []) mcX11_truth msX11_truth lmX11_35 (ok_X11_truth  hf) rfl rfl (by decide) hl.1 (Nat.le_of_ble_eq_true rfl) dX11_acted_106 (fun rr m14 H locs hp hR hS => ?_)
  obtain ⟨r15, rfl, hf⟩ := hp
  refine W.eq (g2 := F0 m 109 ls [.int r15]) rfl ?_
  exact hw_iret E hR hS ⟨_, rfl, hf⟩ dX11_acted_109
def f_X11_acted_J92 (S : Ss) (t0 : Int32) (M : Mm) (K : Int32 → Mm → Prop) : Prop :=
  f_X11_truth S  t0 M (fun (r19 : Int32) (m18 : Mm) =>
    K r19 m18)
set_option maxHeartbeats 4000000 in
set_option maxRecDepth 100000 in
theorem w_X11_acted_J92 {p : Program} {l : Launch} {e : Env} {s : State} {m : MethodId} {args : Array Value} {below : List Frame} {meth : Method} {c : Code} {g : Gg} {S : Ss} (t0 : Int32) (M : Mm) (K : Int32 → Mm → Prop) (E : EN p s m args meth c cX11_acted 3 (some .int) RX11 g) (hw : ad g 100000 < s.heap.size) (hf : f_X11_acted_J92 S t0 M K) (H : Heap) (locs : List Loc) (ls : Array Slot) (hR : RP g S M H) (hS : va_S (gA g) s.heap H locs) (hl : lv_has ls 3 []) : W p l e (rmD 1) s m args below meth c H locs 0 0 (MQ below (QA g S (pI K)) args s 0 0 (gA g)) (F0 m 92 ls [.int t0]) := by
  have hx := E.1
  have hb := E.2.1
  unfold f_X11_acted_J92 at hf
  refine hw_callS (d := 1) E hR hS (As := [.int t0]) (rest := []) mcX11_truth msX11_truth lmX11_35 (ok_X11_truth  hf) rfl rfl (by decide) hl.1 (Nat.le_of_ble_eq_true rfl) dX11_acted_92 (fun rr m18 H locs hp hR hS => ?_)
  obtain ⟨r19, rfl, hf⟩ := hp
  refine W.eq (g2 := F0 m 95 ls [.int r19]) rfl ?_
  exact hw_iret E hR hS ⟨_, rfl, hf⟩ dX11_acted_95
def f_X11_acted_J140 (S : Ss) (t0 : Int32) (M : Mm) (K : Int32 → Mm → Prop) : Prop :=
  f_X11_truth S  t0 M (fun (r22 : Int32) (m21 : Mm) =>
    K r22 m21)
set_option maxHeartbeats 4000000 in
set_option maxRecDepth 100000 in
theorem w_X11_acted_J140 {p : Program} {l : Launch} {e : Env} {s : State} {m : MethodId} {args : Array Value} {below : List Frame} {meth : Method} {c : Code} {g : Gg} {S : Ss} (t0 : Int32) (M : Mm) (K : Int32 → Mm → Prop) (E : EN p s m args meth c cX11_acted 3 (some .int) RX11 g) (hw : ad g 100000 < s.heap.size) (hf : f_X11_acted_J140 S t0 M K) (H : Heap) (locs : List Loc) (ls : Array Slot) (hR : RP g S M H) (hS : va_S (gA g) s.heap H locs) (hl : lv_has ls 3 []) : W p l e (rmD 1) s m args below meth c H locs 0 0 (MQ below (QA g S (pI K)) args s 0 0 (gA g)) (F0 m 140 ls [.int t0]) := by
  have hx := E.1
  have hb := E.2.1
  unfold f_X11_acted_J140 at hf
  refine hw_callS (d := 1) E hR hS (As := [.int t0]) (rest := []) mcX11_truth msX11_truth lmX11_35 (ok_X11_truth  hf) rfl rfl (by decide) hl.1 (Nat.le_of_ble_eq_true rfl) dX11_acted_140 (fun rr m21 H locs hp hR hS => ?_)
  obtain ⟨r22, rfl, hf⟩ := hp
  refine W.eq (g2 := F0 m 143 ls [.int r22]) rfl ?_
  exact hw_iret E hR hS ⟨_, rfl, hf⟩ dX11_acted_143
def f_X11_acted_J135 (S : Ss) (M : Mm) (K : Int32 → Mm → Prop) : Prop :=
  f_X11_acted_J140 S (1 : Int32) M K
set_option maxHeartbeats 4000000 in
set_option maxRecDepth 100000 in
theorem w_X11_acted_J135 {p : Program} {l : Launch} {e : Env} {s : State} {m : MethodId} {args : Array Value} {below : List Frame} {meth : Method} {c : Code} {g : Gg} {S : Ss} (M : Mm) (K : Int32 → Mm → Prop) (E : EN p s m args meth c cX11_acted 3 (some .int) RX11 g) (hw : ad g 100000 < s.heap.size) (hf : f_X11_acted_J135 S M K) (H : Heap) (locs : List Loc) (ls : Array Slot) (hR : RP g S M H) (hS : va_S (gA g) s.heap H locs) (hl : lv_has ls 3 []) : W p l e (rmD 1) s m args below meth c H locs 0 0 (MQ below (QA g S (pI K)) args s 0 0 (gA g)) (F0 m 135 ls []) := by
  have hx := E.1
  have hb := E.2.1
  unfold f_X11_acted_J135 at hf
  refine lv_iconst (v := 1) hx hb dX11_acted_135 (by decide) ?_
  refine lv_goto (tgt := 140) hx hb dX11_acted_136 (by decide) ?_
  exact w_X11_acted_J140 _ _ _ E hw hf _ _ _ hR hS (lv_sub hl [] rfl)
def f_X11_acted (S : Ss) (x0 : Int32) (x1 : Int32) (x2 : Int32) (M : Mm) (K : Int32 → Mm → Prop) : Prop :=
  ((x0 = 38 →
    ((x1 = 0 →
      f_X11_acted_J122 S M K) ∧
     (¬ x1 = 0 →
      ((x2 = 0 →
        f_X11_acted_J122 S M K) ∧
       (¬ x2 = 0 →
        f_X11_acted_J123 S (1 : Int32) M K))))) ∧
   (¬ x0 = 38 →
    ((x0 = 43 →
      K (x1 + x2) M) ∧
     (¬ x0 = 43 →
      ((x0 = 45 →
        K (x1 - x2) M) ∧
       (¬ x0 = 45 →
        ((x0 = 60 →
          ((x2 ≤ x1 →
            f_X11_acted_J78 S (0 : Int32) M K) ∧
           (¬ x2 ≤ x1 →
            f_X11_acted_J78 S (1 : Int32) M K))) ∧
         (¬ x0 = 60 →
          ((x0 = 61 →
            ((x1 = x2 →
              f_X11_acted_J106 S (1 : Int32) M K) ∧
             (¬ x1 = x2 →
              f_X11_acted_J106 S (0 : Int32) M K))) ∧
           (¬ x0 = 61 →
            ((x0 = 62 →
              ((x1 ≤ x2 →
                f_X11_acted_J92 S (0 : Int32) M K) ∧
               (¬ x1 ≤ x2 →
                f_X11_acted_J92 S (1 : Int32) M K))) ∧
             (¬ x0 = 62 →
              ((x1 = 0 →
                ((x2 = 0 →
                  f_X11_acted_J140 S (0 : Int32) M K) ∧
                 (¬ x2 = 0 →
                  f_X11_acted_J135 S M K))) ∧
               (¬ x1 = 0 →
                f_X11_acted_J135 S M K))))))))))))))
set_option maxHeartbeats 4000000 in
set_option maxRecDepth 100000 in
theorem ok_X11_acted {l : Launch} {g : Gg} {S : Ss} {x0 : Int32} {x1 : Int32} {x2 : Int32} {M : Mm} {K : Int32 → Mm → Prop} (hf : f_X11_acted S x0 x1 x2 M K) : MT l g S yX11_acted cX11_acted 3 (some .int) 1 [.int x0, .int x1, .int x2] M (pI K) := by
  refine MT.of (by decide +kernel) (Nat.le_of_ble_eq_true rfl) ?_
  intro p e s m below meth c ls E hw hR hS hl
  have hl : lv_has ls 3 [(0, .int x0), (1, .int x1), (2, .int x2)] := hl
  generalize ([.int x0, .int x1, .int x2] : List Value).toArray = args at E ⊢
  have E : EN p s m args meth c cX11_acted 3 (some .int) RX11 g := E
  have hx := E.1
  have hb := E.2.1
  unfold f_X11_acted at hf
  refine lv_iload_n hx hb dX11_acted_0 rfl (lv_at hl 0 rfl) ?_
  rcases Decidable.em (x0 = 38) with w1 | w1
  · replace hf := hf.1 w1
    refine lv_lookup (off := 109) (tgt := 110) hx hb dX11_acted_1 (by decide) (by rw [w1]; try rfl) (by decide) ?_
    refine lv_iload_n hx hb dX11_acted_110 rfl (lv_at hl 1 rfl) ?_
    refine lv_if_eq (tgt := 122) hx hb dX11_acted_111 (by decide) (fun c2 => ?_) (fun c2 => ?_)
    · replace hf := hf.1 c2
      exact w_X11_acted_J122 _ _ E hw hf _ _ _ hR hS (lv_sub hl [] rfl)
    · replace hf := hf.2 c2
      refine lv_iload_n hx hb dX11_acted_114 rfl (lv_at hl 2 rfl) ?_
      refine lv_if_eq (tgt := 122) hx hb dX11_acted_115 (by decide) (fun c5 => ?_) (fun c5 => ?_)
      · replace hf := hf.1 c5
        exact w_X11_acted_J122 _ _ E hw hf _ _ _ hR hS (lv_sub hl [] rfl)
      · replace hf := hf.2 c5
        refine lv_iconst (v := 1) hx hb dX11_acted_118 (by decide) ?_
        refine lv_goto (tgt := 123) hx hb dX11_acted_119 (by decide) ?_
        exact w_X11_acted_J123 _ _ _ E hw hf _ _ _ hR hS (lv_sub hl [] rfl)
  · replace hf := hf.2 w1
    rcases Decidable.em (x0 = 43) with w6 | w6
    · replace hf := hf.1 w6
      refine lv_lookup (off := 59) (tgt := 60) hx hb dX11_acted_1 (by decide) (by rw [w6]; try rfl) (by decide) ?_
      refine lv_iload_n hx hb dX11_acted_60 rfl (lv_at hl 1 rfl) ?_
      refine lv_iload_n hx hb dX11_acted_61 rfl (lv_at hl 2 rfl) ?_
      refine lv_iadd hx hb dX11_acted_62 ?_
      exact hw_iret E hR hS ⟨_, rfl, hf⟩ dX11_acted_63
    · replace hf := hf.2 w6
      rcases Decidable.em (x0 = 45) with w7 | w7
      · replace hf := hf.1 w7
        refine lv_lookup (off := 63) (tgt := 64) hx hb dX11_acted_1 (by decide) (by rw [w7]; try rfl) (by decide) ?_
        refine lv_iload_n hx hb dX11_acted_64 rfl (lv_at hl 1 rfl) ?_
        refine lv_iload_n hx hb dX11_acted_65 rfl (lv_at hl 2 rfl) ?_
        refine lv_isub hx hb dX11_acted_66 ?_
        exact hw_iret E hR hS ⟨_, rfl, hf⟩ dX11_acted_67
      · replace hf := hf.2 w7
        rcases Decidable.em (x0 = 60) with w8 | w8
        · replace hf := hf.1 w8
          refine lv_lookup (off := 67) (tgt := 68) hx hb dX11_acted_1 (by decide) (by rw [w8]; try rfl) (by decide) ?_
          refine lv_iload_n hx hb dX11_acted_68 rfl (lv_at hl 1 rfl) ?_
          refine lv_iload_n hx hb dX11_acted_69 rfl (lv_at hl 2 rfl) ?_
          refine lv_icmp_ge (tgt := 77) hx hb dX11_acted_70 (by decide) (fun c9 => ?_) (fun c9 => ?_)
          · replace hf := hf.1 c9
            refine lv_iconst (v := 0) hx hb dX11_acted_77 (by decide) ?_
            exact w_X11_acted_J78 _ _ _ E hw hf _ _ _ hR hS (lv_sub hl [] rfl)
          · replace hf := hf.2 c9
            refine lv_iconst (v := 1) hx hb dX11_acted_73 (by decide) ?_
            refine lv_goto (tgt := 78) hx hb dX11_acted_74 (by decide) ?_
            exact w_X11_acted_J78 _ _ _ E hw hf _ _ _ hR hS (lv_sub hl [] rfl)
        · replace hf := hf.2 w8
          rcases Decidable.em (x0 = 61) with w12 | w12
          · replace hf := hf.1 w12
            refine lv_lookup (off := 95) (tgt := 96) hx hb dX11_acted_1 (by decide) (by rw [w12]; try rfl) (by decide) ?_
            refine lv_iload_n hx hb dX11_acted_96 rfl (lv_at hl 1 rfl) ?_
            refine lv_iload_n hx hb dX11_acted_97 rfl (lv_at hl 2 rfl) ?_
            refine lv_icmp_ne (tgt := 105) hx hb dX11_acted_98 (by decide) (fun c13 => ?_) (fun c13 => ?_)
            · replace hf := hf.2 c13
              refine lv_iconst (v := 0) hx hb dX11_acted_105 (by decide) ?_
              exact w_X11_acted_J106 _ _ _ E hw hf _ _ _ hR hS (lv_sub hl [] rfl)
            · replace hf := hf.1 c13
              refine lv_iconst (v := 1) hx hb dX11_acted_101 (by decide) ?_
              refine lv_goto (tgt := 106) hx hb dX11_acted_102 (by decide) ?_
              exact w_X11_acted_J106 _ _ _ E hw hf _ _ _ hR hS (lv_sub hl [] rfl)
          · replace hf := hf.2 w12
            rcases Decidable.em (x0 = 62) with w16 | w16
            · replace hf := hf.1 w16
              refine lv_lookup (off := 81) (tgt := 82) hx hb dX11_acted_1 (by decide) (by rw [w16]; try rfl) (by decide) ?_
              refine lv_iload_n hx hb dX11_acted_82 rfl (lv_at hl 1 rfl) ?_
              refine lv_iload_n hx hb dX11_acted_83 rfl (lv_at hl 2 rfl) ?_
              refine lv_icmp_le (tgt := 91) hx hb dX11_acted_84 (by decide) (fun c17 => ?_) (fun c17 => ?_)
              · replace hf := hf.1 c17
                refine lv_iconst (v := 0) hx hb dX11_acted_91 (by decide) ?_
                exact w_X11_acted_J92 _ _ _ E hw hf _ _ _ hR hS (lv_sub hl [] rfl)
              · replace hf := hf.2 c17
                refine lv_iconst (v := 1) hx hb dX11_acted_87 (by decide) ?_
                refine lv_goto (tgt := 92) hx hb dX11_acted_88 (by decide) ?_
                exact w_X11_acted_J92 _ _ _ E hw hf _ _ _ hR hS (lv_sub hl [] rfl)
            · replace hf := hf.2 w16
              refine lv_lookup (off := 126) (tgt := 127) hx hb dX11_acted_1 (by decide) (by rw [lv_osw w1 (by decide)]; rw [lv_osw w6 (by decide)]; rw [lv_osw w7 (by decide)]; rw [lv_osw w8 (by decide)]; rw [lv_osw w12 (by decide)]; rw [lv_osw w16 (by decide)]; try rfl) (by decide) ?_
              refine lv_iload_n hx hb dX11_acted_127 rfl (lv_at hl 1 rfl) ?_
              refine lv_if_ne (tgt := 135) hx hb dX11_acted_128 (by decide) (fun c20 => ?_) (fun c20 => ?_)
              · replace hf := hf.2 c20
                exact w_X11_acted_J135 _ _ E hw hf _ _ _ hR hS (lv_sub hl [] rfl)
              · replace hf := hf.1 c20
                refine lv_iload_n hx hb dX11_acted_131 rfl (lv_at hl 2 rfl) ?_
                refine lv_if_eq (tgt := 139) hx hb dX11_acted_132 (by decide) (fun c23 => ?_) (fun c23 => ?_)
                · replace hf := hf.1 c23
                  refine lv_iconst (v := 0) hx hb dX11_acted_139 (by decide) ?_
                  exact w_X11_acted_J140 _ _ _ E hw hf _ _ _ hR hS (lv_sub hl [] rfl)
                · replace hf := hf.2 c23
                  exact w_X11_acted_J135 _ _ E hw hf _ _ _ hR hS (lv_sub hl [] rfl)
def f_X11_valueOf (S : Ss) (a0 : Nat) (x1 : Int32) (M : Mm) (K : Int32 → Mm → Prop) : Prop :=
  (((1000 : Int32) ≤ x1 →
    (((1010 : Int32) ≤ x1 →
      (((1020 : Int32) ≤ x1 →
        ((x1 = (1020 : Int32) →
          K (M.1 a0 28) M) ∧
         (¬ x1 = (1020 : Int32) →
          ((x1 = (1021 : Int32) →
            K (M.1 a0 29) M) ∧
           (¬ x1 = (1021 : Int32) →
            ((x1 = (1022 : Int32) →
              K (M.1 a0 30) M) ∧
             (¬ x1 = (1022 : Int32) →
              K (M.1 a0 31) M))))))) ∧
       (¬ (1020 : Int32) ≤ x1 →
        ∃ b7 : Nat, M.2.2 a0 24 = some b7 ∧
        ∃ n8 : Nat, shp S b7 = some (50, n8) ∧ vp_in (x1 - (1010 : Int32)) n8 ∧
        (((M.1 b7 (x1 - (1010 : Int32)).toNatClampNeg) ≤ 0 →
          ∃ b10 : Nat, M.2.2 a0 23 = some b10 ∧
          ∃ n11 : Nat, shp S b10 = some (50, n11) ∧ vp_in (x1 - (1010 : Int32)) n11 ∧
          K (M.1 b10 (x1 - (1010 : Int32)).toNatClampNeg) M) ∧
         (¬ (M.1 b7 (x1 - (1010 : Int32)).toNatClampNeg) ≤ 0 →
          K (4 : Int32) M))))) ∧
     (¬ (1010 : Int32) ≤ x1 →
      ∃ b12 : Nat, M.2.2 a0 22 = some b12 ∧
      ∃ n13 : Nat, shp S b12 = some (50, n13) ∧ vp_in (x1 - (1000 : Int32)) n13 ∧
      K (M.1 b12 (x1 - (1000 : Int32)).toNatClampNeg) M))) ∧
   (¬ (1000 : Int32) ≤ x1 →
    K x1 M))
set_option maxHeartbeats 4000000 in
set_option maxRecDepth 100000 in
theorem ok_X11_valueOf {l : Launch} {g : Gg} {S : Ss} {a0 : Nat} {x1 : Int32} {M : Mm} {K : Int32 → Mm → Prop} (hs0 : S[a0]? = some (10, 0)) (hf : f_X11_valueOf S a0 x1 M K) : MT l g S yX11_valueOf cX11_valueOf 2 (some .int) 0 [.ref (ad g a0), .int x1] M (pI K) := by
  refine MT.of (by decide +kernel) (Nat.le_of_ble_eq_true rfl) ?_
  intro p e s m below meth c ls E hw hR hS hl
  have hl : lv_has ls 2 [(0, .ref (ad g a0)), (1, .int x1)] := hl
  generalize ([.ref (ad g a0), .int x1] : List Value).toArray = args at E ⊢
  have E : EN p s m args meth c cX11_valueOf 2 (some .int) RX11 g := E
  have hx := E.1
  have hb := E.2.1
  unfold f_X11_valueOf at hf
  refine lv_iload_n hx hb dX11_valueOf_0 rfl (lv_at hl 1 rfl) ?_
  refine lv_sipush (v := 1000) hx hb dX11_valueOf_1 (by decide) ?_
  refine lv_icmp_ge (tgt := 9) hx hb dX11_valueOf_4 (by decide) (fun c1 => ?_) (fun c1 => ?_)
  · replace hf := hf.1 c1
    refine lv_iload_n hx hb dX11_valueOf_9 rfl (lv_at hl 1 rfl) ?_
    refine lv_sipush (v := 1010) hx hb dX11_valueOf_10 (by decide) ?_
    refine lv_icmp_ge (tgt := 27) hx hb dX11_valueOf_13 (by decide) (fun c2 => ?_) (fun c2 => ?_)
    · replace hf := hf.1 c2
      refine lv_iload_n hx hb dX11_valueOf_27 rfl (lv_at hl 1 rfl) ?_
      refine lv_sipush (v := 1020) hx hb dX11_valueOf_28 (by decide) ?_
      refine lv_icmp_ge (tgt := 62) hx hb dX11_valueOf_31 (by decide) (fun c3 => ?_) (fun c3 => ?_)
      · replace hf := hf.1 c3
        refine lv_iload_n hx hb dX11_valueOf_62 rfl (lv_at hl 1 rfl) ?_
        refine lv_sipush (v := 1020) hx hb dX11_valueOf_63 (by decide) ?_
        refine lv_icmp_ne (tgt := 76) hx hb dX11_valueOf_66 (by decide) (fun c4 => ?_) (fun c4 => ?_)
        · replace hf := hf.2 c4
          refine lv_iload_n hx hb dX11_valueOf_76 rfl (lv_at hl 1 rfl) ?_
          refine lv_sipush (v := 1021) hx hb dX11_valueOf_77 (by decide) ?_
          refine lv_icmp_ne (tgt := 90) hx hb dX11_valueOf_80 (by decide) (fun c5 => ?_) (fun c5 => ?_)
          · replace hf := hf.2 c5
            refine lv_iload_n hx hb dX11_valueOf_90 rfl (lv_at hl 1 rfl) ?_
            refine lv_sipush (v := 1022) hx hb dX11_valueOf_91 (by decide) ?_
            refine lv_icmp_ne (tgt := 104) hx hb dX11_valueOf_94 (by decide) (fun c6 => ?_) (fun c6 => ?_)
            · replace hf := hf.2 c6
              refine lv_aload_n hx hb dX11_valueOf_104 rfl (lv_at hl 0 rfl) ?_
              refine hw_getI E hR cI10 hs0 31 (by decide) lfX11_182 rfl dX11_valueOf_105 ?_
              exact hw_iret E hR hS ⟨_, rfl, hf⟩ dX11_valueOf_108
            · replace hf := hf.1 c6
              refine lv_aload_n hx hb dX11_valueOf_97 rfl (lv_at hl 0 rfl) ?_
              refine hw_getI E hR cI10 hs0 30 (by decide) lfX11_179 rfl dX11_valueOf_98 ?_
              refine lv_goto (tgt := 108) hx hb dX11_valueOf_101 (by decide) ?_
              exact hw_iret E hR hS ⟨_, rfl, hf⟩ dX11_valueOf_108
          · replace hf := hf.1 c5
            refine lv_aload_n hx hb dX11_valueOf_83 rfl (lv_at hl 0 rfl) ?_
            refine hw_getI E hR cI10 hs0 29 (by decide) lfX11_176 rfl dX11_valueOf_84 ?_
            refine lv_goto (tgt := 108) hx hb dX11_valueOf_87 (by decide) ?_
            exact hw_iret E hR hS ⟨_, rfl, hf⟩ dX11_valueOf_108
        · replace hf := hf.1 c4
          refine lv_aload_n hx hb dX11_valueOf_69 rfl (lv_at hl 0 rfl) ?_
          refine hw_getI E hR cI10 hs0 28 (by decide) lfX11_173 rfl dX11_valueOf_70 ?_
          refine lv_goto (tgt := 108) hx hb dX11_valueOf_73 (by decide) ?_
          exact hw_iret E hR hS ⟨_, rfl, hf⟩ dX11_valueOf_108
      · replace hf := hf.2 c3
        refine lv_aload_n hx hb dX11_valueOf_34 rfl (lv_at hl 0 rfl) ?_
        obtain ⟨b7, hb7, hf⟩ := hf
        refine hw_getR E hR cI10 hs0 24 (by decide) lfX11_167 rfl hb7 dX11_valueOf_35 ?_
        refine lv_iload_n hx hb dX11_valueOf_38 rfl (lv_at hl 1 rfl) ?_
        refine lv_sipush (v := 1010) hx hb dX11_valueOf_39 (by decide) ?_
        refine lv_isub hx hb dX11_valueOf_42 ?_
        obtain ⟨n8, hn8, in8, hf⟩ := hf
        refine hw_iald E hR hS hn8 in8 dX11_valueOf_43 ?_
        refine lv_if_le (tgt := 51) hx hb dX11_valueOf_44 (by decide) (fun c9 => ?_) (fun c9 => ?_)
        · replace hf := hf.1 c9
          refine lv_aload_n hx hb dX11_valueOf_51 rfl (lv_at hl 0 rfl) ?_
          obtain ⟨b10, hb10, hf⟩ := hf
          refine hw_getR E hR cI10 hs0 23 (by decide) lfX11_170 rfl hb10 dX11_valueOf_52 ?_
          refine lv_iload_n hx hb dX11_valueOf_55 rfl (lv_at hl 1 rfl) ?_
          refine lv_sipush (v := 1010) hx hb dX11_valueOf_56 (by decide) ?_
          refine lv_isub hx hb dX11_valueOf_59 ?_
          obtain ⟨n11, hn11, in11, hf⟩ := hf
          refine hw_iald E hR hS hn11 in11 dX11_valueOf_60 ?_
          exact hw_iret E hR hS ⟨_, rfl, hf⟩ dX11_valueOf_61
        · replace hf := hf.2 c9
          refine lv_iconst (v := 4) hx hb dX11_valueOf_47 (by decide) ?_
          refine lv_goto (tgt := 61) hx hb dX11_valueOf_48 (by decide) ?_
          exact hw_iret E hR hS ⟨_, rfl, hf⟩ dX11_valueOf_61
    · replace hf := hf.2 c2
      refine lv_aload_n hx hb dX11_valueOf_16 rfl (lv_at hl 0 rfl) ?_
      obtain ⟨b12, hb12, hf⟩ := hf
      refine hw_getR E hR cI10 hs0 22 (by decide) lfX11_164 rfl hb12 dX11_valueOf_17 ?_
      refine lv_iload_n hx hb dX11_valueOf_20 rfl (lv_at hl 1 rfl) ?_
      refine lv_sipush (v := 1000) hx hb dX11_valueOf_21 (by decide) ?_
      refine lv_isub hx hb dX11_valueOf_24 ?_
      obtain ⟨n13, hn13, in13, hf⟩ := hf
      refine hw_iald E hR hS hn13 in13 dX11_valueOf_25 ?_
      exact hw_iret E hR hS ⟨_, rfl, hf⟩ dX11_valueOf_26
  · replace hf := hf.2 c1
    refine lv_iload_n hx hb dX11_valueOf_7 rfl (lv_at hl 1 rfl) ?_
    exact hw_iret E hR hS ⟨_, rfl, hf⟩ dX11_valueOf_8
def f_X11_worked_J84 (S : Ss) (a0 : Nat) (x1 : Int32) (x2 : Int32) (x3 : Int32) (t0 : Int32) (t1 : Int32) (b02 : Nat) (M : Mm) (BK4 : Int32 → Int32 → Mm → Prop) (K : Int32 → Mm → Prop) : Prop :=
  f_X11_truth S  t0 M (fun (r32 : Int32) (m31 : Mm) =>
    ∃ n33 : Nat, S[b02]? = some (50, n33) ∧ vp_in t1 n33 ∧
  ∀ m34 : Mm, m34 = stI m31 b02 t1.toNatClampNeg r32 →
  ∀ v35 : Int32, v35 = x3 + (1 : Int32) →
  BK4 x2 v35 m34)
set_option maxHeartbeats 4000000 in
set_option maxRecDepth 100000 in
theorem w_X11_worked_J84 {p : Program} {l : Launch} {e : Env} {s : State} {m : MethodId} {args : Array Value} {below : List Frame} {meth : Method} {c : Code} {g : Gg} {S : Ss} (a0 : Nat) (x1 : Int32) (x2 : Int32) (x3 : Int32) (t0 : Int32) (t1 : Int32) (b02 : Nat) (M : Mm) (BK4 : Int32 → Int32 → Mm → Prop) (K : Int32 → Mm → Prop) (E : EN p s m args meth c cX11_worked 5 (some .int) RX11 g) (hw : ad g 100000 < s.heap.size) (hs0 : S[a0]? = some (10, 0)) (hBK4 : ∀ (x2' : Int32) (x3' : Int32) (M' : Mm) (H : Heap) (locs : List Loc) (ls : Array Slot), BK4 x2' x3' M' → RP g S M' H → va_S (gA g) s.heap H locs → lv_has ls 5 [(0, .ref (ad g a0)), (1, .int x1), (2, .int x2'), (3, .int x3')] → W p l e (rmD 2) s m args below meth c H locs 0 0 (MQ below (QA g S (pI K)) args s 0 0 (gA g)) (F0 m 4 ls [])) (hf : f_X11_worked_J84 S a0 x1 x2 x3 t0 t1 b02 M BK4 K) (H : Heap) (locs : List Loc) (ls : Array Slot) (hR : RP g S M H) (hS : va_S (gA g) s.heap H locs) (hl : lv_has ls 5 [(0, .ref (ad g a0)), (1, .int x1), (2, .int x2), (3, .int x3)]) : W p l e (rmD 2) s m args below meth c H locs 0 0 (MQ below (QA g S (pI K)) args s 0 0 (gA g)) (F0 m 84 ls [.int t0, .int t1, .ref (ad g b02)]) := by
  have hx := E.1
  have hb := E.2.1
  unfold f_X11_worked_J84 at hf
  refine hw_callS (d := 2) E hR hS (As := [.int t0]) (rest := [.int t1, .ref (ad g b02)]) mcX11_truth msX11_truth lmX11_35 (ok_X11_truth  hf) rfl rfl (by decide) hl.1 (Nat.le_of_ble_eq_true rfl) dX11_worked_84 (fun rr m31 H locs hp hR hS => ?_)
  obtain ⟨r32, rfl, hf⟩ := hp
  refine W.eq (g2 := F0 m 87 ls [.int r32, .int t1, .ref (ad g b02)]) rfl ?_
  obtain ⟨n33, hn33, in33, hf⟩ := hf
  refine hw_iast E hR hS hw hn33 in33 dX11_worked_87 (fun m34 H locs em34 hR hS => ?_)
  replace hf := hf m34 em34
  refine lv_goto (tgt := 153) hx hb dX11_worked_88 (by decide) ?_
  obtain ⟨v35, ev35⟩ : ∃ y : Int32, y = x3 + (1 : Int32) := ⟨_, rfl⟩
  replace hf := hf v35 ev35
  refine lv_iinc (v := v35) (lv' := [(3, .int v35), (0, .ref (ad g a0)), (1, .int x1), (2, .int x2)]) hx hb dX11_worked_153 hl (k := 3) rfl (by rw [ev35]; rfl) (by decide) rfl (fun ls hl => ?_)
  refine lv_goto (tgt := 4) hx hb dX11_worked_156 (by decide) ?_
  exact hBK4 _ _ _ _ _ _ hf hR hS (lv_sub hl [1, 2, 3, 0] rfl)
def f_X11_worked_B4 (S : Ss) (a0 : Nat) (x1 : Int32) (x2 : Int32) (x3 : Int32) (M : Mm) (BK4 : Int32 → Int32 → Mm → Prop) (EK4 : Mm → Prop) (K : Int32 → Mm → Prop) : Prop :=
  ∃ b1 : Nat, M.2.2 a0 12 = some b1 ∧
  ∃ n2 : Nat, shp S b1 = some (50, n2) ∧ vp_in x1 n2 ∧
  (((M.1 b1 x1.toNatClampNeg) ≤ x3 →
    EK4 M) ∧
   (¬ (M.1 b1 x1.toNatClampNeg) ≤ x3 →
    ∃ b4 : Nat, M.2.2 a0 11 = some b4 ∧
    ∃ n5 : Nat, shp S b4 = some (50, n5) ∧ vp_in (((64 : Int32) * x1) + x3) n5 ∧
    ∀ v6 : Int32, v6 = (M.1 b4 (((64 : Int32) * x1) + x3).toNatClampNeg) →
    (((2000 : Int32) ≤ v6 →
      ((v6 = (2033 : Int32) →
        ∃ b27 : Nat, M.2.2 a0 14 = some b27 ∧
        ∃ b28 : Nat, M.2.2 a0 14 = some b28 ∧
        ∃ n29 : Nat, shp S b28 = some (50, n29) ∧ vp_in (x2 - (1 : Int32)) n29 ∧
        (((M.1 b28 (x2 - (1 : Int32)).toNatClampNeg) = 0 →
          f_X11_worked_J84 S a0 x1 x2 x3 (1 : Int32) (x2 - (1 : Int32)) b27 M BK4 K) ∧
         (¬ (M.1 b28 (x2 - (1 : Int32)).toNatClampNeg) = 0 →
          f_X11_worked_J84 S a0 x1 x2 x3 (0 : Int32) (x2 - (1 : Int32)) b27 M BK4 K))) ∧
       (¬ v6 = (2033 : Int32) →
        ((v6 = (2126 : Int32) →
          ∃ b21 : Nat, M.2.2 a0 14 = some b21 ∧
          ∃ b22 : Nat, M.2.2 a0 14 = some b22 ∧
          ∃ n23 : Nat, shp S b22 = some (50, n23) ∧ vp_in (x2 - (1 : Int32)) n23 ∧
          ∃ n24 : Nat, S[b21]? = some (50, n24) ∧ vp_in (x2 - (1 : Int32)) n24 ∧
          ∀ m25 : Mm, m25 = stI M b21 (x2 - (1 : Int32)).toNatClampNeg (-(M.1 b22 (x2 - (1 : Int32)).toNatClampNeg)) →
          ∀ v26 : Int32, v26 = x3 + (1 : Int32) →
          BK4 x2 v26 m25) ∧
         (¬ v6 = (2126 : Int32) →
          ∀ v10 : Int32, v10 = x2 + (-1 : Int32) →
          ∃ b11 : Nat, M.2.2 a0 14 = some b11 ∧
          ∃ b12 : Nat, M.2.2 a0 14 = some b12 ∧
          ∃ n13 : Nat, shp S b12 = some (50, n13) ∧ vp_in (v10 - (1 : Int32)) n13 ∧
          ∃ b14 : Nat, M.2.2 a0 14 = some b14 ∧
          ∃ n15 : Nat, shp S b14 = some (50, n15) ∧ vp_in v10 n15 ∧
          f_X11_acted S  (v6 - (2000 : Int32)) (M.1 b12 (v10 - (1 : Int32)).toNatClampNeg) (M.1 b14 v10.toNatClampNeg) M (fun (r17 : Int32) (m16 : Mm) =>
            ∃ n18 : Nat, S[b11]? = some (50, n18) ∧ vp_in (v10 - (1 : Int32)) n18 ∧
          ∀ m19 : Mm, m19 = stI m16 b11 (v10 - (1 : Int32)).toNatClampNeg r17 →
          ∀ v20 : Int32, v20 = x3 + (1 : Int32) →
          BK4 v10 v20 m19)))))) ∧
     (¬ (2000 : Int32) ≤ v6 →
      ∃ b36 : Nat, M.2.2 a0 14 = some b36 ∧
      f_X11_valueOf S a0 v6 M (fun (r38 : Int32) (m37 : Mm) =>
        ∃ n39 : Nat, S[b36]? = some (50, n39) ∧ vp_in x2 n39 ∧
      ∀ m40 : Mm, m40 = stI m37 b36 x2.toNatClampNeg r38 →
      ∀ v41 : Int32, v41 = x2 + (1 : Int32) →
      ∀ v42 : Int32, v42 = x3 + (1 : Int32) →
      BK4 v41 v42 m40)))))
set_option maxHeartbeats 4000000 in
set_option maxRecDepth 100000 in
theorem w_X11_worked_B4 {p : Program} {l : Launch} {e : Env} {s : State} {m : MethodId} {args : Array Value} {below : List Frame} {meth : Method} {c : Code} {g : Gg} {S : Ss} (a0 : Nat) (x1 : Int32) (x2 : Int32) (x3 : Int32) (M : Mm) (BK4 : Int32 → Int32 → Mm → Prop) (EK4 : Mm → Prop) (K : Int32 → Mm → Prop) (E : EN p s m args meth c cX11_worked 5 (some .int) RX11 g) (hw : ad g 100000 < s.heap.size) (hs0 : S[a0]? = some (10, 0)) (hBK4 : ∀ (x2' : Int32) (x3' : Int32) (M' : Mm) (H : Heap) (locs : List Loc) (ls : Array Slot), BK4 x2' x3' M' → RP g S M' H → va_S (gA g) s.heap H locs → lv_has ls 5 [(0, .ref (ad g a0)), (1, .int x1), (2, .int x2'), (3, .int x3')] → W p l e (rmD 2) s m args below meth c H locs 0 0 (MQ below (QA g S (pI K)) args s 0 0 (gA g)) (F0 m 4 ls [])) (hEK4 : ∀ (M' : Mm) (H : Heap) (locs : List Loc) (ls : Array Slot), EK4 M' → RP g S M' H → va_S (gA g) s.heap H locs → lv_has ls 5 [(0, .ref (ad g a0))] → W p l e (rmD 2) s m args below meth c H locs 0 0 (MQ below (QA g S (pI K)) args s 0 0 (gA g)) (F0 m 159 ls [])) (hf : f_X11_worked_B4 S a0 x1 x2 x3 M BK4 EK4 K) (H : Heap) (locs : List Loc) (ls : Array Slot) (hR : RP g S M H) (hS : va_S (gA g) s.heap H locs) (hl : lv_has ls 5 [(0, .ref (ad g a0)), (1, .int x1), (2, .int x2), (3, .int x3)]) : W p l e (rmD 2) s m args below meth c H locs 0 0 (MQ below (QA g S (pI K)) args s 0 0 (gA g)) (F0 m 4 ls []) := by
  have hx := E.1
  have hb := E.2.1
  unfold f_X11_worked_B4 at hf
  refine lv_iload_n hx hb dX11_worked_4 rfl (lv_at hl 3 rfl) ?_
  refine lv_aload_n hx hb dX11_worked_5 rfl (lv_at hl 0 rfl) ?_
  obtain ⟨b1, hb1, hf⟩ := hf
  refine hw_getR E hR cI10 hs0 12 (by decide) lfX11_49 rfl hb1 dX11_worked_6 ?_
  refine lv_iload_n hx hb dX11_worked_9 rfl (lv_at hl 1 rfl) ?_
  obtain ⟨n2, hn2, in2, hf⟩ := hf
  refine hw_iald E hR hS hn2 in2 dX11_worked_10 ?_
  refine lv_icmp_ge (tgt := 159) hx hb dX11_worked_11 (by decide) (fun c3 => ?_) (fun c3 => ?_)
  · replace hf := hf.1 c3
    exact hEK4  _ _ _ _ hf hR hS (lv_sub hl [0] rfl)
  · replace hf := hf.2 c3
    refine lv_aload_n hx hb dX11_worked_14 rfl (lv_at hl 0 rfl) ?_
    obtain ⟨b4, hb4, hf⟩ := hf
    refine hw_getR E hR cI10 hs0 11 (by decide) lfX11_43 rfl hb4 dX11_worked_15 ?_
    refine lv_bipush (v := 64) hx hb dX11_worked_18 (by decide) ?_
    refine lv_iload_n hx hb dX11_worked_20 rfl (lv_at hl 1 rfl) ?_
    refine lv_imul hx hb dX11_worked_21 ?_
    refine lv_iload_n hx hb dX11_worked_22 rfl (lv_at hl 3 rfl) ?_
    refine lv_iadd hx hb dX11_worked_23 ?_
    obtain ⟨n5, hn5, in5, hf⟩ := hf
    refine hw_iald E hR hS hn5 in5 dX11_worked_24 ?_
    refine lv_topi (fun v6 ev6 => ?_)
    replace hf := hf v6 ev6
    refine lv_istore (lv' := [(4, .int v6), (0, .ref (ad g a0)), (1, .int x1), (2, .int x2), (3, .int x3)]) hx hb dX11_worked_25 hl (by decide) rfl (fun ls hl => ?_)
    refine lv_iload hx hb dX11_worked_27 (lv_at hl 0 rfl) ?_
    refine lv_sipush (v := 2000) hx hb dX11_worked_29 (by decide) ?_
    refine lv_icmp_ge (tgt := 53) hx hb dX11_worked_32 (by decide) (fun c7 => ?_) (fun c7 => ?_)
    · replace hf := hf.1 c7
      refine lv_iload hx hb dX11_worked_53 (lv_at hl 0 rfl) ?_
      refine lv_sipush (v := 2033) hx hb dX11_worked_55 (by decide) ?_
      refine lv_icmp_ne (tgt := 91) hx hb dX11_worked_58 (by decide) (fun c8 => ?_) (fun c8 => ?_)
      · replace hf := hf.2 c8
        refine lv_iload hx hb dX11_worked_91 (lv_at hl 0 rfl) ?_
        refine lv_sipush (v := 2126) hx hb dX11_worked_93 (by decide) ?_
        refine lv_icmp_ne (tgt := 119) hx hb dX11_worked_96 (by decide) (fun c9 => ?_) (fun c9 => ?_)
        · replace hf := hf.2 c9
          obtain ⟨v10, ev10⟩ : ∃ y : Int32, y = x2 + (-1 : Int32) := ⟨_, rfl⟩
          replace hf := hf v10 ev10
          refine lv_iinc (v := v10) (lv' := [(2, .int v10), (4, .int v6), (0, .ref (ad g a0)), (1, .int x1), (3, .int x3)]) hx hb dX11_worked_119 hl (k := 3) rfl (by rw [ev10]; rfl) (by decide) rfl (fun ls hl => ?_)
          refine lv_aload_n hx hb dX11_worked_122 rfl (lv_at hl 2 rfl) ?_
          obtain ⟨b11, hb11, hf⟩ := hf
          refine hw_getR E hR cI10 hs0 14 (by decide) lfX11_185 rfl hb11 dX11_worked_123 ?_
          refine lv_iload_n hx hb dX11_worked_126 rfl (lv_at hl 0 rfl) ?_
          refine lv_iconst (v := 1) hx hb dX11_worked_127 (by decide) ?_
          refine lv_isub hx hb dX11_worked_128 ?_
          refine lv_iload hx hb dX11_worked_129 (lv_at hl 1 rfl) ?_
          refine lv_sipush (v := 2000) hx hb dX11_worked_131 (by decide) ?_
          refine lv_isub hx hb dX11_worked_134 ?_
          refine lv_aload_n hx hb dX11_worked_135 rfl (lv_at hl 2 rfl) ?_
          obtain ⟨b12, hb12, hf⟩ := hf
          refine hw_getR E hR cI10 hs0 14 (by decide) lfX11_185 rfl hb12 dX11_worked_136 ?_
          refine lv_iload_n hx hb dX11_worked_139 rfl (lv_at hl 0 rfl) ?_
          refine lv_iconst (v := 1) hx hb dX11_worked_140 (by decide) ?_
          refine lv_isub hx hb dX11_worked_141 ?_
          obtain ⟨n13, hn13, in13, hf⟩ := hf
          refine hw_iald E hR hS hn13 in13 dX11_worked_142 ?_
          refine lv_aload_n hx hb dX11_worked_143 rfl (lv_at hl 2 rfl) ?_
          obtain ⟨b14, hb14, hf⟩ := hf
          refine hw_getR E hR cI10 hs0 14 (by decide) lfX11_185 rfl hb14 dX11_worked_144 ?_
          refine lv_iload_n hx hb dX11_worked_147 rfl (lv_at hl 0 rfl) ?_
          obtain ⟨n15, hn15, in15, hf⟩ := hf
          refine hw_iald E hR hS hn15 in15 dX11_worked_148 ?_
          refine hw_callS (d := 2) E hR hS (As := [.int (v6 - (2000 : Int32)), .int (M.1 b12 (v10 - (1 : Int32)).toNatClampNeg), .int (M.1 b14 v10.toNatClampNeg)]) (rest := [.int (v10 - (1 : Int32)), .ref (ad g b11)]) mcX11_acted msX11_acted lmX11_191 (ok_X11_acted  hf) rfl rfl (by decide) hl.1 (Nat.le_of_ble_eq_true rfl) dX11_worked_149 (fun rr m16 H locs hp hR hS => ?_)
          obtain ⟨r17, rfl, hf⟩ := hp
          refine W.eq (g2 := F0 m 152 ls [.int r17, .int (v10 - (1 : Int32)), .ref (ad g b11)]) rfl ?_
          obtain ⟨n18, hn18, in18, hf⟩ := hf
          refine hw_iast E hR hS hw hn18 in18 dX11_worked_152 (fun m19 H locs em19 hR hS => ?_)
          replace hf := hf m19 em19
          obtain ⟨v20, ev20⟩ : ∃ y : Int32, y = x3 + (1 : Int32) := ⟨_, rfl⟩
          replace hf := hf v20 ev20
          refine lv_iinc (v := v20) (lv' := [(3, .int v20), (2, .int v10), (4, .int v6), (0, .ref (ad g a0)), (1, .int x1)]) hx hb dX11_worked_153 hl (k := 4) rfl (by rw [ev20]; rfl) (by decide) rfl (fun ls hl => ?_)
          refine lv_goto (tgt := 4) hx hb dX11_worked_156 (by decide) ?_
          exact hBK4 _ _ _ _ _ _ hf hR hS (lv_sub hl [3, 4, 1, 0] rfl)
        · replace hf := hf.1 c9
          refine lv_aload_n hx hb dX11_worked_99 rfl (lv_at hl 1 rfl) ?_
          obtain ⟨b21, hb21, hf⟩ := hf
          refine hw_getR E hR cI10 hs0 14 (by decide) lfX11_185 rfl hb21 dX11_worked_100 ?_
          refine lv_iload_n hx hb dX11_worked_103 rfl (lv_at hl 3 rfl) ?_
          refine lv_iconst (v := 1) hx hb dX11_worked_104 (by decide) ?_
          refine lv_isub hx hb dX11_worked_105 ?_
          refine lv_aload_n hx hb dX11_worked_106 rfl (lv_at hl 1 rfl) ?_
          obtain ⟨b22, hb22, hf⟩ := hf
          refine hw_getR E hR cI10 hs0 14 (by decide) lfX11_185 rfl hb22 dX11_worked_107 ?_
          refine lv_iload_n hx hb dX11_worked_110 rfl (lv_at hl 3 rfl) ?_
          refine lv_iconst (v := 1) hx hb dX11_worked_111 (by decide) ?_
          refine lv_isub hx hb dX11_worked_112 ?_
          obtain ⟨n23, hn23, in23, hf⟩ := hf
          refine hw_iald E hR hS hn23 in23 dX11_worked_113 ?_
          refine lv_ineg hx hb dX11_worked_114 ?_
          obtain ⟨n24, hn24, in24, hf⟩ := hf
          refine hw_iast E hR hS hw hn24 in24 dX11_worked_115 (fun m25 H locs em25 hR hS => ?_)
          replace hf := hf m25 em25
          refine lv_goto (tgt := 153) hx hb dX11_worked_116 (by decide) ?_
          obtain ⟨v26, ev26⟩ : ∃ y : Int32, y = x3 + (1 : Int32) := ⟨_, rfl⟩
          replace hf := hf v26 ev26
          refine lv_iinc (v := v26) (lv' := [(3, .int v26), (4, .int v6), (0, .ref (ad g a0)), (1, .int x1), (2, .int x2)]) hx hb dX11_worked_153 hl (k := 4) rfl (by rw [ev26]; rfl) (by decide) rfl (fun ls hl => ?_)
          refine lv_goto (tgt := 4) hx hb dX11_worked_156 (by decide) ?_
          exact hBK4 _ _ _ _ _ _ hf hR hS (lv_sub hl [2, 3, 4, 0] rfl)
      · replace hf := hf.1 c8
        refine lv_aload_n hx hb dX11_worked_61 rfl (lv_at hl 1 rfl) ?_
        obtain ⟨b27, hb27, hf⟩ := hf
        refine hw_getR E hR cI10 hs0 14 (by decide) lfX11_185 rfl hb27 dX11_worked_62 ?_
        refine lv_iload_n hx hb dX11_worked_65 rfl (lv_at hl 3 rfl) ?_
        refine lv_iconst (v := 1) hx hb dX11_worked_66 (by decide) ?_
        refine lv_isub hx hb dX11_worked_67 ?_
        refine lv_aload_n hx hb dX11_worked_68 rfl (lv_at hl 1 rfl) ?_
        obtain ⟨b28, hb28, hf⟩ := hf
        refine hw_getR E hR cI10 hs0 14 (by decide) lfX11_185 rfl hb28 dX11_worked_69 ?_
        refine lv_iload_n hx hb dX11_worked_72 rfl (lv_at hl 3 rfl) ?_
        refine lv_iconst (v := 1) hx hb dX11_worked_73 (by decide) ?_
        refine lv_isub hx hb dX11_worked_74 ?_
        obtain ⟨n29, hn29, in29, hf⟩ := hf
        refine hw_iald E hR hS hn29 in29 dX11_worked_75 ?_
        refine lv_if_ne (tgt := 83) hx hb dX11_worked_76 (by decide) (fun c30 => ?_) (fun c30 => ?_)
        · replace hf := hf.2 c30
          refine lv_iconst (v := 0) hx hb dX11_worked_83 (by decide) ?_
          exact w_X11_worked_J84 _ _ _ _ _ _ _ _ _ _ E hw hs0 hBK4 hf _ _ _ hR hS (lv_sub hl [1, 2, 3, 4] rfl)
        · replace hf := hf.1 c30
          refine lv_iconst (v := 1) hx hb dX11_worked_79 (by decide) ?_
          refine lv_goto (tgt := 84) hx hb dX11_worked_80 (by decide) ?_
          exact w_X11_worked_J84 _ _ _ _ _ _ _ _ _ _ E hw hs0 hBK4 hf _ _ _ hR hS (lv_sub hl [1, 2, 3, 4] rfl)
    · replace hf := hf.2 c7
      refine lv_aload_n hx hb dX11_worked_35 rfl (lv_at hl 1 rfl) ?_
      obtain ⟨b36, hb36, hf⟩ := hf
      refine hw_getR E hR cI10 hs0 14 (by decide) lfX11_185 rfl hb36 dX11_worked_36 ?_
      refine lv_iload_n hx hb dX11_worked_39 rfl (lv_at hl 3 rfl) ?_
      refine lv_aload_n hx hb dX11_worked_40 rfl (lv_at hl 1 rfl) ?_
      refine lv_iload hx hb dX11_worked_41 (lv_at hl 0 rfl) ?_
      refine hw_callV (d := 2) E hR hS (As := [.int v6]) (rest := [.int x2, .ref (ad g b36)]) cI10 hs0 rfl mcX11_valueOf miX11_valueOf lmX11_188 (ok_X11_valueOf hs0 hf) rfl rfl (by decide) hl.1 (Nat.le_of_ble_eq_true rfl) dX11_worked_43 (fun rr m37 H locs hp hR hS => ?_)
      obtain ⟨r38, rfl, hf⟩ := hp
      refine W.eq (g2 := F0 m 46 ls [.int r38, .int x2, .ref (ad g b36)]) rfl ?_
      obtain ⟨n39, hn39, in39, hf⟩ := hf
      refine hw_iast E hR hS hw hn39 in39 dX11_worked_46 (fun m40 H locs em40 hR hS => ?_)
      replace hf := hf m40 em40
      obtain ⟨v41, ev41⟩ : ∃ y : Int32, y = x2 + (1 : Int32) := ⟨_, rfl⟩
      replace hf := hf v41 ev41
      refine lv_iinc (v := v41) (lv' := [(2, .int v41), (4, .int v6), (0, .ref (ad g a0)), (1, .int x1), (3, .int x3)]) hx hb dX11_worked_47 hl (k := 3) rfl (by rw [ev41]; rfl) (by decide) rfl (fun ls hl => ?_)
      refine lv_goto (tgt := 153) hx hb dX11_worked_50 (by decide) ?_
      obtain ⟨v42, ev42⟩ : ∃ y : Int32, y = x3 + (1 : Int32) := ⟨_, rfl⟩
      replace hf := hf v42 ev42
      refine lv_iinc (v := v42) (lv' := [(3, .int v42), (2, .int v41), (4, .int v6), (0, .ref (ad g a0)), (1, .int x1)]) hx hb dX11_worked_153 hl (k := 4) rfl (by rw [ev42]; rfl) (by decide) rfl (fun ls hl => ?_)
      refine lv_goto (tgt := 4) hx hb dX11_worked_156 (by decide) ?_
      exact hBK4 _ _ _ _ _ _ hf hR hS (lv_sub hl [3, 4, 1, 0] rfl)
def f_X11_worked_L4 (S : Ss) (a0 : Nat) (x1 : Int32) (EK4 : Mm → Prop) (K : Int32 → Mm → Prop) : Nat → Int32 → Int32 → Mm → Prop
  | 0, _, _, _ => False
  | n + 1, x2, x3, M => f_X11_worked_B4 S a0 x1 x2 x3 M (fun (x2 : Int32) (x3 : Int32) (M : Mm) => f_X11_worked_L4 S a0 x1 EK4 K n x2 x3 M) EK4 K
set_option maxHeartbeats 4000000 in
set_option maxRecDepth 100000 in
theorem w_X11_worked_L4 {p : Program} {l : Launch} {e : Env} {s : State} {m : MethodId} {args : Array Value} {below : List Frame} {meth : Method} {c : Code} {g : Gg} {S : Ss} (a0 : Nat) (x1 : Int32) (EK4 : Mm → Prop) (K : Int32 → Mm → Prop) (E : EN p s m args meth c cX11_worked 5 (some .int) RX11 g) (hw : ad g 100000 < s.heap.size) (hs0 : S[a0]? = some (10, 0)) (hEK4 : ∀ (M' : Mm) (H : Heap) (locs : List Loc) (ls : Array Slot), EK4 M' → RP g S M' H → va_S (gA g) s.heap H locs → lv_has ls 5 [(0, .ref (ad g a0))] → W p l e (rmD 2) s m args below meth c H locs 0 0 (MQ below (QA g S (pI K)) args s 0 0 (gA g)) (F0 m 159 ls [])) : ∀ (n : Nat) (x2 : Int32) (x3 : Int32) (M : Mm), f_X11_worked_L4 S a0 x1 EK4 K n x2 x3 M → ∀ (H : Heap) (locs : List Loc) (ls : Array Slot), RP g S M H → va_S (gA g) s.heap H locs → lv_has ls 5 [(0, .ref (ad g a0)), (1, .int x1), (2, .int x2), (3, .int x3)] → W p l e (rmD 2) s m args below meth c H locs 0 0 (MQ below (QA g S (pI K)) args s 0 0 (gA g)) (F0 m 4 ls []) := by
  intro n
  induction n with
  | zero => intro x2 x3 M hf; exact hf.elim
  | succ n ih =>
    intro x2 x3 M hf H locs ls hR hS hl
    exact w_X11_worked_B4 _ _ _ _ _ _ _ _ E hw hs0 (fun _ _ M H locs ls h hR hS hl => ih _ _ M h H locs ls hR hS hl) hEK4 hf H locs ls hR hS hl
def f_X11_worked (S : Ss) (a0 : Nat) (x1 : Int32) (M : Mm) (K : Int32 → Mm → Prop) : Prop :=
  ∃ n46 : Nat, f_X11_worked_L4 S a0 x1 (fun (m43 : Mm) =>
    ∃ b44 : Nat, m43.2.2 a0 14 = some b44 ∧
    ∃ n45 : Nat, shp S b44 = some (50, n45) ∧ vp_in (0 : Int32) n45 ∧
    K (m43.1 b44 (0 : Int32).toNatClampNeg) m43) K n46 (0 : Int32) (0 : Int32) M
set_option maxHeartbeats 4000000 in
set_option maxRecDepth 100000 in
theorem ok_X11_worked {l : Launch} {g : Gg} {S : Ss} {a0 : Nat} {x1 : Int32} {M : Mm} {K : Int32 → Mm → Prop} (hs0 : S[a0]? = some (10, 0)) (hf : f_X11_worked S a0 x1 M K) : MT l g S yX11_worked cX11_worked 5 (some .int) 2 [.ref (ad g a0), .int x1] M (pI K) := by
  refine MT.of (by decide +kernel) (Nat.le_of_ble_eq_true rfl) ?_
  intro p e s m below meth c ls E hw hR hS hl
  have hl : lv_has ls 5 [(0, .ref (ad g a0)), (1, .int x1)] := hl
  generalize ([.ref (ad g a0), .int x1] : List Value).toArray = args at E ⊢
  have E : EN p s m args meth c cX11_worked 5 (some .int) RX11 g := E
  have hx := E.1
  have hb := E.2.1
  unfold f_X11_worked at hf
  refine lv_iconst (v := 0) hx hb dX11_worked_0 (by decide) ?_
  refine lv_istore_n (lv' := [(2, .int (0 : Int32)), (0, .ref (ad g a0)), (1, .int x1)]) hx hb dX11_worked_1 rfl hl (by decide) rfl (fun ls hl => ?_)
  refine lv_iconst (v := 0) hx hb dX11_worked_2 (by decide) ?_
  refine lv_istore_n (lv' := [(3, .int (0 : Int32)), (2, .int (0 : Int32)), (0, .ref (ad g a0)), (1, .int x1)]) hx hb dX11_worked_3 rfl hl (by decide) rfl (fun ls hl => ?_)
  obtain ⟨n46, hf⟩ := hf
  refine w_X11_worked_L4 _ _ _ _ E hw hs0 ?_ n46 _ _ _ hf _ _ _ hR hS (lv_sub hl [2, 3, 1, 0] rfl)
  intro m43 H locs ls hf hR hS hl
  refine lv_aload_n hx hb dX11_worked_159 rfl (lv_at hl 0 rfl) ?_
  obtain ⟨b44, hb44, hf⟩ := hf
  refine hw_getR E hR cI10 hs0 14 (by decide) lfX11_185 rfl hb44 dX11_worked_160 ?_
  refine lv_iconst (v := 0) hx hb dX11_worked_163 (by decide) ?_
  obtain ⟨n45, hn45, in45, hf⟩ := hf
  refine hw_iald E hR hS hn45 in45 dX11_worked_164 ?_
  exact hw_iret E hR hS ⟨_, rfl, hf⟩ dX11_worked_165
def f_X11_breaks (S : Ss) (a0 : Nat) (M : Mm) (K : Int32 → Mm → Prop) : Prop :=
  (((M.1 a0 19) = 0 →
    K (0 : Int32) M) ∧
   (¬ (M.1 a0 19) = 0 →
    f_X11_worked S a0 (69 : Int32) M (fun (r3 : Int32) (m2 : Mm) =>
      ((r3 = 0 →
      K (1 : Int32) m2) ∧
     (¬ r3 = 0 →
      K (0 : Int32) m2)))))
set_option maxHeartbeats 4000000 in
set_option maxRecDepth 100000 in
theorem ok_X11_breaks {l : Launch} {g : Gg} {S : Ss} {a0 : Nat} {M : Mm} {K : Int32 → Mm → Prop} (hs0 : S[a0]? = some (10, 0)) (hf : f_X11_breaks S a0 M K) : MT l g S yX11_breaks cX11_breaks 1 (some .boolean) 3 [.ref (ad g a0)] M (pI K) := by
  refine MT.of (by decide +kernel) (Nat.le_of_ble_eq_true rfl) ?_
  intro p e s m below meth c ls E hw hR hS hl
  have hl : lv_has ls 1 [(0, .ref (ad g a0))] := hl
  generalize ([.ref (ad g a0)] : List Value).toArray = args at E ⊢
  have E : EN p s m args meth c cX11_breaks 1 (some .boolean) RX11 g := E
  have hx := E.1
  have hb := E.2.1
  unfold f_X11_breaks at hf
  refine lv_aload_n hx hb dX11_breaks_0 rfl (lv_at hl 0 rfl) ?_
  refine hw_getI E hR cI10 hs0 19 (by decide) lfX11_155 rfl dX11_breaks_1 ?_
  refine lv_if_eq (tgt := 20) hx hb dX11_breaks_4 (by decide) (fun c1 => ?_) (fun c1 => ?_)
  · replace hf := hf.1 c1
    refine lv_iconst (v := 0) hx hb dX11_breaks_20 (by decide) ?_
    exact hw_zret E hR hS (by decide) ⟨_, rfl, hf⟩ dX11_breaks_21
  · replace hf := hf.2 c1
    refine lv_aload_n hx hb dX11_breaks_7 rfl (lv_at hl 0 rfl) ?_
    refine lv_bipush (v := 69) hx hb dX11_breaks_8 (by decide) ?_
    refine hw_callV (d := 3) E hR hS (As := [.int (69 : Int32)]) (rest := []) cI10 hs0 rfl mcX11_worked miX11_worked lmX11_195 (ok_X11_worked hs0 hf) rfl rfl (by decide) hl.1 (Nat.le_of_ble_eq_true rfl) dX11_breaks_10 (fun rr m2 H locs hp hR hS => ?_)
    obtain ⟨r3, rfl, hf⟩ := hp
    refine W.eq (g2 := F0 m 13 ls [.int r3]) rfl ?_
    refine lv_if_ne (tgt := 20) hx hb dX11_breaks_13 (by decide) (fun c4 => ?_) (fun c4 => ?_)
    · replace hf := hf.2 c4
      refine lv_iconst (v := 0) hx hb dX11_breaks_20 (by decide) ?_
      exact hw_zret E hR hS (by decide) ⟨_, rfl, hf⟩ dX11_breaks_21
    · replace hf := hf.1 c4
      refine lv_iconst (v := 1) hx hb dX11_breaks_16 (by decide) ?_
      refine lv_goto (tgt := 21) hx hb dX11_breaks_17 (by decide) ?_
      exact hw_zret E hR hS (by decide) ⟨_, rfl, hf⟩ dX11_breaks_21
def f_X11_rowOfLine_B10 (S : Ss) (a0 : Nat) (x1 : Int32) (x2 : Int32) (x3 : Int32) (x4 : Int32) (M : Mm) (BK10 : Int32 → Int32 → Mm → Prop) (EK10 : Int32 → Mm → Prop) (K : Int32 → Mm → Prop) : Prop :=
  (((M.1 a0 34) ≤ x4 →
    EK10 x3 M) ∧
   (¬ (M.1 a0 34) ≤ x4 →
    f_X11_has S  (M.1 a0 33) x4 M (fun (r4 : Int32) (m3 : Mm) =>
      ((r4 = 0 →
      ∀ v6 : Int32, v6 = x4 + (1 : Int32) →
      BK10 x3 v6 m3) ∧
     (¬ r4 = 0 →
      ∃ b7 : Nat, m3.2.2 a0 35 = some b7 ∧
      ∃ n8 : Nat, shp S b7 = some (50, n8) ∧ vp_in x4 n8 ∧
      (((m3.1 b7 x4.toNatClampNeg) = x1 →
        ∃ b11 : Nat, m3.2.2 a0 36 = some b11 ∧
        ∃ n12 : Nat, shp S b11 = some (50, n12) ∧ vp_in x4 n12 ∧
        (((m3.1 b11 x4.toNatClampNeg) = x2 →
          ∀ v15 : Int32, v15 = ((64 : Int32) + x4) →
          ∀ v16 : Int32, v16 = x4 + (1 : Int32) →
          BK10 v15 v16 m3) ∧
         (¬ (m3.1 b11 x4.toNatClampNeg) = x2 →
          ∀ v14 : Int32, v14 = x4 + (1 : Int32) →
          BK10 x3 v14 m3))) ∧
       (¬ (m3.1 b7 x4.toNatClampNeg) = x1 →
        ∀ v10 : Int32, v10 = x4 + (1 : Int32) →
        BK10 x3 v10 m3)))))))
set_option maxHeartbeats 4000000 in
set_option maxRecDepth 100000 in
theorem w_X11_rowOfLine_B10 {p : Program} {l : Launch} {e : Env} {s : State} {m : MethodId} {args : Array Value} {below : List Frame} {meth : Method} {c : Code} {g : Gg} {S : Ss} (a0 : Nat) (x1 : Int32) (x2 : Int32) (x3 : Int32) (x4 : Int32) (M : Mm) (BK10 : Int32 → Int32 → Mm → Prop) (EK10 : Int32 → Mm → Prop) (K : Int32 → Mm → Prop) (E : EN p s m args meth c cX11_rowOfLine 5 (some .int) RX11 g) (hw : ad g 100000 < s.heap.size) (hs0 : S[a0]? = some (10, 0)) (hBK10 : ∀ (x3' : Int32) (x4' : Int32) (M' : Mm) (H : Heap) (locs : List Loc) (ls : Array Slot), BK10 x3' x4' M' → RP g S M' H → va_S (gA g) s.heap H locs → lv_has ls 5 [(0, .ref (ad g a0)), (1, .int x1), (2, .int x2), (3, .int x3'), (4, .int x4')] → W p l e (rmD 1) s m args below meth c H locs 0 0 (MQ below (QA g S (pI K)) args s 0 0 (gA g)) (F0 m 10 ls [])) (hEK10 : ∀ (x3' : Int32) (M' : Mm) (H : Heap) (locs : List Loc) (ls : Array Slot), EK10 x3' M' → RP g S M' H → va_S (gA g) s.heap H locs → lv_has ls 5 [(3, .int x3')] → W p l e (rmD 1) s m args below meth c H locs 0 0 (MQ below (QA g S (pI K)) args s 0 0 (gA g)) (F0 m 69 ls [])) (hf : f_X11_rowOfLine_B10 S a0 x1 x2 x3 x4 M BK10 EK10 K) (H : Heap) (locs : List Loc) (ls : Array Slot) (hR : RP g S M H) (hS : va_S (gA g) s.heap H locs) (hl : lv_has ls 5 [(0, .ref (ad g a0)), (1, .int x1), (2, .int x2), (3, .int x3), (4, .int x4)]) : W p l e (rmD 1) s m args below meth c H locs 0 0 (MQ below (QA g S (pI K)) args s 0 0 (gA g)) (F0 m 10 ls []) := by
  have hx := E.1
  have hb := E.2.1
  unfold f_X11_rowOfLine_B10 at hf
  refine lv_iload hx hb dX11_rowOfLine_10 (lv_at hl 4 rfl) ?_
  refine lv_aload_n hx hb dX11_rowOfLine_12 rfl (lv_at hl 0 rfl) ?_
  refine hw_getI E hR cI10 hs0 34 (by decide) lfX11_198 rfl dX11_rowOfLine_13 ?_
  refine lv_icmp_ge (tgt := 69) hx hb dX11_rowOfLine_16 (by decide) (fun c2 => ?_) (fun c2 => ?_)
  · replace hf := hf.1 c2
    exact hEK10 _ _ _ _ _ hf hR hS (lv_sub hl [3] rfl)
  · replace hf := hf.2 c2
    refine lv_aload_n hx hb dX11_rowOfLine_19 rfl (lv_at hl 0 rfl) ?_
    refine hw_getI E hR cI10 hs0 33 (by decide) lfX11_201 rfl dX11_rowOfLine_20 ?_
    refine lv_iload hx hb dX11_rowOfLine_23 (lv_at hl 4 rfl) ?_
    refine hw_callS (d := 1) E hR hS (As := [.int (M.1 a0 33), .int x4]) (rest := []) mcX11_has msX11_has lmX11_204 (ok_X11_has  hf) rfl rfl (by decide) hl.1 (Nat.le_of_ble_eq_true rfl) dX11_rowOfLine_25 (fun rr m3 H locs hp hR hS => ?_)
    obtain ⟨r4, rfl, hf⟩ := hp
    refine W.eq (g2 := F0 m 28 ls [.int r4]) rfl ?_
    refine lv_if_eq (tgt := 61) hx hb dX11_rowOfLine_28 (by decide) (fun c5 => ?_) (fun c5 => ?_)
    · replace hf := hf.1 c5
      refine lv_iload_n hx hb dX11_rowOfLine_61 rfl (lv_at hl 3 rfl) ?_
      refine lv_istore_n (lv' := [(3, .int x3), (0, .ref (ad g a0)), (1, .int x1), (2, .int x2), (4, .int x4)]) hx hb dX11_rowOfLine_62 rfl hl (by decide) rfl (fun ls hl => ?_)
      obtain ⟨v6, ev6⟩ : ∃ y : Int32, y = x4 + (1 : Int32) := ⟨_, rfl⟩
      replace hf := hf v6 ev6
      refine lv_iinc (v := v6) (lv' := [(4, .int v6), (3, .int x3), (0, .ref (ad g a0)), (1, .int x1), (2, .int x2)]) hx hb dX11_rowOfLine_63 hl (k := 4) rfl (by rw [ev6]; rfl) (by decide) rfl (fun ls hl => ?_)
      refine lv_goto (tgt := 10) hx hb dX11_rowOfLine_66 (by decide) ?_
      exact hBK10 _ _ _ _ _ _ hf hR hS (lv_sub hl [2, 3, 4, 1, 0] rfl)
    · replace hf := hf.2 c5
      refine lv_aload_n hx hb dX11_rowOfLine_31 rfl (lv_at hl 0 rfl) ?_
      obtain ⟨b7, hb7, hf⟩ := hf
      refine hw_getR E hR cI10 hs0 35 (by decide) lfX11_208 rfl hb7 dX11_rowOfLine_32 ?_
      refine lv_iload hx hb dX11_rowOfLine_35 (lv_at hl 4 rfl) ?_
      obtain ⟨n8, hn8, in8, hf⟩ := hf
      refine hw_iald E hR hS hn8 in8 dX11_rowOfLine_37 ?_
      refine lv_iload_n hx hb dX11_rowOfLine_38 rfl (lv_at hl 1 rfl) ?_
      refine lv_icmp_ne (tgt := 61) hx hb dX11_rowOfLine_39 (by decide) (fun c9 => ?_) (fun c9 => ?_)
      · replace hf := hf.2 c9
        refine lv_iload_n hx hb dX11_rowOfLine_61 rfl (lv_at hl 3 rfl) ?_
        refine lv_istore_n (lv' := [(3, .int x3), (0, .ref (ad g a0)), (1, .int x1), (2, .int x2), (4, .int x4)]) hx hb dX11_rowOfLine_62 rfl hl (by decide) rfl (fun ls hl => ?_)
        obtain ⟨v10, ev10⟩ : ∃ y : Int32, y = x4 + (1 : Int32) := ⟨_, rfl⟩
        replace hf := hf v10 ev10
        refine lv_iinc (v := v10) (lv' := [(4, .int v10), (3, .int x3), (0, .ref (ad g a0)), (1, .int x1), (2, .int x2)]) hx hb dX11_rowOfLine_63 hl (k := 4) rfl (by rw [ev10]; rfl) (by decide) rfl (fun ls hl => ?_)
        refine lv_goto (tgt := 10) hx hb dX11_rowOfLine_66 (by decide) ?_
        exact hBK10 _ _ _ _ _ _ hf hR hS (lv_sub hl [2, 3, 4, 1, 0] rfl)
      · replace hf := hf.1 c9
        refine lv_aload_n hx hb dX11_rowOfLine_42 rfl (lv_at hl 0 rfl) ?_
        obtain ⟨b11, hb11, hf⟩ := hf
        refine hw_getR E hR cI10 hs0 36 (by decide) lfX11_211 rfl hb11 dX11_rowOfLine_43 ?_
        refine lv_iload hx hb dX11_rowOfLine_46 (lv_at hl 4 rfl) ?_
        obtain ⟨n12, hn12, in12, hf⟩ := hf
        refine hw_iald E hR hS hn12 in12 dX11_rowOfLine_48 ?_
        refine lv_iload_n hx hb dX11_rowOfLine_49 rfl (lv_at hl 2 rfl) ?_
        refine lv_icmp_ne (tgt := 61) hx hb dX11_rowOfLine_50 (by decide) (fun c13 => ?_) (fun c13 => ?_)
        · replace hf := hf.2 c13
          refine lv_iload_n hx hb dX11_rowOfLine_61 rfl (lv_at hl 3 rfl) ?_
          refine lv_istore_n (lv' := [(3, .int x3), (0, .ref (ad g a0)), (1, .int x1), (2, .int x2), (4, .int x4)]) hx hb dX11_rowOfLine_62 rfl hl (by decide) rfl (fun ls hl => ?_)
          obtain ⟨v14, ev14⟩ : ∃ y : Int32, y = x4 + (1 : Int32) := ⟨_, rfl⟩
          replace hf := hf v14 ev14
          refine lv_iinc (v := v14) (lv' := [(4, .int v14), (3, .int x3), (0, .ref (ad g a0)), (1, .int x1), (2, .int x2)]) hx hb dX11_rowOfLine_63 hl (k := 4) rfl (by rw [ev14]; rfl) (by decide) rfl (fun ls hl => ?_)
          refine lv_goto (tgt := 10) hx hb dX11_rowOfLine_66 (by decide) ?_
          exact hBK10 _ _ _ _ _ _ hf hR hS (lv_sub hl [2, 3, 4, 1, 0] rfl)
        · replace hf := hf.1 c13
          refine lv_bipush (v := 64) hx hb dX11_rowOfLine_53 (by decide) ?_
          refine lv_iload hx hb dX11_rowOfLine_55 (lv_at hl 4 rfl) ?_
          refine lv_iadd hx hb dX11_rowOfLine_57 ?_
          refine lv_goto (tgt := 62) hx hb dX11_rowOfLine_58 (by decide) ?_
          refine lv_topi (fun v15 ev15 => ?_)
          replace hf := hf v15 ev15
          refine lv_istore_n (lv' := [(3, .int v15), (0, .ref (ad g a0)), (1, .int x1), (2, .int x2), (4, .int x4)]) hx hb dX11_rowOfLine_62 rfl hl (by decide) rfl (fun ls hl => ?_)
          obtain ⟨v16, ev16⟩ : ∃ y : Int32, y = x4 + (1 : Int32) := ⟨_, rfl⟩
          replace hf := hf v16 ev16
          refine lv_iinc (v := v16) (lv' := [(4, .int v16), (3, .int v15), (0, .ref (ad g a0)), (1, .int x1), (2, .int x2)]) hx hb dX11_rowOfLine_63 hl (k := 4) rfl (by rw [ev16]; rfl) (by decide) rfl (fun ls hl => ?_)
          refine lv_goto (tgt := 10) hx hb dX11_rowOfLine_66 (by decide) ?_
          exact hBK10 _ _ _ _ _ _ hf hR hS (lv_sub hl [2, 3, 4, 1, 0] rfl)
def f_X11_rowOfLine_L10 (S : Ss) (a0 : Nat) (x1 : Int32) (x2 : Int32) (EK10 : Int32 → Mm → Prop) (K : Int32 → Mm → Prop) : Nat → Int32 → Int32 → Mm → Prop
  | 0, _, _, _ => False
  | n + 1, x3, x4, M => f_X11_rowOfLine_B10 S a0 x1 x2 x3 x4 M (fun (x3 : Int32) (x4 : Int32) (M : Mm) => f_X11_rowOfLine_L10 S a0 x1 x2 EK10 K n x3 x4 M) EK10 K
set_option maxHeartbeats 4000000 in
set_option maxRecDepth 100000 in
theorem w_X11_rowOfLine_L10 {p : Program} {l : Launch} {e : Env} {s : State} {m : MethodId} {args : Array Value} {below : List Frame} {meth : Method} {c : Code} {g : Gg} {S : Ss} (a0 : Nat) (x1 : Int32) (x2 : Int32) (EK10 : Int32 → Mm → Prop) (K : Int32 → Mm → Prop) (E : EN p s m args meth c cX11_rowOfLine 5 (some .int) RX11 g) (hw : ad g 100000 < s.heap.size) (hs0 : S[a0]? = some (10, 0)) (hEK10 : ∀ (x3' : Int32) (M' : Mm) (H : Heap) (locs : List Loc) (ls : Array Slot), EK10 x3' M' → RP g S M' H → va_S (gA g) s.heap H locs → lv_has ls 5 [(3, .int x3')] → W p l e (rmD 1) s m args below meth c H locs 0 0 (MQ below (QA g S (pI K)) args s 0 0 (gA g)) (F0 m 69 ls [])) : ∀ (n : Nat) (x3 : Int32) (x4 : Int32) (M : Mm), f_X11_rowOfLine_L10 S a0 x1 x2 EK10 K n x3 x4 M → ∀ (H : Heap) (locs : List Loc) (ls : Array Slot), RP g S M H → va_S (gA g) s.heap H locs → lv_has ls 5 [(0, .ref (ad g a0)), (1, .int x1), (2, .int x2), (3, .int x3), (4, .int x4)] → W p l e (rmD 1) s m args below meth c H locs 0 0 (MQ below (QA g S (pI K)) args s 0 0 (gA g)) (F0 m 10 ls []) := by
  intro n
  induction n with
  | zero => intro x3 x4 M hf; exact hf.elim
  | succ n ih =>
    intro x3 x4 M hf H locs ls hR hS hl
    exact w_X11_rowOfLine_B10 _ _ _ _ _ _ _ _ _ E hw hs0 (fun _ _ M H locs ls h hR hS hl => ih _ _ M h H locs ls hR hS hl) hEK10 hf H locs ls hR hS hl
def f_X11_rowOfLine (S : Ss) (a0 : Nat) (x1 : Int32) (x2 : Int32) (M : Mm) (K : Int32 → Mm → Prop) : Prop :=
  ∀ v1 : Int32, v1 = (((16 : Int32) * x1) + x2) →
  ∃ n19 : Nat, f_X11_rowOfLine_L10 S a0 x1 x2 (fun (v17 : Int32) (m18 : Mm) =>
    K v17 m18) K n19 v1 (0 : Int32) M
set_option maxHeartbeats 4000000 in
set_option maxRecDepth 100000 in
theorem ok_X11_rowOfLine {l : Launch} {g : Gg} {S : Ss} {a0 : Nat} {x1 : Int32} {x2 : Int32} {M : Mm} {K : Int32 → Mm → Prop} (hs0 : S[a0]? = some (10, 0)) (hf : f_X11_rowOfLine S a0 x1 x2 M K) : MT l g S yX11_rowOfLine cX11_rowOfLine 5 (some .int) 1 [.ref (ad g a0), .int x1, .int x2] M (pI K) := by
  refine MT.of (by decide +kernel) (Nat.le_of_ble_eq_true rfl) ?_
  intro p e s m below meth c ls E hw hR hS hl
  have hl : lv_has ls 5 [(0, .ref (ad g a0)), (1, .int x1), (2, .int x2)] := hl
  generalize ([.ref (ad g a0), .int x1, .int x2] : List Value).toArray = args at E ⊢
  have E : EN p s m args meth c cX11_rowOfLine 5 (some .int) RX11 g := E
  have hx := E.1
  have hb := E.2.1
  unfold f_X11_rowOfLine at hf
  refine lv_bipush (v := 16) hx hb dX11_rowOfLine_0 (by decide) ?_
  refine lv_iload_n hx hb dX11_rowOfLine_2 rfl (lv_at hl 1 rfl) ?_
  refine lv_imul hx hb dX11_rowOfLine_3 ?_
  refine lv_iload_n hx hb dX11_rowOfLine_4 rfl (lv_at hl 2 rfl) ?_
  refine lv_iadd hx hb dX11_rowOfLine_5 ?_
  refine lv_topi (fun v1 ev1 => ?_)
  replace hf := hf v1 ev1
  refine lv_istore_n (lv' := [(3, .int v1), (0, .ref (ad g a0)), (1, .int x1), (2, .int x2)]) hx hb dX11_rowOfLine_6 rfl hl (by decide) rfl (fun ls hl => ?_)
  refine lv_iconst (v := 0) hx hb dX11_rowOfLine_7 (by decide) ?_
  refine lv_istore (lv' := [(4, .int (0 : Int32)), (3, .int v1), (0, .ref (ad g a0)), (1, .int x1), (2, .int x2)]) hx hb dX11_rowOfLine_8 hl (by decide) rfl (fun ls hl => ?_)
  obtain ⟨n19, hf⟩ := hf
  refine w_X11_rowOfLine_L10 _ _ _ _ _ E hw hs0 ?_ n19 _ _ _ hf _ _ _ hR hS (lv_sub hl [2, 3, 4, 1, 0] rfl)
  intro v17 m18 H locs ls hf hR hS hl
  refine lv_iload_n hx hb dX11_rowOfLine_69 rfl (lv_at hl 0 rfl) ?_
  exact hw_iret E hR hS ⟨_, rfl, hf⟩ dX11_rowOfLine_70
def f_X11_fires_B7 (S : Ss) (a0 : Nat) (x1 : Int32) (M : Mm) (BK7 : Int32 → Mm → Prop) (EK7 : Mm → Prop) (K : Mm → Prop) : Prop :=
  (((M.1 a0 20) ≤ x1 →
    EK7 M) ∧
   (¬ (M.1 a0 20) ≤ x1 →
    f_X11_has S  (M.1 a0 21) x1 M (fun (r4 : Int32) (m3 : Mm) =>
      ((r4 = 0 →
      ∀ m6 : Mm, m6 = stI m3 a0 37 ((M.1 a0 37) ||| (0 : Int32)) →
      ∀ v7 : Int32, v7 = x1 + (1 : Int32) →
      BK7 v7 m6) ∧
     (¬ r4 = 0 →
      f_X11_worked S a0 ((70 : Int32) + x1) m3 (fun (r9 : Int32) (m8 : Mm) =>
        ((r9 = 0 →
        ∀ m13 : Mm, m13 = stI m8 a0 37 ((M.1 a0 37) ||| ((1 : Int32) <<< (x1 &&& 31))) →
        ∀ v14 : Int32, v14 = x1 + (1 : Int32) →
        BK7 v14 m13) ∧
       (¬ r9 = 0 →
        ∀ m11 : Mm, m11 = stI m8 a0 37 ((M.1 a0 37) ||| (0 : Int32)) →
        ∀ v12 : Int32, v12 = x1 + (1 : Int32) →
        BK7 v12 m11))))))))
set_option maxHeartbeats 4000000 in
set_option maxRecDepth 100000 in
theorem w_X11_fires_B7 {p : Program} {l : Launch} {e : Env} {s : State} {m : MethodId} {args : Array Value} {below : List Frame} {meth : Method} {c : Code} {g : Gg} {S : Ss} (a0 : Nat) (x1 : Int32) (M : Mm) (BK7 : Int32 → Mm → Prop) (EK7 : Mm → Prop) (K : Mm → Prop) (E : EN p s m args meth c cX11_fires 2 none RX11 g) (hw : ad g 100000 < s.heap.size) (hs0 : S[a0]? = some (10, 0)) (hBK7 : ∀ (x1' : Int32) (M' : Mm) (H : Heap) (locs : List Loc) (ls : Array Slot), BK7 x1' M' → RP g S M' H → va_S (gA g) s.heap H locs → lv_has ls 2 [(0, .ref (ad g a0)), (1, .int x1')] → W p l e (rmD 3) s m args below meth c H locs 0 0 (MQ below (QA g S (pV K)) args s 0 0 (gA g)) (F0 m 7 ls [])) (hEK7 : ∀ (M' : Mm) (H : Heap) (locs : List Loc) (ls : Array Slot), EK7 M' → RP g S M' H → va_S (gA g) s.heap H locs → lv_has ls 2 [(0, .ref (ad g a0))] → W p l e (rmD 3) s m args below meth c H locs 0 0 (MQ below (QA g S (pV K)) args s 0 0 (gA g)) (F0 m 59 ls [])) (hf : f_X11_fires_B7 S a0 x1 M BK7 EK7 K) (H : Heap) (locs : List Loc) (ls : Array Slot) (hR : RP g S M H) (hS : va_S (gA g) s.heap H locs) (hl : lv_has ls 2 [(0, .ref (ad g a0)), (1, .int x1)]) : W p l e (rmD 3) s m args below meth c H locs 0 0 (MQ below (QA g S (pV K)) args s 0 0 (gA g)) (F0 m 7 ls []) := by
  have hx := E.1
  have hb := E.2.1
  unfold f_X11_fires_B7 at hf
  refine lv_iload_n hx hb dX11_fires_7 rfl (lv_at hl 1 rfl) ?_
  refine lv_aload_n hx hb dX11_fires_8 rfl (lv_at hl 0 rfl) ?_
  refine hw_getI E hR cI10 hs0 20 (by decide) lfX11_158 rfl dX11_fires_9 ?_
  refine lv_icmp_ge (tgt := 59) hx hb dX11_fires_12 (by decide) (fun c2 => ?_) (fun c2 => ?_)
  · replace hf := hf.1 c2
    exact hEK7  _ _ _ _ hf hR hS (lv_sub hl [0] rfl)
  · replace hf := hf.2 c2
    refine lv_aload_n hx hb dX11_fires_15 rfl (lv_at hl 0 rfl) ?_
    refine lv_dup hx hb dX11_fires_16 rfl ?_
    refine hw_getI E hR cI10 hs0 37 (by decide) lfX11_214 rfl dX11_fires_17 ?_
    refine lv_aload_n hx hb dX11_fires_20 rfl (lv_at hl 0 rfl) ?_
    refine hw_getI E hR cI10 hs0 21 (by decide) lfX11_161 rfl dX11_fires_21 ?_
    refine lv_iload_n hx hb dX11_fires_24 rfl (lv_at hl 1 rfl) ?_
    refine hw_callS (d := 3) E hR hS (As := [.int (M.1 a0 21), .int x1]) (rest := [.int (M.1 a0 37), .ref (ad g a0)]) mcX11_has msX11_has lmX11_204 (ok_X11_has  hf) rfl rfl (by decide) hl.1 (Nat.le_of_ble_eq_true rfl) dX11_fires_25 (fun rr m3 H locs hp hR hS => ?_)
    obtain ⟨r4, rfl, hf⟩ := hp
    refine W.eq (g2 := F0 m 28 ls [.int r4, .int (M.1 a0 37), .ref (ad g a0)]) rfl ?_
    refine lv_if_eq (tgt := 48) hx hb dX11_fires_28 (by decide) (fun c5 => ?_) (fun c5 => ?_)
    · replace hf := hf.1 c5
      refine lv_iconst (v := 0) hx hb dX11_fires_48 (by decide) ?_
      refine lv_ior hx hb dX11_fires_49 ?_
      refine hw_putI E hR hS hw cI10 hs0 37 (by decide) lfX11_214 rfl (Or.inl rfl) dX11_fires_50 (fun m6 H locs em6 hR hS => ?_)
      replace hf := hf m6 em6
      obtain ⟨v7, ev7⟩ : ∃ y : Int32, y = x1 + (1 : Int32) := ⟨_, rfl⟩
      replace hf := hf v7 ev7
      refine lv_iinc (v := v7) (lv' := [(1, .int v7), (0, .ref (ad g a0))]) hx hb dX11_fires_53 hl (k := 1) rfl (by rw [ev7]; rfl) (by decide) rfl (fun ls hl => ?_)
      refine lv_goto (tgt := 7) hx hb dX11_fires_56 (by decide) ?_
      exact hBK7 _ _ _ _ _ hf hR hS (lv_sub hl [1, 0] rfl)
    · replace hf := hf.2 c5
      refine lv_aload_n hx hb dX11_fires_31 rfl (lv_at hl 0 rfl) ?_
      refine lv_bipush (v := 70) hx hb dX11_fires_32 (by decide) ?_
      refine lv_iload_n hx hb dX11_fires_34 rfl (lv_at hl 1 rfl) ?_
      refine lv_iadd hx hb dX11_fires_35 ?_
      refine hw_callV (d := 3) E hR hS (As := [.int ((70 : Int32) + x1)]) (rest := [.int (M.1 a0 37), .ref (ad g a0)]) cI10 hs0 rfl mcX11_worked miX11_worked lmX11_195 (ok_X11_worked hs0 hf) rfl rfl (by decide) hl.1 (Nat.le_of_ble_eq_true rfl) dX11_fires_36 (fun rr m8 H locs hp hR hS => ?_)
      obtain ⟨r9, rfl, hf⟩ := hp
      refine W.eq (g2 := F0 m 39 ls [.int r9, .int (M.1 a0 37), .ref (ad g a0)]) rfl ?_
      refine lv_if_ne (tgt := 48) hx hb dX11_fires_39 (by decide) (fun c10 => ?_) (fun c10 => ?_)
      · replace hf := hf.2 c10
        refine lv_iconst (v := 0) hx hb dX11_fires_48 (by decide) ?_
        refine lv_ior hx hb dX11_fires_49 ?_
        refine hw_putI E hR hS hw cI10 hs0 37 (by decide) lfX11_214 rfl (Or.inl rfl) dX11_fires_50 (fun m11 H locs em11 hR hS => ?_)
        replace hf := hf m11 em11
        obtain ⟨v12, ev12⟩ : ∃ y : Int32, y = x1 + (1 : Int32) := ⟨_, rfl⟩
        replace hf := hf v12 ev12
        refine lv_iinc (v := v12) (lv' := [(1, .int v12), (0, .ref (ad g a0))]) hx hb dX11_fires_53 hl (k := 1) rfl (by rw [ev12]; rfl) (by decide) rfl (fun ls hl => ?_)
        refine lv_goto (tgt := 7) hx hb dX11_fires_56 (by decide) ?_
        exact hBK7 _ _ _ _ _ hf hR hS (lv_sub hl [1, 0] rfl)
      · replace hf := hf.1 c10
        refine lv_iconst (v := 1) hx hb dX11_fires_42 (by decide) ?_
        refine lv_iload_n hx hb dX11_fires_43 rfl (lv_at hl 1 rfl) ?_
        refine lv_ishl hx hb dX11_fires_44 ?_
        refine lv_goto (tgt := 49) hx hb dX11_fires_45 (by decide) ?_
        refine lv_ior hx hb dX11_fires_49 ?_
        refine hw_putI E hR hS hw cI10 hs0 37 (by decide) lfX11_214 rfl (Or.inl rfl) dX11_fires_50 (fun m13 H locs em13 hR hS => ?_)
        replace hf := hf m13 em13
        obtain ⟨v14, ev14⟩ : ∃ y : Int32, y = x1 + (1 : Int32) := ⟨_, rfl⟩
        replace hf := hf v14 ev14
        refine lv_iinc (v := v14) (lv' := [(1, .int v14), (0, .ref (ad g a0))]) hx hb dX11_fires_53 hl (k := 1) rfl (by rw [ev14]; rfl) (by decide) rfl (fun ls hl => ?_)
        refine lv_goto (tgt := 7) hx hb dX11_fires_56 (by decide) ?_
        exact hBK7 _ _ _ _ _ hf hR hS (lv_sub hl [1, 0] rfl)
def f_X11_fires_L7 (S : Ss) (a0 : Nat) (EK7 : Mm → Prop) (K : Mm → Prop) : Nat → Int32 → Mm → Prop
  | 0, _, _ => False
  | n + 1, x1, M => f_X11_fires_B7 S a0 x1 M (fun (x1 : Int32) (M : Mm) => f_X11_fires_L7 S a0 EK7 K n x1 M) EK7 K
set_option maxHeartbeats 4000000 in
set_option maxRecDepth 100000 in
theorem w_X11_fires_L7 {p : Program} {l : Launch} {e : Env} {s : State} {m : MethodId} {args : Array Value} {below : List Frame} {meth : Method} {c : Code} {g : Gg} {S : Ss} (a0 : Nat) (EK7 : Mm → Prop) (K : Mm → Prop) (E : EN p s m args meth c cX11_fires 2 none RX11 g) (hw : ad g 100000 < s.heap.size) (hs0 : S[a0]? = some (10, 0)) (hEK7 : ∀ (M' : Mm) (H : Heap) (locs : List Loc) (ls : Array Slot), EK7 M' → RP g S M' H → va_S (gA g) s.heap H locs → lv_has ls 2 [(0, .ref (ad g a0))] → W p l e (rmD 3) s m args below meth c H locs 0 0 (MQ below (QA g S (pV K)) args s 0 0 (gA g)) (F0 m 59 ls [])) : ∀ (n : Nat) (x1 : Int32) (M : Mm), f_X11_fires_L7 S a0 EK7 K n x1 M → ∀ (H : Heap) (locs : List Loc) (ls : Array Slot), RP g S M H → va_S (gA g) s.heap H locs → lv_has ls 2 [(0, .ref (ad g a0)), (1, .int x1)] → W p l e (rmD 3) s m args below meth c H locs 0 0 (MQ below (QA g S (pV K)) args s 0 0 (gA g)) (F0 m 7 ls []) := by
  intro n
  induction n with
  | zero => intro x1 M hf; exact hf.elim
  | succ n ih =>
    intro x1 M hf H locs ls hR hS hl
    exact w_X11_fires_B7 _ _ _ _ _ _ E hw hs0 (fun _ M H locs ls h hR hS hl => ih _ M h H locs ls hR hS hl) hEK7 hf H locs ls hR hS hl
def f_X11_fires_J91 (S : Ss) (t0 : Int32) (b01 : Nat) (M : Mm) (K : Mm → Prop) : Prop :=
  f_X11_truth S  t0 M (fun (r23 : Int32) (m22 : Mm) =>
    S[b01]? = some (10, 0) ∧
  ∀ m25 : Mm, m25 = stI m22 b01 29 r23 →
  K m25)
set_option maxHeartbeats 4000000 in
set_option maxRecDepth 100000 in
theorem w_X11_fires_J91 {p : Program} {l : Launch} {e : Env} {s : State} {m : MethodId} {args : Array Value} {below : List Frame} {meth : Method} {c : Code} {g : Gg} {S : Ss} (t0 : Int32) (b01 : Nat) (M : Mm) (K : Mm → Prop) (E : EN p s m args meth c cX11_fires 2 none RX11 g) (hw : ad g 100000 < s.heap.size) (hf : f_X11_fires_J91 S t0 b01 M K) (H : Heap) (locs : List Loc) (ls : Array Slot) (hR : RP g S M H) (hS : va_S (gA g) s.heap H locs) (hl : lv_has ls 2 []) : W p l e (rmD 3) s m args below meth c H locs 0 0 (MQ below (QA g S (pV K)) args s 0 0 (gA g)) (F0 m 91 ls [.int t0, .ref (ad g b01)]) := by
  have hx := E.1
  have hb := E.2.1
  unfold f_X11_fires_J91 at hf
  refine hw_callS (d := 3) E hR hS (As := [.int t0]) (rest := [.ref (ad g b01)]) mcX11_truth msX11_truth lmX11_35 (ok_X11_truth  hf) rfl rfl (by decide) hl.1 (Nat.le_of_ble_eq_true rfl) dX11_fires_91 (fun rr m22 H locs hp hR hS => ?_)
  obtain ⟨r23, rfl, hf⟩ := hp
  refine W.eq (g2 := F0 m 94 ls [.int r23, .ref (ad g b01)]) rfl ?_
  obtain ⟨h24, hf⟩ := hf
  refine hw_putI E hR hS hw cI10 h24 29 (by decide) lfX11_176 rfl (Or.inl rfl) dX11_fires_94 (fun m25 H locs em25 hR hS => ?_)
  replace hf := hf m25 em25
  exact hw_vret E hR hS ⟨rfl, hf⟩ dX11_fires_97
def f_X11_fires_J72 (S : Ss) (a0 : Nat) (t0 : Int32) (b01 : Nat) (M : Mm) (K : Mm → Prop) : Prop :=
  f_X11_truth S  t0 M (fun (r18 : Int32) (m17 : Mm) =>
    S[b01]? = some (10, 0) ∧
  ∀ m20 : Mm, m20 = stI m17 b01 28 r18 →
  (((m20.1 a0 37) = 0 →
    f_X11_fires_J91 S (0 : Int32) a0 m20 K) ∧
   (¬ (m20.1 a0 37) = 0 →
    f_X11_fires_J91 S (1 : Int32) a0 m20 K)))
set_option maxHeartbeats 4000000 in
set_option maxRecDepth 100000 in
theorem w_X11_fires_J72 {p : Program} {l : Launch} {e : Env} {s : State} {m : MethodId} {args : Array Value} {below : List Frame} {meth : Method} {c : Code} {g : Gg} {S : Ss} (a0 : Nat) (t0 : Int32) (b01 : Nat) (M : Mm) (K : Mm → Prop) (E : EN p s m args meth c cX11_fires 2 none RX11 g) (hw : ad g 100000 < s.heap.size) (hs0 : S[a0]? = some (10, 0)) (hf : f_X11_fires_J72 S a0 t0 b01 M K) (H : Heap) (locs : List Loc) (ls : Array Slot) (hR : RP g S M H) (hS : va_S (gA g) s.heap H locs) (hl : lv_has ls 2 [(0, .ref (ad g a0))]) : W p l e (rmD 3) s m args below meth c H locs 0 0 (MQ below (QA g S (pV K)) args s 0 0 (gA g)) (F0 m 72 ls [.int t0, .ref (ad g b01)]) := by
  have hx := E.1
  have hb := E.2.1
  unfold f_X11_fires_J72 at hf
  refine hw_callS (d := 3) E hR hS (As := [.int t0]) (rest := [.ref (ad g b01)]) mcX11_truth msX11_truth lmX11_35 (ok_X11_truth  hf) rfl rfl (by decide) hl.1 (Nat.le_of_ble_eq_true rfl) dX11_fires_72 (fun rr m17 H locs hp hR hS => ?_)
  obtain ⟨r18, rfl, hf⟩ := hp
  refine W.eq (g2 := F0 m 75 ls [.int r18, .ref (ad g b01)]) rfl ?_
  obtain ⟨h19, hf⟩ := hf
  refine hw_putI E hR hS hw cI10 h19 28 (by decide) lfX11_173 rfl (Or.inl rfl) dX11_fires_75 (fun m20 H locs em20 hR hS => ?_)
  replace hf := hf m20 em20
  refine lv_aload_n hx hb dX11_fires_78 rfl (lv_at hl 0 rfl) ?_
  refine lv_aload_n hx hb dX11_fires_79 rfl (lv_at hl 0 rfl) ?_
  refine hw_getI E hR cI10 hs0 37 (by decide) lfX11_214 rfl dX11_fires_80 ?_
  refine lv_if_eq (tgt := 90) hx hb dX11_fires_83 (by decide) (fun c21 => ?_) (fun c21 => ?_)
  · replace hf := hf.1 c21
    refine lv_iconst (v := 0) hx hb dX11_fires_90 (by decide) ?_
    exact w_X11_fires_J91 _ _ _ _ E hw hf _ _ _ hR hS (lv_sub hl [] rfl)
  · replace hf := hf.2 c21
    refine lv_iconst (v := 1) hx hb dX11_fires_86 (by decide) ?_
    refine lv_goto (tgt := 91) hx hb dX11_fires_87 (by decide) ?_
    exact w_X11_fires_J91 _ _ _ _ E hw hf _ _ _ hR hS (lv_sub hl [] rfl)
def f_X11_fires (S : Ss) (a0 : Nat) (M : Mm) (K : Mm → Prop) : Prop :=
  ∀ m1 : Mm, m1 = stI M a0 37 (0 : Int32) →
  ∃ n26 : Nat, f_X11_fires_L7 S a0 (fun (m15 : Mm) =>
    (((m15.1 a0 37) = 0 →
      f_X11_fires_J72 S a0 (1 : Int32) a0 m15 K) ∧
     (¬ (m15.1 a0 37) = 0 →
      f_X11_fires_J72 S a0 (0 : Int32) a0 m15 K))) K n26 (0 : Int32) m1
set_option maxHeartbeats 4000000 in
set_option maxRecDepth 100000 in
theorem ok_X11_fires {l : Launch} {g : Gg} {S : Ss} {a0 : Nat} {M : Mm} {K : Mm → Prop} (hs0 : S[a0]? = some (10, 0)) (hf : f_X11_fires S a0 M K) : MT l g S yX11_fires cX11_fires 2 none 3 [.ref (ad g a0)] M (pV K) := by
  refine MT.of (by decide +kernel) (Nat.le_of_ble_eq_true rfl) ?_
  intro p e s m below meth c ls E hw hR hS hl
  have hl : lv_has ls 2 [(0, .ref (ad g a0))] := hl
  generalize ([.ref (ad g a0)] : List Value).toArray = args at E ⊢
  have E : EN p s m args meth c cX11_fires 2 none RX11 g := E
  have hx := E.1
  have hb := E.2.1
  unfold f_X11_fires at hf
  refine lv_aload_n hx hb dX11_fires_0 rfl (lv_at hl 0 rfl) ?_
  refine lv_iconst (v := 0) hx hb dX11_fires_1 (by decide) ?_
  refine hw_putI E hR hS hw cI10 hs0 37 (by decide) lfX11_214 rfl (Or.inl rfl) dX11_fires_2 (fun m1 H locs em1 hR hS => ?_)
  replace hf := hf m1 em1
  refine lv_iconst (v := 0) hx hb dX11_fires_5 (by decide) ?_
  refine lv_istore_n (lv' := [(1, .int (0 : Int32)), (0, .ref (ad g a0))]) hx hb dX11_fires_6 rfl hl (by decide) rfl (fun ls hl => ?_)
  obtain ⟨n26, hf⟩ := hf
  refine w_X11_fires_L7 _ _ _ E hw hs0 ?_ n26 _ _ hf _ _ _ hR hS (lv_sub hl [1, 0] rfl)
  intro m15 H locs ls hf hR hS hl
  refine lv_aload_n hx hb dX11_fires_59 rfl (lv_at hl 0 rfl) ?_
  refine lv_aload_n hx hb dX11_fires_60 rfl (lv_at hl 0 rfl) ?_
  refine hw_getI E hR cI10 hs0 37 (by decide) lfX11_214 rfl dX11_fires_61 ?_
  refine lv_if_ne (tgt := 71) hx hb dX11_fires_64 (by decide) (fun c16 => ?_) (fun c16 => ?_)
  · replace hf := hf.2 c16
    refine lv_iconst (v := 0) hx hb dX11_fires_71 (by decide) ?_
    exact w_X11_fires_J72 _ _ _ _ _ E hw hs0 hf _ _ _ hR hS (lv_sub hl [0] rfl)
  · replace hf := hf.1 c16
    refine lv_iconst (v := 1) hx hb dX11_fires_67 (by decide) ?_
    refine lv_goto (tgt := 72) hx hb dX11_fires_68 (by decide) ?_
    exact w_X11_fires_J72 _ _ _ _ _ E hw hs0 hf _ _ _ hR hS (lv_sub hl [0] rfl)
def f_X11_moves_J25 (S : Ss) (a0 : Nat) (x1 : Int32) (x2 : Int32) (t0 : Int32) (M : Mm) (K : Mm → Prop) : Prop :=
  ∃ b7 : Nat, M.2.2 a0 23 = some b7 ∧
  ∃ n8 : Nat, S[b7]? = some (50, n8) ∧ vp_in x1 n8 ∧
  ∀ m9 : Mm, m9 = stI M b7 x1.toNatClampNeg x2 →
  ∃ b10 : Nat, m9.2.2 a0 24 = some b10 ∧
  ((t0 = 0 →
    ∃ b12 : Nat, m9.2.2 a0 26 = some b12 ∧
    ∃ n13 : Nat, shp S b12 = some (50, n13) ∧ vp_in x1 n13 ∧
    ∃ n14 : Nat, S[b10]? = some (50, n14) ∧ vp_in x1 n14 ∧
    ∀ m15 : Mm, m15 = stI m9 b10 x1.toNatClampNeg (m9.1 b12 x1.toNatClampNeg) →
    K m15) ∧
   (¬ t0 = 0 →
    ∃ n16 : Nat, S[b10]? = some (50, n16) ∧ vp_in x1 n16 ∧
    ∀ m17 : Mm, m17 = stI m9 b10 x1.toNatClampNeg (0 : Int32) →
    K m17))
set_option maxHeartbeats 4000000 in
set_option maxRecDepth 100000 in
theorem w_X11_moves_J25 {p : Program} {l : Launch} {e : Env} {s : State} {m : MethodId} {args : Array Value} {below : List Frame} {meth : Method} {c : Code} {g : Gg} {S : Ss} (a0 : Nat) (x1 : Int32) (x2 : Int32) (t0 : Int32) (M : Mm) (K : Mm → Prop) (E : EN p s m args meth c cX11_moves 4 none RX11 g) (hw : ad g 100000 < s.heap.size) (hs0 : S[a0]? = some (10, 0)) (hf : f_X11_moves_J25 S a0 x1 x2 t0 M K) (H : Heap) (locs : List Loc) (ls : Array Slot) (hR : RP g S M H) (hS : va_S (gA g) s.heap H locs) (hl : lv_has ls 4 [(0, .ref (ad g a0)), (1, .int x1), (2, .int x2)]) : W p l e (rmD 0) s m args below meth c H locs 0 0 (MQ below (QA g S (pV K)) args s 0 0 (gA g)) (F0 m 25 ls [.int t0]) := by
  have hx := E.1
  have hb := E.2.1
  unfold f_X11_moves_J25 at hf
  refine lv_istore_n (lv' := [(3, .int t0), (0, .ref (ad g a0)), (1, .int x1), (2, .int x2)]) hx hb dX11_moves_25 rfl hl (by decide) rfl (fun ls hl => ?_)
  refine lv_aload_n hx hb dX11_moves_26 rfl (lv_at hl 1 rfl) ?_
  obtain ⟨b7, hb7, hf⟩ := hf
  refine hw_getR E hR cI10 hs0 23 (by decide) lfX11_170 rfl hb7 dX11_moves_27 ?_
  refine lv_iload_n hx hb dX11_moves_30 rfl (lv_at hl 2 rfl) ?_
  refine lv_iload_n hx hb dX11_moves_31 rfl (lv_at hl 3 rfl) ?_
  obtain ⟨n8, hn8, in8, hf⟩ := hf
  refine hw_iast E hR hS hw hn8 in8 dX11_moves_32 (fun m9 H locs em9 hR hS => ?_)
  replace hf := hf m9 em9
  refine lv_aload_n hx hb dX11_moves_33 rfl (lv_at hl 1 rfl) ?_
  obtain ⟨b10, hb10, hf⟩ := hf
  refine hw_getR E hR cI10 hs0 24 (by decide) lfX11_167 rfl hb10 dX11_moves_34 ?_
  refine lv_iload_n hx hb dX11_moves_37 rfl (lv_at hl 2 rfl) ?_
  refine lv_iload_n hx hb dX11_moves_38 rfl (lv_at hl 0 rfl) ?_
  refine lv_if_eq (tgt := 46) hx hb dX11_moves_39 (by decide) (fun c11 => ?_) (fun c11 => ?_)
  · replace hf := hf.1 c11
    refine lv_aload_n hx hb dX11_moves_46 rfl (lv_at hl 1 rfl) ?_
    obtain ⟨b12, hb12, hf⟩ := hf
    refine hw_getR E hR cI10 hs0 26 (by decide) lfX11_217 rfl hb12 dX11_moves_47 ?_
    refine lv_iload_n hx hb dX11_moves_50 rfl (lv_at hl 2 rfl) ?_
    obtain ⟨n13, hn13, in13, hf⟩ := hf
    refine hw_iald E hR hS hn13 in13 dX11_moves_51 ?_
    obtain ⟨n14, hn14, in14, hf⟩ := hf
    refine hw_iast E hR hS hw hn14 in14 dX11_moves_52 (fun m15 H locs em15 hR hS => ?_)
    replace hf := hf m15 em15
    exact hw_vret E hR hS ⟨rfl, hf⟩ dX11_moves_53
  · replace hf := hf.2 c11
    refine lv_iconst (v := 0) hx hb dX11_moves_42 (by decide) ?_
    refine lv_goto (tgt := 52) hx hb dX11_moves_43 (by decide) ?_
    obtain ⟨n16, hn16, in16, hf⟩ := hf
    refine hw_iast E hR hS hw hn16 in16 dX11_moves_52 (fun m17 H locs em17 hR hS => ?_)
    replace hf := hf m17 em17
    exact hw_vret E hR hS ⟨rfl, hf⟩ dX11_moves_53
def f_X11_moves (S : Ss) (a0 : Nat) (x1 : Int32) (x2 : Int32) (M : Mm) (K : Mm → Prop) : Prop :=
  ∃ b1 : Nat, M.2.2 a0 24 = some b1 ∧
  ∃ n2 : Nat, shp S b1 = some (50, n2) ∧ vp_in x1 n2 ∧
  (((M.1 b1 x1.toNatClampNeg) ≤ 0 →
    ∃ b4 : Nat, M.2.2 a0 23 = some b4 ∧
    ∃ n5 : Nat, shp S b4 = some (50, n5) ∧ vp_in x1 n5 ∧
    (((M.1 b4 x1.toNatClampNeg) = x2 →
      f_X11_moves_J25 S a0 x1 x2 (1 : Int32) M K) ∧
     (¬ (M.1 b4 x1.toNatClampNeg) = x2 →
      f_X11_moves_J25 S a0 x1 x2 (0 : Int32) M K))) ∧
   (¬ (M.1 b1 x1.toNatClampNeg) ≤ 0 →
    K M))
set_option maxHeartbeats 4000000 in
set_option maxRecDepth 100000 in
theorem ok_X11_moves {l : Launch} {g : Gg} {S : Ss} {a0 : Nat} {x1 : Int32} {x2 : Int32} {M : Mm} {K : Mm → Prop} (hs0 : S[a0]? = some (10, 0)) (hf : f_X11_moves S a0 x1 x2 M K) : MT l g S yX11_moves cX11_moves 4 none 0 [.ref (ad g a0), .int x1, .int x2] M (pV K) := by
  refine MT.of (by decide +kernel) (Nat.le_of_ble_eq_true rfl) ?_
  intro p e s m below meth c ls E hw hR hS hl
  have hl : lv_has ls 4 [(0, .ref (ad g a0)), (1, .int x1), (2, .int x2)] := hl
  generalize ([.ref (ad g a0), .int x1, .int x2] : List Value).toArray = args at E ⊢
  have E : EN p s m args meth c cX11_moves 4 none RX11 g := E
  have hx := E.1
  have hb := E.2.1
  unfold f_X11_moves at hf
  refine lv_aload_n hx hb dX11_moves_0 rfl (lv_at hl 0 rfl) ?_
  obtain ⟨b1, hb1, hf⟩ := hf
  refine hw_getR E hR cI10 hs0 24 (by decide) lfX11_167 rfl hb1 dX11_moves_1 ?_
  refine lv_iload_n hx hb dX11_moves_4 rfl (lv_at hl 1 rfl) ?_
  obtain ⟨n2, hn2, in2, hf⟩ := hf
  refine hw_iald E hR hS hn2 in2 dX11_moves_5 ?_
  refine lv_if_le (tgt := 10) hx hb dX11_moves_6 (by decide) (fun c3 => ?_) (fun c3 => ?_)
  · replace hf := hf.1 c3
    refine lv_aload_n hx hb dX11_moves_10 rfl (lv_at hl 0 rfl) ?_
    obtain ⟨b4, hb4, hf⟩ := hf
    refine hw_getR E hR cI10 hs0 23 (by decide) lfX11_170 rfl hb4 dX11_moves_11 ?_
    refine lv_iload_n hx hb dX11_moves_14 rfl (lv_at hl 1 rfl) ?_
    obtain ⟨n5, hn5, in5, hf⟩ := hf
    refine hw_iald E hR hS hn5 in5 dX11_moves_15 ?_
    refine lv_iload_n hx hb dX11_moves_16 rfl (lv_at hl 2 rfl) ?_
    refine lv_icmp_ne (tgt := 24) hx hb dX11_moves_17 (by decide) (fun c6 => ?_) (fun c6 => ?_)
    · replace hf := hf.2 c6
      refine lv_iconst (v := 0) hx hb dX11_moves_24 (by decide) ?_
      exact w_X11_moves_J25 _ _ _ _ _ _ E hw hs0 hf _ _ _ hR hS (lv_sub hl [0, 1, 2] rfl)
    · replace hf := hf.1 c6
      refine lv_iconst (v := 1) hx hb dX11_moves_20 (by decide) ?_
      refine lv_goto (tgt := 25) hx hb dX11_moves_21 (by decide) ?_
      exact w_X11_moves_J25 _ _ _ _ _ _ E hw hs0 hf _ _ _ hR hS (lv_sub hl [0, 1, 2] rfl)
  · replace hf := hf.2 c3
    exact hw_vret E hR hS ⟨rfl, hf⟩ dX11_moves_9
def f_X11_does_B5 (S : Ss) (a0 : Nat) (x1 : Int32) (x2 : Int32) (x3 : Int32) (x4 : Int32) (M : Mm) (BK5 : Int32 → Int32 → Mm → Prop) (EK5 : Int32 → Mm → Prop) (K : Mm → Prop) : Prop :=
  (((4 : Int32) ≤ x4 →
    EK5 x3 M) ∧
   (¬ (4 : Int32) ≤ x4 →
    ∃ b2 : Nat, M.2.2 a0 24 = some b2 ∧
    ∃ n3 : Nat, shp S b2 = some (50, n3) ∧ vp_in x4 n3 ∧
    (((M.1 b2 x4.toNatClampNeg) ≤ 0 →
      ∀ v5 : Int32, v5 = (x3 ||| (0 : Int32)) →
      ∀ v6 : Int32, v6 = x4 + (1 : Int32) →
      BK5 v5 v6 M) ∧
     (¬ (M.1 b2 x4.toNatClampNeg) ≤ 0 →
      ∀ v7 : Int32, v7 = (x3 ||| ((1 : Int32) <<< (x4 &&& 31))) →
      ∀ v8 : Int32, v8 = x4 + (1 : Int32) →
      BK5 v7 v8 M))))
set_option maxHeartbeats 4000000 in
set_option maxRecDepth 100000 in
theorem w_X11_does_B5 {p : Program} {l : Launch} {e : Env} {s : State} {m : MethodId} {args : Array Value} {below : List Frame} {meth : Method} {c : Code} {g : Gg} {S : Ss} (a0 : Nat) (x1 : Int32) (x2 : Int32) (x3 : Int32) (x4 : Int32) (M : Mm) (BK5 : Int32 → Int32 → Mm → Prop) (EK5 : Int32 → Mm → Prop) (K : Mm → Prop) (E : EN p s m args meth c cX11_does 8 none RX11 g) (hw : ad g 100000 < s.heap.size) (hs0 : S[a0]? = some (10, 0)) (hBK5 : ∀ (x3' : Int32) (x4' : Int32) (M' : Mm) (H : Heap) (locs : List Loc) (ls : Array Slot), BK5 x3' x4' M' → RP g S M' H → va_S (gA g) s.heap H locs → lv_has ls 8 [(0, .ref (ad g a0)), (1, .int x1), (2, .int x2), (3, .int x3'), (4, .int x4')] → W p l e (rmD 4) s m args below meth c H locs 0 0 (MQ below (QA g S (pV K)) args s 0 0 (gA g)) (F0 m 5 ls [])) (hEK5 : ∀ (x3' : Int32) (M' : Mm) (H : Heap) (locs : List Loc) (ls : Array Slot), EK5 x3' M' → RP g S M' H → va_S (gA g) s.heap H locs → lv_has ls 8 [(0, .ref (ad g a0)), (1, .int x1), (2, .int x2), (3, .int x3')] → W p l e (rmD 4) s m args below meth c H locs 0 0 (MQ below (QA g S (pV K)) args s 0 0 (gA g)) (F0 m 38 ls [])) (hf : f_X11_does_B5 S a0 x1 x2 x3 x4 M BK5 EK5 K) (H : Heap) (locs : List Loc) (ls : Array Slot) (hR : RP g S M H) (hS : va_S (gA g) s.heap H locs) (hl : lv_has ls 8 [(0, .ref (ad g a0)), (1, .int x1), (2, .int x2), (3, .int x3), (4, .int x4)]) : W p l e (rmD 4) s m args below meth c H locs 0 0 (MQ below (QA g S (pV K)) args s 0 0 (gA g)) (F0 m 5 ls []) := by
  have hx := E.1
  have hb := E.2.1
  unfold f_X11_does_B5 at hf
  refine lv_iload hx hb dX11_does_5 (lv_at hl 4 rfl) ?_
  refine lv_iconst (v := 4) hx hb dX11_does_7 (by decide) ?_
  refine lv_icmp_ge (tgt := 38) hx hb dX11_does_8 (by decide) (fun c1 => ?_) (fun c1 => ?_)
  · replace hf := hf.1 c1
    exact hEK5 _ _ _ _ _ hf hR hS (lv_sub hl [0, 1, 2, 3] rfl)
  · replace hf := hf.2 c1
    refine lv_iload_n hx hb dX11_does_11 rfl (lv_at hl 3 rfl) ?_
    refine lv_aload_n hx hb dX11_does_12 rfl (lv_at hl 0 rfl) ?_
    obtain ⟨b2, hb2, hf⟩ := hf
    refine hw_getR E hR cI10 hs0 24 (by decide) lfX11_167 rfl hb2 dX11_does_13 ?_
    refine lv_iload hx hb dX11_does_16 (lv_at hl 4 rfl) ?_
    obtain ⟨n3, hn3, in3, hf⟩ := hf
    refine hw_iald E hR hS hn3 in3 dX11_does_18 ?_
    refine lv_if_le (tgt := 29) hx hb dX11_does_19 (by decide) (fun c4 => ?_) (fun c4 => ?_)
    · replace hf := hf.1 c4
      refine lv_iconst (v := 0) hx hb dX11_does_29 (by decide) ?_
      refine lv_ior hx hb dX11_does_30 ?_
      refine lv_topi (fun v5 ev5 => ?_)
      replace hf := hf v5 ev5
      refine lv_istore_n (lv' := [(3, .int v5), (0, .ref (ad g a0)), (1, .int x1), (2, .int x2), (4, .int x4)]) hx hb dX11_does_31 rfl hl (by decide) rfl (fun ls hl => ?_)
      obtain ⟨v6, ev6⟩ : ∃ y : Int32, y = x4 + (1 : Int32) := ⟨_, rfl⟩
      replace hf := hf v6 ev6
      refine lv_iinc (v := v6) (lv' := [(4, .int v6), (3, .int v5), (0, .ref (ad g a0)), (1, .int x1), (2, .int x2)]) hx hb dX11_does_32 hl (k := 4) rfl (by rw [ev6]; rfl) (by decide) rfl (fun ls hl => ?_)
      refine lv_goto (tgt := 5) hx hb dX11_does_35 (by decide) ?_
      exact hBK5 _ _ _ _ _ _ hf hR hS (lv_sub hl [2, 3, 4, 1, 0] rfl)
    · replace hf := hf.2 c4
      refine lv_iconst (v := 1) hx hb dX11_does_22 (by decide) ?_
      refine lv_iload hx hb dX11_does_23 (lv_at hl 4 rfl) ?_
      refine lv_ishl hx hb dX11_does_25 ?_
      refine lv_goto (tgt := 30) hx hb dX11_does_26 (by decide) ?_
      refine lv_ior hx hb dX11_does_30 ?_
      refine lv_topi (fun v7 ev7 => ?_)
      replace hf := hf v7 ev7
      refine lv_istore_n (lv' := [(3, .int v7), (0, .ref (ad g a0)), (1, .int x1), (2, .int x2), (4, .int x4)]) hx hb dX11_does_31 rfl hl (by decide) rfl (fun ls hl => ?_)
      obtain ⟨v8, ev8⟩ : ∃ y : Int32, y = x4 + (1 : Int32) := ⟨_, rfl⟩
      replace hf := hf v8 ev8
      refine lv_iinc (v := v8) (lv' := [(4, .int v8), (3, .int v7), (0, .ref (ad g a0)), (1, .int x1), (2, .int x2)]) hx hb dX11_does_32 hl (k := 4) rfl (by rw [ev8]; rfl) (by decide) rfl (fun ls hl => ?_)
      refine lv_goto (tgt := 5) hx hb dX11_does_35 (by decide) ?_
      exact hBK5 _ _ _ _ _ _ hf hR hS (lv_sub hl [2, 3, 4, 1, 0] rfl)
def f_X11_does_L5 (S : Ss) (a0 : Nat) (x1 : Int32) (x2 : Int32) (EK5 : Int32 → Mm → Prop) (K : Mm → Prop) : Nat → Int32 → Int32 → Mm → Prop
  | 0, _, _, _ => False
  | n + 1, x3, x4, M => f_X11_does_B5 S a0 x1 x2 x3 x4 M (fun (x3 : Int32) (x4 : Int32) (M : Mm) => f_X11_does_L5 S a0 x1 x2 EK5 K n x3 x4 M) EK5 K
set_option maxHeartbeats 4000000 in
set_option maxRecDepth 100000 in
theorem w_X11_does_L5 {p : Program} {l : Launch} {e : Env} {s : State} {m : MethodId} {args : Array Value} {below : List Frame} {meth : Method} {c : Code} {g : Gg} {S : Ss} (a0 : Nat) (x1 : Int32) (x2 : Int32) (EK5 : Int32 → Mm → Prop) (K : Mm → Prop) (E : EN p s m args meth c cX11_does 8 none RX11 g) (hw : ad g 100000 < s.heap.size) (hs0 : S[a0]? = some (10, 0)) (hEK5 : ∀ (x3' : Int32) (M' : Mm) (H : Heap) (locs : List Loc) (ls : Array Slot), EK5 x3' M' → RP g S M' H → va_S (gA g) s.heap H locs → lv_has ls 8 [(0, .ref (ad g a0)), (1, .int x1), (2, .int x2), (3, .int x3')] → W p l e (rmD 4) s m args below meth c H locs 0 0 (MQ below (QA g S (pV K)) args s 0 0 (gA g)) (F0 m 38 ls [])) : ∀ (n : Nat) (x3 : Int32) (x4 : Int32) (M : Mm), f_X11_does_L5 S a0 x1 x2 EK5 K n x3 x4 M → ∀ (H : Heap) (locs : List Loc) (ls : Array Slot), RP g S M H → va_S (gA g) s.heap H locs → lv_has ls 8 [(0, .ref (ad g a0)), (1, .int x1), (2, .int x2), (3, .int x3), (4, .int x4)] → W p l e (rmD 4) s m args below meth c H locs 0 0 (MQ below (QA g S (pV K)) args s 0 0 (gA g)) (F0 m 5 ls []) := by
  intro n
  induction n with
  | zero => intro x3 x4 M hf; exact hf.elim
  | succ n ih =>
    intro x3 x4 M hf H locs ls hR hS hl
    exact w_X11_does_B5 _ _ _ _ _ _ _ _ _ E hw hs0 (fun _ _ M H locs ls h hR hS hl => ih _ _ M h H locs ls hR hS hl) hEK5 hf H locs ls hR hS hl
def f_X11_does_B317 (S : Ss) (a0 : Nat) (x3 : Int32) (x7 : Int32) (M : Mm) (BK317 : Int32 → Mm → Prop) (EK317 : Mm → Prop) (K : Mm → Prop) : Prop :=
  (((4 : Int32) ≤ x7 →
    EK317 M) ∧
   (¬ (4 : Int32) ≤ x7 →
    ∃ b39 : Nat, M.2.2 a0 24 = some b39 ∧
    ∃ n40 : Nat, shp S b39 = some (50, n40) ∧ vp_in x7 n40 ∧
    f_X11_has S  x3 x7 M (fun (r42 : Int32) (m41 : Mm) =>
      ((r42 = 0 →
      ∃ n44 : Nat, S[b39]? = some (50, n44) ∧ vp_in x7 n44 ∧
      ∀ m45 : Mm, m45 = stI m41 b39 x7.toNatClampNeg ((M.1 b39 x7.toNatClampNeg) - (0 : Int32)) →
      ∀ v46 : Int32, v46 = x7 + (1 : Int32) →
      BK317 v46 m45) ∧
     (¬ r42 = 0 →
      ∃ n47 : Nat, S[b39]? = some (50, n47) ∧ vp_in x7 n47 ∧
      ∀ m48 : Mm, m48 = stI m41 b39 x7.toNatClampNeg ((M.1 b39 x7.toNatClampNeg) - (1 : Int32)) →
      ∀ v49 : Int32, v49 = x7 + (1 : Int32) →
      BK317 v49 m48)))))
set_option maxHeartbeats 4000000 in
set_option maxRecDepth 100000 in
theorem w_X11_does_B317 {p : Program} {l : Launch} {e : Env} {s : State} {m : MethodId} {args : Array Value} {below : List Frame} {meth : Method} {c : Code} {g : Gg} {S : Ss} (a0 : Nat) (x3 : Int32) (x7 : Int32) (M : Mm) (BK317 : Int32 → Mm → Prop) (EK317 : Mm → Prop) (K : Mm → Prop) (E : EN p s m args meth c cX11_does 8 none RX11 g) (hw : ad g 100000 < s.heap.size) (hs0 : S[a0]? = some (10, 0)) (hBK317 : ∀ (x7' : Int32) (M' : Mm) (H : Heap) (locs : List Loc) (ls : Array Slot), BK317 x7' M' → RP g S M' H → va_S (gA g) s.heap H locs → lv_has ls 8 [(0, .ref (ad g a0)), (3, .int x3), (7, .int x7')] → W p l e (rmD 4) s m args below meth c H locs 0 0 (MQ below (QA g S (pV K)) args s 0 0 (gA g)) (F0 m 317 ls [])) (hEK317 : ∀ (M' : Mm) (H : Heap) (locs : List Loc) (ls : Array Slot), EK317 M' → RP g S M' H → va_S (gA g) s.heap H locs → lv_has ls 8 [] → W p l e (rmD 4) s m args below meth c H locs 0 0 (MQ below (QA g S (pV K)) args s 0 0 (gA g)) (F0 m 353 ls [])) (hf : f_X11_does_B317 S a0 x3 x7 M BK317 EK317 K) (H : Heap) (locs : List Loc) (ls : Array Slot) (hR : RP g S M H) (hS : va_S (gA g) s.heap H locs) (hl : lv_has ls 8 [(0, .ref (ad g a0)), (3, .int x3), (7, .int x7)]) : W p l e (rmD 4) s m args below meth c H locs 0 0 (MQ below (QA g S (pV K)) args s 0 0 (gA g)) (F0 m 317 ls []) := by
  have hx := E.1
  have hb := E.2.1
  unfold f_X11_does_B317 at hf
  refine lv_iload hx hb dX11_does_317 (lv_at hl 2 rfl) ?_
  refine lv_iconst (v := 4) hx hb dX11_does_319 (by decide) ?_
  refine lv_icmp_ge (tgt := 353) hx hb dX11_does_320 (by decide) (fun c38 => ?_) (fun c38 => ?_)
  · replace hf := hf.1 c38
    exact hEK317  _ _ _ _ hf hR hS (lv_sub hl [] rfl)
  · replace hf := hf.2 c38
    refine lv_aload_n hx hb dX11_does_323 rfl (lv_at hl 0 rfl) ?_
    obtain ⟨b39, hb39, hf⟩ := hf
    refine hw_getR E hR cI10 hs0 24 (by decide) lfX11_167 rfl hb39 dX11_does_324 ?_
    refine lv_iload hx hb dX11_does_327 (lv_at hl 2 rfl) ?_
    refine lv_dup2_11 hx hb dX11_does_329 rfl rfl ?_
    obtain ⟨n40, hn40, in40, hf⟩ := hf
    refine hw_iald E hR hS hn40 in40 dX11_does_330 ?_
    refine lv_iload_n hx hb dX11_does_331 rfl (lv_at hl 1 rfl) ?_
    refine lv_iload hx hb dX11_does_332 (lv_at hl 2 rfl) ?_
    refine hw_callS (d := 4) E hR hS (As := [.int x3, .int x7]) (rest := [.int (M.1 b39 x7.toNatClampNeg), .int x7, .ref (ad g b39)]) mcX11_has msX11_has lmX11_204 (ok_X11_has  hf) rfl rfl (by decide) hl.1 (Nat.le_of_ble_eq_true rfl) dX11_does_334 (fun rr m41 H locs hp hR hS => ?_)
    obtain ⟨r42, rfl, hf⟩ := hp
    refine W.eq (g2 := F0 m 337 ls [.int r42, .int (M.1 b39 x7.toNatClampNeg), .int x7, .ref (ad g b39)]) rfl ?_
    refine lv_if_eq (tgt := 344) hx hb dX11_does_337 (by decide) (fun c43 => ?_) (fun c43 => ?_)
    · replace hf := hf.1 c43
      refine lv_iconst (v := 0) hx hb dX11_does_344 (by decide) ?_
      refine lv_isub hx hb dX11_does_345 ?_
      obtain ⟨n44, hn44, in44, hf⟩ := hf
      refine hw_iast E hR hS hw hn44 in44 dX11_does_346 (fun m45 H locs em45 hR hS => ?_)
      replace hf := hf m45 em45
      obtain ⟨v46, ev46⟩ : ∃ y : Int32, y = x7 + (1 : Int32) := ⟨_, rfl⟩
      replace hf := hf v46 ev46
      refine lv_iinc (v := v46) (lv' := [(7, .int v46), (0, .ref (ad g a0)), (3, .int x3)]) hx hb dX11_does_347 hl (k := 2) rfl (by rw [ev46]; rfl) (by decide) rfl (fun ls hl => ?_)
      refine lv_goto (tgt := 317) hx hb dX11_does_350 (by decide) ?_
      exact hBK317 _ _ _ _ _ hf hR hS (lv_sub hl [1, 2, 0] rfl)
    · replace hf := hf.2 c43
      refine lv_iconst (v := 1) hx hb dX11_does_340 (by decide) ?_
      refine lv_goto (tgt := 345) hx hb dX11_does_341 (by decide) ?_
      refine lv_isub hx hb dX11_does_345 ?_
      obtain ⟨n47, hn47, in47, hf⟩ := hf
      refine hw_iast E hR hS hw hn47 in47 dX11_does_346 (fun m48 H locs em48 hR hS => ?_)
      replace hf := hf m48 em48
      obtain ⟨v49, ev49⟩ : ∃ y : Int32, y = x7 + (1 : Int32) := ⟨_, rfl⟩
      replace hf := hf v49 ev49
      refine lv_iinc (v := v49) (lv' := [(7, .int v49), (0, .ref (ad g a0)), (3, .int x3)]) hx hb dX11_does_347 hl (k := 2) rfl (by rw [ev49]; rfl) (by decide) rfl (fun ls hl => ?_)
      refine lv_goto (tgt := 317) hx hb dX11_does_350 (by decide) ?_
      exact hBK317 _ _ _ _ _ hf hR hS (lv_sub hl [1, 2, 0] rfl)
def f_X11_does_L317 (S : Ss) (a0 : Nat) (x3 : Int32) (EK317 : Mm → Prop) (K : Mm → Prop) : Nat → Int32 → Mm → Prop
  | 0, _, _ => False
  | n + 1, x7, M => f_X11_does_B317 S a0 x3 x7 M (fun (x7 : Int32) (M : Mm) => f_X11_does_L317 S a0 x3 EK317 K n x7 M) EK317 K
set_option maxHeartbeats 4000000 in
set_option maxRecDepth 100000 in
theorem w_X11_does_L317 {p : Program} {l : Launch} {e : Env} {s : State} {m : MethodId} {args : Array Value} {below : List Frame} {meth : Method} {c : Code} {g : Gg} {S : Ss} (a0 : Nat) (x3 : Int32) (EK317 : Mm → Prop) (K : Mm → Prop) (E : EN p s m args meth c cX11_does 8 none RX11 g) (hw : ad g 100000 < s.heap.size) (hs0 : S[a0]? = some (10, 0)) (hEK317 : ∀ (M' : Mm) (H : Heap) (locs : List Loc) (ls : Array Slot), EK317 M' → RP g S M' H → va_S (gA g) s.heap H locs → lv_has ls 8 [] → W p l e (rmD 4) s m args below meth c H locs 0 0 (MQ below (QA g S (pV K)) args s 0 0 (gA g)) (F0 m 353 ls [])) : ∀ (n : Nat) (x7 : Int32) (M : Mm), f_X11_does_L317 S a0 x3 EK317 K n x7 M → ∀ (H : Heap) (locs : List Loc) (ls : Array Slot), RP g S M H → va_S (gA g) s.heap H locs → lv_has ls 8 [(0, .ref (ad g a0)), (3, .int x3), (7, .int x7)] → W p l e (rmD 4) s m args below meth c H locs 0 0 (MQ below (QA g S (pV K)) args s 0 0 (gA g)) (F0 m 317 ls []) := by
  intro n
  induction n with
  | zero => intro x7 M hf; exact hf.elim
  | succ n ih =>
    intro x7 M hf H locs ls hR hS hl
    exact w_X11_does_B317 _ _ _ _ _ _ _ E hw hs0 (fun _ M H locs ls h hR hS hl => ih _ M h H locs ls hR hS hl) hEK317 hf H locs ls hR hS hl
def f_X11_does_J306 (S : Ss) (a0 : Nat) (x1 : Int32) (x3 : Int32) (x6 : Int32) (M : Mm) (K : Mm → Prop) : Prop :=
  ∃ b35 : Nat, M.2.2 a0 25 = some b35 ∧
  ∃ n36 : Nat, S[b35]? = some (50, n36) ∧ vp_in x1 n36 ∧
  ∀ m37 : Mm, m37 = stI M b35 x1.toNatClampNeg x6 →
  ∃ n51 : Nat, f_X11_does_L317 S a0 x3 (fun (m50 : Mm) =>
    K m50) K n51 (0 : Int32) m37
set_option maxHeartbeats 4000000 in
set_option maxRecDepth 100000 in
theorem w_X11_does_J306 {p : Program} {l : Launch} {e : Env} {s : State} {m : MethodId} {args : Array Value} {below : List Frame} {meth : Method} {c : Code} {g : Gg} {S : Ss} (a0 : Nat) (x1 : Int32) (x3 : Int32) (x6 : Int32) (M : Mm) (K : Mm → Prop) (E : EN p s m args meth c cX11_does 8 none RX11 g) (hw : ad g 100000 < s.heap.size) (hs0 : S[a0]? = some (10, 0)) (hf : f_X11_does_J306 S a0 x1 x3 x6 M K) (H : Heap) (locs : List Loc) (ls : Array Slot) (hR : RP g S M H) (hS : va_S (gA g) s.heap H locs) (hl : lv_has ls 8 [(0, .ref (ad g a0)), (1, .int x1), (3, .int x3), (6, .int x6)]) : W p l e (rmD 4) s m args below meth c H locs 0 0 (MQ below (QA g S (pV K)) args s 0 0 (gA g)) (F0 m 306 ls []) := by
  have hx := E.1
  have hb := E.2.1
  unfold f_X11_does_J306 at hf
  refine lv_aload_n hx hb dX11_does_306 rfl (lv_at hl 0 rfl) ?_
  obtain ⟨b35, hb35, hf⟩ := hf
  refine hw_getR E hR cI10 hs0 25 (by decide) lfX11_145 rfl hb35 dX11_does_307 ?_
  refine lv_iload_n hx hb dX11_does_310 rfl (lv_at hl 1 rfl) ?_
  refine lv_iload hx hb dX11_does_311 (lv_at hl 3 rfl) ?_
  obtain ⟨n36, hn36, in36, hf⟩ := hf
  refine hw_iast E hR hS hw hn36 in36 dX11_does_313 (fun m37 H locs em37 hR hS => ?_)
  replace hf := hf m37 em37
  refine lv_iconst (v := 0) hx hb dX11_does_314 (by decide) ?_
  refine lv_istore (lv' := [(7, .int (0 : Int32)), (0, .ref (ad g a0)), (1, .int x1), (3, .int x3), (6, .int x6)]) hx hb dX11_does_315 hl (by decide) rfl (fun ls hl => ?_)
  obtain ⟨n51, hf⟩ := hf
  refine w_X11_does_L317 _ _ _ _ E hw hs0 ?_ n51 _ _ hf _ _ _ hR hS (lv_sub hl [1, 3, 0] rfl)
  intro m50 H locs ls hf hR hS hl
  exact hw_vret E hR hS ⟨rfl, hf⟩ dX11_does_353
def f_X11_does_J213 (S : Ss) (a0 : Nat) (x1 : Int32) (x3 : Int32) (t0 : Int32) (M : Mm) (K : Mm → Prop) : Prop :=
  f_X11_does_J306 S a0 x1 x3 t0 M K
set_option maxHeartbeats 4000000 in
set_option maxRecDepth 100000 in
theorem w_X11_does_J213 {p : Program} {l : Launch} {e : Env} {s : State} {m : MethodId} {args : Array Value} {below : List Frame} {meth : Method} {c : Code} {g : Gg} {S : Ss} (a0 : Nat) (x1 : Int32) (x3 : Int32) (t0 : Int32) (M : Mm) (K : Mm → Prop) (E : EN p s m args meth c cX11_does 8 none RX11 g) (hw : ad g 100000 < s.heap.size) (hs0 : S[a0]? = some (10, 0)) (hf : f_X11_does_J213 S a0 x1 x3 t0 M K) (H : Heap) (locs : List Loc) (ls : Array Slot) (hR : RP g S M H) (hS : va_S (gA g) s.heap H locs) (hl : lv_has ls 8 [(0, .ref (ad g a0)), (1, .int x1), (3, .int x3)]) : W p l e (rmD 4) s m args below meth c H locs 0 0 (MQ below (QA g S (pV K)) args s 0 0 (gA g)) (F0 m 213 ls [.int t0]) := by
  have hx := E.1
  have hb := E.2.1
  unfold f_X11_does_J213 at hf
  refine lv_istore (lv' := [(6, .int t0), (0, .ref (ad g a0)), (1, .int x1), (3, .int x3)]) hx hb dX11_does_213 hl (by decide) rfl (fun ls hl => ?_)
  refine lv_goto (tgt := 306) hx hb dX11_does_215 (by decide) ?_
  exact w_X11_does_J306 _ _ _ _ _ _ E hw hs0 hf _ _ _ hR hS (lv_sub hl [1, 2, 3, 0] rfl)
def f_X11_does_J281 (S : Ss) (a0 : Nat) (x1 : Int32) (x3 : Int32) (t0 : Int32) (M : Mm) (K : Mm → Prop) : Prop :=
  f_X11_does_J306 S a0 x1 x3 t0 M K
set_option maxHeartbeats 4000000 in
set_option maxRecDepth 100000 in
theorem w_X11_does_J281 {p : Program} {l : Launch} {e : Env} {s : State} {m : MethodId} {args : Array Value} {below : List Frame} {meth : Method} {c : Code} {g : Gg} {S : Ss} (a0 : Nat) (x1 : Int32) (x3 : Int32) (t0 : Int32) (M : Mm) (K : Mm → Prop) (E : EN p s m args meth c cX11_does 8 none RX11 g) (hw : ad g 100000 < s.heap.size) (hs0 : S[a0]? = some (10, 0)) (hf : f_X11_does_J281 S a0 x1 x3 t0 M K) (H : Heap) (locs : List Loc) (ls : Array Slot) (hR : RP g S M H) (hS : va_S (gA g) s.heap H locs) (hl : lv_has ls 8 [(0, .ref (ad g a0)), (1, .int x1), (3, .int x3)]) : W p l e (rmD 4) s m args below meth c H locs 0 0 (MQ below (QA g S (pV K)) args s 0 0 (gA g)) (F0 m 281 ls [.int t0]) := by
  have hx := E.1
  have hb := E.2.1
  unfold f_X11_does_J281 at hf
  refine lv_istore (lv' := [(6, .int t0), (0, .ref (ad g a0)), (1, .int x1), (3, .int x3)]) hx hb dX11_does_281 hl (by decide) rfl (fun ls hl => ?_)
  refine lv_goto (tgt := 306) hx hb dX11_does_283 (by decide) ?_
  exact w_X11_does_J306 _ _ _ _ _ _ E hw hs0 hf _ _ _ hR hS (lv_sub hl [1, 2, 3, 0] rfl)
def f_X11_does_J113 (S : Ss) (a0 : Nat) (x1 : Int32) (x3 : Int32) (x4 : Int32) (x5 : Int32) (t0 : Int32) (M : Mm) (K : Mm → Prop) : Prop :=
  ∃ b25 : Nat, M.2.2 a0 9 = some b25 ∧
  ∃ n26 : Nat, shp S b25 = some (50, n26) ∧ vp_in x5 n26 ∧
  (((M.1 b25 x5.toNatClampNeg) = 61 →
    ∃ b28 : Nat, M.2.2 a0 22 = some b28 ∧
    ∃ b29 : Nat, M.2.2 a0 10 = some b29 ∧
    ∃ n30 : Nat, shp S b29 = some (50, n30) ∧ vp_in x5 n30 ∧
    f_X11_worked S a0 x5 M (fun (r32 : Int32) (m31 : Mm) =>
      ∃ n33 : Nat, S[b28]? = some (50, n33) ∧ vp_in (M.1 b29 x5.toNatClampNeg) n33 ∧
    ∀ m34 : Mm, m34 = stI m31 b28 (M.1 b29 x5.toNatClampNeg).toNatClampNeg (r32 &&& (255 : Int32)) →
    f_X11_does_J306 S a0 x1 x3 t0 m34 K)) ∧
   (¬ (M.1 b25 x5.toNatClampNeg) = 61 →
    (((M.1 b25 x5.toNatClampNeg) = 63 →
      f_X11_worked S a0 x5 M (fun (r54 : Int32) (m53 : Mm) =>
        ((r54 = 0 →
        f_X11_does_J213 S a0 x1 x3 x4 m53 K) ∧
       (¬ r54 = 0 →
        f_X11_does_J213 S a0 x1 x3 t0 m53 K)))) ∧
     (¬ (M.1 b25 x5.toNatClampNeg) = 63 →
      (((M.1 b25 x5.toNatClampNeg) = 106 →
        f_X11_worked S a0 x5 M (fun (r58 : Int32) (m57 : Mm) =>
          ((r58 = 0 →
          f_X11_does_J281 S a0 x1 x3 t0 m57 K) ∧
         (¬ r58 = 0 →
          ∃ b60 : Nat, m57.2.2 a0 10 = some b60 ∧
          ∃ n61 : Nat, shp S b60 = some (50, n61) ∧ vp_in x5 n61 ∧
          ∃ b62 : Nat, m57.2.2 a0 16 = some b62 ∧
          ∃ n63 : Nat, shp S b62 = some (50, n63) ∧ vp_in x1 n63 ∧
          (((m57.1 b62 x1.toNatClampNeg) ≤ (m57.1 b60 x5.toNatClampNeg) →
            f_X11_does_J281 S a0 x1 x3 (0 : Int32) m57 K) ∧
           (¬ (m57.1 b62 x1.toNatClampNeg) ≤ (m57.1 b60 x5.toNatClampNeg) →
            ∃ b65 : Nat, m57.2.2 a0 10 = some b65 ∧
            ∃ n66 : Nat, shp S b65 = some (50, n66) ∧ vp_in x5 n66 ∧
            f_X11_does_J281 S a0 x1 x3 (m57.1 b65 x5.toNatClampNeg) m57 K)))))) ∧
       (¬ (M.1 b25 x5.toNatClampNeg) = 106 →
        (((M.1 b25 x5.toNatClampNeg) = 109 →
          ∃ b68 : Nat, M.2.2 a0 10 = some b68 ∧
          ∃ n69 : Nat, shp S b68 = some (50, n69) ∧ vp_in x5 n69 ∧
          f_X11_worked S a0 x5 M (fun (r71 : Int32) (m70 : Mm) =>
            f_X11_moves S a0 (M.1 b68 x5.toNatClampNeg) (r71 &&& (3 : Int32)) m70 (fun (m72 : Mm) =>
            f_X11_does_J306 S a0 x1 x3 t0 m72 K))) ∧
         (¬ (M.1 b25 x5.toNatClampNeg) = 109 →
          (((M.1 b25 x5.toNatClampNeg) = 115 →
            ∃ b74 : Nat, M.2.2 a0 10 = some b74 ∧
            ∃ n75 : Nat, shp S b74 = some (50, n75) ∧ vp_in x5 n75 ∧
            ∀ m76 : Mm, m76 = stI M a0 30 ((M.1 b74 x5.toNatClampNeg) + (1 : Int32)) →
            f_X11_does_J306 S a0 x1 x3 t0 m76 K) ∧
           (¬ (M.1 b25 x5.toNatClampNeg) = 115 →
            f_X11_fires S a0  M (fun (m77 : Mm) =>
              f_X11_does_J306 S a0 x1 x3 t0 m77 K)))))))))))
set_option maxHeartbeats 4000000 in
set_option maxRecDepth 100000 in
theorem w_X11_does_J113 {p : Program} {l : Launch} {e : Env} {s : State} {m : MethodId} {args : Array Value} {below : List Frame} {meth : Method} {c : Code} {g : Gg} {S : Ss} (a0 : Nat) (x1 : Int32) (x3 : Int32) (x4 : Int32) (x5 : Int32) (t0 : Int32) (M : Mm) (K : Mm → Prop) (E : EN p s m args meth c cX11_does 8 none RX11 g) (hw : ad g 100000 < s.heap.size) (hs0 : S[a0]? = some (10, 0)) (hf : f_X11_does_J113 S a0 x1 x3 x4 x5 t0 M K) (H : Heap) (locs : List Loc) (ls : Array Slot) (hR : RP g S M H) (hS : va_S (gA g) s.heap H locs) (hl : lv_has ls 8 [(0, .ref (ad g a0)), (1, .int x1), (3, .int x3), (4, .int x4), (5, .int x5)]) : W p l e (rmD 4) s m args below meth c H locs 0 0 (MQ below (QA g S (pV K)) args s 0 0 (gA g)) (F0 m 113 ls [.int t0]) := by
  have hx := E.1
  have hb := E.2.1
  unfold f_X11_does_J113 at hf
  refine lv_istore (lv' := [(6, .int t0), (0, .ref (ad g a0)), (1, .int x1), (3, .int x3), (4, .int x4), (5, .int x5)]) hx hb dX11_does_113 hl (by decide) rfl (fun ls hl => ?_)
  refine lv_aload_n hx hb dX11_does_115 rfl (lv_at hl 1 rfl) ?_
  obtain ⟨b25, hb25, hf⟩ := hf
  refine hw_getR E hR cI10 hs0 9 (by decide) lfX11_107 rfl hb25 dX11_does_116 ?_
  refine lv_iload hx hb dX11_does_119 (lv_at hl 5 rfl) ?_
  obtain ⟨n26, hn26, in26, hf⟩ := hf
  refine hw_iald E hR hS hn26 in26 dX11_does_121 ?_
  rcases Decidable.em ((M.1 b25 x5.toNatClampNeg) = 61) with w27 | w27
  · replace hf := hf.1 w27
    refine lv_lookup (off := 50) (tgt := 172) hx hb dX11_does_122 (by decide) (by rw [w27]; try rfl) (by decide) ?_
    refine lv_aload_n hx hb dX11_does_172 rfl (lv_at hl 1 rfl) ?_
    obtain ⟨b28, hb28, hf⟩ := hf
    refine hw_getR E hR cI10 hs0 22 (by decide) lfX11_164 rfl hb28 dX11_does_173 ?_
    refine lv_aload_n hx hb dX11_does_176 rfl (lv_at hl 1 rfl) ?_
    obtain ⟨b29, hb29, hf⟩ := hf
    refine hw_getR E hR cI10 hs0 10 (by decide) lfX11_104 rfl hb29 dX11_does_177 ?_
    refine lv_iload hx hb dX11_does_180 (lv_at hl 5 rfl) ?_
    obtain ⟨n30, hn30, in30, hf⟩ := hf
    refine hw_iald E hR hS hn30 in30 dX11_does_182 ?_
    refine lv_aload_n hx hb dX11_does_183 rfl (lv_at hl 1 rfl) ?_
    refine lv_iload hx hb dX11_does_184 (lv_at hl 5 rfl) ?_
    refine hw_callV (d := 4) E hR hS (As := [.int x5]) (rest := [.int (M.1 b29 x5.toNatClampNeg), .ref (ad g b28)]) cI10 hs0 rfl mcX11_worked miX11_worked lmX11_195 (ok_X11_worked hs0 hf) rfl rfl (by decide) hl.1 (Nat.le_of_ble_eq_true rfl) dX11_does_186 (fun rr m31 H locs hp hR hS => ?_)
    obtain ⟨r32, rfl, hf⟩ := hp
    refine W.eq (g2 := F0 m 189 ls [.int r32, .int (M.1 b29 x5.toNatClampNeg), .ref (ad g b28)]) rfl ?_
    refine lv_sipush (v := 255) hx hb dX11_does_189 (by decide) ?_
    refine lv_iand hx hb dX11_does_192 ?_
    obtain ⟨n33, hn33, in33, hf⟩ := hf
    refine hw_iast E hR hS hw hn33 in33 dX11_does_193 (fun m34 H locs em34 hR hS => ?_)
    replace hf := hf m34 em34
    refine lv_goto (tgt := 306) hx hb dX11_does_194 (by decide) ?_
    exact w_X11_does_J306 _ _ _ _ _ _ E hw hs0 hf _ _ _ hR hS (lv_sub hl [1, 2, 3, 0] rfl)
  · replace hf := hf.2 w27
    rcases Decidable.em ((M.1 b25 x5.toNatClampNeg) = 63) with w52 | w52
    · replace hf := hf.1 w52
      refine lv_lookup (off := 75) (tgt := 197) hx hb dX11_does_122 (by decide) (by rw [w52]; try rfl) (by decide) ?_
      refine lv_aload_n hx hb dX11_does_197 rfl (lv_at hl 1 rfl) ?_
      refine lv_iload hx hb dX11_does_198 (lv_at hl 5 rfl) ?_
      refine hw_callV (d := 4) E hR hS (As := [.int x5]) (rest := []) cI10 hs0 rfl mcX11_worked miX11_worked lmX11_195 (ok_X11_worked hs0 hf) rfl rfl (by decide) hl.1 (Nat.le_of_ble_eq_true rfl) dX11_does_200 (fun rr m53 H locs hp hR hS => ?_)
      obtain ⟨r54, rfl, hf⟩ := hp
      refine W.eq (g2 := F0 m 203 ls [.int r54]) rfl ?_
      refine lv_if_eq (tgt := 211) hx hb dX11_does_203 (by decide) (fun c55 => ?_) (fun c55 => ?_)
      · replace hf := hf.1 c55
        refine lv_iload hx hb dX11_does_211 (lv_at hl 4 rfl) ?_
        exact w_X11_does_J213 _ _ _ _ _ _ E hw hs0 hf _ _ _ hR hS (lv_sub hl [1, 2, 3] rfl)
      · replace hf := hf.2 c55
        refine lv_iload hx hb dX11_does_206 (lv_at hl 0 rfl) ?_
        refine lv_goto (tgt := 213) hx hb dX11_does_208 (by decide) ?_
        exact w_X11_does_J213 _ _ _ _ _ _ E hw hs0 hf _ _ _ hR hS (lv_sub hl [1, 2, 3] rfl)
    · replace hf := hf.2 w52
      rcases Decidable.em ((M.1 b25 x5.toNatClampNeg) = 106) with w56 | w56
      · replace hf := hf.1 w56
        refine lv_lookup (off := 118) (tgt := 240) hx hb dX11_does_122 (by decide) (by rw [w56]; try rfl) (by decide) ?_
        refine lv_aload_n hx hb dX11_does_240 rfl (lv_at hl 1 rfl) ?_
        refine lv_iload hx hb dX11_does_241 (lv_at hl 5 rfl) ?_
        refine hw_callV (d := 4) E hR hS (As := [.int x5]) (rest := []) cI10 hs0 rfl mcX11_worked miX11_worked lmX11_195 (ok_X11_worked hs0 hf) rfl rfl (by decide) hl.1 (Nat.le_of_ble_eq_true rfl) dX11_does_243 (fun rr m57 H locs hp hR hS => ?_)
        obtain ⟨r58, rfl, hf⟩ := hp
        refine W.eq (g2 := F0 m 246 ls [.int r58]) rfl ?_
        refine lv_if_ne (tgt := 254) hx hb dX11_does_246 (by decide) (fun c59 => ?_) (fun c59 => ?_)
        · replace hf := hf.2 c59
          refine lv_aload_n hx hb dX11_does_254 rfl (lv_at hl 1 rfl) ?_
          obtain ⟨b60, hb60, hf⟩ := hf
          refine hw_getR E hR cI10 hs0 10 (by decide) lfX11_104 rfl hb60 dX11_does_255 ?_
          refine lv_iload hx hb dX11_does_258 (lv_at hl 5 rfl) ?_
          obtain ⟨n61, hn61, in61, hf⟩ := hf
          refine hw_iald E hR hS hn61 in61 dX11_does_260 ?_
          refine lv_aload_n hx hb dX11_does_261 rfl (lv_at hl 1 rfl) ?_
          obtain ⟨b62, hb62, hf⟩ := hf
          refine hw_getR E hR cI10 hs0 16 (by decide) lfX11_142 rfl hb62 dX11_does_262 ?_
          refine lv_iload_n hx hb dX11_does_265 rfl (lv_at hl 2 rfl) ?_
          obtain ⟨n63, hn63, in63, hf⟩ := hf
          refine hw_iald E hR hS hn63 in63 dX11_does_266 ?_
          refine lv_icmp_ge (tgt := 280) hx hb dX11_does_267 (by decide) (fun c64 => ?_) (fun c64 => ?_)
          · replace hf := hf.1 c64
            refine lv_iconst (v := 0) hx hb dX11_does_280 (by decide) ?_
            exact w_X11_does_J281 _ _ _ _ _ _ E hw hs0 hf _ _ _ hR hS (lv_sub hl [1, 2, 3] rfl)
          · replace hf := hf.2 c64
            refine lv_aload_n hx hb dX11_does_270 rfl (lv_at hl 1 rfl) ?_
            obtain ⟨b65, hb65, hf⟩ := hf
            refine hw_getR E hR cI10 hs0 10 (by decide) lfX11_104 rfl hb65 dX11_does_271 ?_
            refine lv_iload hx hb dX11_does_274 (lv_at hl 5 rfl) ?_
            obtain ⟨n66, hn66, in66, hf⟩ := hf
            refine hw_iald E hR hS hn66 in66 dX11_does_276 ?_
            refine lv_goto (tgt := 281) hx hb dX11_does_277 (by decide) ?_
            exact w_X11_does_J281 _ _ _ _ _ _ E hw hs0 hf _ _ _ hR hS (lv_sub hl [1, 2, 3] rfl)
        · replace hf := hf.1 c59
          refine lv_iload hx hb dX11_does_249 (lv_at hl 0 rfl) ?_
          refine lv_goto (tgt := 281) hx hb dX11_does_251 (by decide) ?_
          exact w_X11_does_J281 _ _ _ _ _ _ E hw hs0 hf _ _ _ hR hS (lv_sub hl [1, 2, 3] rfl)
      · replace hf := hf.2 w56
        rcases Decidable.em ((M.1 b25 x5.toNatClampNeg) = 109) with w67 | w67
        · replace hf := hf.1 w67
          refine lv_lookup (off := 96) (tgt := 218) hx hb dX11_does_122 (by decide) (by rw [w67]; try rfl) (by decide) ?_
          refine lv_aload_n hx hb dX11_does_218 rfl (lv_at hl 1 rfl) ?_
          refine lv_aload_n hx hb dX11_does_219 rfl (lv_at hl 1 rfl) ?_
          obtain ⟨b68, hb68, hf⟩ := hf
          refine hw_getR E hR cI10 hs0 10 (by decide) lfX11_104 rfl hb68 dX11_does_220 ?_
          refine lv_iload hx hb dX11_does_223 (lv_at hl 5 rfl) ?_
          obtain ⟨n69, hn69, in69, hf⟩ := hf
          refine hw_iald E hR hS hn69 in69 dX11_does_225 ?_
          refine lv_aload_n hx hb dX11_does_226 rfl (lv_at hl 1 rfl) ?_
          refine lv_iload hx hb dX11_does_227 (lv_at hl 5 rfl) ?_
          refine hw_callV (d := 4) E hR hS (As := [.int x5]) (rest := [.int (M.1 b68 x5.toNatClampNeg), .ref (ad g a0)]) cI10 hs0 rfl mcX11_worked miX11_worked lmX11_195 (ok_X11_worked hs0 hf) rfl rfl (by decide) hl.1 (Nat.le_of_ble_eq_true rfl) dX11_does_229 (fun rr m70 H locs hp hR hS => ?_)
          obtain ⟨r71, rfl, hf⟩ := hp
          refine W.eq (g2 := F0 m 232 ls [.int r71, .int (M.1 b68 x5.toNatClampNeg), .ref (ad g a0)]) rfl ?_
          refine lv_iconst (v := 3) hx hb dX11_does_232 (by decide) ?_
          refine lv_iand hx hb dX11_does_233 ?_
          refine hw_callV (d := 4) E hR hS (As := [.int (M.1 b68 x5.toNatClampNeg), .int (r71 &&& (3 : Int32))]) (rest := []) cI10 hs0 rfl mcX11_moves miX11_moves lmX11_223 (ok_X11_moves hs0 hf) rfl rfl (by decide) hl.1 (Nat.le_of_ble_eq_true rfl) dX11_does_234 (fun rr m72 H locs hp hR hS => ?_)
          obtain ⟨rfl, hf⟩ := hp
          refine W.eq (g2 := F0 m 237 ls []) rfl ?_
          refine lv_goto (tgt := 306) hx hb dX11_does_237 (by decide) ?_
          exact w_X11_does_J306 _ _ _ _ _ _ E hw hs0 hf _ _ _ hR hS (lv_sub hl [1, 2, 3, 0] rfl)
        · replace hf := hf.2 w67
          rcases Decidable.em ((M.1 b25 x5.toNatClampNeg) = 115) with w73 | w73
          · replace hf := hf.1 w73
            refine lv_lookup (off := 164) (tgt := 286) hx hb dX11_does_122 (by decide) (by rw [w73]; try rfl) (by decide) ?_
            refine lv_aload_n hx hb dX11_does_286 rfl (lv_at hl 1 rfl) ?_
            refine lv_aload_n hx hb dX11_does_287 rfl (lv_at hl 1 rfl) ?_
            obtain ⟨b74, hb74, hf⟩ := hf
            refine hw_getR E hR cI10 hs0 10 (by decide) lfX11_104 rfl hb74 dX11_does_288 ?_
            refine lv_iload hx hb dX11_does_291 (lv_at hl 5 rfl) ?_
            obtain ⟨n75, hn75, in75, hf⟩ := hf
            refine hw_iald E hR hS hn75 in75 dX11_does_293 ?_
            refine lv_iconst (v := 1) hx hb dX11_does_294 (by decide) ?_
            refine lv_iadd hx hb dX11_does_295 ?_
            refine hw_putI E hR hS hw cI10 hs0 30 (by decide) lfX11_179 rfl (Or.inl rfl) dX11_does_296 (fun m76 H locs em76 hR hS => ?_)
            replace hf := hf m76 em76
            refine lv_goto (tgt := 306) hx hb dX11_does_299 (by decide) ?_
            exact w_X11_does_J306 _ _ _ _ _ _ E hw hs0 hf _ _ _ hR hS (lv_sub hl [1, 2, 3, 0] rfl)
          · replace hf := hf.2 w73
            refine lv_lookup (off := 180) (tgt := 302) hx hb dX11_does_122 (by decide) (by rw [lv_osw w27 (by decide)]; rw [lv_osw w52 (by decide)]; rw [lv_osw w56 (by decide)]; rw [lv_osw w67 (by decide)]; rw [lv_osw w73 (by decide)]; try rfl) (by decide) ?_
            refine lv_aload_n hx hb dX11_does_302 rfl (lv_at hl 1 rfl) ?_
            refine hw_callV (d := 4) E hR hS (As := []) (rest := []) cI10 hs0 rfl mcX11_fires miX11_fires lmX11_226 (ok_X11_fires hs0 hf) rfl rfl (by decide) hl.1 (Nat.le_of_ble_eq_true rfl) dX11_does_303 (fun rr m77 H locs hp hR hS => ?_)
            obtain ⟨rfl, hf⟩ := hp
            refine W.eq (g2 := F0 m 306 ls []) rfl ?_
            exact w_X11_does_J306 _ _ _ _ _ _ E hw hs0 hf _ _ _ hR hS (lv_sub hl [1, 2, 3, 0] rfl)
def f_X11_does_J75 (S : Ss) (a0 : Nat) (x1 : Int32) (x3 : Int32) (M : Mm) (K : Mm → Prop) : Prop :=
  ∃ b17 : Nat, M.2.2 a0 25 = some b17 ∧
  ∃ n18 : Nat, shp S b17 = some (50, n18) ∧ vp_in x1 n18 ∧
  ∀ v19 : Int32, v19 = (M.1 b17 x1.toNatClampNeg) →
  f_X11_rowOfLine S a0 x1 v19 M (fun (r21 : Int32) (m20 : Mm) =>
    ∃ b22 : Nat, m20.2.2 a0 16 = some b22 ∧
  ∃ n23 : Nat, shp S b22 = some (50, n23) ∧ vp_in x1 n23 ∧
  (((m20.1 b22 x1.toNatClampNeg) ≤ (v19 + (1 : Int32)) →
    f_X11_does_J113 S a0 x1 x3 v19 r21 (0 : Int32) m20 K) ∧
   (¬ (m20.1 b22 x1.toNatClampNeg) ≤ (v19 + (1 : Int32)) →
    f_X11_does_J113 S a0 x1 x3 v19 r21 (v19 + (1 : Int32)) m20 K)))
set_option maxHeartbeats 4000000 in
set_option maxRecDepth 100000 in
theorem w_X11_does_J75 {p : Program} {l : Launch} {e : Env} {s : State} {m : MethodId} {args : Array Value} {below : List Frame} {meth : Method} {c : Code} {g : Gg} {S : Ss} (a0 : Nat) (x1 : Int32) (x3 : Int32) (M : Mm) (K : Mm → Prop) (E : EN p s m args meth c cX11_does 8 none RX11 g) (hw : ad g 100000 < s.heap.size) (hs0 : S[a0]? = some (10, 0)) (hf : f_X11_does_J75 S a0 x1 x3 M K) (H : Heap) (locs : List Loc) (ls : Array Slot) (hR : RP g S M H) (hS : va_S (gA g) s.heap H locs) (hl : lv_has ls 8 [(0, .ref (ad g a0)), (1, .int x1), (3, .int x3)]) : W p l e (rmD 4) s m args below meth c H locs 0 0 (MQ below (QA g S (pV K)) args s 0 0 (gA g)) (F0 m 75 ls []) := by
  have hx := E.1
  have hb := E.2.1
  unfold f_X11_does_J75 at hf
  refine lv_aload_n hx hb dX11_does_75 rfl (lv_at hl 0 rfl) ?_
  obtain ⟨b17, hb17, hf⟩ := hf
  refine hw_getR E hR cI10 hs0 25 (by decide) lfX11_145 rfl hb17 dX11_does_76 ?_
  refine lv_iload_n hx hb dX11_does_79 rfl (lv_at hl 1 rfl) ?_
  obtain ⟨n18, hn18, in18, hf⟩ := hf
  refine hw_iald E hR hS hn18 in18 dX11_does_80 ?_
  refine lv_topi (fun v19 ev19 => ?_)
  replace hf := hf v19 ev19
  refine lv_istore (lv' := [(4, .int v19), (0, .ref (ad g a0)), (1, .int x1), (3, .int x3)]) hx hb dX11_does_81 hl (by decide) rfl (fun ls hl => ?_)
  refine lv_aload_n hx hb dX11_does_83 rfl (lv_at hl 1 rfl) ?_
  refine lv_iload_n hx hb dX11_does_84 rfl (lv_at hl 2 rfl) ?_
  refine lv_iload hx hb dX11_does_85 (lv_at hl 0 rfl) ?_
  refine hw_callV (d := 4) E hR hS (As := [.int x1, .int v19]) (rest := []) cI10 hs0 rfl mcX11_rowOfLine miX11_rowOfLine lmX11_220 (ok_X11_rowOfLine hs0 hf) rfl rfl (by decide) hl.1 (Nat.le_of_ble_eq_true rfl) dX11_does_87 (fun rr m20 H locs hp hR hS => ?_)
  obtain ⟨r21, rfl, hf⟩ := hp
  refine W.eq (g2 := F0 m 90 ls [.int r21]) rfl ?_
  refine lv_istore (lv' := [(5, .int r21), (4, .int v19), (0, .ref (ad g a0)), (1, .int x1), (3, .int x3)]) hx hb dX11_does_90 hl (by decide) rfl (fun ls hl => ?_)
  refine lv_iload hx hb dX11_does_92 (lv_at hl 1 rfl) ?_
  refine lv_iconst (v := 1) hx hb dX11_does_94 (by decide) ?_
  refine lv_iadd hx hb dX11_does_95 ?_
  refine lv_aload_n hx hb dX11_does_96 rfl (lv_at hl 2 rfl) ?_
  obtain ⟨b22, hb22, hf⟩ := hf
  refine hw_getR E hR cI10 hs0 16 (by decide) lfX11_142 rfl hb22 dX11_does_97 ?_
  refine lv_iload_n hx hb dX11_does_100 rfl (lv_at hl 3 rfl) ?_
  obtain ⟨n23, hn23, in23, hf⟩ := hf
  refine hw_iald E hR hS hn23 in23 dX11_does_101 ?_
  refine lv_icmp_ge (tgt := 112) hx hb dX11_does_102 (by decide) (fun c24 => ?_) (fun c24 => ?_)
  · replace hf := hf.1 c24
    refine lv_iconst (v := 0) hx hb dX11_does_112 (by decide) ?_
    exact w_X11_does_J113 _ _ _ _ _ _ _ _ E hw hs0 hf _ _ _ hR hS (lv_sub hl [2, 3, 4, 1, 0] rfl)
  · replace hf := hf.2 c24
    refine lv_iload hx hb dX11_does_105 (lv_at hl 1 rfl) ?_
    refine lv_iconst (v := 1) hx hb dX11_does_107 (by decide) ?_
    refine lv_iadd hx hb dX11_does_108 ?_
    refine lv_goto (tgt := 113) hx hb dX11_does_109 (by decide) ?_
    exact w_X11_does_J113 _ _ _ _ _ _ _ _ E hw hs0 hf _ _ _ hR hS (lv_sub hl [2, 3, 4, 1, 0] rfl)
def f_X11_does (S : Ss) (a0 : Nat) (x1 : Int32) (x2 : Int32) (M : Mm) (K : Mm → Prop) : Prop :=
  ∃ n81 : Nat, f_X11_does_L5 S a0 x1 x2 (fun (v9 : Int32) (m10 : Mm) =>
    ∀ m11 : Mm, m11 = stI m10 a0 28 (0 : Int32) →
    ∀ m12 : Mm, m12 = stI m11 a0 29 (0 : Int32) →
    ∀ m13 : Mm, m13 = stI m12 a0 30 (0 : Int32) →
    ∀ m14 : Mm, m14 = stI m13 a0 31 x1 →
    ∀ m15 : Mm, m15 = stI m14 a0 37 (0 : Int32) →
    ((x2 ≤ 0 →
      f_X11_does_J75 S a0 x1 v9 m15 K) ∧
     (¬ x2 ≤ 0 →
      ∃ b78 : Nat, m15.2.2 a0 22 = some b78 ∧
      ∃ n79 : Nat, S[b78]? = some (50, n79) ∧ vp_in (7 : Int32) n79 ∧
      ∀ m80 : Mm, m80 = stI m15 b78 (7 : Int32).toNatClampNeg x2 →
      f_X11_does_J75 S a0 x1 v9 m80 K))) K n81 (0 : Int32) (0 : Int32) M
set_option maxHeartbeats 4000000 in
set_option maxRecDepth 100000 in
theorem ok_X11_does {l : Launch} {g : Gg} {S : Ss} {a0 : Nat} {x1 : Int32} {x2 : Int32} {M : Mm} {K : Mm → Prop} (hs0 : S[a0]? = some (10, 0)) (hf : f_X11_does S a0 x1 x2 M K) : MT l g S yX11_does cX11_does 8 none 4 [.ref (ad g a0), .int x1, .int x2] M (pV K) := by
  refine MT.of (by decide +kernel) (Nat.le_of_ble_eq_true rfl) ?_
  intro p e s m below meth c ls E hw hR hS hl
  have hl : lv_has ls 8 [(0, .ref (ad g a0)), (1, .int x1), (2, .int x2)] := hl
  generalize ([.ref (ad g a0), .int x1, .int x2] : List Value).toArray = args at E ⊢
  have E : EN p s m args meth c cX11_does 8 none RX11 g := E
  have hx := E.1
  have hb := E.2.1
  unfold f_X11_does at hf
  refine lv_iconst (v := 0) hx hb dX11_does_0 (by decide) ?_
  refine lv_istore_n (lv' := [(3, .int (0 : Int32)), (0, .ref (ad g a0)), (1, .int x1), (2, .int x2)]) hx hb dX11_does_1 rfl hl (by decide) rfl (fun ls hl => ?_)
  refine lv_iconst (v := 0) hx hb dX11_does_2 (by decide) ?_
  refine lv_istore (lv' := [(4, .int (0 : Int32)), (3, .int (0 : Int32)), (0, .ref (ad g a0)), (1, .int x1), (2, .int x2)]) hx hb dX11_does_3 hl (by decide) rfl (fun ls hl => ?_)
  obtain ⟨n81, hf⟩ := hf
  refine w_X11_does_L5 _ _ _ _ _ E hw hs0 ?_ n81 _ _ _ hf _ _ _ hR hS (lv_sub hl [2, 3, 4, 1, 0] rfl)
  intro v9 m10 H locs ls hf hR hS hl
  refine lv_aload_n hx hb dX11_does_38 rfl (lv_at hl 0 rfl) ?_
  refine lv_iconst (v := 0) hx hb dX11_does_39 (by decide) ?_
  refine hw_putI E hR hS hw cI10 hs0 28 (by decide) lfX11_173 rfl (Or.inl rfl) dX11_does_40 (fun m11 H locs em11 hR hS => ?_)
  replace hf := hf m11 em11
  refine lv_aload_n hx hb dX11_does_43 rfl (lv_at hl 0 rfl) ?_
  refine lv_iconst (v := 0) hx hb dX11_does_44 (by decide) ?_
  refine hw_putI E hR hS hw cI10 hs0 29 (by decide) lfX11_176 rfl (Or.inl rfl) dX11_does_45 (fun m12 H locs em12 hR hS => ?_)
  replace hf := hf m12 em12
  refine lv_aload_n hx hb dX11_does_48 rfl (lv_at hl 0 rfl) ?_
  refine lv_iconst (v := 0) hx hb dX11_does_49 (by decide) ?_
  refine hw_putI E hR hS hw cI10 hs0 30 (by decide) lfX11_179 rfl (Or.inl rfl) dX11_does_50 (fun m13 H locs em13 hR hS => ?_)
  replace hf := hf m13 em13
  refine lv_aload_n hx hb dX11_does_53 rfl (lv_at hl 0 rfl) ?_
  refine lv_iload_n hx hb dX11_does_54 rfl (lv_at hl 1 rfl) ?_
  refine hw_putI E hR hS hw cI10 hs0 31 (by decide) lfX11_182 rfl (Or.inl rfl) dX11_does_55 (fun m14 H locs em14 hR hS => ?_)
  replace hf := hf m14 em14
  refine lv_aload_n hx hb dX11_does_58 rfl (lv_at hl 0 rfl) ?_
  refine lv_iconst (v := 0) hx hb dX11_does_59 (by decide) ?_
  refine hw_putI E hR hS hw cI10 hs0 37 (by decide) lfX11_214 rfl (Or.inl rfl) dX11_does_60 (fun m15 H locs em15 hR hS => ?_)
  replace hf := hf m15 em15
  refine lv_iload_n hx hb dX11_does_63 rfl (lv_at hl 2 rfl) ?_
  refine lv_if_le (tgt := 75) hx hb dX11_does_64 (by decide) (fun c16 => ?_) (fun c16 => ?_)
  · replace hf := hf.1 c16
    exact w_X11_does_J75 _ _ _ _ _ E hw hs0 hf _ _ _ hR hS (lv_sub hl [0, 1, 3] rfl)
  · replace hf := hf.2 c16
    refine lv_aload_n hx hb dX11_does_67 rfl (lv_at hl 0 rfl) ?_
    obtain ⟨b78, hb78, hf⟩ := hf
    refine hw_getR E hR cI10 hs0 22 (by decide) lfX11_164 rfl hb78 dX11_does_68 ?_
    refine lv_bipush (v := 7) hx hb dX11_does_71 (by decide) ?_
    refine lv_iload_n hx hb dX11_does_73 rfl (lv_at hl 2 rfl) ?_
    obtain ⟨n79, hn79, in79, hf⟩ := hf
    refine hw_iast E hR hS hw hn79 in79 dX11_does_74 (fun m80 H locs em80 hR hS => ?_)
    replace hf := hf m80 em80
    exact w_X11_does_J75 _ _ _ _ _ E hw hs0 hf _ _ _ hR hS (lv_sub hl [0, 1, 3] rfl)
def f_X11_slot (S : Ss) (a0 : Nat) (x1 : Int32) (x2 : Int32) (M : Mm) (K : Int32 → Mm → Prop) : Prop :=
  ∀ m1 : Mm, m1 = stI M a0 0 (0 : Int32) →
  f_X11_in S  x1.toInt64 (0 : Int64) (7 : Int64) m1 (fun (r3 : Int32) (m2 : Mm) =>
    ((r3 = 0 →
    K (-1 : Int32) m2) ∧
   (¬ r3 = 0 →
    f_X11_in S  x2.toInt64 (0 : Int64) (255 : Int64) m2 (fun (r6 : Int32) (m5 : Mm) =>
      ((r6 = 0 →
      K (-1 : Int32) m5) ∧
     (¬ r6 = 0 →
      ∃ b8 : Nat, m5.2.2 a0 22 = some b8 ∧
      ∃ n9 : Nat, shp S b8 = some (50, n9) ∧ vp_in x1 n9 ∧
      ∀ v10 : Int32, v10 = (m5.1 b8 x1.toNatClampNeg) →
      ∃ b11 : Nat, m5.2.2 a0 22 = some b11 ∧
      ∃ n12 : Nat, S[b11]? = some (50, n12) ∧ vp_in x1 n12 ∧
      ∀ m13 : Mm, m13 = stI m5 b11 x1.toNatClampNeg x2 →
      K v10 m13))))))
set_option maxHeartbeats 4000000 in
set_option maxRecDepth 100000 in
theorem ok_X11_slot {l : Launch} {g : Gg} {S : Ss} {a0 : Nat} {x1 : Int32} {x2 : Int32} {M : Mm} {K : Int32 → Mm → Prop} (hs0 : S[a0]? = some (10, 0)) (hf : f_X11_slot S a0 x1 x2 M K) : MT l g S yX11_slot cX11_slot 4 (some .int) 1 [.ref (ad g a0), .int x1, .int x2] M (pI K) := by
  refine MT.of (by decide +kernel) (Nat.le_of_ble_eq_true rfl) ?_
  intro p e s m below meth c ls E hw hR hS hl
  have hl : lv_has ls 4 [(0, .ref (ad g a0)), (1, .int x1), (2, .int x2)] := hl
  generalize ([.ref (ad g a0), .int x1, .int x2] : List Value).toArray = args at E ⊢
  have E : EN p s m args meth c cX11_slot 4 (some .int) RX11 g := E
  have hx := E.1
  have hb := E.2.1
  unfold f_X11_slot at hf
  refine lv_aload_n hx hb dX11_slot_0 rfl (lv_at hl 0 rfl) ?_
  refine lv_iconst (v := 0) hx hb dX11_slot_1 (by decide) ?_
  refine hw_putI E hR hS hw cI10 hs0 0 (by decide) lfX11_3 rfl (Or.inl rfl) dX11_slot_2 (fun m1 H locs em1 hR hS => ?_)
  replace hf := hf m1 em1
  refine lv_iload_n hx hb dX11_slot_5 rfl (lv_at hl 1 rfl) ?_
  refine lv_i2l hx hb dX11_slot_6 rfl ?_
  refine lv_lconst (v := 0) hx hb dX11_slot_7 (by decide) ?_
  refine lv_ldc2 (v := 7) hx hb E.2.2.2.2.1 (E.2.2.2.2.2.1 _ ljX11_229) dX11_slot_8 ?_
  refine hw_callS (d := 1) E hR hS (As := [.long x1.toInt64, .long (0 : Int64), .long (7 : Int64)]) (rest := []) mcX11_in msX11_in lmX11_21 (ok_X11_in  hf) rfl rfl (by decide) hl.1 (Nat.le_of_ble_eq_true rfl) dX11_slot_11 (fun rr m2 H locs hp hR hS => ?_)
  obtain ⟨r3, rfl, hf⟩ := hp
  refine W.eq (g2 := F0 m 14 ls [.int r3]) rfl ?_
  refine lv_if_eq (tgt := 29) hx hb dX11_slot_14 (by decide) (fun c4 => ?_) (fun c4 => ?_)
  · replace hf := hf.1 c4
    refine lv_iconst (v := -1) hx hb dX11_slot_29 (by decide) ?_
    exact hw_iret E hR hS ⟨_, rfl, hf⟩ dX11_slot_30
  · replace hf := hf.2 c4
    refine lv_iload_n hx hb dX11_slot_17 rfl (lv_at hl 2 rfl) ?_
    refine lv_i2l hx hb dX11_slot_18 rfl ?_
    refine lv_lconst (v := 0) hx hb dX11_slot_19 (by decide) ?_
    refine lv_ldc2 (v := 255) hx hb E.2.2.2.2.1 (E.2.2.2.2.2.1 _ ljX11_231) dX11_slot_20 ?_
    refine hw_callS (d := 1) E hR hS (As := [.long x2.toInt64, .long (0 : Int64), .long (255 : Int64)]) (rest := []) mcX11_in msX11_in lmX11_21 (ok_X11_in  hf) rfl rfl (by decide) hl.1 (Nat.le_of_ble_eq_true rfl) dX11_slot_23 (fun rr m5 H locs hp hR hS => ?_)
    obtain ⟨r6, rfl, hf⟩ := hp
    refine W.eq (g2 := F0 m 26 ls [.int r6]) rfl ?_
    refine lv_if_ne (tgt := 31) hx hb dX11_slot_26 (by decide) (fun c7 => ?_) (fun c7 => ?_)
    · replace hf := hf.2 c7
      refine lv_aload_n hx hb dX11_slot_31 rfl (lv_at hl 0 rfl) ?_
      obtain ⟨b8, hb8, hf⟩ := hf
      refine hw_getR E hR cI10 hs0 22 (by decide) lfX11_164 rfl hb8 dX11_slot_32 ?_
      refine lv_iload_n hx hb dX11_slot_35 rfl (lv_at hl 1 rfl) ?_
      obtain ⟨n9, hn9, in9, hf⟩ := hf
      refine hw_iald E hR hS hn9 in9 dX11_slot_36 ?_
      refine lv_topi (fun v10 ev10 => ?_)
      replace hf := hf v10 ev10
      refine lv_istore_n (lv' := [(3, .int v10), (0, .ref (ad g a0)), (1, .int x1), (2, .int x2)]) hx hb dX11_slot_37 rfl hl (by decide) rfl (fun ls hl => ?_)
      refine lv_aload_n hx hb dX11_slot_38 rfl (lv_at hl 1 rfl) ?_
      obtain ⟨b11, hb11, hf⟩ := hf
      refine hw_getR E hR cI10 hs0 22 (by decide) lfX11_164 rfl hb11 dX11_slot_39 ?_
      refine lv_iload_n hx hb dX11_slot_42 rfl (lv_at hl 2 rfl) ?_
      refine lv_iload_n hx hb dX11_slot_43 rfl (lv_at hl 3 rfl) ?_
      obtain ⟨n12, hn12, in12, hf⟩ := hf
      refine hw_iast E hR hS hw hn12 in12 dX11_slot_44 (fun m13 H locs em13 hR hS => ?_)
      replace hf := hf m13 em13
      refine lv_iload_n hx hb dX11_slot_45 rfl (lv_at hl 0 rfl) ?_
      exact hw_iret E hR hS ⟨_, rfl, hf⟩ dX11_slot_46
    · replace hf := hf.1 c7
      refine lv_iconst (v := -1) hx hb dX11_slot_29 (by decide) ?_
      exact hw_iret E hR hS ⟨_, rfl, hf⟩ dX11_slot_30
def f_X11_speed (S : Ss) (a0 : Nat) (x1 : Int32) (x2 : Int32) (M : Mm) (K : Int32 → Mm → Prop) : Prop :=
  ∀ m1 : Mm, m1 = stI M a0 0 (0 : Int32) →
  f_X11_in S  x1.toInt64 (0 : Int64) (3 : Int64) m1 (fun (r3 : Int32) (m2 : Mm) =>
    ((r3 = 0 →
    K (-1 : Int32) m2) ∧
   (¬ r3 = 0 →
    f_X11_in S  x2.toInt64 (0 : Int64) (15 : Int64) m2 (fun (r6 : Int32) (m5 : Mm) =>
      ((r6 = 0 →
      K (-1 : Int32) m5) ∧
     (¬ r6 = 0 →
      ∃ b8 : Nat, m5.2.2 a0 26 = some b8 ∧
      ∃ n9 : Nat, shp S b8 = some (50, n9) ∧ vp_in x1 n9 ∧
      ∀ v10 : Int32, v10 = (m5.1 b8 x1.toNatClampNeg) →
      ∃ b11 : Nat, m5.2.2 a0 26 = some b11 ∧
      ∃ n12 : Nat, S[b11]? = some (50, n12) ∧ vp_in x1 n12 ∧
      ∀ m13 : Mm, m13 = stI m5 b11 x1.toNatClampNeg x2 →
      K v10 m13))))))
set_option maxHeartbeats 4000000 in
set_option maxRecDepth 100000 in
theorem ok_X11_speed {l : Launch} {g : Gg} {S : Ss} {a0 : Nat} {x1 : Int32} {x2 : Int32} {M : Mm} {K : Int32 → Mm → Prop} (hs0 : S[a0]? = some (10, 0)) (hf : f_X11_speed S a0 x1 x2 M K) : MT l g S yX11_speed cX11_speed 4 (some .int) 1 [.ref (ad g a0), .int x1, .int x2] M (pI K) := by
  refine MT.of (by decide +kernel) (Nat.le_of_ble_eq_true rfl) ?_
  intro p e s m below meth c ls E hw hR hS hl
  have hl : lv_has ls 4 [(0, .ref (ad g a0)), (1, .int x1), (2, .int x2)] := hl
  generalize ([.ref (ad g a0), .int x1, .int x2] : List Value).toArray = args at E ⊢
  have E : EN p s m args meth c cX11_speed 4 (some .int) RX11 g := E
  have hx := E.1
  have hb := E.2.1
  unfold f_X11_speed at hf
  refine lv_aload_n hx hb dX11_speed_0 rfl (lv_at hl 0 rfl) ?_
  refine lv_iconst (v := 0) hx hb dX11_speed_1 (by decide) ?_
  refine hw_putI E hR hS hw cI10 hs0 0 (by decide) lfX11_3 rfl (Or.inl rfl) dX11_speed_2 (fun m1 H locs em1 hR hS => ?_)
  replace hf := hf m1 em1
  refine lv_iload_n hx hb dX11_speed_5 rfl (lv_at hl 1 rfl) ?_
  refine lv_i2l hx hb dX11_speed_6 rfl ?_
  refine lv_lconst (v := 0) hx hb dX11_speed_7 (by decide) ?_
  refine lv_ldc2 (v := 3) hx hb E.2.2.2.2.1 (E.2.2.2.2.2.1 _ ljX11_233) dX11_speed_8 ?_
  refine hw_callS (d := 1) E hR hS (As := [.long x1.toInt64, .long (0 : Int64), .long (3 : Int64)]) (rest := []) mcX11_in msX11_in lmX11_21 (ok_X11_in  hf) rfl rfl (by decide) hl.1 (Nat.le_of_ble_eq_true rfl) dX11_speed_11 (fun rr m2 H locs hp hR hS => ?_)
  obtain ⟨r3, rfl, hf⟩ := hp
  refine W.eq (g2 := F0 m 14 ls [.int r3]) rfl ?_
  refine lv_if_eq (tgt := 29) hx hb dX11_speed_14 (by decide) (fun c4 => ?_) (fun c4 => ?_)
  · replace hf := hf.1 c4
    refine lv_iconst (v := -1) hx hb dX11_speed_29 (by decide) ?_
    exact hw_iret E hR hS ⟨_, rfl, hf⟩ dX11_speed_30
  · replace hf := hf.2 c4
    refine lv_iload_n hx hb dX11_speed_17 rfl (lv_at hl 2 rfl) ?_
    refine lv_i2l hx hb dX11_speed_18 rfl ?_
    refine lv_lconst (v := 0) hx hb dX11_speed_19 (by decide) ?_
    refine lv_ldc2 (v := 15) hx hb E.2.2.2.2.1 (E.2.2.2.2.2.1 _ ljX11_235) dX11_speed_20 ?_
    refine hw_callS (d := 1) E hR hS (As := [.long x2.toInt64, .long (0 : Int64), .long (15 : Int64)]) (rest := []) mcX11_in msX11_in lmX11_21 (ok_X11_in  hf) rfl rfl (by decide) hl.1 (Nat.le_of_ble_eq_true rfl) dX11_speed_23 (fun rr m5 H locs hp hR hS => ?_)
    obtain ⟨r6, rfl, hf⟩ := hp
    refine W.eq (g2 := F0 m 26 ls [.int r6]) rfl ?_
    refine lv_if_ne (tgt := 31) hx hb dX11_speed_26 (by decide) (fun c7 => ?_) (fun c7 => ?_)
    · replace hf := hf.2 c7
      refine lv_aload_n hx hb dX11_speed_31 rfl (lv_at hl 0 rfl) ?_
      obtain ⟨b8, hb8, hf⟩ := hf
      refine hw_getR E hR cI10 hs0 26 (by decide) lfX11_217 rfl hb8 dX11_speed_32 ?_
      refine lv_iload_n hx hb dX11_speed_35 rfl (lv_at hl 1 rfl) ?_
      obtain ⟨n9, hn9, in9, hf⟩ := hf
      refine hw_iald E hR hS hn9 in9 dX11_speed_36 ?_
      refine lv_topi (fun v10 ev10 => ?_)
      replace hf := hf v10 ev10
      refine lv_istore_n (lv' := [(3, .int v10), (0, .ref (ad g a0)), (1, .int x1), (2, .int x2)]) hx hb dX11_speed_37 rfl hl (by decide) rfl (fun ls hl => ?_)
      refine lv_aload_n hx hb dX11_speed_38 rfl (lv_at hl 1 rfl) ?_
      obtain ⟨b11, hb11, hf⟩ := hf
      refine hw_getR E hR cI10 hs0 26 (by decide) lfX11_217 rfl hb11 dX11_speed_39 ?_
      refine lv_iload_n hx hb dX11_speed_42 rfl (lv_at hl 2 rfl) ?_
      refine lv_iload_n hx hb dX11_speed_43 rfl (lv_at hl 3 rfl) ?_
      obtain ⟨n12, hn12, in12, hf⟩ := hf
      refine hw_iast E hR hS hw hn12 in12 dX11_speed_44 (fun m13 H locs em13 hR hS => ?_)
      replace hf := hf m13 em13
      refine lv_iload_n hx hb dX11_speed_45 rfl (lv_at hl 0 rfl) ?_
      exact hw_iret E hR hS ⟨_, rfl, hf⟩ dX11_speed_46
    · replace hf := hf.1 c7
      refine lv_iconst (v := -1) hx hb dX11_speed_29 (by decide) ?_
      exact hw_iret E hR hS ⟨_, rfl, hf⟩ dX11_speed_30
