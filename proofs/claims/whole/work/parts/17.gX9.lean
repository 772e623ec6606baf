def f_X9_add (S : Ss) (a0 : Nat) (x1 : Int32) (x2 : Int32) (M : Mm) (K : Int32 → Mm → Prop) : Prop :=
  (((M.1 a0 10) < (M.1 a0 11) →
    ∃ b2 : Nat, M.2.2 a0 2 = some b2 ∧
    ∃ b3 : Nat, M.2.2 a0 1 = some b3 ∧
    S[b3]? = some (3, 0) ∧
    ∃ n5 : Nat, S[b2]? = some (53, n5) ∧ vp_in (M.1 a0 10) n5 ∧
    ∀ m6 : Mm, m6 = stJ M b2 (M.1 a0 10).toNatClampNeg (M.2.1 b3 0) →
    ∃ b7 : Nat, m6.2.2 a0 3 = some b7 ∧
    ∃ b8 : Nat, m6.2.2 a0 1 = some b8 ∧
    S[b8]? = some (3, 0) ∧
    ∃ n10 : Nat, S[b7]? = some (53, n10) ∧ vp_in (m6.1 a0 10) n10 ∧
    ∀ m11 : Mm, m11 = stJ m6 b7 (m6.1 a0 10).toNatClampNeg (m6.2.1 b8 1) →
    ∃ b12 : Nat, m11.2.2 a0 4 = some b12 ∧
    ∃ n13 : Nat, S[b12]? = some (50, n13) ∧ vp_in (m11.1 a0 10) n13 ∧
    ∀ m14 : Mm, m14 = stI m11 b12 (m11.1 a0 10).toNatClampNeg x2 →
    ∃ b15 : Nat, m14.2.2 a0 5 = some b15 ∧
    ∃ n16 : Nat, S[b15]? = some (50, n16) ∧ vp_in (m14.1 a0 10) n16 ∧
    ∀ m17 : Mm, m17 = stI m14 b15 (m14.1 a0 10).toNatClampNeg x1 →
    ∃ b18 : Nat, m17.2.2 a0 8 = some b18 ∧
    ∃ n19 : Nat, S[b18]? = some (53, n19) ∧ vp_in (m17.1 a0 10) n19 ∧
    ∀ m20 : Mm, m20 = stJ m17 b18 (m17.1 a0 10).toNatClampNeg (0 : Int64) →
    ∀ m21 : Mm, m21 = stI m20 a0 10 ((m20.1 a0 10) + (1 : Int32)) →
    ∃ b22 : Nat, m21.2.2 a0 6 = some b22 ∧
    ∃ n23 : Nat, S[b22]? = some (50, n23) ∧ vp_in x1 n23 ∧
    ∀ m24 : Mm, m24 = stI m21 b22 x1.toNatClampNeg (m21.1 a0 10) →
    K ((m24.1 a0 10) - (1 : Int32)) m24) ∧
   (¬ (M.1 a0 10) < (M.1 a0 11) →
    K (-1 : Int32) M))
set_option maxHeartbeats 4000000 in
set_option maxRecDepth 100000 in
theorem ok_X9_add {l : Launch} {g : Gg} {S : Ss} {a0 : Nat} {x1 : Int32} {x2 : Int32} {M : Mm} {K : Int32 → Mm → Prop} (hs0 : S[a0]? = some (8, 0)) (hf : f_X9_add S a0 x1 x2 M K) : MT l g S yX9_add cX9_add 3 (some .int) 0 [.ref (ad g a0), .int x1, .int x2] M (pI K) := by
  refine MT.of (by decide +kernel) (Nat.le_of_ble_eq_true rfl) ?_
  intro p e s m below meth c ls E hw hR hS hl
  have hl : lv_has ls 3 [(0, .ref (ad g a0)), (1, .int x1), (2, .int x2)] := hl
  generalize ([.ref (ad g a0), .int x1, .int x2] : List Value).toArray = args at E ⊢
  have E : EN p s m args meth c cX9_add 3 (some .int) RX9 g := E
  have hx := E.1
  have hb := E.2.1
  unfold f_X9_add at hf
  refine lv_aload_n hx hb dX9_add_0 rfl (lv_at hl 0 rfl) ?_
  refine hw_getI E hR cI8 hs0 10 (by decide) lfX9_52 rfl dX9_add_1 ?_
  refine lv_aload_n hx hb dX9_add_4 rfl (lv_at hl 0 rfl) ?_
  refine hw_getI E hR cI8 hs0 11 (by decide) lfX9_56 rfl dX9_add_5 ?_
  refine lv_icmp_lt (tgt := 13) hx hb dX9_add_8 (by decide) (fun c1 => ?_) (fun c1 => ?_)
  · replace hf := hf.1 c1
    refine lv_aload_n hx hb dX9_add_13 rfl (lv_at hl 0 rfl) ?_
    obtain ⟨b2, hb2, hf⟩ := hf
    refine hw_getR E hR cI8 hs0 2 (by decide) lfX9_25 rfl hb2 dX9_add_14 ?_
    refine lv_aload_n hx hb dX9_add_17 rfl (lv_at hl 0 rfl) ?_
    refine hw_getI E hR cI8 hs0 10 (by decide) lfX9_52 rfl dX9_add_18 ?_
    refine lv_aload_n hx hb dX9_add_21 rfl (lv_at hl 0 rfl) ?_
    obtain ⟨b3, hb3, hf⟩ := hf
    refine hw_getR E hR cI8 hs0 1 (by decide) lfX9_21 rfl hb3 dX9_add_22 ?_
    obtain ⟨h4, hf⟩ := hf
    refine hw_getJ E hR cI3 h4 0 (by decide) lfX9_108 rfl dX9_add_25 ?_
    obtain ⟨n5, hn5, in5, hf⟩ := hf
    refine hw_last E hR hS hw hn5 in5 dX9_add_28 (fun m6 H locs em6 hR hS => ?_)
    replace hf := hf m6 em6
    refine lv_aload_n hx hb dX9_add_29 rfl (lv_at hl 0 rfl) ?_
    obtain ⟨b7, hb7, hf⟩ := hf
    refine hw_getR E hR cI8 hs0 3 (by decide) lfX9_29 rfl hb7 dX9_add_30 ?_
    refine lv_aload_n hx hb dX9_add_33 rfl (lv_at hl 0 rfl) ?_
    refine hw_getI E hR cI8 hs0 10 (by decide) lfX9_52 rfl dX9_add_34 ?_
    refine lv_aload_n hx hb dX9_add_37 rfl (lv_at hl 0 rfl) ?_
    obtain ⟨b8, hb8, hf⟩ := hf
    refine hw_getR E hR cI8 hs0 1 (by decide) lfX9_21 rfl hb8 dX9_add_38 ?_
    obtain ⟨h9, hf⟩ := hf
    refine hw_getJ E hR cI3 h9 1 (by decide) lfX9_110 rfl dX9_add_41 ?_
    obtain ⟨n10, hn10, in10, hf⟩ := hf
    refine hw_last E hR hS hw hn10 in10 dX9_add_44 (fun m11 H locs em11 hR hS => ?_)
    replace hf := hf m11 em11
    refine lv_aload_n hx hb dX9_add_45 rfl (lv_at hl 0 rfl) ?_
    obtain ⟨b12, hb12, hf⟩ := hf
    refine hw_getR E hR cI8 hs0 4 (by decide) lfX9_32 rfl hb12 dX9_add_46 ?_
    refine lv_aload_n hx hb dX9_add_49 rfl (lv_at hl 0 rfl) ?_
    refine hw_getI E hR cI8 hs0 10 (by decide) lfX9_52 rfl dX9_add_50 ?_
    refine lv_iload_n hx hb dX9_add_53 rfl (lv_at hl 2 rfl) ?_
    obtain ⟨n13, hn13, in13, hf⟩ := hf
    refine hw_iast E hR hS hw hn13 in13 dX9_add_54 (fun m14 H locs em14 hR hS => ?_)
    replace hf := hf m14 em14
    refine lv_aload_n hx hb dX9_add_55 rfl (lv_at hl 0 rfl) ?_
    obtain ⟨b15, hb15, hf⟩ := hf
    refine hw_getR E hR cI8 hs0 5 (by decide) lfX9_36 rfl hb15 dX9_add_56 ?_
    refine lv_aload_n hx hb dX9_add_59 rfl (lv_at hl 0 rfl) ?_
    refine hw_getI E hR cI8 hs0 10 (by decide) lfX9_52 rfl dX9_add_60 ?_
    refine lv_iload_n hx hb dX9_add_63 rfl (lv_at hl 1 rfl) ?_
    obtain ⟨n16, hn16, in16, hf⟩ := hf
    refine hw_iast E hR hS hw hn16 in16 dX9_add_64 (fun m17 H locs em17 hR hS => ?_)
    replace hf := hf m17 em17
    refine lv_aload_n hx hb dX9_add_65 rfl (lv_at hl 0 rfl) ?_
    obtain ⟨b18, hb18, hf⟩ := hf
    refine hw_getR E hR cI8 hs0 8 (by decide) lfX9_46 rfl hb18 dX9_add_66 ?_
    refine lv_aload_n hx hb dX9_add_69 rfl (lv_at hl 0 rfl) ?_
    refine hw_getI E hR cI8 hs0 10 (by decide) lfX9_52 rfl dX9_add_70 ?_
    refine lv_lconst (v := 0) hx hb dX9_add_73 (by decide) ?_
    obtain ⟨n19, hn19, in19, hf⟩ := hf
    refine hw_last E hR hS hw hn19 in19 dX9_add_74 (fun m20 H locs em20 hR hS => ?_)
    replace hf := hf m20 em20
    refine lv_aload_n hx hb dX9_add_75 rfl (lv_at hl 0 rfl) ?_
    refine lv_dup hx hb dX9_add_76 rfl ?_
    refine hw_getI E hR cI8 hs0 10 (by decide) lfX9_52 rfl dX9_add_77 ?_
    refine lv_iconst (v := 1) hx hb dX9_add_80 (by decide) ?_
    refine lv_iadd hx hb dX9_add_81 ?_
    refine hw_putI E hR hS hw cI8 hs0 10 (by decide) lfX9_52 rfl (Or.inl rfl) dX9_add_82 (fun m21 H locs em21 hR hS => ?_)
    replace hf := hf m21 em21
    refine lv_aload_n hx hb dX9_add_85 rfl (lv_at hl 0 rfl) ?_
    obtain ⟨b22, hb22, hf⟩ := hf
    refine hw_getR E hR cI8 hs0 6 (by decide) lfX9_39 rfl hb22 dX9_add_86 ?_
    refine lv_iload_n hx hb dX9_add_89 rfl (lv_at hl 1 rfl) ?_
    refine lv_aload_n hx hb dX9_add_90 rfl (lv_at hl 0 rfl) ?_
    refine hw_getI E hR cI8 hs0 10 (by decide) lfX9_52 rfl dX9_add_91 ?_
    obtain ⟨n23, hn23, in23, hf⟩ := hf
    refine hw_iast E hR hS hw hn23 in23 dX9_add_94 (fun m24 H locs em24 hR hS => ?_)
    replace hf := hf m24 em24
    refine lv_aload_n hx hb dX9_add_95 rfl (lv_at hl 0 rfl) ?_
    refine hw_getI E hR cI8 hs0 10 (by decide) lfX9_52 rfl dX9_add_96 ?_
    refine lv_iconst (v := 1) hx hb dX9_add_99 (by decide) ?_
    refine lv_isub hx hb dX9_add_100 ?_
    exact hw_iret E hR hS ⟨_, rfl, hf⟩ dX9_add_101
  · replace hf := hf.2 c1
    refine lv_iconst (v := -1) hx hb dX9_add_11 (by decide) ?_
    exact hw_iret E hR hS ⟨_, rfl, hf⟩ dX9_add_12
def f_X9_find_J120 (S : Ss) (a0 : Nat) (x1 : Int32) (x2 : Int32) (x5 : Int32) (x6 : Int32) (M : Mm) (BK43 : Int32 → Int32 → Mm → Prop) (K : Int32 → Mm → Prop) : Prop :=
  ∀ v13 : Int32, v13 = ((x5 + (1 : Int32)) &&& (8191 : Int32)) →
  ∀ v14 : Int32, v14 = x6 + (1 : Int32) →
  BK43 v13 v14 M
set_option maxHeartbeats 4000000 in
set_option maxRecDepth 100000 in
theorem w_X9_find_J120 {p : Program} {l : Launch} {e : Env} {s : State} {m : MethodId} {args : Array Value} {below : List Frame} {meth : Method} {c : Code} {g : Gg} {S : Ss} (a0 : Nat) (x1 : Int32) (x2 : Int32) (x5 : Int32) (x6 : Int32) (M : Mm) (BK43 : Int32 → Int32 → Mm → Prop) (K : Int32 → Mm → Prop) (E : EN p s m args meth c cX9_find 8 (some .int) RX9 g) (hw : ad g 100000 < s.heap.size) (hs0 : S[a0]? = some (8, 0)) (hBK43 : ∀ (x5' : Int32) (x6' : Int32) (M' : Mm) (H : Heap) (locs : List Loc) (ls : Array Slot), BK43 x5' x6' M' → RP g S M' H → va_S (gA g) s.heap H locs → lv_has ls 8 [(0, .ref (ad g a0)), (1, .int x1), (2, .int x2), (5, .int x5'), (6, .int x6')] → W p l e (rmD 1) s m args below meth c H locs 0 0 (MQ below (QA g S (pI K)) args s 0 0 (gA g)) (F0 m 43 ls [])) (hf : f_X9_find_J120 S a0 x1 x2 x5 x6 M BK43 K) (H : Heap) (locs : List Loc) (ls : Array Slot) (hR : RP g S M H) (hS : va_S (gA g) s.heap H locs) (hl : lv_has ls 8 [(0, .ref (ad g a0)), (1, .int x1), (2, .int x2), (5, .int x5), (6, .int x6)]) : W p l e (rmD 1) s m args below meth c H locs 0 0 (MQ below (QA g S (pI K)) args s 0 0 (gA g)) (F0 m 120 ls []) := by
  have hx := E.1
  have hb := E.2.1
  unfold f_X9_find_J120 at hf
  refine lv_iload hx hb dX9_find_120 (lv_at hl 3 rfl) ?_
  refine lv_iconst (v := 1) hx hb dX9_find_122 (by decide) ?_
  refine lv_iadd hx hb dX9_find_123 ?_
  refine lv_sipush (v := 8191) hx hb dX9_find_124 (by decide) ?_
  refine lv_iand hx hb dX9_find_127 ?_
  refine lv_topi (fun v13 ev13 => ?_)
  replace hf := hf v13 ev13
  refine lv_istore (lv' := [(5, .int v13), (0, .ref (ad g a0)), (1, .int x1), (2, .int x2), (6, .int x6)]) hx hb dX9_find_128 hl (by decide) rfl (fun ls hl => ?_)
  obtain ⟨v14, ev14⟩ : ∃ y : Int32, y = x6 + (1 : Int32) := ⟨_, rfl⟩
  replace hf := hf v14 ev14
  refine lv_iinc (v := v14) (lv' := [(6, .int v14), (5, .int v13), (0, .ref (ad g a0)), (1, .int x1), (2, .int x2)]) hx hb dX9_find_130 hl (k := 4) rfl (by rw [ev14]; rfl) (by decide) rfl (fun ls hl => ?_)
  refine lv_goto (tgt := 43) hx hb dX9_find_133 (by decide) ?_
  exact hBK43 _ _ _ _ _ _ hf hR hS (lv_sub hl [2, 3, 4, 1, 0] rfl)
def f_X9_find_B43 (S : Ss) (a0 : Nat) (x1 : Int32) (x2 : Int32) (x5 : Int32) (x6 : Int32) (M : Mm) (BK43 : Int32 → Int32 → Mm → Prop) (EK43 : Mm → Prop) (K : Int32 → Mm → Prop) : Prop :=
  (((8192 : Int32) ≤ x6 →
    EK43 M) ∧
   (¬ (8192 : Int32) ≤ x6 →
    ∃ b8 : Nat, M.2.2 a0 6 = some b8 ∧
    ∃ n9 : Nat, shp S b8 = some (50, n9) ∧ vp_in x5 n9 ∧
    ∀ v10 : Int32, v10 = ((M.1 b8 x5.toNatClampNeg) - (1 : Int32)) →
    ((0 ≤ v10 →
      ((v10 < x1 →
        f_X9_find_J120 S a0 x1 x2 x5 x6 M BK43 K) ∧
       (¬ v10 < x1 →
        ∃ b15 : Nat, M.2.2 a0 2 = some b15 ∧
        ∃ n16 : Nat, S[b15]? = some (53, n16) ∧ vp_in v10 n16 ∧
        ∃ b17 : Nat, M.2.2 a0 1 = some b17 ∧
        S[b17]? = some (3, 0) ∧
        (((M.2.1 b15 v10.toNatClampNeg) = (M.2.1 b17 0) →
          ∃ b20 : Nat, M.2.2 a0 3 = some b20 ∧
          ∃ n21 : Nat, S[b20]? = some (53, n21) ∧ vp_in v10 n21 ∧
          ∃ b22 : Nat, M.2.2 a0 1 = some b22 ∧
          S[b22]? = some (3, 0) ∧
          (((M.2.1 b20 v10.toNatClampNeg) = (M.2.1 b22 1) →
            K v10 M) ∧
           (¬ (M.2.1 b20 v10.toNatClampNeg) = (M.2.1 b22 1) →
            f_X9_find_J120 S a0 x1 x2 x5 x6 M BK43 K))) ∧
         (¬ (M.2.1 b15 v10.toNatClampNeg) = (M.2.1 b17 0) →
          f_X9_find_J120 S a0 x1 x2 x5 x6 M BK43 K))))) ∧
     (¬ 0 ≤ v10 →
      f_X9_add S a0 x5 x2 M (fun (r26 : Int32) (m25 : Mm) =>
        K r26 m25)))))
set_option maxHeartbeats 4000000 in
set_option maxRecDepth 100000 in
theorem w_X9_find_B43 {p : Program} {l : Launch} {e : Env} {s : State} {m : MethodId} {args : Array Value} {below : List Frame} {meth : Method} {c : Code} {g : Gg} {S : Ss} (a0 : Nat) (x1 : Int32) (x2 : Int32) (x5 : Int32) (x6 : Int32) (M : Mm) (BK43 : Int32 → Int32 → Mm → Prop) (EK43 : Mm → Prop) (K : Int32 → Mm → Prop) (E : EN p s m args meth c cX9_find 8 (some .int) RX9 g) (hw : ad g 100000 < s.heap.size) (hs0 : S[a0]? = some (8, 0)) (hBK43 : ∀ (x5' : Int32) (x6' : Int32) (M' : Mm) (H : Heap) (locs : List Loc) (ls : Array Slot), BK43 x5' x6' M' → RP g S M' H → va_S (gA g) s.heap H locs → lv_has ls 8 [(0, .ref (ad g a0)), (1, .int x1), (2, .int x2), (5, .int x5'), (6, .int x6')] → W p l e (rmD 1) s m args below meth c H locs 0 0 (MQ below (QA g S (pI K)) args s 0 0 (gA g)) (F0 m 43 ls [])) (hEK43 : ∀ (M' : Mm) (H : Heap) (locs : List Loc) (ls : Array Slot), EK43 M' → RP g S M' H → va_S (gA g) s.heap H locs → lv_has ls 8 [] → W p l e (rmD 1) s m args below meth c H locs 0 0 (MQ below (QA g S (pI K)) args s 0 0 (gA g)) (F0 m 136 ls [])) (hf : f_X9_find_B43 S a0 x1 x2 x5 x6 M BK43 EK43 K) (H : Heap) (locs : List Loc) (ls : Array Slot) (hR : RP g S M H) (hS : va_S (gA g) s.heap H locs) (hl : lv_has ls 8 [(0, .ref (ad g a0)), (1, .int x1), (2, .int x2), (5, .int x5), (6, .int x6)]) : W p l e (rmD 1) s m args below meth c H locs 0 0 (MQ below (QA g S (pI K)) args s 0 0 (gA g)) (F0 m 43 ls []) := by
  have hx := E.1
  have hb := E.2.1
  unfold f_X9_find_B43 at hf
  refine lv_iload hx hb dX9_find_43 (lv_at hl 4 rfl) ?_
  refine lv_sipush (v := 8192) hx hb dX9_find_45 (by decide) ?_
  refine lv_icmp_ge (tgt := 136) hx hb dX9_find_48 (by decide) (fun c7 => ?_) (fun c7 => ?_)
  · replace hf := hf.1 c7
    exact hEK43  _ _ _ _ hf hR hS (lv_sub hl [] rfl)
  · replace hf := hf.2 c7
    refine lv_aload_n hx hb dX9_find_51 rfl (lv_at hl 0 rfl) ?_
    obtain ⟨b8, hb8, hf⟩ := hf
    refine hw_getR E hR cI8 hs0 6 (by decide) lfX9_39 rfl hb8 dX9_find_52 ?_
    refine lv_iload hx hb dX9_find_55 (lv_at hl 3 rfl) ?_
    obtain ⟨n9, hn9, in9, hf⟩ := hf
    refine hw_iald E hR hS hn9 in9 dX9_find_57 ?_
    refine lv_iconst (v := 1) hx hb dX9_find_58 (by decide) ?_
    refine lv_isub hx hb dX9_find_59 ?_
    refine lv_topi (fun v10 ev10 => ?_)
    replace hf := hf v10 ev10
    refine lv_istore (lv' := [(7, .int v10), (0, .ref (ad g a0)), (1, .int x1), (2, .int x2), (5, .int x5), (6, .int x6)]) hx hb dX9_find_60 hl (by decide) rfl (fun ls hl => ?_)
    refine lv_iload hx hb dX9_find_62 (lv_at hl 0 rfl) ?_
    refine lv_if_ge (tgt := 75) hx hb dX9_find_64 (by decide) (fun c11 => ?_) (fun c11 => ?_)
    · replace hf := hf.1 c11
      refine lv_iload hx hb dX9_find_75 (lv_at hl 0 rfl) ?_
      refine lv_iload_n hx hb dX9_find_77 rfl (lv_at hl 2 rfl) ?_
      refine lv_icmp_lt (tgt := 120) hx hb dX9_find_78 (by decide) (fun c12 => ?_) (fun c12 => ?_)
      · replace hf := hf.1 c12
        exact w_X9_find_J120 _ _ _ _ _ _ _ _ E hw hs0 hBK43 hf _ _ _ hR hS (lv_sub hl [1, 2, 3, 4, 5] rfl)
      · replace hf := hf.2 c12
        refine lv_aload_n hx hb dX9_find_81 rfl (lv_at hl 1 rfl) ?_
        obtain ⟨b15, hb15, hf⟩ := hf
        refine hw_getR E hR cI8 hs0 2 (by decide) lfX9_25 rfl hb15 dX9_find_82 ?_
        refine lv_iload hx hb dX9_find_85 (lv_at hl 0 rfl) ?_
        obtain ⟨n16, hn16, in16, hf⟩ := hf
        refine hw_lald E hR hn16 in16 dX9_find_87 ?_
        refine lv_aload_n hx hb dX9_find_88 rfl (lv_at hl 1 rfl) ?_
        obtain ⟨b17, hb17, hf⟩ := hf
        refine hw_getR E hR cI8 hs0 1 (by decide) lfX9_21 rfl hb17 dX9_find_89 ?_
        obtain ⟨h18, hf⟩ := hf
        refine hw_getJ E hR cI3 h18 0 (by decide) lfX9_108 rfl dX9_find_92 ?_
        refine hw_lif_ne (tgt := 120) hx hb dX9_find_95 dX9_find_96 (by decide) (fun c19 => ?_) (fun c19 => ?_)
        · replace hf := hf.2 c19
          exact w_X9_find_J120 _ _ _ _ _ _ _ _ E hw hs0 hBK43 hf _ _ _ hR hS (lv_sub hl [1, 2, 3, 4, 5] rfl)
        · replace hf := hf.1 c19
          refine lv_aload_n hx hb dX9_find_99 rfl (lv_at hl 1 rfl) ?_
          obtain ⟨b20, hb20, hf⟩ := hf
          refine hw_getR E hR cI8 hs0 3 (by decide) lfX9_29 rfl hb20 dX9_find_100 ?_
          refine lv_iload hx hb dX9_find_103 (lv_at hl 0 rfl) ?_
          obtain ⟨n21, hn21, in21, hf⟩ := hf
          refine hw_lald E hR hn21 in21 dX9_find_105 ?_
          refine lv_aload_n hx hb dX9_find_106 rfl (lv_at hl 1 rfl) ?_
          obtain ⟨b22, hb22, hf⟩ := hf
          refine hw_getR E hR cI8 hs0 1 (by decide) lfX9_21 rfl hb22 dX9_find_107 ?_
          obtain ⟨h23, hf⟩ := hf
          refine hw_getJ E hR cI3 h23 1 (by decide) lfX9_110 rfl dX9_find_110 ?_
          refine hw_lif_ne (tgt := 120) hx hb dX9_find_113 dX9_find_114 (by decide) (fun c24 => ?_) (fun c24 => ?_)
          · replace hf := hf.2 c24
            exact w_X9_find_J120 _ _ _ _ _ _ _ _ E hw hs0 hBK43 hf _ _ _ hR hS (lv_sub hl [1, 2, 3, 4, 5] rfl)
          · replace hf := hf.1 c24
            refine lv_iload hx hb dX9_find_117 (lv_at hl 0 rfl) ?_
            exact hw_iret E hR hS ⟨_, rfl, hf⟩ dX9_find_119
    · replace hf := hf.2 c11
      refine lv_aload_n hx hb dX9_find_67 rfl (lv_at hl 1 rfl) ?_
      refine lv_iload hx hb dX9_find_68 (lv_at hl 4 rfl) ?_
      refine lv_iload_n hx hb dX9_find_70 rfl (lv_at hl 3 rfl) ?_
      refine hw_callV (d := 1) E hR hS (As := [.int x5, .int x2]) (rest := []) cI8 hs0 rfl mcX9_add miX9_add lmX9_153 (ok_X9_add hs0 hf) rfl rfl (by decide) hl.1 (Nat.le_of_ble_eq_true rfl) dX9_find_71 (fun rr m25 H locs hp hR hS => ?_)
      obtain ⟨r26, rfl, hf⟩ := hp
      refine W.eq (g2 := F0 m 74 ls [.int r26]) rfl ?_
      exact hw_iret E hR hS ⟨_, rfl, hf⟩ dX9_find_74
def f_X9_find_L43 (S : Ss) (a0 : Nat) (x1 : Int32) (x2 : Int32) (EK43 : Mm → Prop) (K : Int32 → Mm → Prop) : Nat → Int32 → Int32 → Mm → Prop
  | 0, _, _, _ => False
  | n + 1, x5, x6, M => f_X9_find_B43 S a0 x1 x2 x5 x6 M (fun (x5 : Int32) (x6 : Int32) (M : Mm) => f_X9_find_L43 S a0 x1 x2 EK43 K n x5 x6 M) EK43 K
set_option maxHeartbeats 4000000 in
set_option maxRecDepth 100000 in
theorem w_X9_find_L43 {p : Program} {l : Launch} {e : Env} {s : State} {m : MethodId} {args : Array Value} {below : List Frame} {meth : Method} {c : Code} {g : Gg} {S : Ss} (a0 : Nat) (x1 : Int32) (x2 : Int32) (EK43 : Mm → Prop) (K : Int32 → Mm → Prop) (E : EN p s m args meth c cX9_find 8 (some .int) RX9 g) (hw : ad g 100000 < s.heap.size) (hs0 : S[a0]? = some (8, 0)) (hEK43 : ∀ (M' : Mm) (H : Heap) (locs : List Loc) (ls : Array Slot), EK43 M' → RP g S M' H → va_S (gA g) s.heap H locs → lv_has ls 8 [] → W p l e (rmD 1) s m args below meth c H locs 0 0 (MQ below (QA g S (pI K)) args s 0 0 (gA g)) (F0 m 136 ls [])) : ∀ (n : Nat) (x5 : Int32) (x6 : Int32) (M : Mm), f_X9_find_L43 S a0 x1 x2 EK43 K n x5 x6 M → ∀ (H : Heap) (locs : List Loc) (ls : Array Slot), RP g S M H → va_S (gA g) s.heap H locs → lv_has ls 8 [(0, .ref (ad g a0)), (1, .int x1), (2, .int x2), (5, .int x5), (6, .int x6)] → W p l e (rmD 1) s m args below meth c H locs 0 0 (MQ below (QA g S (pI K)) args s 0 0 (gA g)) (F0 m 43 ls []) := by
  intro n
  induction n with
  | zero => intro x5 x6 M hf; exact hf.elim
  | succ n ih =>
    intro x5 x6 M hf H locs ls hR hS hl
    exact w_X9_find_B43 _ _ _ _ _ _ _ _ _ E hw hs0 (fun _ _ M H locs ls h hR hS hl => ih _ _ M h H locs ls hR hS hl) hEK43 hf H locs ls hR hS hl
def f_X9_find (S : Ss) (a0 : Nat) (x1 : Int32) (x2 : Int32) (M : Mm) (K : Int32 → Mm → Prop) : Prop :=
  ∃ b1 : Nat, M.2.2 a0 1 = some b1 ∧
  S[b1]? = some (3, 0) ∧
  ∃ b3 : Nat, M.2.2 a0 1 = some b3 ∧
  S[b3]? = some (3, 0) ∧
  ∀ v5 : Int64, v5 = (((M.2.1 b1 0) * (-7046029254386353131 : Int64)) ^^^ ((M.2.1 b3 1) * (-4417276706812531889 : Int64))) →
  ∀ v6 : Int32, v6 = (((v5 ^^^ (v5.toUInt64 >>> ((29 : Int32).toInt64.toUInt64 &&& Int64.toUInt64 63)).toInt64).toUInt64 >>> ((17 : Int32).toInt64.toUInt64 &&& Int64.toUInt64 63)).toInt64.toInt32 &&& (8191 : Int32)) →
  ∃ n28 : Nat, f_X9_find_L43 S a0 x1 x2 (fun (m27 : Mm) =>
    K (-1 : Int32) m27) K n28 v6 (0 : Int32) M
set_option maxHeartbeats 4000000 in
set_option maxRecDepth 100000 in
theorem ok_X9_find {l : Launch} {g : Gg} {S : Ss} {a0 : Nat} {x1 : Int32} {x2 : Int32} {M : Mm} {K : Int32 → Mm → Prop} (hs0 : S[a0]? = some (8, 0)) (hf : f_X9_find S a0 x1 x2 M K) : MT l g S yX9_find cX9_find 8 (some .int) 1 [.ref (ad g a0), .int x1, .int x2] M (pI K) := by
  refine MT.of (by decide +kernel) (Nat.le_of_ble_eq_true rfl) ?_
  intro p e s m below meth c ls E hw hR hS hl
  have hl : lv_has ls 8 [(0, .ref (ad g a0)), (1, .int x1), (2, .int x2)] := hl
  generalize ([.ref (ad g a0), .int x1, .int x2] : List Value).toArray = args at E ⊢
  have E : EN p s m args meth c cX9_find 8 (some .int) RX9 g := E
  have hx := E.1
  have hb := E.2.1
  unfold f_X9_find at hf
  refine lv_aload_n hx hb dX9_find_0 rfl (lv_at hl 0 rfl) ?_
  obtain ⟨b1, hb1, hf⟩ := hf
  refine hw_getR E hR cI8 hs0 1 (by decide) lfX9_21 rfl hb1 dX9_find_1 ?_
  obtain ⟨h2, hf⟩ := hf
  refine hw_getJ E hR cI3 h2 0 (by decide) lfX9_108 rfl dX9_find_4 ?_
  refine lv_ldc2 (v := -7046029254386353131) hx hb E.2.2.2.2.1 (E.2.2.2.2.2.1 _ ljX9_149) dX9_find_7 ?_
  refine lv_lmul hx hb dX9_find_10 ?_
  refine lv_aload_n hx hb dX9_find_11 rfl (lv_at hl 0 rfl) ?_
  obtain ⟨b3, hb3, hf⟩ := hf
  refine hw_getR E hR cI8 hs0 1 (by decide) lfX9_21 rfl hb3 dX9_find_12 ?_
  obtain ⟨h4, hf⟩ := hf
  refine hw_getJ E hR cI3 h4 1 (by decide) lfX9_110 rfl dX9_find_15 ?_
  refine lv_ldc2 (v := -4417276706812531889) hx hb E.2.2.2.2.1 (E.2.2.2.2.2.1 _ ljX9_151) dX9_find_18 ?_
  refine lv_lmul hx hb dX9_find_21 ?_
  refine lv_lxor hx hb dX9_find_22 ?_
  refine lv_topl (fun v5 ev5 => ?_)
  replace hf := hf v5 ev5
  refine lv_lstore_n (lv' := [(3, .long v5), (0, .ref (ad g a0)), (1, .int x1), (2, .int x2)]) hx hb dX9_find_23 rfl hl (by decide) rfl (fun ls hl => ?_)
  refine lv_lload_n hx hb dX9_find_24 rfl (lv_at hl 0 rfl) ?_
  refine lv_lload_n hx hb dX9_find_25 rfl (lv_at hl 0 rfl) ?_
  refine lv_bipush (v := 29) hx hb dX9_find_26 (by decide) ?_
  refine lv_lushr hx hb dX9_find_28 rfl ?_
  refine lv_lxor hx hb dX9_find_29 ?_
  refine lv_bipush (v := 17) hx hb dX9_find_30 (by decide) ?_
  refine lv_lushr hx hb dX9_find_32 rfl ?_
  refine lv_l2i hx hb dX9_find_33 rfl ?_
  refine lv_sipush (v := 8191) hx hb dX9_find_34 (by decide) ?_
  refine lv_iand hx hb dX9_find_37 ?_
  refine lv_topi (fun v6 ev6 => ?_)
  replace hf := hf v6 ev6
  refine lv_istore (lv' := [(5, .int v6), (3, .long v5), (0, .ref (ad g a0)), (1, .int x1), (2, .int x2)]) hx hb dX9_find_38 hl (by decide) rfl (fun ls hl => ?_)
  refine lv_iconst (v := 0) hx hb dX9_find_40 (by decide) ?_
  refine lv_istore (lv' := [(6, .int (0 : Int32)), (5, .int v6), (3, .long v5), (0, .ref (ad g a0)), (1, .int x1), (2, .int x2)]) hx hb dX9_find_41 hl (by decide) rfl (fun ls hl => ?_)
  obtain ⟨n28, hf⟩ := hf
  refine w_X9_find_L43 _ _ _ _ _ E hw hs0 ?_ n28 _ _ _ hf _ _ _ hR hS (lv_sub hl [3, 4, 5, 1, 0] rfl)
  intro m27 H locs ls hf hR hS hl
  refine lv_iconst (v := -1) hx hb dX9_find_136 (by decide) ?_
  exact hw_iret E hR hS ⟨_, rfl, hf⟩ dX9_find_137
def f_X9_begin_B2 (S : Ss) (a0 : Nat) (a1 : Nat) (x2 : Int32) (x3 : Int32) (M : Mm) (BK2 : Int32 → Mm → Prop) (EK2 : Mm → Prop) (K : Mm → Prop) : Prop :=
  (((M.1 a0 10) ≤ x3 →
    EK2 M) ∧
   (¬ (M.1 a0 10) ≤ x3 →
    ∃ b2 : Nat, M.2.2 a0 6 = some b2 ∧
    ∃ b3 : Nat, M.2.2 a0 5 = some b3 ∧
    ∃ n4 : Nat, shp S b3 = some (50, n4) ∧ vp_in x3 n4 ∧
    ∃ n5 : Nat, S[b2]? = some (50, n5) ∧ vp_in (M.1 b3 x3.toNatClampNeg) n5 ∧
    ∀ m6 : Mm, m6 = stI M b2 (M.1 b3 x3.toNatClampNeg).toNatClampNeg (0 : Int32) →
    ∀ v7 : Int32, v7 = x3 + (1 : Int32) →
    BK2 v7 m6))
set_option maxHeartbeats 4000000 in
set_option maxRecDepth 100000 in
theorem w_X9_begin_B2 {p : Program} {l : Launch} {e : Env} {s : State} {m : MethodId} {args : Array Value} {below : List Frame} {meth : Method} {c : Code} {g : Gg} {S : Ss} (a0 : Nat) (a1 : Nat) (x2 : Int32) (x3 : Int32) (M : Mm) (BK2 : Int32 → Mm → Prop) (EK2 : Mm → Prop) (K : Mm → Prop) (E : EN p s m args meth c cX9_begin 4 none RX9 g) (hw : ad g 100000 < s.heap.size) (hs0 : S[a0]? = some (8, 0)) (hs1 : S[a1]? = some (3, 0)) (hBK2 : ∀ (x3' : Int32) (M' : Mm) (H : Heap) (locs : List Loc) (ls : Array Slot), BK2 x3' M' → RP g S M' H → va_S (gA g) s.heap H locs → lv_has ls 4 [(0, .ref (ad g a0)), (1, .ref (ad g a1)), (2, .int x2), (3, .int x3')] → W p l e (rmD 2) s m args below meth c H locs 0 0 (MQ below (QA g S (pV K)) args s 0 0 (gA g)) (F0 m 2 ls [])) (hEK2 : ∀ (M' : Mm) (H : Heap) (locs : List Loc) (ls : Array Slot), EK2 M' → RP g S M' H → va_S (gA g) s.heap H locs → lv_has ls 4 [(0, .ref (ad g a0)), (1, .ref (ad g a1)), (2, .int x2)] → W p l e (rmD 2) s m args below meth c H locs 0 0 (MQ below (QA g S (pV K)) args s 0 0 (gA g)) (F0 m 28 ls [])) (hf : f_X9_begin_B2 S a0 a1 x2 x3 M BK2 EK2 K) (H : Heap) (locs : List Loc) (ls : Array Slot) (hR : RP g S M H) (hS : va_S (gA g) s.heap H locs) (hl : lv_has ls 4 [(0, .ref (ad g a0)), (1, .ref (ad g a1)), (2, .int x2), (3, .int x3)]) : W p l e (rmD 2) s m args below meth c H locs 0 0 (MQ below (QA g S (pV K)) args s 0 0 (gA g)) (F0 m 2 ls []) := by
  have hx := E.1
  have hb := E.2.1
  unfold f_X9_begin_B2 at hf
  refine lv_iload_n hx hb dX9_begin_2 rfl (lv_at hl 3 rfl) ?_
  refine lv_aload_n hx hb dX9_begin_3 rfl (lv_at hl 0 rfl) ?_
  refine hw_getI E hR cI8 hs0 10 (by decide) lfX9_52 rfl dX9_begin_4 ?_
  refine lv_icmp_ge (tgt := 28) hx hb dX9_begin_7 (by decide) (fun c1 => ?_) (fun c1 => ?_)
  · replace hf := hf.1 c1
    exact hEK2  _ _ _ _ hf hR hS (lv_sub hl [0, 1, 2] rfl)
  · replace hf := hf.2 c1
    refine lv_aload_n hx hb dX9_begin_10 rfl (lv_at hl 0 rfl) ?_
    obtain ⟨b2, hb2, hf⟩ := hf
    refine hw_getR E hR cI8 hs0 6 (by decide) lfX9_39 rfl hb2 dX9_begin_11 ?_
    refine lv_aload_n hx hb dX9_begin_14 rfl (lv_at hl 0 rfl) ?_
    obtain ⟨b3, hb3, hf⟩ := hf
    refine hw_getR E hR cI8 hs0 5 (by decide) lfX9_36 rfl hb3 dX9_begin_15 ?_
    refine lv_iload_n hx hb dX9_begin_18 rfl (lv_at hl 3 rfl) ?_
    obtain ⟨n4, hn4, in4, hf⟩ := hf
    refine hw_iald E hR hS hn4 in4 dX9_begin_19 ?_
    refine lv_iconst (v := 0) hx hb dX9_begin_20 (by decide) ?_
    obtain ⟨n5, hn5, in5, hf⟩ := hf
    refine hw_iast E hR hS hw hn5 in5 dX9_begin_21 (fun m6 H locs em6 hR hS => ?_)
    replace hf := hf m6 em6
    obtain ⟨v7, ev7⟩ : ∃ y : Int32, y = x3 + (1 : Int32) := ⟨_, rfl⟩
    replace hf := hf v7 ev7
    refine lv_iinc (v := v7) (lv' := [(3, .int v7), (0, .ref (ad g a0)), (1, .ref (ad g a1)), (2, .int x2)]) hx hb dX9_begin_22 hl (k := 3) rfl (by rw [ev7]; rfl) (by decide) rfl (fun ls hl => ?_)
    refine lv_goto (tgt := 2) hx hb dX9_begin_25 (by decide) ?_
    exact hBK2 _ _ _ _ _ hf hR hS (lv_sub hl [1, 2, 3, 0] rfl)
def f_X9_begin_L2 (S : Ss) (a0 : Nat) (a1 : Nat) (x2 : Int32) (EK2 : Mm → Prop) (K : Mm → Prop) : Nat → Int32 → Mm → Prop
  | 0, _, _ => False
  | n + 1, x3, M => f_X9_begin_B2 S a0 a1 x2 x3 M (fun (x3 : Int32) (M : Mm) => f_X9_begin_L2 S a0 a1 x2 EK2 K n x3 M) EK2 K
set_option maxHeartbeats 4000000 in
set_option maxRecDepth 100000 in
theorem w_X9_begin_L2 {p : Program} {l : Launch} {e : Env} {s : State} {m : MethodId} {args : Array Value} {below : List Frame} {meth : Method} {c : Code} {g : Gg} {S : Ss} (a0 : Nat) (a1 : Nat) (x2 : Int32) (EK2 : Mm → Prop) (K : Mm → Prop) (E : EN p s m args meth c cX9_begin 4 none RX9 g) (hw : ad g 100000 < s.heap.size) (hs0 : S[a0]? = some (8, 0)) (hs1 : S[a1]? = some (3, 0)) (hEK2 : ∀ (M' : Mm) (H : Heap) (locs : List Loc) (ls : Array Slot), EK2 M' → RP g S M' H → va_S (gA g) s.heap H locs → lv_has ls 4 [(0, .ref (ad g a0)), (1, .ref (ad g a1)), (2, .int x2)] → W p l e (rmD 2) s m args below meth c H locs 0 0 (MQ below (QA g S (pV K)) args s 0 0 (gA g)) (F0 m 28 ls [])) : ∀ (n : Nat) (x3 : Int32) (M : Mm), f_X9_begin_L2 S a0 a1 x2 EK2 K n x3 M → ∀ (H : Heap) (locs : List Loc) (ls : Array Slot), RP g S M H → va_S (gA g) s.heap H locs → lv_has ls 4 [(0, .ref (ad g a0)), (1, .ref (ad g a1)), (2, .int x2), (3, .int x3)] → W p l e (rmD 2) s m args below meth c H locs 0 0 (MQ below (QA g S (pV K)) args s 0 0 (gA g)) (F0 m 2 ls []) := by
  intro n
  induction n with
  | zero => intro x3 M hf; exact hf.elim
  | succ n ih =>
    intro x3 M hf H locs ls hR hS hl
    exact w_X9_begin_B2 _ _ _ _ _ _ _ _ E hw hs0 hs1 (fun _ M H locs ls h hR hS hl => ih _ M h H locs ls hR hS hl) hEK2 hf H locs ls hR hS hl
def f_X9_begin (S : Ss) (a0 : Nat) (a1 : Nat) (x2 : Int32) (M : Mm) (K : Mm → Prop) : Prop :=
  ∃ n21 : Nat, f_X9_begin_L2 S a0 a1 x2 (fun (m8 : Mm) =>
    ∀ m9 : Mm, m9 = stI m8 a0 10 (0 : Int32) →
    ∀ m10 : Mm, m10 = stI m9 a0 11 (if (4000 : Int32) < x2 then (4000 : Int32) else x2) →
    ∀ m11 : Mm, m11 = stI m10 a0 14 (-1 : Int32) →
    ∀ m12 : Mm, m12 = stI m11 a0 15 (-1 : Int32) →
    ∀ m13 : Mm, m13 = stI m12 a0 16 (-1 : Int32) →
    ∀ m14 : Mm, m14 = stI m13 a0 17 (-1 : Int32) →
    ∀ m15 : Mm, m15 = stJ m14 a0 18 (0 : Int64) →
    ∃ b16 : Nat, m15.2.2 a0 1 = some b16 ∧
    S[b16]? = some (3, 0) ∧
    f_X4_copy S b16 a1 m15 (fun (m17 : Mm) =>
      f_X9_find S a0 (0 : Int32) (-1 : Int32) m17 (fun (r20 : Int32) (m19 : Mm) =>
      K m19))) K n21 (0 : Int32) M
set_option maxHeartbeats 4000000 in
set_option maxRecDepth 100000 in
theorem ok_X9_begin {l : Launch} {g : Gg} {S : Ss} {a0 : Nat} {a1 : Nat} {x2 : Int32} {M : Mm} {K : Mm → Prop} (hs0 : S[a0]? = some (8, 0)) (hs1 : S[a1]? = some (3, 0)) (hf : f_X9_begin S a0 a1 x2 M K) : MT l g S yX9_begin cX9_begin 4 none 2 [.ref (ad g a0), .ref (ad g a1), .int x2] M (pV K) := by
  refine MT.of (by decide +kernel) (Nat.le_of_ble_eq_true rfl) ?_
  intro p e s m below meth c ls E hw hR hS hl
  have hl : lv_has ls 4 [(0, .ref (ad g a0)), (1, .ref (ad g a1)), (2, .int x2)] := hl
  generalize ([.ref (ad g a0), .ref (ad g a1), .int x2] : List Value).toArray = args at E ⊢
  have E : EN p s m args meth c cX9_begin 4 none RX9 g := E
  have hx := E.1
  have hb := E.2.1
  unfold f_X9_begin at hf
  refine lv_iconst (v := 0) hx hb dX9_begin_0 (by decide) ?_
  refine lv_istore_n (lv' := [(3, .int (0 : Int32)), (0, .ref (ad g a0)), (1, .ref (ad g a1)), (2, .int x2)]) hx hb dX9_begin_1 rfl hl (by decide) rfl (fun ls hl => ?_)
  obtain ⟨n21, hf⟩ := hf
  refine w_X9_begin_L2 _ _ _ _ _ E hw hs0 hs1 ?_ n21 _ _ hf _ _ _ hR hS (lv_sub hl [1, 2, 3, 0] rfl)
  intro m8 H locs ls hf hR hS hl
  refine lv_aload_n hx hb dX9_begin_28 rfl (lv_at hl 0 rfl) ?_
  refine lv_iconst (v := 0) hx hb dX9_begin_29 (by decide) ?_
  refine hw_putI E hR hS hw cI8 hs0 10 (by decide) lfX9_52 rfl (Or.inl rfl) dX9_begin_30 (fun m9 H locs em9 hR hS => ?_)
  replace hf := hf m9 em9
  refine lv_aload_n hx hb dX9_begin_33 rfl (lv_at hl 0 rfl) ?_
  refine lv_iload_n hx hb dX9_begin_34 rfl (lv_at hl 2 rfl) ?_
  refine lv_sipush (v := 4000) hx hb dX9_begin_35 (by decide) ?_
  refine hw_min (d := 2) (rest := [.ref (ad g a0)]) E hl lxX9_89 (by decide) (Nat.le_of_ble_eq_true rfl) dX9_begin_38 ?_
  refine hw_putI E hR hS hw cI8 hs0 11 (by decide) lfX9_56 rfl (Or.inl rfl) dX9_begin_41 (fun m10 H locs em10 hR hS => ?_)
  replace hf := hf m10 em10
  refine lv_aload_n hx hb dX9_begin_44 rfl (lv_at hl 0 rfl) ?_
  refine lv_iconst (v := -1) hx hb dX9_begin_45 (by decide) ?_
  refine hw_putI E hR hS hw cI8 hs0 14 (by decide) lfX9_65 rfl (Or.inl rfl) dX9_begin_46 (fun m11 H locs em11 hR hS => ?_)
  replace hf := hf m11 em11
  refine lv_aload_n hx hb dX9_begin_49 rfl (lv_at hl 0 rfl) ?_
  refine lv_iconst (v := -1) hx hb dX9_begin_50 (by decide) ?_
  refine hw_putI E hR hS hw cI8 hs0 15 (by decide) lfX9_68 rfl (Or.inl rfl) dX9_begin_51 (fun m12 H locs em12 hR hS => ?_)
  replace hf := hf m12 em12
  refine lv_aload_n hx hb dX9_begin_54 rfl (lv_at hl 0 rfl) ?_
  refine lv_iconst (v := -1) hx hb dX9_begin_55 (by decide) ?_
  refine hw_putI E hR hS hw cI8 hs0 16 (by decide) lfX9_71 rfl (Or.inl rfl) dX9_begin_56 (fun m13 H locs em13 hR hS => ?_)
  replace hf := hf m13 em13
  refine lv_aload_n hx hb dX9_begin_59 rfl (lv_at hl 0 rfl) ?_
  refine lv_iconst (v := -1) hx hb dX9_begin_60 (by decide) ?_
  refine hw_putI E hR hS hw cI8 hs0 17 (by decide) lfX9_74 rfl (Or.inl rfl) dX9_begin_61 (fun m14 H locs em14 hR hS => ?_)
  replace hf := hf m14 em14
  refine lv_aload_n hx hb dX9_begin_64 rfl (lv_at hl 0 rfl) ?_
  refine lv_lconst (v := 0) hx hb dX9_begin_65 (by decide) ?_
  refine hw_putJ E hR hS hw cI8 hs0 18 (by decide) lfX9_77 rfl rfl dX9_begin_66 (fun m15 H locs em15 hR hS => ?_)
  replace hf := hf m15 em15
  refine lv_aload_n hx hb dX9_begin_69 rfl (lv_at hl 0 rfl) ?_
  obtain ⟨b16, hb16, hf⟩ := hf
  refine hw_getR E hR cI8 hs0 1 (by decide) lfX9_21 rfl hb16 dX9_begin_70 ?_
  refine lv_aload_n hx hb dX9_begin_73 rfl (lv_at hl 1 rfl) ?_
  obtain ⟨h18, hf⟩ := hf
  refine hw_callV (d := 2) E hR hS (As := [.ref (ad g a1)]) (rest := []) cI3 h18 rfl mcX4_copy miX4_copy lmX9_95 (ok_X4_copy h18 hs1 hf) rfl rfl (by decide) hl.1 (Nat.le_of_ble_eq_true rfl) dX9_begin_74 (fun rr m17 H locs hp hR hS => ?_)
  obtain ⟨rfl, hf⟩ := hp
  refine W.eq (g2 := F0 m 77 ls []) rfl ?_
  refine lv_aload_n hx hb dX9_begin_77 rfl (lv_at hl 0 rfl) ?_
  refine lv_iconst (v := 0) hx hb dX9_begin_78 (by decide) ?_
  refine lv_iconst (v := -1) hx hb dX9_begin_79 (by decide) ?_
  refine hw_callV (d := 2) E hR hS (As := [.int (0 : Int32), .int (-1 : Int32)]) (rest := []) cI8 hs0 rfl mcX9_find miX9_find lmX9_99 (ok_X9_find hs0 hf) rfl rfl (by decide) hl.1 (Nat.le_of_ble_eq_true rfl) dX9_begin_80 (fun rr m19 H locs hp hR hS => ?_)
  obtain ⟨r20, rfl, hf⟩ := hp
  refine W.eq (g2 := F0 m 83 ls [.int r20]) rfl ?_
  refine lv_pop hx hb dX9_begin_83 rfl ?_
  exact hw_vret E hR hS ⟨rfl, hf⟩ dX9_begin_84
def f_X9_isSought (S : Ss) (a0 : Nat) (M : Mm) (K : Int32 → Mm → Prop) : Prop :=
  (((M.1 a0 12) = 0 →
    K (0 : Int32) M) ∧
   (¬ (M.1 a0 12) = 0 →
    (((M.1 a0 12) = 1 →
      ∃ b3 : Nat, M.2.2 a0 0 = some b3 ∧
      ∃ b4 : Nat, M.2.2 a0 0 = some b4 ∧
      S[b4]? = some (2, 0) ∧
      ∃ b6 : Nat, M.2.2 b4 9 = some b6 ∧
      ∃ b7 : Nat, M.2.2 a0 1 = some b7 ∧
      S[b3]? = some (2, 0) ∧
      S[b6]? = some (4, 0) ∧
      S[b7]? = some (3, 0) ∧
      f_X3_value S b3 b6 (0 : Int32) b7 M (fun (r12 : Int32) (m8 : Mm) =>
        ((r12 = 0 →
        K (0 : Int32) m8) ∧
       (¬ r12 = 0 →
        K (1 : Int32) m8)))) ∧
     (¬ (M.1 a0 12) = 1 →
      (((M.1 a0 12) = 2 →
        ∃ b15 : Nat, M.2.2 a0 1 = some b15 ∧
        S[b15]? = some (3, 0) ∧
        (((M.1 b15 4) = ((M.1 a0 13) + (1 : Int32)) →
          K (1 : Int32) M) ∧
         (¬ (M.1 b15 4) = ((M.1 a0 13) + (1 : Int32)) →
          K (0 : Int32) M))) ∧
       (¬ (M.1 a0 12) = 2 →
        ∃ b18 : Nat, M.2.2 a0 1 = some b18 ∧
        S[b18]? = some (3, 0) ∧
        ∀ m20 : Mm, m20 = stI M b18 2 (1 : Int32) →
        ∃ b21 : Nat, m20.2.2 a0 1 = some b21 ∧
        S[b21]? = some (3, 0) ∧
        ∀ m23 : Mm, m23 = stI m20 b21 3 (0 : Int32) →
        ∃ b24 : Nat, m23.2.2 a0 1 = some b24 ∧
        S[b24]? = some (3, 0) ∧
        (((m23.1 b24 6) = ((1 : Int32) <<< ((m23.1 a0 13) &&& 31)) →
          ∃ b27 : Nat, m23.2.2 a0 0 = some b27 ∧
          ∃ b28 : Nat, m23.2.2 a0 1 = some b28 ∧
          S[b27]? = some (2, 0) ∧
          S[b28]? = some (3, 0) ∧
          f_X3_breaks S b27 b28 m23 (fun (r32 : Int32) (m29 : Mm) =>
            ((r32 = 0 →
            K (0 : Int32) m29) ∧
           (¬ r32 = 0 →
            K (1 : Int32) m29)))) ∧
         (¬ (m23.1 b24 6) = ((1 : Int32) <<< ((m23.1 a0 13) &&& 31)) →
          K (0 : Int32) m23))))))))
set_option maxHeartbeats 4000000 in
set_option maxRecDepth 100000 in
theorem ok_X9_isSought {l : Launch} {g : Gg} {S : Ss} {a0 : Nat} {M : Mm} {K : Int32 → Mm → Prop} (hs0 : S[a0]? = some (8, 0)) (hf : f_X9_isSought S a0 M K) : MT l g S yX9_isSought cX9_isSought 1 (some .boolean) 3 [.ref (ad g a0)] M (pI K) := by
  refine MT.of (by decide +kernel) (Nat.le_of_ble_eq_true rfl) ?_
  intro p e s m below meth c ls E hw hR hS hl
  have hl : lv_has ls 1 [(0, .ref (ad g a0))] := hl
  generalize ([.ref (ad g a0)] : List Value).toArray = args at E ⊢
  have E : EN p s m args meth c cX9_isSought 1 (some .boolean) RX9 g := E
  have hx := E.1
  have hb := E.2.1
  unfold f_X9_isSought at hf
  refine lv_aload_n hx hb dX9_isSought_0 rfl (lv_at hl 0 rfl) ?_
  refine hw_getI E hR cI8 hs0 12 (by decide) lfX9_59 rfl dX9_isSought_1 ?_
  rcases Decidable.em ((M.1 a0 12) = 0) with w1 | w1
  · replace hf := hf.1 w1
    refine lv_tableIn (tgt := 32) hx hb dX9_isSought_4 (by rw [w1]; decide) (by rw [w1]; decide) (by rw [w1]; rfl) (by decide) ?_
    refine lv_iconst (v := 0) hx hb dX9_isSought_32 (by decide) ?_
    exact hw_zret E hR hS (by decide) ⟨_, rfl, hf⟩ dX9_isSought_33
  · replace hf := hf.2 w1
    rcases Decidable.em ((M.1 a0 12) = 1) with w2 | w2
    · replace hf := hf.1 w2
      refine lv_tableIn (tgt := 34) hx hb dX9_isSought_4 (by rw [w2]; decide) (by rw [w2]; decide) (by rw [w2]; rfl) (by decide) ?_
      refine lv_aload_n hx hb dX9_isSought_34 rfl (lv_at hl 0 rfl) ?_
      obtain ⟨b3, hb3, hf⟩ := hf
      refine hw_getR E hR cI8 hs0 0 (by decide) lfX9_12 rfl hb3 dX9_isSought_35 ?_
      refine lv_aload_n hx hb dX9_isSought_38 rfl (lv_at hl 0 rfl) ?_
      obtain ⟨b4, hb4, hf⟩ := hf
      refine hw_getR E hR cI8 hs0 0 (by decide) lfX9_12 rfl hb4 dX9_isSought_39 ?_
      obtain ⟨h5, hf⟩ := hf
      obtain ⟨b6, hb6, hf⟩ := hf
      refine hw_getR E hR cI2 h5 9 (by decide) lfX9_129 rfl hb6 dX9_isSought_42 ?_
      refine lv_iconst (v := 0) hx hb dX9_isSought_45 (by decide) ?_
      refine lv_aload_n hx hb dX9_isSought_46 rfl (lv_at hl 0 rfl) ?_
      obtain ⟨b7, hb7, hf⟩ := hf
      refine hw_getR E hR cI8 hs0 1 (by decide) lfX9_21 rfl hb7 dX9_isSought_47 ?_
      obtain ⟨h9, hf⟩ := hf
      obtain ⟨h10, hf⟩ := hf
      obtain ⟨h11, hf⟩ := hf
      refine hw_callV (d := 3) E hR hS (As := [.ref (ad g b6), .int (0 : Int32), .ref (ad g b7)]) (rest := []) cI2 h9 rfl mcX3_value miX3_value lmX9_133 (ok_X3_value h9 h10 h11 hf) rfl rfl (by decide) hl.1 (Nat.le_of_ble_eq_true rfl) dX9_isSought_50 (fun rr m8 H locs hp hR hS => ?_)
      obtain ⟨r12, rfl, hf⟩ := hp
      refine W.eq (g2 := F0 m 53 ls [.int r12]) rfl ?_
      refine lv_if_eq (tgt := 60) hx hb dX9_isSought_53 (by decide) (fun c13 => ?_) (fun c13 => ?_)
      · replace hf := hf.1 c13
        refine lv_iconst (v := 0) hx hb dX9_isSought_60 (by decide) ?_
        exact hw_zret E hR hS (by decide) ⟨_, rfl, hf⟩ dX9_isSought_61
      · replace hf := hf.2 c13
        refine lv_iconst (v := 1) hx hb dX9_isSought_56 (by decide) ?_
        refine lv_goto (tgt := 61) hx hb dX9_isSought_57 (by decide) ?_
        exact hw_zret E hR hS (by decide) ⟨_, rfl, hf⟩ dX9_isSought_61
    · replace hf := hf.2 w2
      rcases Decidable.em ((M.1 a0 12) = 2) with w14 | w14
      · replace hf := hf.1 w14
        refine lv_tableIn (tgt := 62) hx hb dX9_isSought_4 (by rw [w14]; decide) (by rw [w14]; decide) (by rw [w14]; rfl) (by decide) ?_
        refine lv_aload_n hx hb dX9_isSought_62 rfl (lv_at hl 0 rfl) ?_
        obtain ⟨b15, hb15, hf⟩ := hf
        refine hw_getR E hR cI8 hs0 1 (by decide) lfX9_21 rfl hb15 dX9_isSought_63 ?_
        obtain ⟨h16, hf⟩ := hf
        refine hw_getI E hR cI3 h16 4 (by decide) lfX9_137 rfl dX9_isSought_66 ?_
        refine lv_aload_n hx hb dX9_isSought_69 rfl (lv_at hl 0 rfl) ?_
        refine hw_getI E hR cI8 hs0 13 (by decide) lfX9_62 rfl dX9_isSought_70 ?_
        refine lv_iconst (v := 1) hx hb dX9_isSought_73 (by decide) ?_
        refine lv_iadd hx hb dX9_isSought_74 ?_
        refine lv_icmp_ne (tgt := 82) hx hb dX9_isSought_75 (by decide) (fun c17 => ?_) (fun c17 => ?_)
        · replace hf := hf.2 c17
          refine lv_iconst (v := 0) hx hb dX9_isSought_82 (by decide) ?_
          exact hw_zret E hR hS (by decide) ⟨_, rfl, hf⟩ dX9_isSought_83
        · replace hf := hf.1 c17
          refine lv_iconst (v := 1) hx hb dX9_isSought_78 (by decide) ?_
          refine lv_goto (tgt := 83) hx hb dX9_isSought_79 (by decide) ?_
          exact hw_zret E hR hS (by decide) ⟨_, rfl, hf⟩ dX9_isSought_83
      · replace hf := hf.2 w14
        refine lv_tableOut (tgt := 84) hx hb dX9_isSought_4 (by have := lv_neT w1 (a := 0) (by decide); have := lv_neT w2 (a := 1) (by decide); have := lv_neT w14 (a := 2) (by decide); omega) (by decide) ?_
        refine lv_aload_n hx hb dX9_isSought_84 rfl (lv_at hl 0 rfl) ?_
        obtain ⟨b18, hb18, hf⟩ := hf
        refine hw_getR E hR cI8 hs0 1 (by decide) lfX9_21 rfl hb18 dX9_isSought_85 ?_
        refine lv_iconst (v := 1) hx hb dX9_isSought_88 (by decide) ?_
        obtain ⟨h19, hf⟩ := hf
        refine hw_putI E hR hS hw cI3 h19 2 (by decide) lfX9_140 rfl (Or.inl rfl) dX9_isSought_89 (fun m20 H locs em20 hR hS => ?_)
        replace hf := hf m20 em20
        refine lv_aload_n hx hb dX9_isSought_92 rfl (lv_at hl 0 rfl) ?_
        obtain ⟨b21, hb21, hf⟩ := hf
        refine hw_getR E hR cI8 hs0 1 (by decide) lfX9_21 rfl hb21 dX9_isSought_93 ?_
        refine lv_iconst (v := 0) hx hb dX9_isSought_96 (by decide) ?_
        obtain ⟨h22, hf⟩ := hf
        refine hw_putI E hR hS hw cI3 h22 3 (by decide) lfX9_143 rfl (Or.inl rfl) dX9_isSought_97 (fun m23 H locs em23 hR hS => ?_)
        replace hf := hf m23 em23
        refine lv_aload_n hx hb dX9_isSought_100 rfl (lv_at hl 0 rfl) ?_
        obtain ⟨b24, hb24, hf⟩ := hf
        refine hw_getR E hR cI8 hs0 1 (by decide) lfX9_21 rfl hb24 dX9_isSought_101 ?_
        obtain ⟨h25, hf⟩ := hf
        refine hw_getI E hR cI3 h25 6 (by decide) lfX9_146 rfl dX9_isSought_104 ?_
        refine lv_iconst (v := 1) hx hb dX9_isSought_107 (by decide) ?_
        refine lv_aload_n hx hb dX9_isSought_108 rfl (lv_at hl 0 rfl) ?_
        refine hw_getI E hR cI8 hs0 13 (by decide) lfX9_62 rfl dX9_isSought_109 ?_
        refine lv_ishl hx hb dX9_isSought_112 ?_
        refine lv_icmp_ne (tgt := 134) hx hb dX9_isSought_113 (by decide) (fun c26 => ?_) (fun c26 => ?_)
        · replace hf := hf.2 c26
          refine lv_iconst (v := 0) hx hb dX9_isSought_134 (by decide) ?_
          exact hw_zret E hR hS (by decide) ⟨_, rfl, hf⟩ dX9_isSought_135
        · replace hf := hf.1 c26
          refine lv_aload_n hx hb dX9_isSought_116 rfl (lv_at hl 0 rfl) ?_
          obtain ⟨b27, hb27, hf⟩ := hf
          refine hw_getR E hR cI8 hs0 0 (by decide) lfX9_12 rfl hb27 dX9_isSought_117 ?_
          refine lv_aload_n hx hb dX9_isSought_120 rfl (lv_at hl 0 rfl) ?_
          obtain ⟨b28, hb28, hf⟩ := hf
          refine hw_getR E hR cI8 hs0 1 (by decide) lfX9_21 rfl hb28 dX9_isSought_121 ?_
          obtain ⟨h30, hf⟩ := hf
          obtain ⟨h31, hf⟩ := hf
          refine hw_callV (d := 3) E hR hS (As := [.ref (ad g b28)]) (rest := []) cI2 h30 rfl mcX3_breaks miX3_breaks lmX9_117 (ok_X3_breaks h30 h31 hf) rfl rfl (by decide) hl.1 (Nat.le_of_ble_eq_true rfl) dX9_isSought_124 (fun rr m29 H locs hp hR hS => ?_)
          obtain ⟨r32, rfl, hf⟩ := hp
          refine W.eq (g2 := F0 m 127 ls [.int r32]) rfl ?_
          refine lv_if_eq (tgt := 134) hx hb dX9_isSought_127 (by decide) (fun c33 => ?_) (fun c33 => ?_)
          · replace hf := hf.1 c33
            refine lv_iconst (v := 0) hx hb dX9_isSought_134 (by decide) ?_
            exact hw_zret E hR hS (by decide) ⟨_, rfl, hf⟩ dX9_isSought_135
          · replace hf := hf.2 c33
            refine lv_iconst (v := 1) hx hb dX9_isSought_130 (by decide) ?_
            refine lv_goto (tgt := 135) hx hb dX9_isSought_131 (by decide) ?_
            exact hw_zret E hR hS (by decide) ⟨_, rfl, hf⟩ dX9_isSought_135
def f_X9_noteFirst_J18 (S : Ss) (a0 : Nat) (x1 : Int32) (x2 : Int32) (M : Mm) (K : Mm → Prop) : Prop :=
  ((0 ≤ (M.1 a0 15) →
    K M) ∧
   (¬ 0 ≤ (M.1 a0 15) →
    (((x2 &&& (2 : Int32)) = 0 →
      K M) ∧
     (¬ (x2 &&& (2 : Int32)) = 0 →
      ∀ m4 : Mm, m4 = stI M a0 15 x1 →
      K m4))))
set_option maxHeartbeats 4000000 in
set_option maxRecDepth 100000 in
theorem w_X9_noteFirst_J18 {p : Program} {l : Launch} {e : Env} {s : State} {m : MethodId} {args : Array Value} {below : List Frame} {meth : Method} {c : Code} {g : Gg} {S : Ss} (a0 : Nat) (x1 : Int32) (x2 : Int32) (M : Mm) (K : Mm → Prop) (E : EN p s m args meth c cX9_noteFirst 3 none RX9 g) (hw : ad g 100000 < s.heap.size) (hs0 : S[a0]? = some (8, 0)) (hf : f_X9_noteFirst_J18 S a0 x1 x2 M K) (H : Heap) (locs : List Loc) (ls : Array Slot) (hR : RP g S M H) (hS : va_S (gA g) s.heap H locs) (hl : lv_has ls 3 [(0, .ref (ad g a0)), (1, .int x1), (2, .int x2)]) : W p l e (rmD 0) s m args below meth c H locs 0 0 (MQ below (QA g S (pV K)) args s 0 0 (gA g)) (F0 m 18 ls []) := by
  have hx := E.1
  have hb := E.2.1
  unfold f_X9_noteFirst_J18 at hf
  refine lv_aload_n hx hb dX9_noteFirst_18 rfl (lv_at hl 0 rfl) ?_
  refine hw_getI E hR cI8 hs0 15 (by decide) lfX9_68 rfl dX9_noteFirst_19 ?_
  refine lv_if_ge (tgt := 36) hx hb dX9_noteFirst_22 (by decide) (fun c2 => ?_) (fun c2 => ?_)
  · replace hf := hf.1 c2
    exact hw_vret E hR hS ⟨rfl, hf⟩ dX9_noteFirst_36
  · replace hf := hf.2 c2
    refine lv_iload_n hx hb dX9_noteFirst_25 rfl (lv_at hl 2 rfl) ?_
    refine lv_iconst (v := 2) hx hb dX9_noteFirst_26 (by decide) ?_
    refine lv_iand hx hb dX9_noteFirst_27 ?_
    refine lv_if_eq (tgt := 36) hx hb dX9_noteFirst_28 (by decide) (fun c3 => ?_) (fun c3 => ?_)
    · replace hf := hf.1 c3
      exact hw_vret E hR hS ⟨rfl, hf⟩ dX9_noteFirst_36
    · replace hf := hf.2 c3
      refine lv_aload_n hx hb dX9_noteFirst_31 rfl (lv_at hl 0 rfl) ?_
      refine lv_iload_n hx hb dX9_noteFirst_32 rfl (lv_at hl 1 rfl) ?_
      refine hw_putI E hR hS hw cI8 hs0 15 (by decide) lfX9_68 rfl (Or.inl rfl) dX9_noteFirst_33 (fun m4 H locs em4 hR hS => ?_)
      replace hf := hf m4 em4
      exact hw_vret E hR hS ⟨rfl, hf⟩ dX9_noteFirst_36
def f_X9_noteFirst (S : Ss) (a0 : Nat) (x1 : Int32) (x2 : Int32) (M : Mm) (K : Mm → Prop) : Prop :=
  ((0 ≤ (M.1 a0 14) →
    f_X9_noteFirst_J18 S a0 x1 x2 M K) ∧
   (¬ 0 ≤ (M.1 a0 14) →
    (((x2 &&& (1 : Int32)) = 0 →
      f_X9_noteFirst_J18 S a0 x1 x2 M K) ∧
     (¬ (x2 &&& (1 : Int32)) = 0 →
      ∀ m6 : Mm, m6 = stI M a0 14 x1 →
      f_X9_noteFirst_J18 S a0 x1 x2 m6 K))))
set_option maxHeartbeats 4000000 in
set_option maxRecDepth 100000 in
theorem ok_X9_noteFirst {l : Launch} {g : Gg} {S : Ss} {a0 : Nat} {x1 : Int32} {x2 : Int32} {M : Mm} {K : Mm → Prop} (hs0 : S[a0]? = some (8, 0)) (hf : f_X9_noteFirst S a0 x1 x2 M K) : MT l g S yX9_noteFirst cX9_noteFirst 3 none 0 [.ref (ad g a0), .int x1, .int x2] M (pV K) := by
  refine MT.of (by decide +kernel) (Nat.le_of_ble_eq_true rfl) ?_
  intro p e s m below meth c ls E hw hR hS hl
  have hl : lv_has ls 3 [(0, .ref (ad g a0)), (1, .int x1), (2, .int x2)] := hl
  generalize ([.ref (ad g a0), .int x1, .int x2] : List Value).toArray = args at E ⊢
  have E : EN p s m args meth c cX9_noteFirst 3 none RX9 g := E
  have hx := E.1
  have hb := E.2.1
  unfold f_X9_noteFirst at hf
  refine lv_aload_n hx hb dX9_noteFirst_0 rfl (lv_at hl 0 rfl) ?_
  refine hw_getI E hR cI8 hs0 14 (by decide) lfX9_65 rfl dX9_noteFirst_1 ?_
  refine lv_if_ge (tgt := 18) hx hb dX9_noteFirst_4 (by decide) (fun c1 => ?_) (fun c1 => ?_)
  · replace hf := hf.1 c1
    exact w_X9_noteFirst_J18 _ _ _ _ _ E hw hs0 hf _ _ _ hR hS (lv_sub hl [0, 1, 2] rfl)
  · replace hf := hf.2 c1
    refine lv_iload_n hx hb dX9_noteFirst_7 rfl (lv_at hl 2 rfl) ?_
    refine lv_iconst (v := 1) hx hb dX9_noteFirst_8 (by decide) ?_
    refine lv_iand hx hb dX9_noteFirst_9 ?_
    refine lv_if_eq (tgt := 18) hx hb dX9_noteFirst_10 (by decide) (fun c5 => ?_) (fun c5 => ?_)
    · replace hf := hf.1 c5
      exact w_X9_noteFirst_J18 _ _ _ _ _ E hw hs0 hf _ _ _ hR hS (lv_sub hl [0, 1, 2] rfl)
    · replace hf := hf.2 c5
      refine lv_aload_n hx hb dX9_noteFirst_13 rfl (lv_at hl 0 rfl) ?_
      refine lv_iload_n hx hb dX9_noteFirst_14 rfl (lv_at hl 1 rfl) ?_
      refine hw_putI E hR hS hw cI8 hs0 14 (by decide) lfX9_65 rfl (Or.inl rfl) dX9_noteFirst_15 (fun m6 H locs em6 hR hS => ?_)
      replace hf := hf m6 em6
      exact w_X9_noteFirst_J18 _ _ _ _ _ E hw hs0 hf _ _ _ hR hS (lv_sub hl [0, 1, 2] rfl)
def f_X9_expand_J154 (S : Ss) (a0 : Nat) (x1 : Int32) (x2 : Int32) (x3 : Int32) (x4 : Int32) (x5 : Int32) (x6 : Int32) (x7 : Int32) (x8 : Int32) (t0 : Int32) (t1 : Int32) (M : Mm) (BK43 : Int32 → Int32 → Int32 → Int32 → Mm → Prop) (K : Int32 → Mm → Prop) : Prop :=
  ∀ v41 : Int32, v41 = (t1 ||| t0) →
  f_X9_noteFirst S a0 x7 v41 M (fun (m42 : Mm) =>
    ∃ b43 : Nat, m42.2.2 a0 7 = some b43 ∧
  ∃ n44 : Nat, S[b43]? = some (50, n44) ∧ vp_in x3 n44 ∧
  ∀ m45 : Mm, m45 = stI m42 b43 x3.toNatClampNeg ((x8 <<< ((2 : Int32) &&& 31)) ||| v41) →
  ((x4 = 0 →
    ∀ v47 : Int32, v47 = x3 + (1 : Int32) →
    ∀ v48 : Int32, v48 = x2 + (1 : Int32) →
    ∀ v49 : Int32, v49 = x6 + (1 : Int32) →
    BK43 v48 v47 (0 : Int32) v49 m45) ∧
   (¬ x4 = 0 →
    ((x8 = x1 →
      ∀ v54 : Int32, v54 = x3 + (1 : Int32) →
      ∀ v55 : Int32, v55 = x2 + (1 : Int32) →
      ∀ v56 : Int32, v56 = x6 + (1 : Int32) →
      BK43 v55 v54 (1 : Int32) v56 m45) ∧
     (¬ x8 = x1 →
      ∀ v51 : Int32, v51 = x3 + (1 : Int32) →
      ∀ v52 : Int32, v52 = x2 + (1 : Int32) →
      ∀ v53 : Int32, v53 = x6 + (1 : Int32) →
      BK43 v52 v51 (0 : Int32) v53 m45)))))
set_option maxHeartbeats 4000000 in
set_option maxRecDepth 100000 in
theorem w_X9_expand_J154 {p : Program} {l : Launch} {e : Env} {s : State} {m : MethodId} {args : Array Value} {below : List Frame} {meth : Method} {c : Code} {g : Gg} {S : Ss} (a0 : Nat) (x1 : Int32) (x2 : Int32) (x3 : Int32) (x4 : Int32) (x5 : Int32) (x6 : Int32) (x7 : Int32) (x8 : Int32) (t0 : Int32) (t1 : Int32) (M : Mm) (BK43 : Int32 → Int32 → Int32 → Int32 → Mm → Prop) (K : Int32 → Mm → Prop) (E : EN p s m args meth c cX9_expand 10 (some .boolean) RX9 g) (hw : ad g 100000 < s.heap.size) (hs0 : S[a0]? = some (8, 0)) (hBK43 : ∀ (x2' : Int32) (x3' : Int32) (x4' : Int32) (x6' : Int32) (M' : Mm) (H : Heap) (locs : List Loc) (ls : Array Slot), BK43 x2' x3' x4' x6' M' → RP g S M' H → va_S (gA g) s.heap H locs → lv_has ls 10 [(0, .ref (ad g a0)), (1, .int x1), (2, .int x2'), (3, .int x3'), (4, .int x4'), (5, .int x5), (6, .int x6')] → W p l e (rmD 4) s m args below meth c H locs 0 0 (MQ below (QA g S (pI K)) args s 0 0 (gA g)) (F0 m 43 ls [])) (hf : f_X9_expand_J154 S a0 x1 x2 x3 x4 x5 x6 x7 x8 t0 t1 M BK43 K) (H : Heap) (locs : List Loc) (ls : Array Slot) (hR : RP g S M H) (hS : va_S (gA g) s.heap H locs) (hl : lv_has ls 10 [(0, .ref (ad g a0)), (1, .int x1), (2, .int x2), (3, .int x3), (4, .int x4), (5, .int x5), (6, .int x6), (7, .int x7), (8, .int x8)]) : W p l e (rmD 4) s m args below meth c H locs 0 0 (MQ below (QA g S (pI K)) args s 0 0 (gA g)) (F0 m 154 ls [.int t0, .int t1]) := by
  have hx := E.1
  have hb := E.2.1
  unfold f_X9_expand_J154 at hf
  refine lv_ior hx hb dX9_expand_154 ?_
  refine lv_topi (fun v41 ev41 => ?_)
  replace hf := hf v41 ev41
  refine lv_istore (lv' := [(9, .int v41), (0, .ref (ad g a0)), (1, .int x1), (2, .int x2), (3, .int x3), (4, .int x4), (5, .int x5), (6, .int x6), (7, .int x7), (8, .int x8)]) hx hb dX9_expand_155 hl (by decide) rfl (fun ls hl => ?_)
  refine lv_aload_n hx hb dX9_expand_157 rfl (lv_at hl 1 rfl) ?_
  refine lv_iload hx hb dX9_expand_158 (lv_at hl 8 rfl) ?_
  refine lv_iload hx hb dX9_expand_160 (lv_at hl 0 rfl) ?_
  refine hw_callV (d := 4) E hR hS (As := [.int x7, .int v41]) (rest := []) cI8 hs0 rfl mcX9_noteFirst miX9_noteFirst lmX9_125 (ok_X9_noteFirst hs0 hf) rfl rfl (by decide) hl.1 (Nat.le_of_ble_eq_true rfl) dX9_expand_162 (fun rr m42 H locs hp hR hS => ?_)
  obtain ⟨rfl, hf⟩ := hp
  refine W.eq (g2 := F0 m 165 ls []) rfl ?_
  refine lv_aload_n hx hb dX9_expand_165 rfl (lv_at hl 1 rfl) ?_
  obtain ⟨b43, hb43, hf⟩ := hf
  refine hw_getR E hR cI8 hs0 7 (by decide) lfX9_43 rfl hb43 dX9_expand_166 ?_
  refine lv_iload_n hx hb dX9_expand_169 rfl (lv_at hl 4 rfl) ?_
  refine lv_iload hx hb dX9_expand_170 (lv_at hl 9 rfl) ?_
  refine lv_iconst (v := 2) hx hb dX9_expand_172 (by decide) ?_
  refine lv_ishl hx hb dX9_expand_173 ?_
  refine lv_iload hx hb dX9_expand_174 (lv_at hl 0 rfl) ?_
  refine lv_ior hx hb dX9_expand_176 ?_
  obtain ⟨n44, hn44, in44, hf⟩ := hf
  refine hw_iast E hR hS hw hn44 in44 dX9_expand_177 (fun m45 H locs em45 hR hS => ?_)
  replace hf := hf m45 em45
  refine lv_iload hx hb dX9_expand_178 (lv_at hl 5 rfl) ?_
  refine lv_if_eq (tgt := 193) hx hb dX9_expand_180 (by decide) (fun c46 => ?_) (fun c46 => ?_)
  · replace hf := hf.1 c46
    refine lv_iconst (v := 0) hx hb dX9_expand_193 (by decide) ?_
    refine lv_istore (lv' := [(4, .int (0 : Int32)), (9, .int v41), (0, .ref (ad g a0)), (1, .int x1), (2, .int x2), (3, .int x3), (5, .int x5), (6, .int x6), (7, .int x7), (8, .int x8)]) hx hb dX9_expand_194 hl (by decide) rfl (fun ls hl => ?_)
    obtain ⟨v47, ev47⟩ : ∃ y : Int32, y = x3 + (1 : Int32) := ⟨_, rfl⟩
    replace hf := hf v47 ev47
    refine lv_iinc (v := v47) (lv' := [(3, .int v47), (4, .int (0 : Int32)), (9, .int v41), (0, .ref (ad g a0)), (1, .int x1), (2, .int x2), (5, .int x5), (6, .int x6), (7, .int x7), (8, .int x8)]) hx hb dX9_expand_196 hl (k := 5) rfl (by rw [ev47]; rfl) (by decide) rfl (fun ls hl => ?_)
    obtain ⟨v48, ev48⟩ : ∃ y : Int32, y = x2 + (1 : Int32) := ⟨_, rfl⟩
    replace hf := hf v48 ev48
    refine lv_iinc (v := v48) (lv' := [(2, .int v48), (3, .int v47), (4, .int (0 : Int32)), (9, .int v41), (0, .ref (ad g a0)), (1, .int x1), (5, .int x5), (6, .int x6), (7, .int x7), (8, .int x8)]) hx hb dX9_expand_199 hl (k := 5) rfl (by rw [ev48]; rfl) (by decide) rfl (fun ls hl => ?_)
    obtain ⟨v49, ev49⟩ : ∃ y : Int32, y = x6 + (1 : Int32) := ⟨_, rfl⟩
    replace hf := hf v49 ev49
    refine lv_iinc (v := v49) (lv' := [(6, .int v49), (2, .int v48), (3, .int v47), (4, .int (0 : Int32)), (9, .int v41), (0, .ref (ad g a0)), (1, .int x1), (5, .int x5), (7, .int x7), (8, .int x8)]) hx hb dX9_expand_202 hl (k := 7) rfl (by rw [ev49]; rfl) (by decide) rfl (fun ls hl => ?_)
    refine lv_goto (tgt := 43) hx hb dX9_expand_205 (by decide) ?_
    exact hBK43 _ _ _ _ _ _ _ _ hf hR hS (lv_sub hl [5, 6, 1, 2, 3, 7, 0] rfl)
  · replace hf := hf.2 c46
    refine lv_iload hx hb dX9_expand_183 (lv_at hl 9 rfl) ?_
    refine lv_iload_n hx hb dX9_expand_185 rfl (lv_at hl 2 rfl) ?_
    refine lv_icmp_ne (tgt := 193) hx hb dX9_expand_186 (by decide) (fun c50 => ?_) (fun c50 => ?_)
    · replace hf := hf.2 c50
      refine lv_iconst (v := 0) hx hb dX9_expand_193 (by decide) ?_
      refine lv_istore (lv' := [(4, .int (0 : Int32)), (9, .int v41), (0, .ref (ad g a0)), (1, .int x1), (2, .int x2), (3, .int x3), (5, .int x5), (6, .int x6), (7, .int x7), (8, .int x8)]) hx hb dX9_expand_194 hl (by decide) rfl (fun ls hl => ?_)
      obtain ⟨v51, ev51⟩ : ∃ y : Int32, y = x3 + (1 : Int32) := ⟨_, rfl⟩
      replace hf := hf v51 ev51
      refine lv_iinc (v := v51) (lv' := [(3, .int v51), (4, .int (0 : Int32)), (9, .int v41), (0, .ref (ad g a0)), (1, .int x1), (2, .int x2), (5, .int x5), (6, .int x6), (7, .int x7), (8, .int x8)]) hx hb dX9_expand_196 hl (k := 5) rfl (by rw [ev51]; rfl) (by decide) rfl (fun ls hl => ?_)
      obtain ⟨v52, ev52⟩ : ∃ y : Int32, y = x2 + (1 : Int32) := ⟨_, rfl⟩
      replace hf := hf v52 ev52
      refine lv_iinc (v := v52) (lv' := [(2, .int v52), (3, .int v51), (4, .int (0 : Int32)), (9, .int v41), (0, .ref (ad g a0)), (1, .int x1), (5, .int x5), (6, .int x6), (7, .int x7), (8, .int x8)]) hx hb dX9_expand_199 hl (k := 5) rfl (by rw [ev52]; rfl) (by decide) rfl (fun ls hl => ?_)
      obtain ⟨v53, ev53⟩ : ∃ y : Int32, y = x6 + (1 : Int32) := ⟨_, rfl⟩
      replace hf := hf v53 ev53
      refine lv_iinc (v := v53) (lv' := [(6, .int v53), (2, .int v52), (3, .int v51), (4, .int (0 : Int32)), (9, .int v41), (0, .ref (ad g a0)), (1, .int x1), (5, .int x5), (7, .int x7), (8, .int x8)]) hx hb dX9_expand_202 hl (k := 7) rfl (by rw [ev53]; rfl) (by decide) rfl (fun ls hl => ?_)
      refine lv_goto (tgt := 43) hx hb dX9_expand_205 (by decide) ?_
      exact hBK43 _ _ _ _ _ _ _ _ hf hR hS (lv_sub hl [5, 6, 1, 2, 3, 7, 0] rfl)
    · replace hf := hf.1 c50
      refine lv_iconst (v := 1) hx hb dX9_expand_189 (by decide) ?_
      refine lv_goto (tgt := 194) hx hb dX9_expand_190 (by decide) ?_
      refine lv_istore (lv' := [(4, .int (1 : Int32)), (9, .int v41), (0, .ref (ad g a0)), (1, .int x1), (2, .int x2), (3, .int x3), (5, .int x5), (6, .int x6), (7, .int x7), (8, .int x8)]) hx hb dX9_expand_194 hl (by decide) rfl (fun ls hl => ?_)
      obtain ⟨v54, ev54⟩ : ∃ y : Int32, y = x3 + (1 : Int32) := ⟨_, rfl⟩
      replace hf := hf v54 ev54
      refine lv_iinc (v := v54) (lv' := [(3, .int v54), (4, .int (1 : Int32)), (9, .int v41), (0, .ref (ad g a0)), (1, .int x1), (2, .int x2), (5, .int x5), (6, .int x6), (7, .int x7), (8, .int x8)]) hx hb dX9_expand_196 hl (k := 5) rfl (by rw [ev54]; rfl) (by decide) rfl (fun ls hl => ?_)
      obtain ⟨v55, ev55⟩ : ∃ y : Int32, y = x2 + (1 : Int32) := ⟨_, rfl⟩
      replace hf := hf v55 ev55
      refine lv_iinc (v := v55) (lv' := [(2, .int v55), (3, .int v54), (4, .int (1 : Int32)), (9, .int v41), (0, .ref (ad g a0)), (1, .int x1), (5, .int x5), (6, .int x6), (7, .int x7), (8, .int x8)]) hx hb dX9_expand_199 hl (k := 5) rfl (by rw [ev55]; rfl) (by decide) rfl (fun ls hl => ?_)
      obtain ⟨v56, ev56⟩ : ∃ y : Int32, y = x6 + (1 : Int32) := ⟨_, rfl⟩
      replace hf := hf v56 ev56
      refine lv_iinc (v := v56) (lv' := [(6, .int v56), (2, .int v55), (3, .int v54), (4, .int (1 : Int32)), (9, .int v41), (0, .ref (ad g a0)), (1, .int x1), (5, .int x5), (7, .int x7), (8, .int x8)]) hx hb dX9_expand_202 hl (k := 7) rfl (by rw [ev56]; rfl) (by decide) rfl (fun ls hl => ?_)
      refine lv_goto (tgt := 43) hx hb dX9_expand_205 (by decide) ?_
      exact hBK43 _ _ _ _ _ _ _ _ hf hR hS (lv_sub hl [5, 6, 1, 2, 3, 7, 0] rfl)
def f_X9_expand_J138 (S : Ss) (a0 : Nat) (x1 : Int32) (x2 : Int32) (x3 : Int32) (x4 : Int32) (x5 : Int32) (x6 : Int32) (x7 : Int32) (x8 : Int32) (t0 : Int32) (M : Mm) (BK43 : Int32 → Int32 → Int32 → Int32 → Mm → Prop) (K : Int32 → Mm → Prop) : Prop :=
  f_X9_isSought S a0  M (fun (r39 : Int32) (m38 : Mm) =>
    ((r39 = 0 →
    f_X9_expand_J154 S a0 x1 x2 x3 x4 x5 x6 x7 x8 (0 : Int32) t0 m38 BK43 K) ∧
   (¬ r39 = 0 →
    f_X9_expand_J154 S a0 x1 x2 x3 x4 x5 x6 x7 x8 (2 : Int32) t0 m38 BK43 K)))
set_option maxHeartbeats 4000000 in
set_option maxRecDepth 100000 in
theorem w_X9_expand_J138 {p : Program} {l : Launch} {e : Env} {s : State} {m : MethodId} {args : Array Value} {below : List Frame} {meth : Method} {c : Code} {g : Gg} {S : Ss} (a0 : Nat) (x1 : Int32) (x2 : Int32) (x3 : Int32) (x4 : Int32) (x5 : Int32) (x6 : Int32) (x7 : Int32) (x8 : Int32) (t0 : Int32) (M : Mm) (BK43 : Int32 → Int32 → Int32 → Int32 → Mm → Prop) (K : Int32 → Mm → Prop) (E : EN p s m args meth c cX9_expand 10 (some .boolean) RX9 g) (hw : ad g 100000 < s.heap.size) (hs0 : S[a0]? = some (8, 0)) (hBK43 : ∀ (x2' : Int32) (x3' : Int32) (x4' : Int32) (x6' : Int32) (M' : Mm) (H : Heap) (locs : List Loc) (ls : Array Slot), BK43 x2' x3' x4' x6' M' → RP g S M' H → va_S (gA g) s.heap H locs → lv_has ls 10 [(0, .ref (ad g a0)), (1, .int x1), (2, .int x2'), (3, .int x3'), (4, .int x4'), (5, .int x5), (6, .int x6')] → W p l e (rmD 4) s m args below meth c H locs 0 0 (MQ below (QA g S (pI K)) args s 0 0 (gA g)) (F0 m 43 ls [])) (hf : f_X9_expand_J138 S a0 x1 x2 x3 x4 x5 x6 x7 x8 t0 M BK43 K) (H : Heap) (locs : List Loc) (ls : Array Slot) (hR : RP g S M H) (hS : va_S (gA g) s.heap H locs) (hl : lv_has ls 10 [(0, .ref (ad g a0)), (1, .int x1), (2, .int x2), (3, .int x3), (4, .int x4), (5, .int x5), (6, .int x6), (7, .int x7), (8, .int x8)]) : W p l e (rmD 4) s m args below meth c H locs 0 0 (MQ below (QA g S (pI K)) args s 0 0 (gA g)) (F0 m 138 ls [.int t0]) := by
  have hx := E.1
  have hb := E.2.1
  unfold f_X9_expand_J138 at hf
  refine lv_istore (lv' := [(9, .int t0), (0, .ref (ad g a0)), (1, .int x1), (2, .int x2), (3, .int x3), (4, .int x4), (5, .int x5), (6, .int x6), (7, .int x7), (8, .int x8)]) hx hb dX9_expand_138 hl (by decide) rfl (fun ls hl => ?_)
  refine lv_iload hx hb dX9_expand_140 (lv_at hl 0 rfl) ?_
  refine lv_aload_n hx hb dX9_expand_142 rfl (lv_at hl 1 rfl) ?_
  refine hw_callV (d := 4) E hR hS (As := []) (rest := [.int t0]) cI8 hs0 rfl mcX9_isSought miX9_isSought lmX9_121 (ok_X9_isSought hs0 hf) rfl rfl (by decide) hl.1 (Nat.le_of_ble_eq_true rfl) dX9_expand_143 (fun rr m38 H locs hp hR hS => ?_)
  obtain ⟨r39, rfl, hf⟩ := hp
  refine W.eq (g2 := F0 m 146 ls [.int r39, .int t0]) rfl ?_
  refine lv_if_eq (tgt := 153) hx hb dX9_expand_146 (by decide) (fun c40 => ?_) (fun c40 => ?_)
  · replace hf := hf.1 c40
    refine lv_iconst (v := 0) hx hb dX9_expand_153 (by decide) ?_
    exact w_X9_expand_J154 _ _ _ _ _ _ _ _ _ _ _ _ _ _ E hw hs0 hBK43 hf _ _ _ hR hS (lv_sub hl [1, 2, 3, 4, 5, 6, 7, 8, 9] rfl)
  · replace hf := hf.2 c40
    refine lv_iconst (v := 2) hx hb dX9_expand_149 (by decide) ?_
    refine lv_goto (tgt := 154) hx hb dX9_expand_150 (by decide) ?_
    exact w_X9_expand_J154 _ _ _ _ _ _ _ _ _ _ _ _ _ _ E hw hs0 hBK43 hf _ _ _ hR hS (lv_sub hl [1, 2, 3, 4, 5, 6, 7, 8, 9] rfl)
def f_X9_expand_B43 (S : Ss) (a0 : Nat) (x1 : Int32) (x2 : Int32) (x3 : Int32) (x4 : Int32) (x5 : Int32) (x6 : Int32) (M : Mm) (BK43 : Int32 → Int32 → Int32 → Int32 → Mm → Prop) (EK43 : Int32 → Int32 → Int32 → Mm → Prop) (K : Int32 → Mm → Prop) : Prop :=
  ∃ b9 : Nat, M.2.2 a0 0 = some b9 ∧
  S[b9]? = some (2, 0) ∧
  (((M.1 b9 13) < x6 →
    EK43 x2 x3 x4 M) ∧
   (¬ (M.1 b9 13) < x6 →
    ∃ b12 : Nat, M.2.2 a0 1 = some b12 ∧
    ∃ b13 : Nat, M.2.2 a0 2 = some b13 ∧
    ∃ n14 : Nat, S[b13]? = some (53, n14) ∧ vp_in x1 n14 ∧
    S[b12]? = some (3, 0) ∧
    ∀ m16 : Mm, m16 = stJ M b12 0 (M.2.1 b13 x1.toNatClampNeg) →
    ∃ b17 : Nat, m16.2.2 a0 1 = some b17 ∧
    ∃ b18 : Nat, m16.2.2 a0 3 = some b18 ∧
    ∃ n19 : Nat, S[b18]? = some (53, n19) ∧ vp_in x1 n19 ∧
    S[b17]? = some (3, 0) ∧
    ∀ m21 : Mm, m21 = stJ m16 b17 1 (m16.2.1 b18 x1.toNatClampNeg) →
    ∃ b22 : Nat, m21.2.2 a0 0 = some b22 ∧
    ∃ b23 : Nat, m21.2.2 a0 1 = some b23 ∧
    S[b22]? = some (2, 0) ∧
    S[b23]? = some (3, 0) ∧
    f_X3_act S b22 b23 x5 x6 m21 (fun (m24 : Mm) =>
      ∀ v27 : Int32, v27 = ((x1 <<< ((5 : Int32) &&& 31)) ||| x2) →
    f_X9_find S a0 (0 : Int32) v27 m24 (fun (r29 : Int32) (m28 : Mm) =>
      ((0 ≤ r29 →
      ∃ b31 : Nat, m28.2.2 a0 0 = some b31 ∧
      ∃ b32 : Nat, m28.2.2 a0 1 = some b32 ∧
      S[b31]? = some (2, 0) ∧
      S[b32]? = some (3, 0) ∧
      f_X3_breaks S b31 b32 m28 (fun (r36 : Int32) (m33 : Mm) =>
        ((r36 = 0 →
        f_X9_expand_J138 S a0 x1 x2 x3 x4 x5 x6 v27 r29 (0 : Int32) m33 BK43 K) ∧
       (¬ r36 = 0 →
        f_X9_expand_J138 S a0 x1 x2 x3 x4 x5 x6 v27 r29 (1 : Int32) m33 BK43 K)))) ∧
     (¬ 0 ≤ r29 →
      K (0 : Int32) m28))))))
set_option maxHeartbeats 4000000 in
set_option maxRecDepth 100000 in
theorem w_X9_expand_B43 {p : Program} {l : Launch} {e : Env} {s : State} {m : MethodId} {args : Array Value} {below : List Frame} {meth : Method} {c : Code} {g : Gg} {S : Ss} (a0 : Nat) (x1 : Int32) (x2 : Int32) (x3 : Int32) (x4 : Int32) (x5 : Int32) (x6 : Int32) (M : Mm) (BK43 : Int32 → Int32 → Int32 → Int32 → Mm → Prop) (EK43 : Int32 → Int32 → Int32 → Mm → Prop) (K : Int32 → Mm → Prop) (E : EN p s m args meth c cX9_expand 10 (some .boolean) RX9 g) (hw : ad g 100000 < s.heap.size) (hs0 : S[a0]? = some (8, 0)) (hBK43 : ∀ (x2' : Int32) (x3' : Int32) (x4' : Int32) (x6' : Int32) (M' : Mm) (H : Heap) (locs : List Loc) (ls : Array Slot), BK43 x2' x3' x4' x6' M' → RP g S M' H → va_S (gA g) s.heap H locs → lv_has ls 10 [(0, .ref (ad g a0)), (1, .int x1), (2, .int x2'), (3, .int x3'), (4, .int x4'), (5, .int x5), (6, .int x6')] → W p l e (rmD 4) s m args below meth c H locs 0 0 (MQ below (QA g S (pI K)) args s 0 0 (gA g)) (F0 m 43 ls [])) (hEK43 : ∀ (x2' : Int32) (x3' : Int32) (x4' : Int32) (M' : Mm) (H : Heap) (locs : List Loc) (ls : Array Slot), EK43 x2' x3' x4' M' → RP g S M' H → va_S (gA g) s.heap H locs → lv_has ls 10 [(0, .ref (ad g a0)), (1, .int x1), (2, .int x2'), (3, .int x3'), (4, .int x4'), (5, .int x5)] → W p l e (rmD 4) s m args below meth c H locs 0 0 (MQ below (QA g S (pI K)) args s 0 0 (gA g)) (F0 m 208 ls [])) (hf : f_X9_expand_B43 S a0 x1 x2 x3 x4 x5 x6 M BK43 EK43 K) (H : Heap) (locs : List Loc) (ls : Array Slot) (hR : RP g S M H) (hS : va_S (gA g) s.heap H locs) (hl : lv_has ls 10 [(0, .ref (ad g a0)), (1, .int x1), (2, .int x2), (3, .int x3), (4, .int x4), (5, .int x5), (6, .int x6)]) : W p l e (rmD 4) s m args below meth c H locs 0 0 (MQ below (QA g S (pI K)) args s 0 0 (gA g)) (F0 m 43 ls []) := by
  have hx := E.1
  have hb := E.2.1
  unfold f_X9_expand_B43 at hf
  refine lv_iload hx hb dX9_expand_43 (lv_at hl 6 rfl) ?_
  refine lv_aload_n hx hb dX9_expand_45 rfl (lv_at hl 0 rfl) ?_
  obtain ⟨b9, hb9, hf⟩ := hf
  refine hw_getR E hR cI8 hs0 0 (by decide) lfX9_12 rfl hb9 dX9_expand_46 ?_
  obtain ⟨h10, hf⟩ := hf
  refine hw_getI E hR cI2 h10 13 (by decide) lfX9_105 rfl dX9_expand_49 ?_
  refine lv_icmp_gt (tgt := 208) hx hb dX9_expand_52 (by decide) (fun c11 => ?_) (fun c11 => ?_)
  · replace hf := hf.1 c11
    exact hEK43 _ _ _ _ _ _ _ hf hR hS (lv_sub hl [0, 1, 2, 3, 4, 5] rfl)
  · replace hf := hf.2 c11
    refine lv_aload_n hx hb dX9_expand_55 rfl (lv_at hl 0 rfl) ?_
    obtain ⟨b12, hb12, hf⟩ := hf
    refine hw_getR E hR cI8 hs0 1 (by decide) lfX9_21 rfl hb12 dX9_expand_56 ?_
    refine lv_aload_n hx hb dX9_expand_59 rfl (lv_at hl 0 rfl) ?_
    obtain ⟨b13, hb13, hf⟩ := hf
    refine hw_getR E hR cI8 hs0 2 (by decide) lfX9_25 rfl hb13 dX9_expand_60 ?_
    refine lv_iload_n hx hb dX9_expand_63 rfl (lv_at hl 1 rfl) ?_
    obtain ⟨n14, hn14, in14, hf⟩ := hf
    refine hw_lald E hR hn14 in14 dX9_expand_64 ?_
    obtain ⟨h15, hf⟩ := hf
    refine hw_putJ E hR hS hw cI3 h15 0 (by decide) lfX9_108 rfl rfl dX9_expand_65 (fun m16 H locs em16 hR hS => ?_)
    replace hf := hf m16 em16
    refine lv_aload_n hx hb dX9_expand_68 rfl (lv_at hl 0 rfl) ?_
    obtain ⟨b17, hb17, hf⟩ := hf
    refine hw_getR E hR cI8 hs0 1 (by decide) lfX9_21 rfl hb17 dX9_expand_69 ?_
    refine lv_aload_n hx hb dX9_expand_72 rfl (lv_at hl 0 rfl) ?_
    obtain ⟨b18, hb18, hf⟩ := hf
    refine hw_getR E hR cI8 hs0 3 (by decide) lfX9_29 rfl hb18 dX9_expand_73 ?_
    refine lv_iload_n hx hb dX9_expand_76 rfl (lv_at hl 1 rfl) ?_
    obtain ⟨n19, hn19, in19, hf⟩ := hf
    refine hw_lald E hR hn19 in19 dX9_expand_77 ?_
    obtain ⟨h20, hf⟩ := hf
    refine hw_putJ E hR hS hw cI3 h20 1 (by decide) lfX9_110 rfl rfl dX9_expand_78 (fun m21 H locs em21 hR hS => ?_)
    replace hf := hf m21 em21
    refine lv_aload_n hx hb dX9_expand_81 rfl (lv_at hl 0 rfl) ?_
    obtain ⟨b22, hb22, hf⟩ := hf
    refine hw_getR E hR cI8 hs0 0 (by decide) lfX9_12 rfl hb22 dX9_expand_82 ?_
    refine lv_aload_n hx hb dX9_expand_85 rfl (lv_at hl 0 rfl) ?_
    obtain ⟨b23, hb23, hf⟩ := hf
    refine hw_getR E hR cI8 hs0 1 (by decide) lfX9_21 rfl hb23 dX9_expand_86 ?_
    refine lv_iload hx hb dX9_expand_89 (lv_at hl 5 rfl) ?_
    refine lv_iload hx hb dX9_expand_91 (lv_at hl 6 rfl) ?_
    obtain ⟨h25, hf⟩ := hf
    obtain ⟨h26, hf⟩ := hf
    refine hw_callV (d := 4) E hR hS (As := [.ref (ad g b23), .int x5, .int x6]) (rest := []) cI2 h25 rfl mcX3_act miX3_act lmX9_113 (ok_X3_act h25 h26 hf) rfl rfl (by decide) hl.1 (Nat.le_of_ble_eq_true rfl) dX9_expand_93 (fun rr m24 H locs hp hR hS => ?_)
    obtain ⟨rfl, hf⟩ := hp
    refine W.eq (g2 := F0 m 96 ls []) rfl ?_
    refine lv_iload_n hx hb dX9_expand_96 rfl (lv_at hl 1 rfl) ?_
    refine lv_iconst (v := 5) hx hb dX9_expand_97 (by decide) ?_
    refine lv_ishl hx hb dX9_expand_98 ?_
    refine lv_iload_n hx hb dX9_expand_99 rfl (lv_at hl 2 rfl) ?_
    refine lv_ior hx hb dX9_expand_100 ?_
    refine lv_topi (fun v27 ev27 => ?_)
    replace hf := hf v27 ev27
    refine lv_istore (lv' := [(7, .int v27), (0, .ref (ad g a0)), (1, .int x1), (2, .int x2), (3, .int x3), (4, .int x4), (5, .int x5), (6, .int x6)]) hx hb dX9_expand_101 hl (by decide) rfl (fun ls hl => ?_)
    refine lv_aload_n hx hb dX9_expand_103 rfl (lv_at hl 1 rfl) ?_
    refine lv_iconst (v := 0) hx hb dX9_expand_104 (by decide) ?_
    refine lv_iload hx hb dX9_expand_105 (lv_at hl 0 rfl) ?_
    refine hw_callV (d := 4) E hR hS (As := [.int (0 : Int32), .int v27]) (rest := []) cI8 hs0 rfl mcX9_find miX9_find lmX9_99 (ok_X9_find hs0 hf) rfl rfl (by decide) hl.1 (Nat.le_of_ble_eq_true rfl) dX9_expand_107 (fun rr m28 H locs hp hR hS => ?_)
    obtain ⟨r29, rfl, hf⟩ := hp
    refine W.eq (g2 := F0 m 110 ls [.int r29]) rfl ?_
    refine lv_istore (lv' := [(8, .int r29), (7, .int v27), (0, .ref (ad g a0)), (1, .int x1), (2, .int x2), (3, .int x3), (4, .int x4), (5, .int x5), (6, .int x6)]) hx hb dX9_expand_110 hl (by decide) rfl (fun ls hl => ?_)
    refine lv_iload hx hb dX9_expand_112 (lv_at hl 0 rfl) ?_
    refine lv_if_ge (tgt := 119) hx hb dX9_expand_114 (by decide) (fun c30 => ?_) (fun c30 => ?_)
    · replace hf := hf.1 c30
      refine lv_aload_n hx hb dX9_expand_119 rfl (lv_at hl 2 rfl) ?_
      obtain ⟨b31, hb31, hf⟩ := hf
      refine hw_getR E hR cI8 hs0 0 (by decide) lfX9_12 rfl hb31 dX9_expand_120 ?_
      refine lv_aload_n hx hb dX9_expand_123 rfl (lv_at hl 2 rfl) ?_
      obtain ⟨b32, hb32, hf⟩ := hf
      refine hw_getR E hR cI8 hs0 1 (by decide) lfX9_21 rfl hb32 dX9_expand_124 ?_
      obtain ⟨h34, hf⟩ := hf
      obtain ⟨h35, hf⟩ := hf
      refine hw_callV (d := 4) E hR hS (As := [.ref (ad g b32)]) (rest := []) cI2 h34 rfl mcX3_breaks miX3_breaks lmX9_117 (ok_X3_breaks h34 h35 hf) rfl rfl (by decide) hl.1 (Nat.le_of_ble_eq_true rfl) dX9_expand_127 (fun rr m33 H locs hp hR hS => ?_)
      obtain ⟨r36, rfl, hf⟩ := hp
      refine W.eq (g2 := F0 m 130 ls [.int r36]) rfl ?_
      refine lv_if_eq (tgt := 137) hx hb dX9_expand_130 (by decide) (fun c37 => ?_) (fun c37 => ?_)
      · replace hf := hf.1 c37
        refine lv_iconst (v := 0) hx hb dX9_expand_137 (by decide) ?_
        exact w_X9_expand_J138 _ _ _ _ _ _ _ _ _ _ _ _ _ E hw hs0 hBK43 hf _ _ _ hR hS (lv_sub hl [2, 3, 4, 5, 6, 7, 8, 1, 0] rfl)
      · replace hf := hf.2 c37
        refine lv_iconst (v := 1) hx hb dX9_expand_133 (by decide) ?_
        refine lv_goto (tgt := 138) hx hb dX9_expand_134 (by decide) ?_
        exact w_X9_expand_J138 _ _ _ _ _ _ _ _ _ _ _ _ _ E hw hs0 hBK43 hf _ _ _ hR hS (lv_sub hl [2, 3, 4, 5, 6, 7, 8, 1, 0] rfl)
    · replace hf := hf.2 c30
      refine lv_iconst (v := 0) hx hb dX9_expand_117 (by decide) ?_
      exact hw_zret E hR hS (by decide) ⟨_, rfl, hf⟩ dX9_expand_118
def f_X9_expand_L43 (S : Ss) (a0 : Nat) (x1 : Int32) (x5 : Int32) (EK43 : Int32 → Int32 → Int32 → Mm → Prop) (K : Int32 → Mm → Prop) : Nat → Int32 → Int32 → Int32 → Int32 → Mm → Prop
  | 0, _, _, _, _, _ => False
  | n + 1, x2, x3, x4, x6, M => f_X9_expand_B43 S a0 x1 x2 x3 x4 x5 x6 M (fun (x2 : Int32) (x3 : Int32) (x4 : Int32) (x6 : Int32) (M : Mm) => f_X9_expand_L43 S a0 x1 x5 EK43 K n x2 x3 x4 x6 M) EK43 K
set_option maxHeartbeats 4000000 in
set_option maxRecDepth 100000 in
theorem w_X9_expand_L43 {p : Program} {l : Launch} {e : Env} {s : State} {m : MethodId} {args : Array Value} {below : List Frame} {meth : Method} {c : Code} {g : Gg} {S : Ss} (a0 : Nat) (x1 : Int32) (x5 : Int32) (EK43 : Int32 → Int32 → Int32 → Mm → Prop) (K : Int32 → Mm → Prop) (E : EN p s m args meth c cX9_expand 10 (some .boolean) RX9 g) (hw : ad g 100000 < s.heap.size) (hs0 : S[a0]? = some (8, 0)) (hEK43 : ∀ (x2' : Int32) (x3' : Int32) (x4' : Int32) (M' : Mm) (H : Heap) (locs : List Loc) (ls : Array Slot), EK43 x2' x3' x4' M' → RP g S M' H → va_S (gA g) s.heap H locs → lv_has ls 10 [(0, .ref (ad g a0)), (1, .int x1), (2, .int x2'), (3, .int x3'), (4, .int x4'), (5, .int x5)] → W p l e (rmD 4) s m args below meth c H locs 0 0 (MQ below (QA g S (pI K)) args s 0 0 (gA g)) (F0 m 208 ls [])) : ∀ (n : Nat) (x2 : Int32) (x3 : Int32) (x4 : Int32) (x6 : Int32) (M : Mm), f_X9_expand_L43 S a0 x1 x5 EK43 K n x2 x3 x4 x6 M → ∀ (H : Heap) (locs : List Loc) (ls : Array Slot), RP g S M H → va_S (gA g) s.heap H locs → lv_has ls 10 [(0, .ref (ad g a0)), (1, .int x1), (2, .int x2), (3, .int x3), (4, .int x4), (5, .int x5), (6, .int x6)] → W p l e (rmD 4) s m args below meth c H locs 0 0 (MQ below (QA g S (pI K)) args s 0 0 (gA g)) (F0 m 43 ls []) := by
  intro n
  induction n with
  | zero => intro x2 x3 x4 x6 M hf; exact hf.elim
  | succ n ih =>
    intro x2 x3 x4 x6 M hf H locs ls hR hS hl
    exact w_X9_expand_B43 _ _ _ _ _ _ _ _ _ _ _ E hw hs0 (fun _ _ _ _ M H locs ls h hR hS hl => ih _ _ _ _ M h H locs ls hR hS hl) hEK43 hf H locs ls hR hS hl
def f_X9_expand_B28 (S : Ss) (a0 : Nat) (x1 : Int32) (x2 : Int32) (x3 : Int32) (x4 : Int32) (x5 : Int32) (M : Mm) (BK28 : Int32 → Int32 → Int32 → Int32 → Mm → Prop) (EK28 : Int32 → Mm → Prop) (K : Int32 → Mm → Prop) : Prop :=
  ∃ b6 : Nat, M.2.2 a0 0 = some b6 ∧
  S[b6]? = some (2, 0) ∧
  (((M.1 b6 10) ≤ x5 →
    EK28 x4 M) ∧
   (¬ (M.1 b6 10) ≤ x5 →
    ∃ n62 : Nat, f_X9_expand_L43 S a0 x1 x5 (fun (v57 : Int32) (v58 : Int32) (v59 : Int32) (m60 : Mm) =>
      ∀ v61 : Int32, v61 = x5 + (1 : Int32) →
      BK28 v57 v58 v59 v61 m60) K n62 x2 x3 x4 (0 : Int32) M))
set_option maxHeartbeats 4000000 in
set_option maxRecDepth 100000 in
theorem w_X9_expand_B28 {p : Program} {l : Launch} {e : Env} {s : State} {m : MethodId} {args : Array Value} {below : List Frame} {meth : Method} {c : Code} {g : Gg} {S : Ss} (a0 : Nat) (x1 : Int32) (x2 : Int32) (x3 : Int32) (x4 : Int32) (x5 : Int32) (M : Mm) (BK28 : Int32 → Int32 → Int32 → Int32 → Mm → Prop) (EK28 : Int32 → Mm → Prop) (K : Int32 → Mm → Prop) (E : EN p s m args meth c cX9_expand 10 (some .boolean) RX9 g) (hw : ad g 100000 < s.heap.size) (hs0 : S[a0]? = some (8, 0)) (hBK28 : ∀ (x2' : Int32) (x3' : Int32) (x4' : Int32) (x5' : Int32) (M' : Mm) (H : Heap) (locs : List Loc) (ls : Array Slot), BK28 x2' x3' x4' x5' M' → RP g S M' H → va_S (gA g) s.heap H locs → lv_has ls 10 [(0, .ref (ad g a0)), (1, .int x1), (2, .int x2'), (3, .int x3'), (4, .int x4'), (5, .int x5')] → W p l e (rmD 4) s m args below meth c H locs 0 0 (MQ below (QA g S (pI K)) args s 0 0 (gA g)) (F0 m 28 ls [])) (hEK28 : ∀ (x4' : Int32) (M' : Mm) (H : Heap) (locs : List Loc) (ls : Array Slot), EK28 x4' M' → RP g S M' H → va_S (gA g) s.heap H locs → lv_has ls 10 [(0, .ref (ad g a0)), (1, .int x1), (4, .int x4')] → W p l e (rmD 4) s m args below meth c H locs 0 0 (MQ below (QA g S (pI K)) args s 0 0 (gA g)) (F0 m 214 ls [])) (hf : f_X9_expand_B28 S a0 x1 x2 x3 x4 x5 M BK28 EK28 K) (H : Heap) (locs : List Loc) (ls : Array Slot) (hR : RP g S M H) (hS : va_S (gA g) s.heap H locs) (hl : lv_has ls 10 [(0, .ref (ad g a0)), (1, .int x1), (2, .int x2), (3, .int x3), (4, .int x4), (5, .int x5)]) : W p l e (rmD 4) s m args below meth c H locs 0 0 (MQ below (QA g S (pI K)) args s 0 0 (gA g)) (F0 m 28 ls []) := by
  have hx := E.1
  have hb := E.2.1
  unfold f_X9_expand_B28 at hf
  refine lv_iload hx hb dX9_expand_28 (lv_at hl 5 rfl) ?_
  refine lv_aload_n hx hb dX9_expand_30 rfl (lv_at hl 0 rfl) ?_
  obtain ⟨b6, hb6, hf⟩ := hf
  refine hw_getR E hR cI8 hs0 0 (by decide) lfX9_12 rfl hb6 dX9_expand_31 ?_
  obtain ⟨h7, hf⟩ := hf
  refine hw_getI E hR cI2 h7 10 (by decide) lfX9_102 rfl dX9_expand_34 ?_
  refine lv_icmp_ge (tgt := 214) hx hb dX9_expand_37 (by decide) (fun c8 => ?_) (fun c8 => ?_)
  · replace hf := hf.1 c8
    exact hEK28 _ _ _ _ _ hf hR hS (lv_sub hl [0, 1, 4] rfl)
  · replace hf := hf.2 c8
    refine lv_iconst (v := 0) hx hb dX9_expand_40 (by decide) ?_
    refine lv_istore (lv' := [(6, .int (0 : Int32)), (0, .ref (ad g a0)), (1, .int x1), (2, .int x2), (3, .int x3), (4, .int x4), (5, .int x5)]) hx hb dX9_expand_41 hl (by decide) rfl (fun ls hl => ?_)
    obtain ⟨n62, hf⟩ := hf
    refine w_X9_expand_L43 _ _ _ _ _ E hw hs0 ?_ n62 _ _ _ _ _ hf _ _ _ hR hS (lv_sub hl [1, 2, 3, 4, 5, 6, 0] rfl)
    intro v57 v58 v59 m60 H locs ls hf hR hS hl
    obtain ⟨v61, ev61⟩ : ∃ y : Int32, y = x5 + (1 : Int32) := ⟨_, rfl⟩
    replace hf := hf v61 ev61
    refine lv_iinc (v := v61) (lv' := [(5, .int v61), (0, .ref (ad g a0)), (1, .int x1), (2, .int v57), (3, .int v58), (4, .int v59)]) hx hb dX9_expand_208 hl (k := 5) rfl (by rw [ev61]; rfl) (by decide) rfl (fun ls hl => ?_)
    refine lv_goto (tgt := 28) hx hb dX9_expand_211 (by decide) ?_
    exact hBK28 _ _ _ _ _ _ _ _ hf hR hS (lv_sub hl [1, 2, 3, 4, 5, 0] rfl)
def f_X9_expand_L28 (S : Ss) (a0 : Nat) (x1 : Int32) (EK28 : Int32 → Mm → Prop) (K : Int32 → Mm → Prop) : Nat → Int32 → Int32 → Int32 → Int32 → Mm → Prop
  | 0, _, _, _, _, _ => False
  | n + 1, x2, x3, x4, x5, M => f_X9_expand_B28 S a0 x1 x2 x3 x4 x5 M (fun (x2 : Int32) (x3 : Int32) (x4 : Int32) (x5 : Int32) (M : Mm) => f_X9_expand_L28 S a0 x1 EK28 K n x2 x3 x4 x5 M) EK28 K
set_option maxHeartbeats 4000000 in
set_option maxRecDepth 100000 in
theorem w_X9_expand_L28 {p : Program} {l : Launch} {e : Env} {s : State} {m : MethodId} {args : Array Value} {below : List Frame} {meth : Method} {c : Code} {g : Gg} {S : Ss} (a0 : Nat) (x1 : Int32) (EK28 : Int32 → Mm → Prop) (K : Int32 → Mm → Prop) (E : EN p s m args meth c cX9_expand 10 (some .boolean) RX9 g) (hw : ad g 100000 < s.heap.size) (hs0 : S[a0]? = some (8, 0)) (hEK28 : ∀ (x4' : Int32) (M' : Mm) (H : Heap) (locs : List Loc) (ls : Array Slot), EK28 x4' M' → RP g S M' H → va_S (gA g) s.heap H locs → lv_has ls 10 [(0, .ref (ad g a0)), (1, .int x1), (4, .int x4')] → W p l e (rmD 4) s m args below meth c H locs 0 0 (MQ below (QA g S (pI K)) args s 0 0 (gA g)) (F0 m 214 ls [])) : ∀ (n : Nat) (x2 : Int32) (x3 : Int32) (x4 : Int32) (x5 : Int32) (M : Mm), f_X9_expand_L28 S a0 x1 EK28 K n x2 x3 x4 x5 M → ∀ (H : Heap) (locs : List Loc) (ls : Array Slot), RP g S M H → va_S (gA g) s.heap H locs → lv_has ls 10 [(0, .ref (ad g a0)), (1, .int x1), (2, .int x2), (3, .int x3), (4, .int x4), (5, .int x5)] → W p l e (rmD 4) s m args below meth c H locs 0 0 (MQ below (QA g S (pI K)) args s 0 0 (gA g)) (F0 m 28 ls []) := by
  intro n
  induction n with
  | zero => intro x2 x3 x4 x5 M hf; exact hf.elim
  | succ n ih =>
    intro x2 x3 x4 x5 M hf H locs ls hR hS hl
    exact w_X9_expand_B28 _ _ _ _ _ _ _ _ _ _ E hw hs0 (fun _ _ _ _ M H locs ls h hR hS hl => ih _ _ _ _ M h H locs ls hR hS hl) hEK28 hf H locs ls hR hS hl
def f_X9_expand (S : Ss) (a0 : Nat) (x1 : Int32) (M : Mm) (K : Int32 → Mm → Prop) : Prop :=
  ∃ b1 : Nat, M.2.2 a0 0 = some b1 ∧
  S[b1]? = some (2, 0) ∧
  ∃ b3 : Nat, M.2.2 a0 0 = some b3 ∧
  S[b3]? = some (2, 0) ∧
  ∀ v5 : Int32, v5 = ((x1 * (M.1 b1 10)) * ((M.1 b3 13) + (1 : Int32))) →
  ∃ n68 : Nat, f_X9_expand_L28 S a0 x1 (fun (v63 : Int32) (m64 : Mm) =>
    ((v63 = 0 →
      K (1 : Int32) m64) ∧
     (¬ v63 = 0 →
      ((0 ≤ (m64.1 a0 16) →
        K (1 : Int32) m64) ∧
       (¬ 0 ≤ (m64.1 a0 16) →
        ∀ m67 : Mm, m67 = stI m64 a0 16 x1 →
        K (1 : Int32) m67))))) K n68 (0 : Int32) v5 (1 : Int32) (0 : Int32) M
set_option maxHeartbeats 4000000 in
set_option maxRecDepth 100000 in
theorem ok_X9_expand {l : Launch} {g : Gg} {S : Ss} {a0 : Nat} {x1 : Int32} {M : Mm} {K : Int32 → Mm → Prop} (hs0 : S[a0]? = some (8, 0)) (hf : f_X9_expand S a0 x1 M K) : MT l g S yX9_expand cX9_expand 10 (some .boolean) 4 [.ref (ad g a0), .int x1] M (pI K) := by
  refine MT.of (by decide +kernel) (Nat.le_of_ble_eq_true rfl) ?_
  intro p e s m below meth c ls E hw hR hS hl
  have hl : lv_has ls 10 [(0, .ref (ad g a0)), (1, .int x1)] := hl
  generalize ([.ref (ad g a0), .int x1] : List Value).toArray = args at E ⊢
  have E : EN p s m args meth c cX9_expand 10 (some .boolean) RX9 g := E
  have hx := E.1
  have hb := E.2.1
  unfold f_X9_expand at hf
  refine lv_iconst (v := 0) hx hb dX9_expand_0 (by decide) ?_
  refine lv_istore_n (lv' := [(2, .int (0 : Int32)), (0, .ref (ad g a0)), (1, .int x1)]) hx hb dX9_expand_1 rfl hl (by decide) rfl (fun ls hl => ?_)
  refine lv_iload_n hx hb dX9_expand_2 rfl (lv_at hl 2 rfl) ?_
  refine lv_aload_n hx hb dX9_expand_3 rfl (lv_at hl 1 rfl) ?_
  obtain ⟨b1, hb1, hf⟩ := hf
  refine hw_getR E hR cI8 hs0 0 (by decide) lfX9_12 rfl hb1 dX9_expand_4 ?_
  obtain ⟨h2, hf⟩ := hf
  refine hw_getI E hR cI2 h2 10 (by decide) lfX9_102 rfl dX9_expand_7 ?_
  refine lv_imul hx hb dX9_expand_10 ?_
  refine lv_aload_n hx hb dX9_expand_11 rfl (lv_at hl 1 rfl) ?_
  obtain ⟨b3, hb3, hf⟩ := hf
  refine hw_getR E hR cI8 hs0 0 (by decide) lfX9_12 rfl hb3 dX9_expand_12 ?_
  obtain ⟨h4, hf⟩ := hf
  refine hw_getI E hR cI2 h4 13 (by decide) lfX9_105 rfl dX9_expand_15 ?_
  refine lv_iconst (v := 1) hx hb dX9_expand_18 (by decide) ?_
  refine lv_iadd hx hb dX9_expand_19 ?_
  refine lv_imul hx hb dX9_expand_20 ?_
  refine lv_topi (fun v5 ev5 => ?_)
  replace hf := hf v5 ev5
  refine lv_istore_n (lv' := [(3, .int v5), (2, .int (0 : Int32)), (0, .ref (ad g a0)), (1, .int x1)]) hx hb dX9_expand_21 rfl hl (by decide) rfl (fun ls hl => ?_)
  refine lv_iconst (v := 1) hx hb dX9_expand_22 (by decide) ?_
  refine lv_istore (lv' := [(4, .int (1 : Int32)), (3, .int v5), (2, .int (0 : Int32)), (0, .ref (ad g a0)), (1, .int x1)]) hx hb dX9_expand_23 hl (by decide) rfl (fun ls hl => ?_)
  refine lv_iconst (v := 0) hx hb dX9_expand_25 (by decide) ?_
  refine lv_istore (lv' := [(5, .int (0 : Int32)), (4, .int (1 : Int32)), (3, .int v5), (2, .int (0 : Int32)), (0, .ref (ad g a0)), (1, .int x1)]) hx hb dX9_expand_26 hl (by decide) rfl (fun ls hl => ?_)
  obtain ⟨n68, hf⟩ := hf
  refine w_X9_expand_L28 _ _ _ _ E hw hs0 ?_ n68 _ _ _ _ _ hf _ _ _ hR hS (lv_sub hl [4, 5, 3, 2, 1, 0] rfl)
  intro v63 m64 H locs ls hf hR hS hl
  refine lv_iload hx hb dX9_expand_214 (lv_at hl 2 rfl) ?_
  refine lv_if_eq (tgt := 231) hx hb dX9_expand_216 (by decide) (fun c65 => ?_) (fun c65 => ?_)
  · replace hf := hf.1 c65
    refine lv_iconst (v := 1) hx hb dX9_expand_231 (by decide) ?_
    exact hw_zret E hR hS (by decide) ⟨_, rfl, hf⟩ dX9_expand_232
  · replace hf := hf.2 c65
    refine lv_aload_n hx hb dX9_expand_219 rfl (lv_at hl 0 rfl) ?_
    refine hw_getI E hR cI8 hs0 16 (by decide) lfX9_71 rfl dX9_expand_220 ?_
    refine lv_if_ge (tgt := 231) hx hb dX9_expand_223 (by decide) (fun c66 => ?_) (fun c66 => ?_)
    · replace hf := hf.1 c66
      refine lv_iconst (v := 1) hx hb dX9_expand_231 (by decide) ?_
      exact hw_zret E hR hS (by decide) ⟨_, rfl, hf⟩ dX9_expand_232
    · replace hf := hf.2 c66
      refine lv_aload_n hx hb dX9_expand_226 rfl (lv_at hl 0 rfl) ?_
      refine lv_iload_n hx hb dX9_expand_227 rfl (lv_at hl 1 rfl) ?_
      refine hw_putI E hR hS hw cI8 hs0 16 (by decide) lfX9_71 rfl (Or.inl rfl) dX9_expand_228 (fun m67 H locs em67 hR hS => ?_)
      replace hf := hf m67 em67
      refine lv_iconst (v := 1) hx hb dX9_expand_231 (by decide) ?_
      exact hw_zret E hR hS (by decide) ⟨_, rfl, hf⟩ dX9_expand_232
def f_X9_explore_B40 (S : Ss) (a0 : Nat) (x2 : Int32) (x7 : Int32) (x8 : Int32) (x9 : Int32) (M : Mm) (BK40 : Int32 → Mm → Prop) (EK40 : Mm → Prop) (K : Int32 → Mm → Prop) : Prop :=
  ((x8 ≤ x9 →
    EK40 M) ∧
   (¬ x8 ≤ x9 →
    f_X9_expand S a0 x9 M (fun (r8 : Int32) (m7 : Mm) =>
      ((r8 = 0 →
      K (0 : Int32) m7) ∧
     (¬ r8 = 0 →
      ∀ v10 : Int32, v10 = x9 + (1 : Int32) →
      BK40 v10 m7)))))
set_option maxHeartbeats 4000000 in
set_option maxRecDepth 100000 in
theorem w_X9_explore_B40 {p : Program} {l : Launch} {e : Env} {s : State} {m : MethodId} {args : Array Value} {below : List Frame} {meth : Method} {c : Code} {g : Gg} {S : Ss} (a0 : Nat) (x2 : Int32) (x7 : Int32) (x8 : Int32) (x9 : Int32) (M : Mm) (BK40 : Int32 → Mm → Prop) (EK40 : Mm → Prop) (K : Int32 → Mm → Prop) (E : EN p s m args meth c cX9_explore 10 (some .boolean) RX9 g) (hw : ad g 100000 < s.heap.size) (hs0 : S[a0]? = some (8, 0)) (hBK40 : ∀ (x9' : Int32) (M' : Mm) (H : Heap) (locs : List Loc) (ls : Array Slot), BK40 x9' M' → RP g S M' H → va_S (gA g) s.heap H locs → lv_has ls 10 [(0, .ref (ad g a0)), (2, .int x2), (7, .int x7), (8, .int x8), (9, .int x9')] → W p l e (rmD 5) s m args below meth c H locs 0 0 (MQ below (QA g S (pI K)) args s 0 0 (gA g)) (F0 m 40 ls [])) (hEK40 : ∀ (M' : Mm) (H : Heap) (locs : List Loc) (ls : Array Slot), EK40 M' → RP g S M' H → va_S (gA g) s.heap H locs → lv_has ls 10 [(0, .ref (ad g a0)), (2, .int x2), (7, .int x7), (8, .int x8)] → W p l e (rmD 5) s m args below meth c H locs 0 0 (MQ below (QA g S (pI K)) args s 0 0 (gA g)) (F0 m 64 ls [])) (hf : f_X9_explore_B40 S a0 x2 x7 x8 x9 M BK40 EK40 K) (H : Heap) (locs : List Loc) (ls : Array Slot) (hR : RP g S M H) (hS : va_S (gA g) s.heap H locs) (hl : lv_has ls 10 [(0, .ref (ad g a0)), (2, .int x2), (7, .int x7), (8, .int x8), (9, .int x9)]) : W p l e (rmD 5) s m args below meth c H locs 0 0 (MQ below (QA g S (pI K)) args s 0 0 (gA g)) (F0 m 40 ls []) := by
  have hx := E.1
  have hb := E.2.1
  unfold f_X9_explore_B40 at hf
  refine lv_iload hx hb dX9_explore_40 (lv_at hl 4 rfl) ?_
  refine lv_iload hx hb dX9_explore_42 (lv_at hl 3 rfl) ?_
  refine lv_icmp_ge (tgt := 64) hx hb dX9_explore_44 (by decide) (fun c6 => ?_) (fun c6 => ?_)
  · replace hf := hf.1 c6
    exact hEK40  _ _ _ _ hf hR hS (lv_sub hl [0, 1, 2, 3] rfl)
  · replace hf := hf.2 c6
    refine lv_aload_n hx hb dX9_explore_47 rfl (lv_at hl 0 rfl) ?_
    refine lv_iload hx hb dX9_explore_48 (lv_at hl 4 rfl) ?_
    refine hw_callV (d := 5) E hR hS (As := [.int x9]) (rest := []) cI8 hs0 rfl mcX9_expand miX9_expand lmX9_85 (ok_X9_expand hs0 hf) rfl rfl (by decide) hl.1 (Nat.le_of_ble_eq_true rfl) dX9_explore_50 (fun rr m7 H locs hp hR hS => ?_)
    obtain ⟨r8, rfl, hf⟩ := hp
    refine W.eq (g2 := F0 m 53 ls [.int r8]) rfl ?_
    refine lv_if_ne (tgt := 58) hx hb dX9_explore_53 (by decide) (fun c9 => ?_) (fun c9 => ?_)
    · replace hf := hf.2 c9
      obtain ⟨v10, ev10⟩ : ∃ y : Int32, y = x9 + (1 : Int32) := ⟨_, rfl⟩
      replace hf := hf v10 ev10
      refine lv_iinc (v := v10) (lv' := [(9, .int v10), (0, .ref (ad g a0)), (2, .int x2), (7, .int x7), (8, .int x8)]) hx hb dX9_explore_58 hl (k := 4) rfl (by rw [ev10]; rfl) (by decide) rfl (fun ls hl => ?_)
      refine lv_goto (tgt := 40) hx hb dX9_explore_61 (by decide) ?_
      exact hBK40 _ _ _ _ _ hf hR hS (lv_sub hl [1, 2, 3, 4, 0] rfl)
    · replace hf := hf.1 c9
      refine lv_iconst (v := 0) hx hb dX9_explore_56 (by decide) ?_
      exact hw_zret E hR hS (by decide) ⟨_, rfl, hf⟩ dX9_explore_57
def f_X9_explore_L40 (S : Ss) (a0 : Nat) (x2 : Int32) (x7 : Int32) (x8 : Int32) (EK40 : Mm → Prop) (K : Int32 → Mm → Prop) : Nat → Int32 → Mm → Prop
  | 0, _, _ => False
  | n + 1, x9, M => f_X9_explore_B40 S a0 x2 x7 x8 x9 M (fun (x9 : Int32) (M : Mm) => f_X9_explore_L40 S a0 x2 x7 x8 EK40 K n x9 M) EK40 K
set_option maxHeartbeats 4000000 in
set_option maxRecDepth 100000 in
theorem w_X9_explore_L40 {p : Program} {l : Launch} {e : Env} {s : State} {m : MethodId} {args : Array Value} {below : List Frame} {meth : Method} {c : Code} {g : Gg} {S : Ss} (a0 : Nat) (x2 : Int32) (x7 : Int32) (x8 : Int32) (EK40 : Mm → Prop) (K : Int32 → Mm → Prop) (E : EN p s m args meth c cX9_explore 10 (some .boolean) RX9 g) (hw : ad g 100000 < s.heap.size) (hs0 : S[a0]? = some (8, 0)) (hEK40 : ∀ (M' : Mm) (H : Heap) (locs : List Loc) (ls : Array Slot), EK40 M' → RP g S M' H → va_S (gA g) s.heap H locs → lv_has ls 10 [(0, .ref (ad g a0)), (2, .int x2), (7, .int x7), (8, .int x8)] → W p l e (rmD 5) s m args below meth c H locs 0 0 (MQ below (QA g S (pI K)) args s 0 0 (gA g)) (F0 m 64 ls [])) : ∀ (n : Nat) (x9 : Int32) (M : Mm), f_X9_explore_L40 S a0 x2 x7 x8 EK40 K n x9 M → ∀ (H : Heap) (locs : List Loc) (ls : Array Slot), RP g S M H → va_S (gA g) s.heap H locs → lv_has ls 10 [(0, .ref (ad g a0)), (2, .int x2), (7, .int x7), (8, .int x8), (9, .int x9)] → W p l e (rmD 5) s m args below meth c H locs 0 0 (MQ below (QA g S (pI K)) args s 0 0 (gA g)) (F0 m 40 ls []) := by
  intro n
  induction n with
  | zero => intro x9 M hf; exact hf.elim
  | succ n ih =>
    intro x9 M hf H locs ls hR hS hl
    exact w_X9_explore_B40 _ _ _ _ _ _ _ _ _ E hw hs0 (fun _ M H locs ls h hR hS hl => ih _ M h H locs ls hR hS hl) hEK40 hf H locs ls hR hS hl
def f_X9_explore_B24 (S : Ss) (a0 : Nat) (x2 : Int32) (x6 : Int32) (x7 : Int32) (M : Mm) (BK24 : Int32 → Int32 → Mm → Prop) (EK24 : Mm → Prop) (K : Int32 → Mm → Prop) : Prop :=
  ((x2 ≤ x7 →
    EK24 M) ∧
   (¬ x2 ≤ x7 →
    ∀ v5 : Int32, v5 = (M.1 a0 10) →
    ∃ n13 : Nat, f_X9_explore_L40 S a0 x2 x7 v5 (fun (m11 : Mm) =>
      ∀ v12 : Int32, v12 = x7 + (1 : Int32) →
      BK24 v5 v12 m11) K n13 x6 M))
set_option maxHeartbeats 4000000 in
set_option maxRecDepth 100000 in
theorem w_X9_explore_B24 {p : Program} {l : Launch} {e : Env} {s : State} {m : MethodId} {args : Array Value} {below : List Frame} {meth : Method} {c : Code} {g : Gg} {S : Ss} (a0 : Nat) (x2 : Int32) (x6 : Int32) (x7 : Int32) (M : Mm) (BK24 : Int32 → Int32 → Mm → Prop) (EK24 : Mm → Prop) (K : Int32 → Mm → Prop) (E : EN p s m args meth c cX9_explore 10 (some .boolean) RX9 g) (hw : ad g 100000 < s.heap.size) (hs0 : S[a0]? = some (8, 0)) (hBK24 : ∀ (x6' : Int32) (x7' : Int32) (M' : Mm) (H : Heap) (locs : List Loc) (ls : Array Slot), BK24 x6' x7' M' → RP g S M' H → va_S (gA g) s.heap H locs → lv_has ls 10 [(0, .ref (ad g a0)), (2, .int x2), (6, .int x6'), (7, .int x7')] → W p l e (rmD 5) s m args below meth c H locs 0 0 (MQ below (QA g S (pI K)) args s 0 0 (gA g)) (F0 m 24 ls [])) (hEK24 : ∀ (M' : Mm) (H : Heap) (locs : List Loc) (ls : Array Slot), EK24 M' → RP g S M' H → va_S (gA g) s.heap H locs → lv_has ls 10 [] → W p l e (rmD 5) s m args below meth c H locs 0 0 (MQ below (QA g S (pI K)) args s 0 0 (gA g)) (F0 m 74 ls [])) (hf : f_X9_explore_B24 S a0 x2 x6 x7 M BK24 EK24 K) (H : Heap) (locs : List Loc) (ls : Array Slot) (hR : RP g S M H) (hS : va_S (gA g) s.heap H locs) (hl : lv_has ls 10 [(0, .ref (ad g a0)), (2, .int x2), (6, .int x6), (7, .int x7)]) : W p l e (rmD 5) s m args below meth c H locs 0 0 (MQ below (QA g S (pI K)) args s 0 0 (gA g)) (F0 m 24 ls []) := by
  have hx := E.1
  have hb := E.2.1
  unfold f_X9_explore_B24 at hf
  refine lv_iload hx hb dX9_explore_24 (lv_at hl 3 rfl) ?_
  refine lv_iload_n hx hb dX9_explore_26 rfl (lv_at hl 1 rfl) ?_
  refine lv_icmp_ge (tgt := 74) hx hb dX9_explore_27 (by decide) (fun c4 => ?_) (fun c4 => ?_)
  · replace hf := hf.1 c4
    exact hEK24  _ _ _ _ hf hR hS (lv_sub hl [] rfl)
  · replace hf := hf.2 c4
    refine lv_aload_n hx hb dX9_explore_30 rfl (lv_at hl 0 rfl) ?_
    refine hw_getI E hR cI8 hs0 10 (by decide) lfX9_52 rfl dX9_explore_31 ?_
    refine lv_topi (fun v5 ev5 => ?_)
    replace hf := hf v5 ev5
    refine lv_istore (lv' := [(8, .int v5), (0, .ref (ad g a0)), (2, .int x2), (6, .int x6), (7, .int x7)]) hx hb dX9_explore_34 hl (by decide) rfl (fun ls hl => ?_)
    refine lv_iload hx hb dX9_explore_36 (lv_at hl 3 rfl) ?_
    refine lv_istore (lv' := [(9, .int x6), (8, .int v5), (0, .ref (ad g a0)), (2, .int x2), (6, .int x6), (7, .int x7)]) hx hb dX9_explore_38 hl (by decide) rfl (fun ls hl => ?_)
    obtain ⟨n13, hf⟩ := hf
    refine w_X9_explore_L40 _ _ _ _ _ _ E hw hs0 ?_ n13 _ _ hf _ _ _ hR hS (lv_sub hl [2, 3, 5, 1, 0] rfl)
    intro m11 H locs ls hf hR hS hl
    refine lv_iload hx hb dX9_explore_64 (lv_at hl 3 rfl) ?_
    refine lv_istore (lv' := [(6, .int v5), (0, .ref (ad g a0)), (2, .int x2), (7, .int x7), (8, .int v5)]) hx hb dX9_explore_66 hl (by decide) rfl (fun ls hl => ?_)
    obtain ⟨v12, ev12⟩ : ∃ y : Int32, y = x7 + (1 : Int32) := ⟨_, rfl⟩
    replace hf := hf v12 ev12
    refine lv_iinc (v := v12) (lv' := [(7, .int v12), (6, .int v5), (0, .ref (ad g a0)), (2, .int x2), (8, .int v5)]) hx hb dX9_explore_68 hl (k := 3) rfl (by rw [ev12]; rfl) (by decide) rfl (fun ls hl => ?_)
    refine lv_goto (tgt := 24) hx hb dX9_explore_71 (by decide) ?_
    exact hBK24 _ _ _ _ _ _ hf hR hS (lv_sub hl [2, 3, 1, 0] rfl)
def f_X9_explore_L24 (S : Ss) (a0 : Nat) (x2 : Int32) (EK24 : Mm → Prop) (K : Int32 → Mm → Prop) : Nat → Int32 → Int32 → Mm → Prop
  | 0, _, _, _ => False
  | n + 1, x6, x7, M => f_X9_explore_B24 S a0 x2 x6 x7 M (fun (x6 : Int32) (x7 : Int32) (M : Mm) => f_X9_explore_L24 S a0 x2 EK24 K n x6 x7 M) EK24 K
set_option maxHeartbeats 4000000 in
set_option maxRecDepth 100000 in
theorem w_X9_explore_L24 {p : Program} {l : Launch} {e : Env} {s : State} {m : MethodId} {args : Array Value} {below : List Frame} {meth : Method} {c : Code} {g : Gg} {S : Ss} (a0 : Nat) (x2 : Int32) (EK24 : Mm → Prop) (K : Int32 → Mm → Prop) (E : EN p s m args meth c cX9_explore 10 (some .boolean) RX9 g) (hw : ad g 100000 < s.heap.size) (hs0 : S[a0]? = some (8, 0)) (hEK24 : ∀ (M' : Mm) (H : Heap) (locs : List Loc) (ls : Array Slot), EK24 M' → RP g S M' H → va_S (gA g) s.heap H locs → lv_has ls 10 [] → W p l e (rmD 5) s m args below meth c H locs 0 0 (MQ below (QA g S (pI K)) args s 0 0 (gA g)) (F0 m 74 ls [])) : ∀ (n : Nat) (x6 : Int32) (x7 : Int32) (M : Mm), f_X9_explore_L24 S a0 x2 EK24 K n x6 x7 M → ∀ (H : Heap) (locs : List Loc) (ls : Array Slot), RP g S M H → va_S (gA g) s.heap H locs → lv_has ls 10 [(0, .ref (ad g a0)), (2, .int x2), (6, .int x6), (7, .int x7)] → W p l e (rmD 5) s m args below meth c H locs 0 0 (MQ below (QA g S (pI K)) args s 0 0 (gA g)) (F0 m 24 ls []) := by
  intro n
  induction n with
  | zero => intro x6 x7 M hf; exact hf.elim
  | succ n ih =>
    intro x6 x7 M hf H locs ls hR hS hl
    exact w_X9_explore_B24 _ _ _ _ _ _ _ _ E hw hs0 (fun _ _ M H locs ls h hR hS hl => ih _ _ M h H locs ls hR hS hl) hEK24 hf H locs ls hR hS hl
def f_X9_explore (S : Ss) (a0 : Nat) (a1 : Nat) (x2 : Int32) (x3 : Int32) (x4 : Int32) (x5 : Int32) (M : Mm) (K : Int32 → Mm → Prop) : Prop :=
  ∀ m1 : Mm, m1 = stI M a0 12 x4 →
  ∀ m2 : Mm, m2 = stI m1 a0 13 x5 →
  f_X9_begin S a0 a1 x3 m2 (fun (m3 : Mm) =>
    ∃ n15 : Nat, f_X9_explore_L24 S a0 x2 (fun (m14 : Mm) =>
    K (1 : Int32) m14) K n15 (0 : Int32) (0 : Int32) m3)
set_option maxHeartbeats 4000000 in
set_option maxRecDepth 100000 in
theorem ok_X9_explore {l : Launch} {g : Gg} {S : Ss} {a0 : Nat} {a1 : Nat} {x2 : Int32} {x3 : Int32} {x4 : Int32} {x5 : Int32} {M : Mm} {K : Int32 → Mm → Prop} (hs0 : S[a0]? = some (8, 0)) (hs1 : S[a1]? = some (3, 0)) (hf : f_X9_explore S a0 a1 x2 x3 x4 x5 M K) : MT l g S yX9_explore cX9_explore 10 (some .boolean) 5 [.ref (ad g a0), .ref (ad g a1), .int x2, .int x3, .int x4, .int x5] M (pI K) := by
  refine MT.of (by decide +kernel) (Nat.le_of_ble_eq_true rfl) ?_
  intro p e s m below meth c ls E hw hR hS hl
  have hl : lv_has ls 10 [(0, .ref (ad g a0)), (1, .ref (ad g a1)), (2, .int x2), (3, .int x3), (4, .int x4), (5, .int x5)] := hl
  generalize ([.ref (ad g a0), .ref (ad g a1), .int x2, .int x3, .int x4, .int x5] : List Value).toArray = args at E ⊢
  have E : EN p s m args meth c cX9_explore 10 (some .boolean) RX9 g := E
  have hx := E.1
  have hb := E.2.1
  unfold f_X9_explore at hf
  refine lv_aload_n hx hb dX9_explore_0 rfl (lv_at hl 0 rfl) ?_
  refine lv_iload hx hb dX9_explore_1 (lv_at hl 4 rfl) ?_
  refine hw_putI E hR hS hw cI8 hs0 12 (by decide) lfX9_59 rfl (Or.inl rfl) dX9_explore_3 (fun m1 H locs em1 hR hS => ?_)
  replace hf := hf m1 em1
  refine lv_aload_n hx hb dX9_explore_6 rfl (lv_at hl 0 rfl) ?_
  refine lv_iload hx hb dX9_explore_7 (lv_at hl 5 rfl) ?_
  refine hw_putI E hR hS hw cI8 hs0 13 (by decide) lfX9_62 rfl (Or.inl rfl) dX9_explore_9 (fun m2 H locs em2 hR hS => ?_)
  replace hf := hf m2 em2
  refine lv_aload_n hx hb dX9_explore_12 rfl (lv_at hl 0 rfl) ?_
  refine lv_aload_n hx hb dX9_explore_13 rfl (lv_at hl 1 rfl) ?_
  refine lv_iload_n hx hb dX9_explore_14 rfl (lv_at hl 3 rfl) ?_
  refine hw_callV (d := 5) E hR hS (As := [.ref (ad g a1), .int x3]) (rest := []) cI8 hs0 rfl mcX9_begin miX9_begin lmX9_81 (ok_X9_begin hs0 hs1 hf) rfl rfl (by decide) hl.1 (Nat.le_of_ble_eq_true rfl) dX9_explore_15 (fun rr m3 H locs hp hR hS => ?_)
  obtain ⟨rfl, hf⟩ := hp
  refine W.eq (g2 := F0 m 18 ls []) rfl ?_
  refine lv_iconst (v := 0) hx hb dX9_explore_18 (by decide) ?_
  refine lv_istore (lv' := [(6, .int (0 : Int32)), (0, .ref (ad g a0)), (1, .ref (ad g a1)), (2, .int x2), (3, .int x3), (4, .int x4), (5, .int x5)]) hx hb dX9_explore_19 hl (by decide) rfl (fun ls hl => ?_)
  refine lv_iconst (v := 0) hx hb dX9_explore_21 (by decide) ?_
  refine lv_istore (lv' := [(7, .int (0 : Int32)), (6, .int (0 : Int32)), (0, .ref (ad g a0)), (1, .ref (ad g a1)), (2, .int x2), (3, .int x3), (4, .int x4), (5, .int x5)]) hx hb dX9_explore_22 hl (by decide) rfl (fun ls hl => ?_)
  obtain ⟨n15, hf⟩ := hf
  refine w_X9_explore_L24 _ _ _ _ E hw hs0 ?_ n15 _ _ _ hf _ _ _ hR hS (lv_sub hl [2, 4, 1, 0] rfl)
  intro m14 H locs ls hf hR hS hl
  refine lv_iconst (v := 1) hx hb dX9_explore_74 (by decide) ?_
  exact hw_zret E hR hS (by decide) ⟨_, rfl, hf⟩ dX9_explore_75
def f_X9_spread_B39 (S : Ss) (a0 : Nat) (x1 : Int32) (x2 : Int32) (a3 : Nat) (x4 : Int32) (x5 : Int32) (x6 : Int32) (M : Mm) (BK39 : Int32 → Int32 → Mm → Prop) (EK39 : Int32 → Mm → Prop) (K : Mm → Prop) : Prop :=
  ∃ b9 : Nat, M.2.2 a0 0 = some b9 ∧
  S[b9]? = some (2, 0) ∧
  (((M.1 b9 13) < x6 →
    EK39 x4 M) ∧
   (¬ (M.1 b9 13) < x6 →
    ∃ b12 : Nat, M.2.2 a0 7 = some b12 ∧
    ∃ n13 : Nat, shp S b12 = some (50, n13) ∧ vp_in x4 n13 ∧
    ∀ v14 : Int32, v14 = (M.1 b12 x4.toNatClampNeg) →
    (((v14 &&& x2) = 0 →
      ∃ b18 : Nat, M.2.2 a0 9 = some b18 ∧
      ∃ n19 : Nat, S[b18]? = some (53, n19) ∧ vp_in (v14 >>> ((2 : Int32) &&& 31)) n19 ∧
      ∃ b20 : Nat, M.2.2 a0 8 = some b20 ∧
      ∃ n21 : Nat, S[b20]? = some (53, n21) ∧ vp_in x1 n21 ∧
      ∃ n22 : Nat, shp S a3 = some (50, n22) ∧ vp_in x6 n22 ∧
      ∃ n23 : Nat, S[b18]? = some (53, n23) ∧ vp_in (v14 >>> ((2 : Int32) &&& 31)) n23 ∧
      ∀ m24 : Mm, m24 = stJ M b18 (v14 >>> ((2 : Int32) &&& 31)).toNatClampNeg ((M.2.1 b18 (v14 >>> ((2 : Int32) &&& 31)).toNatClampNeg) + ((M.2.1 b20 x1.toNatClampNeg) * (M.1 a3 x6.toNatClampNeg).toInt64)) →
      ∀ v25 : Int32, v25 = x4 + (1 : Int32) →
      ∀ v26 : Int32, v26 = x6 + (1 : Int32) →
      BK39 v25 v26 m24) ∧
     (¬ (v14 &&& x2) = 0 →
      ∀ v16 : Int32, v16 = x4 + (1 : Int32) →
      ∀ v17 : Int32, v17 = x6 + (1 : Int32) →
      BK39 v16 v17 M))))
set_option maxHeartbeats 4000000 in
set_option maxRecDepth 100000 in
theorem w_X9_spread_B39 {p : Program} {l : Launch} {e : Env} {s : State} {m : MethodId} {args : Array Value} {below : List Frame} {meth : Method} {c : Code} {g : Gg} {S : Ss} (a0 : Nat) (x1 : Int32) (x2 : Int32) (a3 : Nat) (x4 : Int32) (x5 : Int32) (x6 : Int32) (M : Mm) (BK39 : Int32 → Int32 → Mm → Prop) (EK39 : Int32 → Mm → Prop) (K : Mm → Prop) (E : EN p s m args meth c cX9_spread 8 none RX9 g) (hw : ad g 100000 < s.heap.size) (hs0 : S[a0]? = some (8, 0)) (hBK39 : ∀ (x4' : Int32) (x6' : Int32) (M' : Mm) (H : Heap) (locs : List Loc) (ls : Array Slot), BK39 x4' x6' M' → RP g S M' H → va_S (gA g) s.heap H locs → lv_has ls 8 [(0, .ref (ad g a0)), (1, .int x1), (2, .int x2), (3, .ref (ad g a3)), (4, .int x4'), (5, .int x5), (6, .int x6')] → W p l e (rmD 0) s m args below meth c H locs 0 0 (MQ below (QA g S (pV K)) args s 0 0 (gA g)) (F0 m 39 ls [])) (hEK39 : ∀ (x4' : Int32) (M' : Mm) (H : Heap) (locs : List Loc) (ls : Array Slot), EK39 x4' M' → RP g S M' H → va_S (gA g) s.heap H locs → lv_has ls 8 [(0, .ref (ad g a0)), (1, .int x1), (2, .int x2), (3, .ref (ad g a3)), (4, .int x4'), (5, .int x5)] → W p l e (rmD 0) s m args below meth c H locs 0 0 (MQ below (QA g S (pV K)) args s 0 0 (gA g)) (F0 m 100 ls [])) (hf : f_X9_spread_B39 S a0 x1 x2 a3 x4 x5 x6 M BK39 EK39 K) (H : Heap) (locs : List Loc) (ls : Array Slot) (hR : RP g S M H) (hS : va_S (gA g) s.heap H locs) (hl : lv_has ls 8 [(0, .ref (ad g a0)), (1, .int x1), (2, .int x2), (3, .ref (ad g a3)), (4, .int x4), (5, .int x5), (6, .int x6)]) : W p l e (rmD 0) s m args below meth c H locs 0 0 (MQ below (QA g S (pV K)) args s 0 0 (gA g)) (F0 m 39 ls []) := by
  have hx := E.1
  have hb := E.2.1
  unfold f_X9_spread_B39 at hf
  refine lv_iload hx hb dX9_spread_39 (lv_at hl 6 rfl) ?_
  refine lv_aload_n hx hb dX9_spread_41 rfl (lv_at hl 0 rfl) ?_
  obtain ⟨b9, hb9, hf⟩ := hf
  refine hw_getR E hR cI8 hs0 0 (by decide) lfX9_12 rfl hb9 dX9_spread_42 ?_
  obtain ⟨h10, hf⟩ := hf
  refine hw_getI E hR cI2 h10 13 (by decide) lfX9_105 rfl dX9_spread_45 ?_
  refine lv_icmp_gt (tgt := 100) hx hb dX9_spread_48 (by decide) (fun c11 => ?_) (fun c11 => ?_)
  · replace hf := hf.1 c11
    exact hEK39 _ _ _ _ _ hf hR hS (lv_sub hl [0, 1, 2, 3, 4, 5] rfl)
  · replace hf := hf.2 c11
    refine lv_aload_n hx hb dX9_spread_51 rfl (lv_at hl 0 rfl) ?_
    obtain ⟨b12, hb12, hf⟩ := hf
    refine hw_getR E hR cI8 hs0 7 (by decide) lfX9_43 rfl hb12 dX9_spread_52 ?_
    refine lv_iload hx hb dX9_spread_55 (lv_at hl 4 rfl) ?_
    obtain ⟨n13, hn13, in13, hf⟩ := hf
    refine hw_iald E hR hS hn13 in13 dX9_spread_57 ?_
    refine lv_topi (fun v14 ev14 => ?_)
    replace hf := hf v14 ev14
    refine lv_istore (lv' := [(7, .int v14), (0, .ref (ad g a0)), (1, .int x1), (2, .int x2), (3, .ref (ad g a3)), (4, .int x4), (5, .int x5), (6, .int x6)]) hx hb dX9_spread_58 hl (by decide) rfl (fun ls hl => ?_)
    refine lv_iload hx hb dX9_spread_60 (lv_at hl 0 rfl) ?_
    refine lv_iload_n hx hb dX9_spread_62 rfl (lv_at hl 3 rfl) ?_
    refine lv_iand hx hb dX9_spread_63 ?_
    refine lv_if_ne (tgt := 91) hx hb dX9_spread_64 (by decide) (fun c15 => ?_) (fun c15 => ?_)
    · replace hf := hf.2 c15
      obtain ⟨v16, ev16⟩ : ∃ y : Int32, y = x4 + (1 : Int32) := ⟨_, rfl⟩
      replace hf := hf v16 ev16
      refine lv_iinc (v := v16) (lv' := [(4, .int v16), (7, .int v14), (0, .ref (ad g a0)), (1, .int x1), (2, .int x2), (3, .ref (ad g a3)), (5, .int x5), (6, .int x6)]) hx hb dX9_spread_91 hl (k := 5) rfl (by rw [ev16]; rfl) (by decide) rfl (fun ls hl => ?_)
      obtain ⟨v17, ev17⟩ : ∃ y : Int32, y = x6 + (1 : Int32) := ⟨_, rfl⟩
      replace hf := hf v17 ev17
      refine lv_iinc (v := v17) (lv' := [(6, .int v17), (4, .int v16), (7, .int v14), (0, .ref (ad g a0)), (1, .int x1), (2, .int x2), (3, .ref (ad g a3)), (5, .int x5)]) hx hb dX9_spread_94 hl (k := 7) rfl (by rw [ev17]; rfl) (by decide) rfl (fun ls hl => ?_)
      refine lv_goto (tgt := 39) hx hb dX9_spread_97 (by decide) ?_
      exact hBK39 _ _ _ _ _ _ hf hR hS (lv_sub hl [3, 4, 5, 6, 1, 7, 0] rfl)
    · replace hf := hf.1 c15
      refine lv_aload_n hx hb dX9_spread_67 rfl (lv_at hl 1 rfl) ?_
      obtain ⟨b18, hb18, hf⟩ := hf
      refine hw_getR E hR cI8 hs0 9 (by decide) lfX9_49 rfl hb18 dX9_spread_68 ?_
      refine lv_iload hx hb dX9_spread_71 (lv_at hl 0 rfl) ?_
      refine lv_iconst (v := 2) hx hb dX9_spread_73 (by decide) ?_
      refine lv_ishr hx hb dX9_spread_74 ?_
      refine lv_dup2_11 hx hb dX9_spread_75 rfl rfl ?_
      obtain ⟨n19, hn19, in19, hf⟩ := hf
      refine hw_lald E hR hn19 in19 dX9_spread_76 ?_
      refine lv_aload_n hx hb dX9_spread_77 rfl (lv_at hl 1 rfl) ?_
      obtain ⟨b20, hb20, hf⟩ := hf
      refine hw_getR E hR cI8 hs0 8 (by decide) lfX9_46 rfl hb20 dX9_spread_78 ?_
      refine lv_iload_n hx hb dX9_spread_81 rfl (lv_at hl 2 rfl) ?_
      obtain ⟨n21, hn21, in21, hf⟩ := hf
      refine hw_lald E hR hn21 in21 dX9_spread_82 ?_
      refine lv_aload_n hx hb dX9_spread_83 rfl (lv_at hl 4 rfl) ?_
      refine lv_iload hx hb dX9_spread_84 (lv_at hl 7 rfl) ?_
      obtain ⟨n22, hn22, in22, hf⟩ := hf
      refine hw_iald E hR hS hn22 in22 dX9_spread_86 ?_
      refine lv_i2l hx hb dX9_spread_87 rfl ?_
      refine lv_lmul hx hb dX9_spread_88 ?_
      refine lv_ladd hx hb dX9_spread_89 ?_
      obtain ⟨n23, hn23, in23, hf⟩ := hf
      refine hw_last E hR hS hw hn23 in23 dX9_spread_90 (fun m24 H locs em24 hR hS => ?_)
      replace hf := hf m24 em24
      obtain ⟨v25, ev25⟩ : ∃ y : Int32, y = x4 + (1 : Int32) := ⟨_, rfl⟩
      replace hf := hf v25 ev25
      refine lv_iinc (v := v25) (lv' := [(4, .int v25), (7, .int v14), (0, .ref (ad g a0)), (1, .int x1), (2, .int x2), (3, .ref (ad g a3)), (5, .int x5), (6, .int x6)]) hx hb dX9_spread_91 hl (k := 5) rfl (by rw [ev25]; rfl) (by decide) rfl (fun ls hl => ?_)
      obtain ⟨v26, ev26⟩ : ∃ y : Int32, y = x6 + (1 : Int32) := ⟨_, rfl⟩
      replace hf := hf v26 ev26
      refine lv_iinc (v := v26) (lv' := [(6, .int v26), (4, .int v25), (7, .int v14), (0, .ref (ad g a0)), (1, .int x1), (2, .int x2), (3, .ref (ad g a3)), (5, .int x5)]) hx hb dX9_spread_94 hl (k := 7) rfl (by rw [ev26]; rfl) (by decide) rfl (fun ls hl => ?_)
      refine lv_goto (tgt := 39) hx hb dX9_spread_97 (by decide) ?_
      exact hBK39 _ _ _ _ _ _ hf hR hS (lv_sub hl [3, 4, 5, 6, 1, 7, 0] rfl)
def f_X9_spread_L39 (S : Ss) (a0 : Nat) (x1 : Int32) (x2 : Int32) (a3 : Nat) (x5 : Int32) (EK39 : Int32 → Mm → Prop) (K : Mm → Prop) : Nat → Int32 → Int32 → Mm → Prop
  | 0, _, _, _ => False
  | n + 1, x4, x6, M => f_X9_spread_B39 S a0 x1 x2 a3 x4 x5 x6 M (fun (x4 : Int32) (x6 : Int32) (M : Mm) => f_X9_spread_L39 S a0 x1 x2 a3 x5 EK39 K n x4 x6 M) EK39 K
set_option maxHeartbeats 4000000 in
set_option maxRecDepth 100000 in
theorem w_X9_spread_L39 {p : Program} {l : Launch} {e : Env} {s : State} {m : MethodId} {args : Array Value} {below : List Frame} {meth : Method} {c : Code} {g : Gg} {S : Ss} (a0 : Nat) (x1 : Int32) (x2 : Int32) (a3 : Nat) (x5 : Int32) (EK39 : Int32 → Mm → Prop) (K : Mm → Prop) (E : EN p s m args meth c cX9_spread 8 none RX9 g) (hw : ad g 100000 < s.heap.size) (hs0 : S[a0]? = some (8, 0)) (hEK39 : ∀ (x4' : Int32) (M' : Mm) (H : Heap) (locs : List Loc) (ls : Array Slot), EK39 x4' M' → RP g S M' H → va_S (gA g) s.heap H locs → lv_has ls 8 [(0, .ref (ad g a0)), (1, .int x1), (2, .int x2), (3, .ref (ad g a3)), (4, .int x4'), (5, .int x5)] → W p l e (rmD 0) s m args below meth c H locs 0 0 (MQ below (QA g S (pV K)) args s 0 0 (gA g)) (F0 m 100 ls [])) : ∀ (n : Nat) (x4 : Int32) (x6 : Int32) (M : Mm), f_X9_spread_L39 S a0 x1 x2 a3 x5 EK39 K n x4 x6 M → ∀ (H : Heap) (locs : List Loc) (ls : Array Slot), RP g S M H → va_S (gA g) s.heap H locs → lv_has ls 8 [(0, .ref (ad g a0)), (1, .int x1), (2, .int x2), (3, .ref (ad g a3)), (4, .int x4), (5, .int x5), (6, .int x6)] → W p l e (rmD 0) s m args below meth c H locs 0 0 (MQ below (QA g S (pV K)) args s 0 0 (gA g)) (F0 m 39 ls []) := by
  intro n
  induction n with
  | zero => intro x4 x6 M hf; exact hf.elim
  | succ n ih =>
    intro x4 x6 M hf H locs ls hR hS hl
    exact w_X9_spread_B39 _ _ _ _ _ _ _ _ _ _ _ E hw hs0 (fun _ _ M H locs ls h hR hS hl => ih _ _ M h H locs ls hR hS hl) hEK39 hf H locs ls hR hS hl
def f_X9_spread_B24 (S : Ss) (a0 : Nat) (x1 : Int32) (x2 : Int32) (a3 : Nat) (x4 : Int32) (x5 : Int32) (M : Mm) (BK24 : Int32 → Int32 → Mm → Prop) (EK24 : Mm → Prop) (K : Mm → Prop) : Prop :=
  ∃ b6 : Nat, M.2.2 a0 0 = some b6 ∧
  S[b6]? = some (2, 0) ∧
  (((M.1 b6 10) ≤ x5 →
    EK24 M) ∧
   (¬ (M.1 b6 10) ≤ x5 →
    ∃ n30 : Nat, f_X9_spread_L39 S a0 x1 x2 a3 x5 (fun (v27 : Int32) (m28 : Mm) =>
      ∀ v29 : Int32, v29 = x5 + (1 : Int32) →
      BK24 v27 v29 m28) K n30 x4 (0 : Int32) M))
set_option maxHeartbeats 4000000 in
set_option maxRecDepth 100000 in
theorem w_X9_spread_B24 {p : Program} {l : Launch} {e : Env} {s : State} {m : MethodId} {args : Array Value} {below : List Frame} {meth : Method} {c : Code} {g : Gg} {S : Ss} (a0 : Nat) (x1 : Int32) (x2 : Int32) (a3 : Nat) (x4 : Int32) (x5 : Int32) (M : Mm) (BK24 : Int32 → Int32 → Mm → Prop) (EK24 : Mm → Prop) (K : Mm → Prop) (E : EN p s m args meth c cX9_spread 8 none RX9 g) (hw : ad g 100000 < s.heap.size) (hs0 : S[a0]? = some (8, 0)) (hBK24 : ∀ (x4' : Int32) (x5' : Int32) (M' : Mm) (H : Heap) (locs : List Loc) (ls : Array Slot), BK24 x4' x5' M' → RP g S M' H → va_S (gA g) s.heap H locs → lv_has ls 8 [(0, .ref (ad g a0)), (1, .int x1), (2, .int x2), (3, .ref (ad g a3)), (4, .int x4'), (5, .int x5')] → W p l e (rmD 0) s m args below meth c H locs 0 0 (MQ below (QA g S (pV K)) args s 0 0 (gA g)) (F0 m 24 ls [])) (hEK24 : ∀ (M' : Mm) (H : Heap) (locs : List Loc) (ls : Array Slot), EK24 M' → RP g S M' H → va_S (gA g) s.heap H locs → lv_has ls 8 [] → W p l e (rmD 0) s m args below meth c H locs 0 0 (MQ below (QA g S (pV K)) args s 0 0 (gA g)) (F0 m 106 ls [])) (hf : f_X9_spread_B24 S a0 x1 x2 a3 x4 x5 M BK24 EK24 K) (H : Heap) (locs : List Loc) (ls : Array Slot) (hR : RP g S M H) (hS : va_S (gA g) s.heap H locs) (hl : lv_has ls 8 [(0, .ref (ad g a0)), (1, .int x1), (2, .int x2), (3, .ref (ad g a3)), (4, .int x4), (5, .int x5)]) : W p l e (rmD 0) s m args below meth c H locs 0 0 (MQ below (QA g S (pV K)) args s 0 0 (gA g)) (F0 m 24 ls []) := by
  have hx := E.1
  have hb := E.2.1
  unfold f_X9_spread_B24 at hf
  refine lv_iload hx hb dX9_spread_24 (lv_at hl 5 rfl) ?_
  refine lv_aload_n hx hb dX9_spread_26 rfl (lv_at hl 0 rfl) ?_
  obtain ⟨b6, hb6, hf⟩ := hf
  refine hw_getR E hR cI8 hs0 0 (by decide) lfX9_12 rfl hb6 dX9_spread_27 ?_
  obtain ⟨h7, hf⟩ := hf
  refine hw_getI E hR cI2 h7 10 (by decide) lfX9_102 rfl dX9_spread_30 ?_
  refine lv_icmp_ge (tgt := 106) hx hb dX9_spread_33 (by decide) (fun c8 => ?_) (fun c8 => ?_)
  · replace hf := hf.1 c8
    exact hEK24  _ _ _ _ hf hR hS (lv_sub hl [] rfl)
  · replace hf := hf.2 c8
    refine lv_iconst (v := 0) hx hb dX9_spread_36 (by decide) ?_
    refine lv_istore (lv' := [(6, .int (0 : Int32)), (0, .ref (ad g a0)), (1, .int x1), (2, .int x2), (3, .ref (ad g a3)), (4, .int x4), (5, .int x5)]) hx hb dX9_spread_37 hl (by decide) rfl (fun ls hl => ?_)
    obtain ⟨n30, hf⟩ := hf
    refine w_X9_spread_L39 _ _ _ _ _ _ _ E hw hs0 ?_ n30 _ _ _ hf _ _ _ hR hS (lv_sub hl [1, 2, 3, 4, 5, 6, 0] rfl)
    intro v27 m28 H locs ls hf hR hS hl
    obtain ⟨v29, ev29⟩ : ∃ y : Int32, y = x5 + (1 : Int32) := ⟨_, rfl⟩
    replace hf := hf v29 ev29
    refine lv_iinc (v := v29) (lv' := [(5, .int v29), (0, .ref (ad g a0)), (1, .int x1), (2, .int x2), (3, .ref (ad g a3)), (4, .int v27)]) hx hb dX9_spread_100 hl (k := 5) rfl (by rw [ev29]; rfl) (by decide) rfl (fun ls hl => ?_)
    refine lv_goto (tgt := 24) hx hb dX9_spread_103 (by decide) ?_
    exact hBK24 _ _ _ _ _ _ hf hR hS (lv_sub hl [1, 2, 3, 4, 5, 0] rfl)
def f_X9_spread_L24 (S : Ss) (a0 : Nat) (x1 : Int32) (x2 : Int32) (a3 : Nat) (EK24 : Mm → Prop) (K : Mm → Prop) : Nat → Int32 → Int32 → Mm → Prop
  | 0, _, _, _ => False
  | n + 1, x4, x5, M => f_X9_spread_B24 S a0 x1 x2 a3 x4 x5 M (fun (x4 : Int32) (x5 : Int32) (M : Mm) => f_X9_spread_L24 S a0 x1 x2 a3 EK24 K n x4 x5 M) EK24 K
set_option maxHeartbeats 4000000 in
set_option maxRecDepth 100000 in
theorem w_X9_spread_L24 {p : Program} {l : Launch} {e : Env} {s : State} {m : MethodId} {args : Array Value} {below : List Frame} {meth : Method} {c : Code} {g : Gg} {S : Ss} (a0 : Nat) (x1 : Int32) (x2 : Int32) (a3 : Nat) (EK24 : Mm → Prop) (K : Mm → Prop) (E : EN p s m args meth c cX9_spread 8 none RX9 g) (hw : ad g 100000 < s.heap.size) (hs0 : S[a0]? = some (8, 0)) (hEK24 : ∀ (M' : Mm) (H : Heap) (locs : List Loc) (ls : Array Slot), EK24 M' → RP g S M' H → va_S (gA g) s.heap H locs → lv_has ls 8 [] → W p l e (rmD 0) s m args below meth c H locs 0 0 (MQ below (QA g S (pV K)) args s 0 0 (gA g)) (F0 m 106 ls [])) : ∀ (n : Nat) (x4 : Int32) (x5 : Int32) (M : Mm), f_X9_spread_L24 S a0 x1 x2 a3 EK24 K n x4 x5 M → ∀ (H : Heap) (locs : List Loc) (ls : Array Slot), RP g S M H → va_S (gA g) s.heap H locs → lv_has ls 8 [(0, .ref (ad g a0)), (1, .int x1), (2, .int x2), (3, .ref (ad g a3)), (4, .int x4), (5, .int x5)] → W p l e (rmD 0) s m args below meth c H locs 0 0 (MQ below (QA g S (pV K)) args s 0 0 (gA g)) (F0 m 24 ls []) := by
  intro n
  induction n with
  | zero => intro x4 x5 M hf; exact hf.elim
  | succ n ih =>
    intro x4 x5 M hf H locs ls hR hS hl
    exact w_X9_spread_B24 _ _ _ _ _ _ _ _ _ _ E hw hs0 (fun _ _ M H locs ls h hR hS hl => ih _ _ M h H locs ls hR hS hl) hEK24 hf H locs ls hR hS hl
def f_X9_spread (S : Ss) (a0 : Nat) (x1 : Int32) (x2 : Int32) (a3 : Nat) (M : Mm) (K : Mm → Prop) : Prop :=
  ∃ b1 : Nat, M.2.2 a0 0 = some b1 ∧
  S[b1]? = some (2, 0) ∧
  ∃ b3 : Nat, M.2.2 a0 0 = some b3 ∧
  S[b3]? = some (2, 0) ∧
  ∀ v5 : Int32, v5 = ((x1 * (M.1 b1 10)) * ((M.1 b3 13) + (1 : Int32))) →
  ∃ n32 : Nat, f_X9_spread_L24 S a0 x1 x2 a3 (fun (m31 : Mm) =>
    K m31) K n32 v5 (0 : Int32) M
set_option maxHeartbeats 4000000 in
set_option maxRecDepth 100000 in
theorem ok_X9_spread {l : Launch} {g : Gg} {S : Ss} {a0 : Nat} {x1 : Int32} {x2 : Int32} {a3 : Nat} {M : Mm} {K : Mm → Prop} (hs0 : S[a0]? = some (8, 0)) (hf : f_X9_spread S a0 x1 x2 a3 M K) : MT l g S yX9_spread cX9_spread 8 none 0 [.ref (ad g a0), .int x1, .int x2, .ref (ad g a3)] M (pV K) := by
  refine MT.of (by decide +kernel) (Nat.le_of_ble_eq_true rfl) ?_
  intro p e s m below meth c ls E hw hR hS hl
  have hl : lv_has ls 8 [(0, .ref (ad g a0)), (1, .int x1), (2, .int x2), (3, .ref (ad g a3))] := hl
  generalize ([.ref (ad g a0), .int x1, .int x2, .ref (ad g a3)] : List Value).toArray = args at E ⊢
  have E : EN p s m args meth c cX9_spread 8 none RX9 g := E
  have hx := E.1
  have hb := E.2.1
  unfold f_X9_spread at hf
  refine lv_iload_n hx hb dX9_spread_0 rfl (lv_at hl 1 rfl) ?_
  refine lv_aload_n hx hb dX9_spread_1 rfl (lv_at hl 0 rfl) ?_
  obtain ⟨b1, hb1, hf⟩ := hf
  refine hw_getR E hR cI8 hs0 0 (by decide) lfX9_12 rfl hb1 dX9_spread_2 ?_
  obtain ⟨h2, hf⟩ := hf
  refine hw_getI E hR cI2 h2 10 (by decide) lfX9_102 rfl dX9_spread_5 ?_
  refine lv_imul hx hb dX9_spread_8 ?_
  refine lv_aload_n hx hb dX9_spread_9 rfl (lv_at hl 0 rfl) ?_
  obtain ⟨b3, hb3, hf⟩ := hf
  refine hw_getR E hR cI8 hs0 0 (by decide) lfX9_12 rfl hb3 dX9_spread_10 ?_
  obtain ⟨h4, hf⟩ := hf
  refine hw_getI E hR cI2 h4 13 (by decide) lfX9_105 rfl dX9_spread_13 ?_
  refine lv_iconst (v := 1) hx hb dX9_spread_16 (by decide) ?_
  refine lv_iadd hx hb dX9_spread_17 ?_
  refine lv_imul hx hb dX9_spread_18 ?_
  refine lv_topi (fun v5 ev5 => ?_)
  replace hf := hf v5 ev5
  refine lv_istore (lv' := [(4, .int v5), (0, .ref (ad g a0)), (1, .int x1), (2, .int x2), (3, .ref (ad g a3))]) hx hb dX9_spread_19 hl (by decide) rfl (fun ls hl => ?_)
  refine lv_iconst (v := 0) hx hb dX9_spread_21 (by decide) ?_
  refine lv_istore (lv' := [(5, .int (0 : Int32)), (4, .int v5), (0, .ref (ad g a0)), (1, .int x1), (2, .int x2), (3, .ref (ad g a3))]) hx hb dX9_spread_22 hl (by decide) rfl (fun ls hl => ?_)
  obtain ⟨n32, hf⟩ := hf
  refine w_X9_spread_L24 _ _ _ _ _ _ E hw hs0 ?_ n32 _ _ _ hf _ _ _ hR hS (lv_sub hl [2, 3, 4, 5, 1, 0] rfl)
  intro m31 H locs ls hf hR hS hl
  exact hw_vret E hR hS ⟨rfl, hf⟩ dX9_spread_106
def f_X9_weightWithout_B3 (S : Ss) (a0 : Nat) (x1 : Int32) (x2 : Int32) (a3 : Nat) (x4 : Int32) (M : Mm) (BK3 : Int32 → Mm → Prop) (EK3 : Mm → Prop) (K : Int64 → Mm → Prop) : Prop :=
  (((M.1 a0 10) ≤ x4 →
    EK3 M) ∧
   (¬ (M.1 a0 10) ≤ x4 →
    ∃ b2 : Nat, M.2.2 a0 8 = some b2 ∧
    ∃ n3 : Nat, S[b2]? = some (53, n3) ∧ vp_in x4 n3 ∧
    ∀ m4 : Mm, m4 = stJ M b2 x4.toNatClampNeg (0 : Int64) →
    ∀ v5 : Int32, v5 = x4 + (1 : Int32) →
    BK3 v5 m4))
set_option maxHeartbeats 4000000 in
set_option maxRecDepth 100000 in
theorem w_X9_weightWithout_B3 {p : Program} {l : Launch} {e : Env} {s : State} {m : MethodId} {args : Array Value} {below : List Frame} {meth : Method} {c : Code} {g : Gg} {S : Ss} (a0 : Nat) (x1 : Int32) (x2 : Int32) (a3 : Nat) (x4 : Int32) (M : Mm) (BK3 : Int32 → Mm → Prop) (EK3 : Mm → Prop) (K : Int64 → Mm → Prop) (E : EN p s m args meth c cX9_weightWithout 7 (some .long) RX9 g) (hw : ad g 100000 < s.heap.size) (hs0 : S[a0]? = some (8, 0)) (hBK3 : ∀ (x4' : Int32) (M' : Mm) (H : Heap) (locs : List Loc) (ls : Array Slot), BK3 x4' M' → RP g S M' H → va_S (gA g) s.heap H locs → lv_has ls 7 [(0, .ref (ad g a0)), (1, .int x1), (2, .int x2), (3, .ref (ad g a3)), (4, .int x4')] → W p l e (rmD 1) s m args below meth c H locs 0 0 (MQ below (QA g S (pJ K)) args s 0 0 (gA g)) (F0 m 3 ls [])) (hEK3 : ∀ (M' : Mm) (H : Heap) (locs : List Loc) (ls : Array Slot), EK3 M' → RP g S M' H → va_S (gA g) s.heap H locs → lv_has ls 7 [(0, .ref (ad g a0)), (1, .int x1), (2, .int x2), (3, .ref (ad g a3))] → W p l e (rmD 1) s m args below meth c H locs 0 0 (MQ below (QA g S (pJ K)) args s 0 0 (gA g)) (F0 m 26 ls [])) (hf : f_X9_weightWithout_B3 S a0 x1 x2 a3 x4 M BK3 EK3 K) (H : Heap) (locs : List Loc) (ls : Array Slot) (hR : RP g S M H) (hS : va_S (gA g) s.heap H locs) (hl : lv_has ls 7 [(0, .ref (ad g a0)), (1, .int x1), (2, .int x2), (3, .ref (ad g a3)), (4, .int x4)]) : W p l e (rmD 1) s m args below meth c H locs 0 0 (MQ below (QA g S (pJ K)) args s 0 0 (gA g)) (F0 m 3 ls []) := by
  have hx := E.1
  have hb := E.2.1
  unfold f_X9_weightWithout_B3 at hf
  refine lv_iload hx hb dX9_weightWithout_3 (lv_at hl 4 rfl) ?_
  refine lv_aload_n hx hb dX9_weightWithout_5 rfl (lv_at hl 0 rfl) ?_
  refine hw_getI E hR cI8 hs0 10 (by decide) lfX9_52 rfl dX9_weightWithout_6 ?_
  refine lv_icmp_ge (tgt := 26) hx hb dX9_weightWithout_9 (by decide) (fun c1 => ?_) (fun c1 => ?_)
  · replace hf := hf.1 c1
    exact hEK3  _ _ _ _ hf hR hS (lv_sub hl [0, 1, 2, 3] rfl)
  · replace hf := hf.2 c1
    refine lv_aload_n hx hb dX9_weightWithout_12 rfl (lv_at hl 0 rfl) ?_
    obtain ⟨b2, hb2, hf⟩ := hf
    refine hw_getR E hR cI8 hs0 8 (by decide) lfX9_46 rfl hb2 dX9_weightWithout_13 ?_
    refine lv_iload hx hb dX9_weightWithout_16 (lv_at hl 4 rfl) ?_
    refine lv_lconst (v := 0) hx hb dX9_weightWithout_18 (by decide) ?_
    obtain ⟨n3, hn3, in3, hf⟩ := hf
    refine hw_last E hR hS hw hn3 in3 dX9_weightWithout_19 (fun m4 H locs em4 hR hS => ?_)
    replace hf := hf m4 em4
    obtain ⟨v5, ev5⟩ : ∃ y : Int32, y = x4 + (1 : Int32) := ⟨_, rfl⟩
    replace hf := hf v5 ev5
    refine lv_iinc (v := v5) (lv' := [(4, .int v5), (0, .ref (ad g a0)), (1, .int x1), (2, .int x2), (3, .ref (ad g a3))]) hx hb dX9_weightWithout_20 hl (k := 4) rfl (by rw [ev5]; rfl) (by decide) rfl (fun ls hl => ?_)
    refine lv_goto (tgt := 3) hx hb dX9_weightWithout_23 (by decide) ?_
    exact hBK3 _ _ _ _ _ hf hR hS (lv_sub hl [1, 2, 3, 4, 0] rfl)
def f_X9_weightWithout_L3 (S : Ss) (a0 : Nat) (x1 : Int32) (x2 : Int32) (a3 : Nat) (EK3 : Mm → Prop) (K : Int64 → Mm → Prop) : Nat → Int32 → Mm → Prop
  | 0, _, _ => False
  | n + 1, x4, M => f_X9_weightWithout_B3 S a0 x1 x2 a3 x4 M (fun (x4 : Int32) (M : Mm) => f_X9_weightWithout_L3 S a0 x1 x2 a3 EK3 K n x4 M) EK3 K
set_option maxHeartbeats 4000000 in
set_option maxRecDepth 100000 in
theorem w_X9_weightWithout_L3 {p : Program} {l : Launch} {e : Env} {s : State} {m : MethodId} {args : Array Value} {below : List Frame} {meth : Method} {c : Code} {g : Gg} {S : Ss} (a0 : Nat) (x1 : Int32) (x2 : Int32) (a3 : Nat) (EK3 : Mm → Prop) (K : Int64 → Mm → Prop) (E : EN p s m args meth c cX9_weightWithout 7 (some .long) RX9 g) (hw : ad g 100000 < s.heap.size) (hs0 : S[a0]? = some (8, 0)) (hEK3 : ∀ (M' : Mm) (H : Heap) (locs : List Loc) (ls : Array Slot), EK3 M' → RP g S M' H → va_S (gA g) s.heap H locs → lv_has ls 7 [(0, .ref (ad g a0)), (1, .int x1), (2, .int x2), (3, .ref (ad g a3))] → W p l e (rmD 1) s m args below meth c H locs 0 0 (MQ below (QA g S (pJ K)) args s 0 0 (gA g)) (F0 m 26 ls [])) : ∀ (n : Nat) (x4 : Int32) (M : Mm), f_X9_weightWithout_L3 S a0 x1 x2 a3 EK3 K n x4 M → ∀ (H : Heap) (locs : List Loc) (ls : Array Slot), RP g S M H → va_S (gA g) s.heap H locs → lv_has ls 7 [(0, .ref (ad g a0)), (1, .int x1), (2, .int x2), (3, .ref (ad g a3)), (4, .int x4)] → W p l e (rmD 1) s m args below meth c H locs 0 0 (MQ below (QA g S (pJ K)) args s 0 0 (gA g)) (F0 m 3 ls []) := by
  intro n
  induction n with
  | zero => intro x4 M hf; exact hf.elim
  | succ n ih =>
    intro x4 M hf H locs ls hR hS hl
    exact w_X9_weightWithout_B3 _ _ _ _ _ _ _ _ _ E hw hs0 (fun _ M H locs ls h hR hS hl => ih _ M h H locs ls hR hS hl) hEK3 hf H locs ls hR hS hl
def f_X9_weightWithout_B45 (S : Ss) (a0 : Nat) (x1 : Int32) (x2 : Int32) (a3 : Nat) (x4 : Int32) (x5 : Int32) (M : Mm) (BK45 : Int32 → Mm → Prop) (EK45 : Mm → Prop) (K : Int64 → Mm → Prop) : Prop :=
  (((M.1 a0 10) ≤ x5 →
    EK45 M) ∧
   (¬ (M.1 a0 10) ≤ x5 →
    ∃ b12 : Nat, M.2.2 a0 9 = some b12 ∧
    ∃ n13 : Nat, S[b12]? = some (53, n13) ∧ vp_in x5 n13 ∧
    ∀ m14 : Mm, m14 = stJ M b12 x5.toNatClampNeg (0 : Int64) →
    ∀ v15 : Int32, v15 = x5 + (1 : Int32) →
    BK45 v15 m14))
set_option maxHeartbeats 4000000 in
set_option maxRecDepth 100000 in
theorem w_X9_weightWithout_B45 {p : Program} {l : Launch} {e : Env} {s : State} {m : MethodId} {args : Array Value} {below : List Frame} {meth : Method} {c : Code} {g : Gg} {S : Ss} (a0 : Nat) (x1 : Int32) (x2 : Int32) (a3 : Nat) (x4 : Int32) (x5 : Int32) (M : Mm) (BK45 : Int32 → Mm → Prop) (EK45 : Mm → Prop) (K : Int64 → Mm → Prop) (E : EN p s m args meth c cX9_weightWithout 7 (some .long) RX9 g) (hw : ad g 100000 < s.heap.size) (hs0 : S[a0]? = some (8, 0)) (hBK45 : ∀ (x5' : Int32) (M' : Mm) (H : Heap) (locs : List Loc) (ls : Array Slot), BK45 x5' M' → RP g S M' H → va_S (gA g) s.heap H locs → lv_has ls 7 [(0, .ref (ad g a0)), (1, .int x1), (2, .int x2), (3, .ref (ad g a3)), (4, .int x4), (5, .int x5')] → W p l e (rmD 1) s m args below meth c H locs 0 0 (MQ below (QA g S (pJ K)) args s 0 0 (gA g)) (F0 m 45 ls [])) (hEK45 : ∀ (M' : Mm) (H : Heap) (locs : List Loc) (ls : Array Slot), EK45 M' → RP g S M' H → va_S (gA g) s.heap H locs → lv_has ls 7 [(0, .ref (ad g a0)), (1, .int x1), (2, .int x2), (3, .ref (ad g a3)), (4, .int x4)] → W p l e (rmD 1) s m args below meth c H locs 0 0 (MQ below (QA g S (pJ K)) args s 0 0 (gA g)) (F0 m 68 ls [])) (hf : f_X9_weightWithout_B45 S a0 x1 x2 a3 x4 x5 M BK45 EK45 K) (H : Heap) (locs : List Loc) (ls : Array Slot) (hR : RP g S M H) (hS : va_S (gA g) s.heap H locs) (hl : lv_has ls 7 [(0, .ref (ad g a0)), (1, .int x1), (2, .int x2), (3, .ref (ad g a3)), (4, .int x4), (5, .int x5)]) : W p l e (rmD 1) s m args below meth c H locs 0 0 (MQ below (QA g S (pJ K)) args s 0 0 (gA g)) (F0 m 45 ls []) := by
  have hx := E.1
  have hb := E.2.1
  unfold f_X9_weightWithout_B45 at hf
  refine lv_iload hx hb dX9_weightWithout_45 (lv_at hl 5 rfl) ?_
  refine lv_aload_n hx hb dX9_weightWithout_47 rfl (lv_at hl 0 rfl) ?_
  refine hw_getI E hR cI8 hs0 10 (by decide) lfX9_52 rfl dX9_weightWithout_48 ?_
  refine lv_icmp_ge (tgt := 68) hx hb dX9_weightWithout_51 (by decide) (fun c11 => ?_) (fun c11 => ?_)
  · replace hf := hf.1 c11
    exact hEK45  _ _ _ _ hf hR hS (lv_sub hl [0, 1, 2, 3, 4] rfl)
  · replace hf := hf.2 c11
    refine lv_aload_n hx hb dX9_weightWithout_54 rfl (lv_at hl 0 rfl) ?_
    obtain ⟨b12, hb12, hf⟩ := hf
    refine hw_getR E hR cI8 hs0 9 (by decide) lfX9_49 rfl hb12 dX9_weightWithout_55 ?_
    refine lv_iload hx hb dX9_weightWithout_58 (lv_at hl 5 rfl) ?_
    refine lv_lconst (v := 0) hx hb dX9_weightWithout_60 (by decide) ?_
    obtain ⟨n13, hn13, in13, hf⟩ := hf
    refine hw_last E hR hS hw hn13 in13 dX9_weightWithout_61 (fun m14 H locs em14 hR hS => ?_)
    replace hf := hf m14 em14
    obtain ⟨v15, ev15⟩ : ∃ y : Int32, y = x5 + (1 : Int32) := ⟨_, rfl⟩
    replace hf := hf v15 ev15
    refine lv_iinc (v := v15) (lv' := [(5, .int v15), (0, .ref (ad g a0)), (1, .int x1), (2, .int x2), (3, .ref (ad g a3)), (4, .int x4)]) hx hb dX9_weightWithout_62 hl (k := 5) rfl (by rw [ev15]; rfl) (by decide) rfl (fun ls hl => ?_)
    refine lv_goto (tgt := 45) hx hb dX9_weightWithout_65 (by decide) ?_
    exact hBK45 _ _ _ _ _ hf hR hS (lv_sub hl [1, 2, 3, 4, 5, 0] rfl)
def f_X9_weightWithout_L45 (S : Ss) (a0 : Nat) (x1 : Int32) (x2 : Int32) (a3 : Nat) (x4 : Int32) (EK45 : Mm → Prop) (K : Int64 → Mm → Prop) : Nat → Int32 → Mm → Prop
  | 0, _, _ => False
  | n + 1, x5, M => f_X9_weightWithout_B45 S a0 x1 x2 a3 x4 x5 M (fun (x5 : Int32) (M : Mm) => f_X9_weightWithout_L45 S a0 x1 x2 a3 x4 EK45 K n x5 M) EK45 K
set_option maxHeartbeats 4000000 in
set_option maxRecDepth 100000 in
theorem w_X9_weightWithout_L45 {p : Program} {l : Launch} {e : Env} {s : State} {m : MethodId} {args : Array Value} {below : List Frame} {meth : Method} {c : Code} {g : Gg} {S : Ss} (a0 : Nat) (x1 : Int32) (x2 : Int32) (a3 : Nat) (x4 : Int32) (EK45 : Mm → Prop) (K : Int64 → Mm → Prop) (E : EN p s m args meth c cX9_weightWithout 7 (some .long) RX9 g) (hw : ad g 100000 < s.heap.size) (hs0 : S[a0]? = some (8, 0)) (hEK45 : ∀ (M' : Mm) (H : Heap) (locs : List Loc) (ls : Array Slot), EK45 M' → RP g S M' H → va_S (gA g) s.heap H locs → lv_has ls 7 [(0, .ref (ad g a0)), (1, .int x1), (2, .int x2), (3, .ref (ad g a3)), (4, .int x4)] → W p l e (rmD 1) s m args below meth c H locs 0 0 (MQ below (QA g S (pJ K)) args s 0 0 (gA g)) (F0 m 68 ls [])) : ∀ (n : Nat) (x5 : Int32) (M : Mm), f_X9_weightWithout_L45 S a0 x1 x2 a3 x4 EK45 K n x5 M → ∀ (H : Heap) (locs : List Loc) (ls : Array Slot), RP g S M H → va_S (gA g) s.heap H locs → lv_has ls 7 [(0, .ref (ad g a0)), (1, .int x1), (2, .int x2), (3, .ref (ad g a3)), (4, .int x4), (5, .int x5)] → W p l e (rmD 1) s m args below meth c H locs 0 0 (MQ below (QA g S (pJ K)) args s 0 0 (gA g)) (F0 m 45 ls []) := by
  intro n
  induction n with
  | zero => intro x5 M hf; exact hf.elim
  | succ n ih =>
    intro x5 M hf H locs ls hR hS hl
    exact w_X9_weightWithout_B45 _ _ _ _ _ _ _ _ _ _ E hw hs0 (fun _ M H locs ls h hR hS hl => ih _ M h H locs ls hR hS hl) hEK45 hf H locs ls hR hS hl
def f_X9_weightWithout_B71 (S : Ss) (a0 : Nat) (x1 : Int32) (x2 : Int32) (a3 : Nat) (x4 : Int32) (x5 : Int32) (M : Mm) (BK71 : Int32 → Mm → Prop) (EK71 : Mm → Prop) (K : Int64 → Mm → Prop) : Prop :=
  (((M.1 a0 10) ≤ x5 →
    EK71 M) ∧
   (¬ (M.1 a0 10) ≤ x5 →
    ∃ b18 : Nat, M.2.2 a0 8 = some b18 ∧
    ∃ n19 : Nat, S[b18]? = some (53, n19) ∧ vp_in x5 n19 ∧
    (((M.2.1 b18 x5.toNatClampNeg) = (0 : Int64) →
      ∀ v21 : Int32, v21 = x5 + (1 : Int32) →
      BK71 v21 M) ∧
     (¬ (M.2.1 b18 x5.toNatClampNeg) = (0 : Int64) →
      f_X9_spread S a0 x5 x1 a3 M (fun (m22 : Mm) =>
        ∀ v23 : Int32, v23 = x5 + (1 : Int32) →
      BK71 v23 m22)))))
set_option maxHeartbeats 4000000 in
set_option maxRecDepth 100000 in
theorem w_X9_weightWithout_B71 {p : Program} {l : Launch} {e : Env} {s : State} {m : MethodId} {args : Array Value} {below : List Frame} {meth : Method} {c : Code} {g : Gg} {S : Ss} (a0 : Nat) (x1 : Int32) (x2 : Int32) (a3 : Nat) (x4 : Int32) (x5 : Int32) (M : Mm) (BK71 : Int32 → Mm → Prop) (EK71 : Mm → Prop) (K : Int64 → Mm → Prop) (E : EN p s m args meth c cX9_weightWithout 7 (some .long) RX9 g) (hw : ad g 100000 < s.heap.size) (hs0 : S[a0]? = some (8, 0)) (hBK71 : ∀ (x5' : Int32) (M' : Mm) (H : Heap) (locs : List Loc) (ls : Array Slot), BK71 x5' M' → RP g S M' H → va_S (gA g) s.heap H locs → lv_has ls 7 [(0, .ref (ad g a0)), (1, .int x1), (2, .int x2), (3, .ref (ad g a3)), (4, .int x4), (5, .int x5')] → W p l e (rmD 1) s m args below meth c H locs 0 0 (MQ below (QA g S (pJ K)) args s 0 0 (gA g)) (F0 m 71 ls [])) (hEK71 : ∀ (M' : Mm) (H : Heap) (locs : List Loc) (ls : Array Slot), EK71 M' → RP g S M' H → va_S (gA g) s.heap H locs → lv_has ls 7 [(0, .ref (ad g a0)), (1, .int x1), (2, .int x2), (3, .ref (ad g a3)), (4, .int x4)] → W p l e (rmD 1) s m args below meth c H locs 0 0 (MQ below (QA g S (pJ K)) args s 0 0 (gA g)) (F0 m 106 ls [])) (hf : f_X9_weightWithout_B71 S a0 x1 x2 a3 x4 x5 M BK71 EK71 K) (H : Heap) (locs : List Loc) (ls : Array Slot) (hR : RP g S M H) (hS : va_S (gA g) s.heap H locs) (hl : lv_has ls 7 [(0, .ref (ad g a0)), (1, .int x1), (2, .int x2), (3, .ref (ad g a3)), (4, .int x4), (5, .int x5)]) : W p l e (rmD 1) s m args below meth c H locs 0 0 (MQ below (QA g S (pJ K)) args s 0 0 (gA g)) (F0 m 71 ls []) := by
  have hx := E.1
  have hb := E.2.1
  unfold f_X9_weightWithout_B71 at hf
  refine lv_iload hx hb dX9_weightWithout_71 (lv_at hl 5 rfl) ?_
  refine lv_aload_n hx hb dX9_weightWithout_73 rfl (lv_at hl 0 rfl) ?_
  refine hw_getI E hR cI8 hs0 10 (by decide) lfX9_52 rfl dX9_weightWithout_74 ?_
  refine lv_icmp_ge (tgt := 106) hx hb dX9_weightWithout_77 (by decide) (fun c17 => ?_) (fun c17 => ?_)
  · replace hf := hf.1 c17
    exact hEK71  _ _ _ _ hf hR hS (lv_sub hl [0, 1, 2, 3, 4] rfl)
  · replace hf := hf.2 c17
    refine lv_aload_n hx hb dX9_weightWithout_80 rfl (lv_at hl 0 rfl) ?_
    obtain ⟨b18, hb18, hf⟩ := hf
    refine hw_getR E hR cI8 hs0 8 (by decide) lfX9_46 rfl hb18 dX9_weightWithout_81 ?_
    refine lv_iload hx hb dX9_weightWithout_84 (lv_at hl 5 rfl) ?_
    obtain ⟨n19, hn19, in19, hf⟩ := hf
    refine hw_lald E hR hn19 in19 dX9_weightWithout_86 ?_
    refine lv_lconst (v := 0) hx hb dX9_weightWithout_87 (by decide) ?_
    refine hw_lif_eq (tgt := 100) hx hb dX9_weightWithout_88 dX9_weightWithout_89 (by decide) (fun c20 => ?_) (fun c20 => ?_)
    · replace hf := hf.1 c20
      obtain ⟨v21, ev21⟩ : ∃ y : Int32, y = x5 + (1 : Int32) := ⟨_, rfl⟩
      replace hf := hf v21 ev21
      refine lv_iinc (v := v21) (lv' := [(5, .int v21), (0, .ref (ad g a0)), (1, .int x1), (2, .int x2), (3, .ref (ad g a3)), (4, .int x4)]) hx hb dX9_weightWithout_100 hl (k := 5) rfl (by rw [ev21]; rfl) (by decide) rfl (fun ls hl => ?_)
      refine lv_goto (tgt := 71) hx hb dX9_weightWithout_103 (by decide) ?_
      exact hBK71 _ _ _ _ _ hf hR hS (lv_sub hl [1, 2, 3, 4, 5, 0] rfl)
    · replace hf := hf.2 c20
      refine lv_aload_n hx hb dX9_weightWithout_92 rfl (lv_at hl 0 rfl) ?_
      refine lv_iload hx hb dX9_weightWithout_93 (lv_at hl 5 rfl) ?_
      refine lv_iload_n hx hb dX9_weightWithout_95 rfl (lv_at hl 1 rfl) ?_
      refine lv_aload_n hx hb dX9_weightWithout_96 rfl (lv_at hl 3 rfl) ?_
      refine hw_callV (d := 1) E hR hS (As := [.int x5, .int x1, .ref (ad g a3)]) (rest := []) cI8 hs0 rfl mcX9_spread miX9_spread lmX9_156 (ok_X9_spread hs0 hf) rfl rfl (by decide) hl.1 (Nat.le_of_ble_eq_true rfl) dX9_weightWithout_97 (fun rr m22 H locs hp hR hS => ?_)
      obtain ⟨rfl, hf⟩ := hp
      refine W.eq (g2 := F0 m 100 ls []) rfl ?_
      obtain ⟨v23, ev23⟩ : ∃ y : Int32, y = x5 + (1 : Int32) := ⟨_, rfl⟩
      replace hf := hf v23 ev23
      refine lv_iinc (v := v23) (lv' := [(5, .int v23), (0, .ref (ad g a0)), (1, .int x1), (2, .int x2), (3, .ref (ad g a3)), (4, .int x4)]) hx hb dX9_weightWithout_100 hl (k := 5) rfl (by rw [ev23]; rfl) (by decide) rfl (fun ls hl => ?_)
      refine lv_goto (tgt := 71) hx hb dX9_weightWithout_103 (by decide) ?_
      exact hBK71 _ _ _ _ _ hf hR hS (lv_sub hl [1, 2, 3, 4, 5, 0] rfl)
def f_X9_weightWithout_L71 (S : Ss) (a0 : Nat) (x1 : Int32) (x2 : Int32) (a3 : Nat) (x4 : Int32) (EK71 : Mm → Prop) (K : Int64 → Mm → Prop) : Nat → Int32 → Mm → Prop
  | 0, _, _ => False
  | n + 1, x5, M => f_X9_weightWithout_B71 S a0 x1 x2 a3 x4 x5 M (fun (x5 : Int32) (M : Mm) => f_X9_weightWithout_L71 S a0 x1 x2 a3 x4 EK71 K n x5 M) EK71 K
set_option maxHeartbeats 4000000 in
set_option maxRecDepth 100000 in
theorem w_X9_weightWithout_L71 {p : Program} {l : Launch} {e : Env} {s : State} {m : MethodId} {args : Array Value} {below : List Frame} {meth : Method} {c : Code} {g : Gg} {S : Ss} (a0 : Nat) (x1 : Int32) (x2 : Int32) (a3 : Nat) (x4 : Int32) (EK71 : Mm → Prop) (K : Int64 → Mm → Prop) (E : EN p s m args meth c cX9_weightWithout 7 (some .long) RX9 g) (hw : ad g 100000 < s.heap.size) (hs0 : S[a0]? = some (8, 0)) (hEK71 : ∀ (M' : Mm) (H : Heap) (locs : List Loc) (ls : Array Slot), EK71 M' → RP g S M' H → va_S (gA g) s.heap H locs → lv_has ls 7 [(0, .ref (ad g a0)), (1, .int x1), (2, .int x2), (3, .ref (ad g a3)), (4, .int x4)] → W p l e (rmD 1) s m args below meth c H locs 0 0 (MQ below (QA g S (pJ K)) args s 0 0 (gA g)) (F0 m 106 ls [])) : ∀ (n : Nat) (x5 : Int32) (M : Mm), f_X9_weightWithout_L71 S a0 x1 x2 a3 x4 EK71 K n x5 M → ∀ (H : Heap) (locs : List Loc) (ls : Array Slot), RP g S M H → va_S (gA g) s.heap H locs → lv_has ls 7 [(0, .ref (ad g a0)), (1, .int x1), (2, .int x2), (3, .ref (ad g a3)), (4, .int x4), (5, .int x5)] → W p l e (rmD 1) s m args below meth c H locs 0 0 (MQ below (QA g S (pJ K)) args s 0 0 (gA g)) (F0 m 71 ls []) := by
  intro n
  induction n with
  | zero => intro x5 M hf; exact hf.elim
  | succ n ih =>
    intro x5 M hf H locs ls hR hS hl
    exact w_X9_weightWithout_B71 _ _ _ _ _ _ _ _ _ _ E hw hs0 (fun _ M H locs ls h hR hS hl => ih _ M h H locs ls hR hS hl) hEK71 hf H locs ls hR hS hl
def f_X9_weightWithout_B36 (S : Ss) (a0 : Nat) (x1 : Int32) (x2 : Int32) (a3 : Nat) (x4 : Int32) (M : Mm) (BK36 : Int32 → Mm → Prop) (EK36 : Mm → Prop) (K : Int64 → Mm → Prop) : Prop :=
  ((x2 ≤ x4 →
    EK36 M) ∧
   (¬ x2 ≤ x4 →
    ∃ n31 : Nat, f_X9_weightWithout_L45 S a0 x1 x2 a3 x4 (fun (m16 : Mm) =>
      ∃ n30 : Nat, f_X9_weightWithout_L71 S a0 x1 x2 a3 x4 (fun (m24 : Mm) =>
        ∃ b25 : Nat, m24.2.2 a0 8 = some b25 ∧
        ∃ b26 : Nat, m24.2.2 a0 9 = some b26 ∧
        ∀ m27 : Mm, m27 = stR m24 a0 8 (some b26) →
        ∀ m28 : Mm, m28 = stR m27 a0 9 (some b25) →
        ∀ v29 : Int32, v29 = x4 + (1 : Int32) →
        BK36 v29 m28) K n30 (0 : Int32) m16) K n31 (0 : Int32) M))
set_option maxHeartbeats 4000000 in
set_option maxRecDepth 100000 in
theorem w_X9_weightWithout_B36 {p : Program} {l : Launch} {e : Env} {s : State} {m : MethodId} {args : Array Value} {below : List Frame} {meth : Method} {c : Code} {g : Gg} {S : Ss} (a0 : Nat) (x1 : Int32) (x2 : Int32) (a3 : Nat) (x4 : Int32) (M : Mm) (BK36 : Int32 → Mm → Prop) (EK36 : Mm → Prop) (K : Int64 → Mm → Prop) (E : EN p s m args meth c cX9_weightWithout 7 (some .long) RX9 g) (hw : ad g 100000 < s.heap.size) (hs0 : S[a0]? = some (8, 0)) (hBK36 : ∀ (x4' : Int32) (M' : Mm) (H : Heap) (locs : List Loc) (ls : Array Slot), BK36 x4' M' → RP g S M' H → va_S (gA g) s.heap H locs → lv_has ls 7 [(0, .ref (ad g a0)), (1, .int x1), (2, .int x2), (3, .ref (ad g a3)), (4, .int x4')] → W p l e (rmD 1) s m args below meth c H locs 0 0 (MQ below (QA g S (pJ K)) args s 0 0 (gA g)) (F0 m 36 ls [])) (hEK36 : ∀ (M' : Mm) (H : Heap) (locs : List Loc) (ls : Array Slot), EK36 M' → RP g S M' H → va_S (gA g) s.heap H locs → lv_has ls 7 [(0, .ref (ad g a0))] → W p l e (rmD 1) s m args below meth c H locs 0 0 (MQ below (QA g S (pJ K)) args s 0 0 (gA g)) (F0 m 132 ls [])) (hf : f_X9_weightWithout_B36 S a0 x1 x2 a3 x4 M BK36 EK36 K) (H : Heap) (locs : List Loc) (ls : Array Slot) (hR : RP g S M H) (hS : va_S (gA g) s.heap H locs) (hl : lv_has ls 7 [(0, .ref (ad g a0)), (1, .int x1), (2, .int x2), (3, .ref (ad g a3)), (4, .int x4)]) : W p l e (rmD 1) s m args below meth c H locs 0 0 (MQ below (QA g S (pJ K)) args s 0 0 (gA g)) (F0 m 36 ls []) := by
  have hx := E.1
  have hb := E.2.1
  unfold f_X9_weightWithout_B36 at hf
  refine lv_iload hx hb dX9_weightWithout_36 (lv_at hl 4 rfl) ?_
  refine lv_iload_n hx hb dX9_weightWithout_38 rfl (lv_at hl 2 rfl) ?_
  refine lv_icmp_ge (tgt := 132) hx hb dX9_weightWithout_39 (by decide) (fun c10 => ?_) (fun c10 => ?_)
  · replace hf := hf.1 c10
    exact hEK36  _ _ _ _ hf hR hS (lv_sub hl [0] rfl)
  · replace hf := hf.2 c10
    refine lv_iconst (v := 0) hx hb dX9_weightWithout_42 (by decide) ?_
    refine lv_istore (lv' := [(5, .int (0 : Int32)), (0, .ref (ad g a0)), (1, .int x1), (2, .int x2), (3, .ref (ad g a3)), (4, .int x4)]) hx hb dX9_weightWithout_43 hl (by decide) rfl (fun ls hl => ?_)
    obtain ⟨n31, hf⟩ := hf
    refine w_X9_weightWithout_L45 _ _ _ _ _ _ _ E hw hs0 ?_ n31 _ _ hf _ _ _ hR hS (lv_sub hl [1, 2, 3, 4, 5, 0] rfl)
    intro m16 H locs ls hf hR hS hl
    refine lv_iconst (v := 0) hx hb dX9_weightWithout_68 (by decide) ?_
    refine lv_istore (lv' := [(5, .int (0 : Int32)), (0, .ref (ad g a0)), (1, .int x1), (2, .int x2), (3, .ref (ad g a3)), (4, .int x4)]) hx hb dX9_weightWithout_69 hl (by decide) rfl (fun ls hl => ?_)
    obtain ⟨n30, hf⟩ := hf
    refine w_X9_weightWithout_L71 _ _ _ _ _ _ _ E hw hs0 ?_ n30 _ _ hf _ _ _ hR hS (lv_sub hl [1, 2, 3, 4, 5, 0] rfl)
    intro m24 H locs ls hf hR hS hl
    refine lv_aload_n hx hb dX9_weightWithout_106 rfl (lv_at hl 0 rfl) ?_
    obtain ⟨b25, hb25, hf⟩ := hf
    refine hw_getR E hR cI8 hs0 8 (by decide) lfX9_46 rfl hb25 dX9_weightWithout_107 ?_
    refine lv_astore (lv' := [(5, .ref (ad g b25)), (0, .ref (ad g a0)), (1, .int x1), (2, .int x2), (3, .ref (ad g a3)), (4, .int x4)]) hx hb dX9_weightWithout_110 hl (by decide) rfl (fun ls hl => ?_)
    refine lv_aload_n hx hb dX9_weightWithout_112 rfl (lv_at hl 1 rfl) ?_
    refine lv_aload_n hx hb dX9_weightWithout_113 rfl (lv_at hl 1 rfl) ?_
    obtain ⟨b26, hb26, hf⟩ := hf
    refine hw_getR E hR cI8 hs0 9 (by decide) lfX9_49 rfl hb26 dX9_weightWithout_114 ?_
    refine hw_putR (o := (some b26)) E hR hS hw cI8 hs0 8 (by decide) lfX9_46 rfl rfl dX9_weightWithout_117 (fun m27 H locs em27 hR hS => ?_)
    replace hf := hf m27 em27
    refine lv_aload_n hx hb dX9_weightWithout_120 rfl (lv_at hl 1 rfl) ?_
    refine lv_aload hx hb dX9_weightWithout_121 (lv_at hl 0 rfl) ?_
    refine hw_putR (o := (some b25)) E hR hS hw cI8 hs0 9 (by decide) lfX9_49 rfl rfl dX9_weightWithout_123 (fun m28 H locs em28 hR hS => ?_)
    replace hf := hf m28 em28
    obtain ⟨v29, ev29⟩ : ∃ y : Int32, y = x4 + (1 : Int32) := ⟨_, rfl⟩
    replace hf := hf v29 ev29
    refine lv_iinc (v := v29) (lv' := [(4, .int v29), (5, .ref (ad g b25)), (0, .ref (ad g a0)), (1, .int x1), (2, .int x2), (3, .ref (ad g a3))]) hx hb dX9_weightWithout_126 hl (k := 5) rfl (by rw [ev29]; rfl) (by decide) rfl (fun ls hl => ?_)
    refine lv_goto (tgt := 36) hx hb dX9_weightWithout_129 (by decide) ?_
    exact hBK36 _ _ _ _ _ hf hR hS (lv_sub hl [2, 3, 4, 5, 0] rfl)
def f_X9_weightWithout_L36 (S : Ss) (a0 : Nat) (x1 : Int32) (x2 : Int32) (a3 : Nat) (EK36 : Mm → Prop) (K : Int64 → Mm → Prop) : Nat → Int32 → Mm → Prop
  | 0, _, _ => False
  | n + 1, x4, M => f_X9_weightWithout_B36 S a0 x1 x2 a3 x4 M (fun (x4 : Int32) (M : Mm) => f_X9_weightWithout_L36 S a0 x1 x2 a3 EK36 K n x4 M) EK36 K
set_option maxHeartbeats 4000000 in
set_option maxRecDepth 100000 in
theorem w_X9_weightWithout_L36 {p : Program} {l : Launch} {e : Env} {s : State} {m : MethodId} {args : Array Value} {below : List Frame} {meth : Method} {c : Code} {g : Gg} {S : Ss} (a0 : Nat) (x1 : Int32) (x2 : Int32) (a3 : Nat) (EK36 : Mm → Prop) (K : Int64 → Mm → Prop) (E : EN p s m args meth c cX9_weightWithout 7 (some .long) RX9 g) (hw : ad g 100000 < s.heap.size) (hs0 : S[a0]? = some (8, 0)) (hEK36 : ∀ (M' : Mm) (H : Heap) (locs : List Loc) (ls : Array Slot), EK36 M' → RP g S M' H → va_S (gA g) s.heap H locs → lv_has ls 7 [(0, .ref (ad g a0))] → W p l e (rmD 1) s m args below meth c H locs 0 0 (MQ below (QA g S (pJ K)) args s 0 0 (gA g)) (F0 m 132 ls [])) : ∀ (n : Nat) (x4 : Int32) (M : Mm), f_X9_weightWithout_L36 S a0 x1 x2 a3 EK36 K n x4 M → ∀ (H : Heap) (locs : List Loc) (ls : Array Slot), RP g S M H → va_S (gA g) s.heap H locs → lv_has ls 7 [(0, .ref (ad g a0)), (1, .int x1), (2, .int x2), (3, .ref (ad g a3)), (4, .int x4)] → W p l e (rmD 1) s m args below meth c H locs 0 0 (MQ below (QA g S (pJ K)) args s 0 0 (gA g)) (F0 m 36 ls []) := by
  intro n
  induction n with
  | zero => intro x4 M hf; exact hf.elim
  | succ n ih =>
    intro x4 M hf H locs ls hR hS hl
    exact w_X9_weightWithout_B36 _ _ _ _ _ _ _ _ _ E hw hs0 (fun _ M H locs ls h hR hS hl => ih _ M h H locs ls hR hS hl) hEK36 hf H locs ls hR hS hl
def f_X9_weightWithout_B138 (S : Ss) (a0 : Nat) (x4 : Int64) (x6 : Int32) (M : Mm) (BK138 : Int64 → Int32 → Mm → Prop) (EK138 : Int64 → Mm → Prop) (K : Int64 → Mm → Prop) : Prop :=
  (((M.1 a0 10) ≤ x6 →
    EK138 x4 M) ∧
   (¬ (M.1 a0 10) ≤ x6 →
    ∃ b34 : Nat, M.2.2 a0 8 = some b34 ∧
    ∃ n35 : Nat, S[b34]? = some (53, n35) ∧ vp_in x6 n35 ∧
    ∀ v36 : Int64, v36 = (x4 + (M.2.1 b34 x6.toNatClampNeg)) →
    ∀ v37 : Int32, v37 = x6 + (1 : Int32) →
    BK138 v36 v37 M))
set_option maxHeartbeats 4000000 in
set_option maxRecDepth 100000 in
theorem w_X9_weightWithout_B138 {p : Program} {l : Launch} {e : Env} {s : State} {m : MethodId} {args : Array Value} {below : List Frame} {meth : Method} {c : Code} {g : Gg} {S : Ss} (a0 : Nat) (x4 : Int64) (x6 : Int32) (M : Mm) (BK138 : Int64 → Int32 → Mm → Prop) (EK138 : Int64 → Mm → Prop) (K : Int64 → Mm → Prop) (E : EN p s m args meth c cX9_weightWithout 7 (some .long) RX9 g) (hw : ad g 100000 < s.heap.size) (hs0 : S[a0]? = some (8, 0)) (hBK138 : ∀ (x4' : Int64) (x6' : Int32) (M' : Mm) (H : Heap) (locs : List Loc) (ls : Array Slot), BK138 x4' x6' M' → RP g S M' H → va_S (gA g) s.heap H locs → lv_has ls 7 [(0, .ref (ad g a0)), (4, .long x4'), (6, .int x6')] → W p l e (rmD 1) s m args below meth c H locs 0 0 (MQ below (QA g S (pJ K)) args s 0 0 (gA g)) (F0 m 138 ls [])) (hEK138 : ∀ (x4' : Int64) (M' : Mm) (H : Heap) (locs : List Loc) (ls : Array Slot), EK138 x4' M' → RP g S M' H → va_S (gA g) s.heap H locs → lv_has ls 7 [(4, .long x4')] → W p l e (rmD 1) s m args below meth c H locs 0 0 (MQ below (QA g S (pJ K)) args s 0 0 (gA g)) (F0 m 165 ls [])) (hf : f_X9_weightWithout_B138 S a0 x4 x6 M BK138 EK138 K) (H : Heap) (locs : List Loc) (ls : Array Slot) (hR : RP g S M H) (hS : va_S (gA g) s.heap H locs) (hl : lv_has ls 7 [(0, .ref (ad g a0)), (4, .long x4), (6, .int x6)]) : W p l e (rmD 1) s m args below meth c H locs 0 0 (MQ below (QA g S (pJ K)) args s 0 0 (gA g)) (F0 m 138 ls []) := by
  have hx := E.1
  have hb := E.2.1
  unfold f_X9_weightWithout_B138 at hf
  refine lv_iload hx hb dX9_weightWithout_138 (lv_at hl 2 rfl) ?_
  refine lv_aload_n hx hb dX9_weightWithout_140 rfl (lv_at hl 0 rfl) ?_
  refine hw_getI E hR cI8 hs0 10 (by decide) lfX9_52 rfl dX9_weightWithout_141 ?_
  refine lv_icmp_ge (tgt := 165) hx hb dX9_weightWithout_144 (by decide) (fun c33 => ?_) (fun c33 => ?_)
  · replace hf := hf.1 c33
    exact hEK138 _ _ _ _ _ hf hR hS (lv_sub hl [1] rfl)
  · replace hf := hf.2 c33
    refine lv_lload hx hb dX9_weightWithout_147 (lv_at hl 1 rfl) ?_
    refine lv_aload_n hx hb dX9_weightWithout_149 rfl (lv_at hl 0 rfl) ?_
    obtain ⟨b34, hb34, hf⟩ := hf
    refine hw_getR E hR cI8 hs0 8 (by decide) lfX9_46 rfl hb34 dX9_weightWithout_150 ?_
    refine lv_iload hx hb dX9_weightWithout_153 (lv_at hl 2 rfl) ?_
    obtain ⟨n35, hn35, in35, hf⟩ := hf
    refine hw_lald E hR hn35 in35 dX9_weightWithout_155 ?_
    refine lv_ladd hx hb dX9_weightWithout_156 ?_
    refine lv_topl (fun v36 ev36 => ?_)
    replace hf := hf v36 ev36
    refine lv_lstore (lv' := [(4, .long v36), (0, .ref (ad g a0)), (6, .int x6)]) hx hb dX9_weightWithout_157 hl (by decide) rfl (fun ls hl => ?_)
    obtain ⟨v37, ev37⟩ : ∃ y : Int32, y = x6 + (1 : Int32) := ⟨_, rfl⟩
    replace hf := hf v37 ev37
    refine lv_iinc (v := v37) (lv' := [(6, .int v37), (4, .long v36), (0, .ref (ad g a0))]) hx hb dX9_weightWithout_159 hl (k := 2) rfl (by rw [ev37]; rfl) (by decide) rfl (fun ls hl => ?_)
    refine lv_goto (tgt := 138) hx hb dX9_weightWithout_162 (by decide) ?_
    exact hBK138 _ _ _ _ _ _ hf hR hS (lv_sub hl [2, 1, 0] rfl)
def f_X9_weightWithout_L138 (S : Ss) (a0 : Nat) (EK138 : Int64 → Mm → Prop) (K : Int64 → Mm → Prop) : Nat → Int64 → Int32 → Mm → Prop
  | 0, _, _, _ => False
  | n + 1, x4, x6, M => f_X9_weightWithout_B138 S a0 x4 x6 M (fun (x4 : Int64) (x6 : Int32) (M : Mm) => f_X9_weightWithout_L138 S a0 EK138 K n x4 x6 M) EK138 K
set_option maxHeartbeats 4000000 in
set_option maxRecDepth 100000 in
theorem w_X9_weightWithout_L138 {p : Program} {l : Launch} {e : Env} {s : State} {m : MethodId} {args : Array Value} {below : List Frame} {meth : Method} {c : Code} {g : Gg} {S : Ss} (a0 : Nat) (EK138 : Int64 → Mm → Prop) (K : Int64 → Mm → Prop) (E : EN p s m args meth c cX9_weightWithout 7 (some .long) RX9 g) (hw : ad g 100000 < s.heap.size) (hs0 : S[a0]? = some (8, 0)) (hEK138 : ∀ (x4' : Int64) (M' : Mm) (H : Heap) (locs : List Loc) (ls : Array Slot), EK138 x4' M' → RP g S M' H → va_S (gA g) s.heap H locs → lv_has ls 7 [(4, .long x4')] → W p l e (rmD 1) s m args below meth c H locs 0 0 (MQ below (QA g S (pJ K)) args s 0 0 (gA g)) (F0 m 165 ls [])) : ∀ (n : Nat) (x4 : Int64) (x6 : Int32) (M : Mm), f_X9_weightWithout_L138 S a0 EK138 K n x4 x6 M → ∀ (H : Heap) (locs : List Loc) (ls : Array Slot), RP g S M H → va_S (gA g) s.heap H locs → lv_has ls 7 [(0, .ref (ad g a0)), (4, .long x4), (6, .int x6)] → W p l e (rmD 1) s m args below meth c H locs 0 0 (MQ below (QA g S (pJ K)) args s 0 0 (gA g)) (F0 m 138 ls []) := by
  intro n
  induction n with
  | zero => intro x4 x6 M hf; exact hf.elim
  | succ n ih =>
    intro x4 x6 M hf H locs ls hR hS hl
    exact w_X9_weightWithout_B138 _ _ _ _ _ _ _ E hw hs0 (fun _ _ M H locs ls h hR hS hl => ih _ _ M h H locs ls hR hS hl) hEK138 hf H locs ls hR hS hl
def f_X9_weightWithout (S : Ss) (a0 : Nat) (x1 : Int32) (x2 : Int32) (a3 : Nat) (M : Mm) (K : Int64 → Mm → Prop) : Prop :=
  ∃ n42 : Nat, f_X9_weightWithout_L3 S a0 x1 x2 a3 (fun (m6 : Mm) =>
    ∃ b7 : Nat, m6.2.2 a0 8 = some b7 ∧
    ∃ n8 : Nat, S[b7]? = some (53, n8) ∧ vp_in (0 : Int32) n8 ∧
    ∀ m9 : Mm, m9 = stJ m6 b7 (0 : Int32).toNatClampNeg (1 : Int64) →
    ∃ n41 : Nat, f_X9_weightWithout_L36 S a0 x1 x2 a3 (fun (m32 : Mm) =>
      ∃ n40 : Nat, f_X9_weightWithout_L138 S a0 (fun (v38 : Int64) (m39 : Mm) =>
        K v38 m39) K n40 (0 : Int64) (0 : Int32) m32) K n41 (0 : Int32) m9) K n42 (0 : Int32) M
set_option maxHeartbeats 4000000 in
set_option maxRecDepth 100000 in
theorem ok_X9_weightWithout {l : Launch} {g : Gg} {S : Ss} {a0 : Nat} {x1 : Int32} {x2 : Int32} {a3 : Nat} {M : Mm} {K : Int64 → Mm → Prop} (hs0 : S[a0]? = some (8, 0)) (hf : f_X9_weightWithout S a0 x1 x2 a3 M K) : MT l g S yX9_weightWithout cX9_weightWithout 7 (some .long) 1 [.ref (ad g a0), .int x1, .int x2, .ref (ad g a3)] M (pJ K) := by
  refine MT.of (by decide +kernel) (Nat.le_of_ble_eq_true rfl) ?_
  intro p e s m below meth c ls E hw hR hS hl
  have hl : lv_has ls 7 [(0, .ref (ad g a0)), (1, .int x1), (2, .int x2), (3, .ref (ad g a3))] := hl
  generalize ([.ref (ad g a0), .int x1, .int x2, .ref (ad g a3)] : List Value).toArray = args at E ⊢
  have E : EN p s m args meth c cX9_weightWithout 7 (some .long) RX9 g := E
  have hx := E.1
  have hb := E.2.1
  unfold f_X9_weightWithout at hf
  refine lv_iconst (v := 0) hx hb dX9_weightWithout_0 (by decide) ?_
  refine lv_istore (lv' := [(4, .int (0 : Int32)), (0, .ref (ad g a0)), (1, .int x1), (2, .int x2), (3, .ref (ad g a3))]) hx hb dX9_weightWithout_1 hl (by decide) rfl (fun ls hl => ?_)
  obtain ⟨n42, hf⟩ := hf
  refine w_X9_weightWithout_L3 _ _ _ _ _ _ E hw hs0 ?_ n42 _ _ hf _ _ _ hR hS (lv_sub hl [1, 2, 3, 4, 0] rfl)
  intro m6 H locs ls hf hR hS hl
  refine lv_aload_n hx hb dX9_weightWithout_26 rfl (lv_at hl 0 rfl) ?_
  obtain ⟨b7, hb7, hf⟩ := hf
  refine hw_getR E hR cI8 hs0 8 (by decide) lfX9_46 rfl hb7 dX9_weightWithout_27 ?_
  refine lv_iconst (v := 0) hx hb dX9_weightWithout_30 (by decide) ?_
  refine lv_lconst (v := 1) hx hb dX9_weightWithout_31 (by decide) ?_
  obtain ⟨n8, hn8, in8, hf⟩ := hf
  refine hw_last E hR hS hw hn8 in8 dX9_weightWithout_32 (fun m9 H locs em9 hR hS => ?_)
  replace hf := hf m9 em9
  refine lv_iconst (v := 0) hx hb dX9_weightWithout_33 (by decide) ?_
  refine lv_istore (lv' := [(4, .int (0 : Int32)), (0, .ref (ad g a0)), (1, .int x1), (2, .int x2), (3, .ref (ad g a3))]) hx hb dX9_weightWithout_34 hl (by decide) rfl (fun ls hl => ?_)
  obtain ⟨n41, hf⟩ := hf
  refine w_X9_weightWithout_L36 _ _ _ _ _ _ E hw hs0 ?_ n41 _ _ hf _ _ _ hR hS (lv_sub hl [1, 2, 3, 4, 0] rfl)
  intro m32 H locs ls hf hR hS hl
  refine lv_lconst (v := 0) hx hb dX9_weightWithout_132 (by decide) ?_
  refine lv_lstore (lv' := [(4, .long (0 : Int64)), (0, .ref (ad g a0))]) hx hb dX9_weightWithout_133 hl (by decide) rfl (fun ls hl => ?_)
  refine lv_iconst (v := 0) hx hb dX9_weightWithout_135 (by decide) ?_
  refine lv_istore (lv' := [(6, .int (0 : Int32)), (4, .long (0 : Int64)), (0, .ref (ad g a0))]) hx hb dX9_weightWithout_136 hl (by decide) rfl (fun ls hl => ?_)
  obtain ⟨n40, hf⟩ := hf
  refine w_X9_weightWithout_L138 _ _ _ E hw hs0 ?_ n40 _ _ _ hf _ _ _ hR hS (lv_sub hl [2, 1, 0] rfl)
  intro v38 m39 H locs ls hf hR hS hl
  refine lv_lload hx hb dX9_weightWithout_165 (lv_at hl 0 rfl) ?_
  exact hw_lret E hR hS ⟨_, rfl, hf⟩ dX9_weightWithout_167
def f_X9_followFrom_J119 (S : Ss) (a0 : Nat) (x1 : Int32) (x2 : Int32) (x3 : Int32) (x4 : Int32) (x5 : Int32) (t0 : Int32) (b01 : Nat) (M : Mm) (BK3 : Int32 → Mm → Prop) (K : Int32 → Mm → Prop) : Prop :=
  S[b01]? = some (8, 0) ∧
  ∀ m44 : Mm, m44 = stI M b01 17 t0 →
  ∃ b45 : Nat, m44.2.2 a0 8 = some b45 ∧
  ∃ n46 : Nat, S[b45]? = some (53, n46) ∧ vp_in x1 n46 ∧
  ∀ m47 : Mm, m47 = stJ m44 a0 18 ((m44.2.1 a0 18) + (m44.2.1 b45 x1.toNatClampNeg)) →
  ∀ v48 : Int32, v48 = x5 + (1 : Int32) →
  BK3 v48 m47
set_option maxHeartbeats 4000000 in
set_option maxRecDepth 100000 in
theorem w_X9_followFrom_J119 {p : Program} {l : Launch} {e : Env} {s : State} {m : MethodId} {args : Array Value} {below : List Frame} {meth : Method} {c : Code} {g : Gg} {S : Ss} (a0 : Nat) (x1 : Int32) (x2 : Int32) (x3 : Int32) (x4 : Int32) (x5 : Int32) (t0 : Int32) (b01 : Nat) (M : Mm) (BK3 : Int32 → Mm → Prop) (K : Int32 → Mm → Prop) (E : EN p s m args meth c cX9_followFrom 8 (some .boolean) RX9 g) (hw : ad g 100000 < s.heap.size) (hs0 : S[a0]? = some (8, 0)) (hBK3 : ∀ (x5' : Int32) (M' : Mm) (H : Heap) (locs : List Loc) (ls : Array Slot), BK3 x5' M' → RP g S M' H → va_S (gA g) s.heap H locs → lv_has ls 8 [(0, .ref (ad g a0)), (1, .int x1), (2, .int x2), (3, .int x3), (4, .int x4), (5, .int x5')] → W p l e (rmD 4) s m args below meth c H locs 0 0 (MQ below (QA g S (pI K)) args s 0 0 (gA g)) (F0 m 3 ls [])) (hf : f_X9_followFrom_J119 S a0 x1 x2 x3 x4 x5 t0 b01 M BK3 K) (H : Heap) (locs : List Loc) (ls : Array Slot) (hR : RP g S M H) (hS : va_S (gA g) s.heap H locs) (hl : lv_has ls 8 [(0, .ref (ad g a0)), (1, .int x1), (2, .int x2), (3, .int x3), (4, .int x4), (5, .int x5)]) : W p l e (rmD 4) s m args below meth c H locs 0 0 (MQ below (QA g S (pI K)) args s 0 0 (gA g)) (F0 m 119 ls [.int t0, .ref (ad g b01)]) := by
  have hx := E.1
  have hb := E.2.1
  unfold f_X9_followFrom_J119 at hf
  obtain ⟨h43, hf⟩ := hf
  refine hw_putI E hR hS hw cI8 h43 17 (by decide) lfX9_74 rfl (Or.inl rfl) dX9_followFrom_119 (fun m44 H locs em44 hR hS => ?_)
  replace hf := hf m44 em44
  refine lv_aload_n hx hb dX9_followFrom_122 rfl (lv_at hl 0 rfl) ?_
  refine lv_dup hx hb dX9_followFrom_123 rfl ?_
  refine hw_getJ E hR cI8 hs0 18 (by decide) lfX9_77 rfl dX9_followFrom_124 ?_
  refine lv_aload_n hx hb dX9_followFrom_127 rfl (lv_at hl 0 rfl) ?_
  obtain ⟨b45, hb45, hf⟩ := hf
  refine hw_getR E hR cI8 hs0 8 (by decide) lfX9_46 rfl hb45 dX9_followFrom_128 ?_
  refine lv_iload_n hx hb dX9_followFrom_131 rfl (lv_at hl 1 rfl) ?_
  obtain ⟨n46, hn46, in46, hf⟩ := hf
  refine hw_lald E hR hn46 in46 dX9_followFrom_132 ?_
  refine lv_ladd hx hb dX9_followFrom_133 ?_
  refine hw_putJ E hR hS hw cI8 hs0 18 (by decide) lfX9_77 rfl rfl dX9_followFrom_134 (fun m47 H locs em47 hR hS => ?_)
  replace hf := hf m47 em47
  refine lv_goto (tgt := 172) hx hb dX9_followFrom_137 (by decide) ?_
  obtain ⟨v48, ev48⟩ : ∃ y : Int32, y = x5 + (1 : Int32) := ⟨_, rfl⟩
  replace hf := hf v48 ev48
  refine lv_iinc (v := v48) (lv' := [(5, .int v48), (0, .ref (ad g a0)), (1, .int x1), (2, .int x2), (3, .int x3), (4, .int x4)]) hx hb dX9_followFrom_172 hl (k := 5) rfl (by rw [ev48]; rfl) (by decide) rfl (fun ls hl => ?_)
  refine lv_goto (tgt := 3) hx hb dX9_followFrom_175 (by decide) ?_
  exact hBK3 _ _ _ _ _ hf hR hS (lv_sub hl [1, 2, 3, 4, 5, 0] rfl)
def f_X9_followFrom_J94 (S : Ss) (a0 : Nat) (x1 : Int32) (x2 : Int32) (x3 : Int32) (x4 : Int32) (x5 : Int32) (x6 : Int32) (t0 : Int32) (b01 : Nat) (M : Mm) (BK3 : Int32 → Mm → Prop) (K : Int32 → Mm → Prop) : Prop :=
  S[b01]? = some (8, 0) ∧
  ∀ m39 : Mm, m39 = stI M b01 14 t0 →
  ((x4 = 0 →
    ∀ v41 : Int32, v41 = x5 + (1 : Int32) →
    BK3 v41 m39) ∧
   (¬ x4 = 0 →
    ((0 ≤ (m39.1 a0 17) →
      f_X9_followFrom_J119 S a0 x1 x2 x3 x4 x5 (m39.1 a0 17) a0 m39 BK3 K) ∧
     (¬ 0 ≤ (m39.1 a0 17) →
      f_X9_followFrom_J119 S a0 x1 x2 x3 x4 x5 x6 a0 m39 BK3 K))))
set_option maxHeartbeats 4000000 in
set_option maxRecDepth 100000 in
theorem w_X9_followFrom_J94 {p : Program} {l : Launch} {e : Env} {s : State} {m : MethodId} {args : Array Value} {below : List Frame} {meth : Method} {c : Code} {g : Gg} {S : Ss} (a0 : Nat) (x1 : Int32) (x2 : Int32) (x3 : Int32) (x4 : Int32) (x5 : Int32) (x6 : Int32) (t0 : Int32) (b01 : Nat) (M : Mm) (BK3 : Int32 → Mm → Prop) (K : Int32 → Mm → Prop) (E : EN p s m args meth c cX9_followFrom 8 (some .boolean) RX9 g) (hw : ad g 100000 < s.heap.size) (hs0 : S[a0]? = some (8, 0)) (hBK3 : ∀ (x5' : Int32) (M' : Mm) (H : Heap) (locs : List Loc) (ls : Array Slot), BK3 x5' M' → RP g S M' H → va_S (gA g) s.heap H locs → lv_has ls 8 [(0, .ref (ad g a0)), (1, .int x1), (2, .int x2), (3, .int x3), (4, .int x4), (5, .int x5')] → W p l e (rmD 4) s m args below meth c H locs 0 0 (MQ below (QA g S (pI K)) args s 0 0 (gA g)) (F0 m 3 ls [])) (hf : f_X9_followFrom_J94 S a0 x1 x2 x3 x4 x5 x6 t0 b01 M BK3 K) (H : Heap) (locs : List Loc) (ls : Array Slot) (hR : RP g S M H) (hS : va_S (gA g) s.heap H locs) (hl : lv_has ls 8 [(0, .ref (ad g a0)), (1, .int x1), (2, .int x2), (3, .int x3), (4, .int x4), (5, .int x5), (6, .int x6)]) : W p l e (rmD 4) s m args below meth c H locs 0 0 (MQ below (QA g S (pI K)) args s 0 0 (gA g)) (F0 m 94 ls [.int t0, .ref (ad g b01)]) := by
  have hx := E.1
  have hb := E.2.1
  unfold f_X9_followFrom_J94 at hf
  obtain ⟨h38, hf⟩ := hf
  refine hw_putI E hR hS hw cI8 h38 14 (by decide) lfX9_65 rfl (Or.inl rfl) dX9_followFrom_94 (fun m39 H locs em39 hR hS => ?_)
  replace hf := hf m39 em39
  refine lv_iload hx hb dX9_followFrom_97 (lv_at hl 4 rfl) ?_
  refine lv_if_eq (tgt := 172) hx hb dX9_followFrom_99 (by decide) (fun c40 => ?_) (fun c40 => ?_)
  · replace hf := hf.1 c40
    obtain ⟨v41, ev41⟩ : ∃ y : Int32, y = x5 + (1 : Int32) := ⟨_, rfl⟩
    replace hf := hf v41 ev41
    refine lv_iinc (v := v41) (lv' := [(5, .int v41), (0, .ref (ad g a0)), (1, .int x1), (2, .int x2), (3, .int x3), (4, .int x4), (6, .int x6)]) hx hb dX9_followFrom_172 hl (k := 5) rfl (by rw [ev41]; rfl) (by decide) rfl (fun ls hl => ?_)
    refine lv_goto (tgt := 3) hx hb dX9_followFrom_175 (by decide) ?_
    exact hBK3 _ _ _ _ _ hf hR hS (lv_sub hl [1, 2, 3, 4, 5, 0] rfl)
  · replace hf := hf.2 c40
    refine lv_aload_n hx hb dX9_followFrom_102 rfl (lv_at hl 0 rfl) ?_
    refine lv_aload_n hx hb dX9_followFrom_103 rfl (lv_at hl 0 rfl) ?_
    refine hw_getI E hR cI8 hs0 17 (by decide) lfX9_74 rfl dX9_followFrom_104 ?_
    refine lv_if_ge (tgt := 115) hx hb dX9_followFrom_107 (by decide) (fun c42 => ?_) (fun c42 => ?_)
    · replace hf := hf.1 c42
      refine lv_aload_n hx hb dX9_followFrom_115 rfl (lv_at hl 0 rfl) ?_
      refine hw_getI E hR cI8 hs0 17 (by decide) lfX9_74 rfl dX9_followFrom_116 ?_
      exact w_X9_followFrom_J119 _ _ _ _ _ _ _ _ _ _ _ E hw hs0 hBK3 hf _ _ _ hR hS (lv_sub hl [0, 1, 2, 3, 4, 5] rfl)
    · replace hf := hf.2 c42
      refine lv_iload hx hb dX9_followFrom_110 (lv_at hl 6 rfl) ?_
      refine lv_goto (tgt := 119) hx hb dX9_followFrom_112 (by decide) ?_
      exact w_X9_followFrom_J119 _ _ _ _ _ _ _ _ _ _ _ E hw hs0 hBK3 hf _ _ _ hR hS (lv_sub hl [0, 1, 2, 3, 4, 5] rfl)
def f_X9_followFrom_B3 (S : Ss) (a0 : Nat) (x1 : Int32) (x2 : Int32) (x3 : Int32) (x4 : Int32) (x5 : Int32) (M : Mm) (BK3 : Int32 → Mm → Prop) (EK3 : Mm → Prop) (K : Int32 → Mm → Prop) : Prop :=
  ∃ b1 : Nat, M.2.2 a0 0 = some b1 ∧
  S[b1]? = some (2, 0) ∧
  (((M.1 b1 10) ≤ x5 →
    EK3 M) ∧
   (¬ (M.1 b1 10) ≤ x5 →
    ∃ b4 : Nat, M.2.2 a0 1 = some b4 ∧
    ∃ b5 : Nat, M.2.2 a0 2 = some b5 ∧
    ∃ n6 : Nat, S[b5]? = some (53, n6) ∧ vp_in x1 n6 ∧
    S[b4]? = some (3, 0) ∧
    ∀ m8 : Mm, m8 = stJ M b4 0 (M.2.1 b5 x1.toNatClampNeg) →
    ∃ b9 : Nat, m8.2.2 a0 1 = some b9 ∧
    ∃ b10 : Nat, m8.2.2 a0 3 = some b10 ∧
    ∃ n11 : Nat, S[b10]? = some (53, n11) ∧ vp_in x1 n11 ∧
    S[b9]? = some (3, 0) ∧
    ∀ m13 : Mm, m13 = stJ m8 b9 1 (m8.2.1 b10 x1.toNatClampNeg) →
    ∃ b14 : Nat, m13.2.2 a0 0 = some b14 ∧
    ∃ b15 : Nat, m13.2.2 a0 1 = some b15 ∧
    S[b14]? = some (2, 0) ∧
    S[b15]? = some (3, 0) ∧
    f_X3_act S b14 b15 x5 x3 m13 (fun (m16 : Mm) =>
      ∀ v19 : Int32, v19 = ((x1 <<< ((5 : Int32) &&& 31)) ||| x5) →
    ∃ b20 : Nat, m16.2.2 a0 0 = some b20 ∧
    ∃ b21 : Nat, m16.2.2 a0 1 = some b21 ∧
    S[b20]? = some (2, 0) ∧
    S[b21]? = some (3, 0) ∧
    f_X3_breaks S b20 b21 m16 (fun (r25 : Int32) (m22 : Mm) =>
      ((r25 = 0 →
      f_X9_find S a0 x2 v19 m22 (fun (r28 : Int32) (m27 : Mm) =>
        ((0 ≤ r28 →
        ∃ b30 : Nat, m27.2.2 a0 8 = some b30 ∧
        ∃ n31 : Nat, S[b30]? = some (53, n31) ∧ vp_in r28 n31 ∧
        ∃ b32 : Nat, m27.2.2 a0 8 = some b32 ∧
        ∃ n33 : Nat, S[b32]? = some (53, n33) ∧ vp_in x1 n33 ∧
        ∃ n34 : Nat, S[b30]? = some (53, n34) ∧ vp_in r28 n34 ∧
        ∀ m35 : Mm, m35 = stJ m27 b30 r28.toNatClampNeg ((m27.2.1 b30 r28.toNatClampNeg) + (m27.2.1 b32 x1.toNatClampNeg)) →
        ∀ v36 : Int32, v36 = x5 + (1 : Int32) →
        BK3 v36 m35) ∧
       (¬ 0 ≤ r28 →
        K (0 : Int32) m27)))) ∧
     (¬ r25 = 0 →
      ((0 ≤ (m22.1 a0 14) →
        f_X9_followFrom_J94 S a0 x1 x2 x3 x4 x5 v19 (m22.1 a0 14) a0 m22 BK3 K) ∧
       (¬ 0 ≤ (m22.1 a0 14) →
        f_X9_followFrom_J94 S a0 x1 x2 x3 x4 x5 v19 v19 a0 m22 BK3 K))))))))
set_option maxHeartbeats 4000000 in
set_option maxRecDepth 100000 in
theorem w_X9_followFrom_B3 {p : Program} {l : Launch} {e : Env} {s : State} {m : MethodId} {args : Array Value} {below : List Frame} {meth : Method} {c : Code} {g : Gg} {S : Ss} (a0 : Nat) (x1 : Int32) (x2 : Int32) (x3 : Int32) (x4 : Int32) (x5 : Int32) (M : Mm) (BK3 : Int32 → Mm → Prop) (EK3 : Mm → Prop) (K : Int32 → Mm → Prop) (E : EN p s m args meth c cX9_followFrom 8 (some .boolean) RX9 g) (hw : ad g 100000 < s.heap.size) (hs0 : S[a0]? = some (8, 0)) (hBK3 : ∀ (x5' : Int32) (M' : Mm) (H : Heap) (locs : List Loc) (ls : Array Slot), BK3 x5' M' → RP g S M' H → va_S (gA g) s.heap H locs → lv_has ls 8 [(0, .ref (ad g a0)), (1, .int x1), (2, .int x2), (3, .int x3), (4, .int x4), (5, .int x5')] → W p l e (rmD 4) s m args below meth c H locs 0 0 (MQ below (QA g S (pI K)) args s 0 0 (gA g)) (F0 m 3 ls [])) (hEK3 : ∀ (M' : Mm) (H : Heap) (locs : List Loc) (ls : Array Slot), EK3 M' → RP g S M' H → va_S (gA g) s.heap H locs → lv_has ls 8 [] → W p l e (rmD 4) s m args below meth c H locs 0 0 (MQ below (QA g S (pI K)) args s 0 0 (gA g)) (F0 m 178 ls [])) (hf : f_X9_followFrom_B3 S a0 x1 x2 x3 x4 x5 M BK3 EK3 K) (H : Heap) (locs : List Loc) (ls : Array Slot) (hR : RP g S M H) (hS : va_S (gA g) s.heap H locs) (hl : lv_has ls 8 [(0, .ref (ad g a0)), (1, .int x1), (2, .int x2), (3, .int x3), (4, .int x4), (5, .int x5)]) : W p l e (rmD 4) s m args below meth c H locs 0 0 (MQ below (QA g S (pI K)) args s 0 0 (gA g)) (F0 m 3 ls []) := by
  have hx := E.1
  have hb := E.2.1
  unfold f_X9_followFrom_B3 at hf
  refine lv_iload hx hb dX9_followFrom_3 (lv_at hl 5 rfl) ?_
  refine lv_aload_n hx hb dX9_followFrom_5 rfl (lv_at hl 0 rfl) ?_
  obtain ⟨b1, hb1, hf⟩ := hf
  refine hw_getR E hR cI8 hs0 0 (by decide) lfX9_12 rfl hb1 dX9_followFrom_6 ?_
  obtain ⟨h2, hf⟩ := hf
  refine hw_getI E hR cI2 h2 10 (by decide) lfX9_102 rfl dX9_followFrom_9 ?_
  refine lv_icmp_ge (tgt := 178) hx hb dX9_followFrom_12 (by decide) (fun c3 => ?_) (fun c3 => ?_)
  · replace hf := hf.1 c3
    exact hEK3  _ _ _ _ hf hR hS (lv_sub hl [] rfl)
  · replace hf := hf.2 c3
    refine lv_aload_n hx hb dX9_followFrom_15 rfl (lv_at hl 0 rfl) ?_
    obtain ⟨b4, hb4, hf⟩ := hf
    refine hw_getR E hR cI8 hs0 1 (by decide) lfX9_21 rfl hb4 dX9_followFrom_16 ?_
    refine lv_aload_n hx hb dX9_followFrom_19 rfl (lv_at hl 0 rfl) ?_
    obtain ⟨b5, hb5, hf⟩ := hf
    refine hw_getR E hR cI8 hs0 2 (by decide) lfX9_25 rfl hb5 dX9_followFrom_20 ?_
    refine lv_iload_n hx hb dX9_followFrom_23 rfl (lv_at hl 1 rfl) ?_
    obtain ⟨n6, hn6, in6, hf⟩ := hf
    refine hw_lald E hR hn6 in6 dX9_followFrom_24 ?_
    obtain ⟨h7, hf⟩ := hf
    refine hw_putJ E hR hS hw cI3 h7 0 (by decide) lfX9_108 rfl rfl dX9_followFrom_25 (fun m8 H locs em8 hR hS => ?_)
    replace hf := hf m8 em8
    refine lv_aload_n hx hb dX9_followFrom_28 rfl (lv_at hl 0 rfl) ?_
    obtain ⟨b9, hb9, hf⟩ := hf
    refine hw_getR E hR cI8 hs0 1 (by decide) lfX9_21 rfl hb9 dX9_followFrom_29 ?_
    refine lv_aload_n hx hb dX9_followFrom_32 rfl (lv_at hl 0 rfl) ?_
    obtain ⟨b10, hb10, hf⟩ := hf
    refine hw_getR E hR cI8 hs0 3 (by decide) lfX9_29 rfl hb10 dX9_followFrom_33 ?_
    refine lv_iload_n hx hb dX9_followFrom_36 rfl (lv_at hl 1 rfl) ?_
    obtain ⟨n11, hn11, in11, hf⟩ := hf
    refine hw_lald E hR hn11 in11 dX9_followFrom_37 ?_
    obtain ⟨h12, hf⟩ := hf
    refine hw_putJ E hR hS hw cI3 h12 1 (by decide) lfX9_110 rfl rfl dX9_followFrom_38 (fun m13 H locs em13 hR hS => ?_)
    replace hf := hf m13 em13
    refine lv_aload_n hx hb dX9_followFrom_41 rfl (lv_at hl 0 rfl) ?_
    obtain ⟨b14, hb14, hf⟩ := hf
    refine hw_getR E hR cI8 hs0 0 (by decide) lfX9_12 rfl hb14 dX9_followFrom_42 ?_
    refine lv_aload_n hx hb dX9_followFrom_45 rfl (lv_at hl 0 rfl) ?_
    obtain ⟨b15, hb15, hf⟩ := hf
    refine hw_getR E hR cI8 hs0 1 (by decide) lfX9_21 rfl hb15 dX9_followFrom_46 ?_
    refine lv_iload hx hb dX9_followFrom_49 (lv_at hl 5 rfl) ?_
    refine lv_iload_n hx hb dX9_followFrom_51 rfl (lv_at hl 3 rfl) ?_
    obtain ⟨h17, hf⟩ := hf
    obtain ⟨h18, hf⟩ := hf
    refine hw_callV (d := 4) E hR hS (As := [.ref (ad g b15), .int x5, .int x3]) (rest := []) cI2 h17 rfl mcX3_act miX3_act lmX9_113 (ok_X3_act h17 h18 hf) rfl rfl (by decide) hl.1 (Nat.le_of_ble_eq_true rfl) dX9_followFrom_52 (fun rr m16 H locs hp hR hS => ?_)
    obtain ⟨rfl, hf⟩ := hp
    refine W.eq (g2 := F0 m 55 ls []) rfl ?_
    refine lv_iload_n hx hb dX9_followFrom_55 rfl (lv_at hl 1 rfl) ?_
    refine lv_iconst (v := 5) hx hb dX9_followFrom_56 (by decide) ?_
    refine lv_ishl hx hb dX9_followFrom_57 ?_
    refine lv_iload hx hb dX9_followFrom_58 (lv_at hl 5 rfl) ?_
    refine lv_ior hx hb dX9_followFrom_60 ?_
    refine lv_topi (fun v19 ev19 => ?_)
    replace hf := hf v19 ev19
    refine lv_istore (lv' := [(6, .int v19), (0, .ref (ad g a0)), (1, .int x1), (2, .int x2), (3, .int x3), (4, .int x4), (5, .int x5)]) hx hb dX9_followFrom_61 hl (by decide) rfl (fun ls hl => ?_)
    refine lv_aload_n hx hb dX9_followFrom_63 rfl (lv_at hl 1 rfl) ?_
    obtain ⟨b20, hb20, hf⟩ := hf
    refine hw_getR E hR cI8 hs0 0 (by decide) lfX9_12 rfl hb20 dX9_followFrom_64 ?_
    refine lv_aload_n hx hb dX9_followFrom_67 rfl (lv_at hl 1 rfl) ?_
    obtain ⟨b21, hb21, hf⟩ := hf
    refine hw_getR E hR cI8 hs0 1 (by decide) lfX9_21 rfl hb21 dX9_followFrom_68 ?_
    obtain ⟨h23, hf⟩ := hf
    obtain ⟨h24, hf⟩ := hf
    refine hw_callV (d := 4) E hR hS (As := [.ref (ad g b21)]) (rest := []) cI2 h23 rfl mcX3_breaks miX3_breaks lmX9_117 (ok_X3_breaks h23 h24 hf) rfl rfl (by decide) hl.1 (Nat.le_of_ble_eq_true rfl) dX9_followFrom_71 (fun rr m22 H locs hp hR hS => ?_)
    obtain ⟨r25, rfl, hf⟩ := hp
    refine W.eq (g2 := F0 m 74 ls [.int r25]) rfl ?_
    refine lv_if_eq (tgt := 140) hx hb dX9_followFrom_74 (by decide) (fun c26 => ?_) (fun c26 => ?_)
    · replace hf := hf.1 c26
      refine lv_aload_n hx hb dX9_followFrom_140 rfl (lv_at hl 1 rfl) ?_
      refine lv_iload_n hx hb dX9_followFrom_141 rfl (lv_at hl 3 rfl) ?_
      refine lv_iload hx hb dX9_followFrom_142 (lv_at hl 0 rfl) ?_
      refine hw_callV (d := 4) E hR hS (As := [.int x2, .int v19]) (rest := []) cI8 hs0 rfl mcX9_find miX9_find lmX9_99 (ok_X9_find hs0 hf) rfl rfl (by decide) hl.1 (Nat.le_of_ble_eq_true rfl) dX9_followFrom_144 (fun rr m27 H locs hp hR hS => ?_)
      obtain ⟨r28, rfl, hf⟩ := hp
      refine W.eq (g2 := F0 m 147 ls [.int r28]) rfl ?_
      refine lv_istore (lv' := [(7, .int r28), (6, .int v19), (0, .ref (ad g a0)), (1, .int x1), (2, .int x2), (3, .int x3), (4, .int x4), (5, .int x5)]) hx hb dX9_followFrom_147 hl (by decide) rfl (fun ls hl => ?_)
      refine lv_iload hx hb dX9_followFrom_149 (lv_at hl 0 rfl) ?_
      refine lv_if_ge (tgt := 156) hx hb dX9_followFrom_151 (by decide) (fun c29 => ?_) (fun c29 => ?_)
      · replace hf := hf.1 c29
        refine lv_aload_n hx hb dX9_followFrom_156 rfl (lv_at hl 2 rfl) ?_
        obtain ⟨b30, hb30, hf⟩ := hf
        refine hw_getR E hR cI8 hs0 8 (by decide) lfX9_46 rfl hb30 dX9_followFrom_157 ?_
        refine lv_iload hx hb dX9_followFrom_160 (lv_at hl 0 rfl) ?_
        refine lv_dup2_11 hx hb dX9_followFrom_162 rfl rfl ?_
        obtain ⟨n31, hn31, in31, hf⟩ := hf
        refine hw_lald E hR hn31 in31 dX9_followFrom_163 ?_
        refine lv_aload_n hx hb dX9_followFrom_164 rfl (lv_at hl 2 rfl) ?_
        obtain ⟨b32, hb32, hf⟩ := hf
        refine hw_getR E hR cI8 hs0 8 (by decide) lfX9_46 rfl hb32 dX9_followFrom_165 ?_
        refine lv_iload_n hx hb dX9_followFrom_168 rfl (lv_at hl 3 rfl) ?_
        obtain ⟨n33, hn33, in33, hf⟩ := hf
        refine hw_lald E hR hn33 in33 dX9_followFrom_169 ?_
        refine lv_ladd hx hb dX9_followFrom_170 ?_
        obtain ⟨n34, hn34, in34, hf⟩ := hf
        refine hw_last E hR hS hw hn34 in34 dX9_followFrom_171 (fun m35 H locs em35 hR hS => ?_)
        replace hf := hf m35 em35
        obtain ⟨v36, ev36⟩ : ∃ y : Int32, y = x5 + (1 : Int32) := ⟨_, rfl⟩
        replace hf := hf v36 ev36
        refine lv_iinc (v := v36) (lv' := [(5, .int v36), (7, .int r28), (6, .int v19), (0, .ref (ad g a0)), (1, .int x1), (2, .int x2), (3, .int x3), (4, .int x4)]) hx hb dX9_followFrom_172 hl (k := 7) rfl (by rw [ev36]; rfl) (by decide) rfl (fun ls hl => ?_)
        refine lv_goto (tgt := 3) hx hb dX9_followFrom_175 (by decide) ?_
        exact hBK3 _ _ _ _ _ hf hR hS (lv_sub hl [3, 4, 5, 6, 7, 0] rfl)
      · replace hf := hf.2 c29
        refine lv_iconst (v := 0) hx hb dX9_followFrom_154 (by decide) ?_
        exact hw_zret E hR hS (by decide) ⟨_, rfl, hf⟩ dX9_followFrom_155
    · replace hf := hf.2 c26
      refine lv_aload_n hx hb dX9_followFrom_77 rfl (lv_at hl 1 rfl) ?_
      refine lv_aload_n hx hb dX9_followFrom_78 rfl (lv_at hl 1 rfl) ?_
      refine hw_getI E hR cI8 hs0 14 (by decide) lfX9_65 rfl dX9_followFrom_79 ?_
      refine lv_if_ge (tgt := 90) hx hb dX9_followFrom_82 (by decide) (fun c37 => ?_) (fun c37 => ?_)
      · replace hf := hf.1 c37
        refine lv_aload_n hx hb dX9_followFrom_90 rfl (lv_at hl 1 rfl) ?_
        refine hw_getI E hR cI8 hs0 14 (by decide) lfX9_65 rfl dX9_followFrom_91 ?_
        exact w_X9_followFrom_J94 _ _ _ _ _ _ _ _ _ _ _ _ E hw hs0 hBK3 hf _ _ _ hR hS (lv_sub hl [1, 2, 3, 4, 5, 6, 0] rfl)
      · replace hf := hf.2 c37
        refine lv_iload hx hb dX9_followFrom_85 (lv_at hl 0 rfl) ?_
        refine lv_goto (tgt := 94) hx hb dX9_followFrom_87 (by decide) ?_
        exact w_X9_followFrom_J94 _ _ _ _ _ _ _ _ _ _ _ _ E hw hs0 hBK3 hf _ _ _ hR hS (lv_sub hl [1, 2, 3, 4, 5, 6, 0] rfl)
def f_X9_followFrom_L3 (S : Ss) (a0 : Nat) (x1 : Int32) (x2 : Int32) (x3 : Int32) (x4 : Int32) (EK3 : Mm → Prop) (K : Int32 → Mm → Prop) : Nat → Int32 → Mm → Prop
  | 0, _, _ => False
  | n + 1, x5, M => f_X9_followFrom_B3 S a0 x1 x2 x3 x4 x5 M (fun (x5 : Int32) (M : Mm) => f_X9_followFrom_L3 S a0 x1 x2 x3 x4 EK3 K n x5 M) EK3 K
set_option maxHeartbeats 4000000 in
set_option maxRecDepth 100000 in
theorem w_X9_followFrom_L3 {p : Program} {l : Launch} {e : Env} {s : State} {m : MethodId} {args : Array Value} {below : List Frame} {meth : Method} {c : Code} {g : Gg} {S : Ss} (a0 : Nat) (x1 : Int32) (x2 : Int32) (x3 : Int32) (x4 : Int32) (EK3 : Mm → Prop) (K : Int32 → Mm → Prop) (E : EN p s m args meth c cX9_followFrom 8 (some .boolean) RX9 g) (hw : ad g 100000 < s.heap.size) (hs0 : S[a0]? = some (8, 0)) (hEK3 : ∀ (M' : Mm) (H : Heap) (locs : List Loc) (ls : Array Slot), EK3 M' → RP g S M' H → va_S (gA g) s.heap H locs → lv_has ls 8 [] → W p l e (rmD 4) s m args below meth c H locs 0 0 (MQ below (QA g S (pI K)) args s 0 0 (gA g)) (F0 m 178 ls [])) : ∀ (n : Nat) (x5 : Int32) (M : Mm), f_X9_followFrom_L3 S a0 x1 x2 x3 x4 EK3 K n x5 M → ∀ (H : Heap) (locs : List Loc) (ls : Array Slot), RP g S M H → va_S (gA g) s.heap H locs → lv_has ls 8 [(0, .ref (ad g a0)), (1, .int x1), (2, .int x2), (3, .int x3), (4, .int x4), (5, .int x5)] → W p l e (rmD 4) s m args below meth c H locs 0 0 (MQ below (QA g S (pI K)) args s 0 0 (gA g)) (F0 m 3 ls []) := by
  intro n
  induction n with
  | zero => intro x5 M hf; exact hf.elim
  | succ n ih =>
    intro x5 M hf H locs ls hR hS hl
    exact w_X9_followFrom_B3 _ _ _ _ _ _ _ _ _ _ E hw hs0 (fun _ M H locs ls h hR hS hl => ih _ M h H locs ls hR hS hl) hEK3 hf H locs ls hR hS hl
def f_X9_followFrom (S : Ss) (a0 : Nat) (x1 : Int32) (x2 : Int32) (x3 : Int32) (x4 : Int32) (M : Mm) (K : Int32 → Mm → Prop) : Prop :=
  ∃ n50 : Nat, f_X9_followFrom_L3 S a0 x1 x2 x3 x4 (fun (m49 : Mm) =>
    K (1 : Int32) m49) K n50 (0 : Int32) M
set_option maxHeartbeats 4000000 in
set_option maxRecDepth 100000 in
theorem ok_X9_followFrom {l : Launch} {g : Gg} {S : Ss} {a0 : Nat} {x1 : Int32} {x2 : Int32} {x3 : Int32} {x4 : Int32} {M : Mm} {K : Int32 → Mm → Prop} (hs0 : S[a0]? = some (8, 0)) (hf : f_X9_followFrom S a0 x1 x2 x3 x4 M K) : MT l g S yX9_followFrom cX9_followFrom 8 (some .boolean) 4 [.ref (ad g a0), .int x1, .int x2, .int x3, .int x4] M (pI K) := by
  refine MT.of (by decide +kernel) (Nat.le_of_ble_eq_true rfl) ?_
  intro p e s m below meth c ls E hw hR hS hl
  have hl : lv_has ls 8 [(0, .ref (ad g a0)), (1, .int x1), (2, .int x2), (3, .int x3), (4, .int x4)] := hl
  generalize ([.ref (ad g a0), .int x1, .int x2, .int x3, .int x4] : List Value).toArray = args at E ⊢
  have E : EN p s m args meth c cX9_followFrom 8 (some .boolean) RX9 g := E
  have hx := E.1
  have hb := E.2.1
  unfold f_X9_followFrom at hf
  refine lv_iconst (v := 0) hx hb dX9_followFrom_0 (by decide) ?_
  refine lv_istore (lv' := [(5, .int (0 : Int32)), (0, .ref (ad g a0)), (1, .int x1), (2, .int x2), (3, .int x3), (4, .int x4)]) hx hb dX9_followFrom_1 hl (by decide) rfl (fun ls hl => ?_)
  obtain ⟨n50, hf⟩ := hf
  refine w_X9_followFrom_L3 _ _ _ _ _ _ _ E hw hs0 ?_ n50 _ _ hf _ _ _ hR hS (lv_sub hl [1, 2, 3, 4, 5, 0] rfl)
  intro m49 H locs ls hf hR hS hl
  refine lv_iconst (v := 1) hx hb dX9_followFrom_178 (by decide) ?_
  exact hw_zret E hR hS (by decide) ⟨_, rfl, hf⟩ dX9_followFrom_179
def f_X9_follow_J73 (S : Ss) (a0 : Nat) (a2 : Nat) (x3 : Int32) (x5 : Int32) (x6 : Int32) (x7 : Int32) (t0 : Int32) (t1 : Int32) (t2 : Int32) (t3 : Int32) (b04 : Nat) (M : Mm) (BK44 : Int32 → Mm → Prop) (K : Int32 → Mm → Prop) : Prop :=
  S[b04]? = some (8, 0) ∧
  f_X9_followFrom S b04 t3 t2 t1 t0 M (fun (r13 : Int32) (m11 : Mm) =>
    ((r13 = 0 →
    K (0 : Int32) m11) ∧
   (¬ r13 = 0 →
    ∀ v15 : Int32, v15 = x7 + (1 : Int32) →
    BK44 v15 m11)))
set_option maxHeartbeats 4000000 in
set_option maxRecDepth 100000 in
theorem w_X9_follow_J73 {p : Program} {l : Launch} {e : Env} {s : State} {m : MethodId} {args : Array Value} {below : List Frame} {meth : Method} {c : Code} {g : Gg} {S : Ss} (a0 : Nat) (a2 : Nat) (x3 : Int32) (x5 : Int32) (x6 : Int32) (x7 : Int32) (t0 : Int32) (t1 : Int32) (t2 : Int32) (t3 : Int32) (b04 : Nat) (M : Mm) (BK44 : Int32 → Mm → Prop) (K : Int32 → Mm → Prop) (E : EN p s m args meth c cX9_follow 8 (some .boolean) RX9 g) (hw : ad g 100000 < s.heap.size) (hs0 : S[a0]? = some (8, 0)) (hBK44 : ∀ (x7' : Int32) (M' : Mm) (H : Heap) (locs : List Loc) (ls : Array Slot), BK44 x7' M' → RP g S M' H → va_S (gA g) s.heap H locs → lv_has ls 8 [(0, .ref (ad g a0)), (2, .ref (ad g a2)), (3, .int x3), (5, .int x5), (6, .int x6), (7, .int x7')] → W p l e (rmD 5) s m args below meth c H locs 0 0 (MQ below (QA g S (pI K)) args s 0 0 (gA g)) (F0 m 44 ls [])) (hf : f_X9_follow_J73 S a0 a2 x3 x5 x6 x7 t0 t1 t2 t3 b04 M BK44 K) (H : Heap) (locs : List Loc) (ls : Array Slot) (hR : RP g S M H) (hS : va_S (gA g) s.heap H locs) (hl : lv_has ls 8 [(0, .ref (ad g a0)), (2, .ref (ad g a2)), (3, .int x3), (5, .int x5), (6, .int x6), (7, .int x7)]) : W p l e (rmD 5) s m args below meth c H locs 0 0 (MQ below (QA g S (pI K)) args s 0 0 (gA g)) (F0 m 73 ls [.int t0, .int t1, .int t2, .int t3, .ref (ad g b04)]) := by
  have hx := E.1
  have hb := E.2.1
  unfold f_X9_follow_J73 at hf
  obtain ⟨h12, hf⟩ := hf
  refine hw_callV (d := 5) E hR hS (As := [.int t3, .int t2, .int t1, .int t0]) (rest := []) cI8 h12 rfl mcX9_followFrom miX9_followFrom lmX9_160 (ok_X9_followFrom h12 hf) rfl rfl (by decide) hl.1 (Nat.le_of_ble_eq_true rfl) dX9_follow_73 (fun rr m11 H locs hp hR hS => ?_)
  obtain ⟨r13, rfl, hf⟩ := hp
  refine W.eq (g2 := F0 m 76 ls [.int r13]) rfl ?_
  refine lv_if_ne (tgt := 81) hx hb dX9_follow_76 (by decide) (fun c14 => ?_) (fun c14 => ?_)
  · replace hf := hf.2 c14
    obtain ⟨v15, ev15⟩ : ∃ y : Int32, y = x7 + (1 : Int32) := ⟨_, rfl⟩
    replace hf := hf v15 ev15
    refine lv_iinc (v := v15) (lv' := [(7, .int v15), (0, .ref (ad g a0)), (2, .ref (ad g a2)), (3, .int x3), (5, .int x5), (6, .int x6)]) hx hb dX9_follow_81 hl (k := 5) rfl (by rw [ev15]; rfl) (by decide) rfl (fun ls hl => ?_)
    refine lv_goto (tgt := 44) hx hb dX9_follow_84 (by decide) ?_
    exact hBK44 _ _ _ _ _ hf hR hS (lv_sub hl [1, 2, 3, 4, 5, 0] rfl)
  · replace hf := hf.1 c14
    refine lv_iconst (v := 0) hx hb dX9_follow_79 (by decide) ?_
    exact hw_zret E hR hS (by decide) ⟨_, rfl, hf⟩ dX9_follow_80
def f_X9_follow_B44 (S : Ss) (a0 : Nat) (a2 : Nat) (x3 : Int32) (x5 : Int32) (x6 : Int32) (x7 : Int32) (M : Mm) (BK44 : Int32 → Mm → Prop) (EK44 : Mm → Prop) (K : Int32 → Mm → Prop) : Prop :=
  ((x6 ≤ x7 →
    EK44 M) ∧
   (¬ x6 ≤ x7 →
    ∃ n9 : Nat, shp S a2 = some (50, n9) ∧ vp_in x5 n9 ∧
    ((x5 = (x3 - (1 : Int32)) →
      f_X9_follow_J73 S a0 a2 x3 x5 x6 x7 (1 : Int32) (M.1 a2 x5.toNatClampNeg) x6 x7 a0 M BK44 K) ∧
     (¬ x5 = (x3 - (1 : Int32)) →
      f_X9_follow_J73 S a0 a2 x3 x5 x6 x7 (0 : Int32) (M.1 a2 x5.toNatClampNeg) x6 x7 a0 M BK44 K))))
set_option maxHeartbeats 4000000 in
set_option maxRecDepth 100000 in
theorem w_X9_follow_B44 {p : Program} {l : Launch} {e : Env} {s : State} {m : MethodId} {args : Array Value} {below : List Frame} {meth : Method} {c : Code} {g : Gg} {S : Ss} (a0 : Nat) (a2 : Nat) (x3 : Int32) (x5 : Int32) (x6 : Int32) (x7 : Int32) (M : Mm) (BK44 : Int32 → Mm → Prop) (EK44 : Mm → Prop) (K : Int32 → Mm → Prop) (E : EN p s m args meth c cX9_follow 8 (some .boolean) RX9 g) (hw : ad g 100000 < s.heap.size) (hs0 : S[a0]? = some (8, 0)) (hBK44 : ∀ (x7' : Int32) (M' : Mm) (H : Heap) (locs : List Loc) (ls : Array Slot), BK44 x7' M' → RP g S M' H → va_S (gA g) s.heap H locs → lv_has ls 8 [(0, .ref (ad g a0)), (2, .ref (ad g a2)), (3, .int x3), (5, .int x5), (6, .int x6), (7, .int x7')] → W p l e (rmD 5) s m args below meth c H locs 0 0 (MQ below (QA g S (pI K)) args s 0 0 (gA g)) (F0 m 44 ls [])) (hEK44 : ∀ (M' : Mm) (H : Heap) (locs : List Loc) (ls : Array Slot), EK44 M' → RP g S M' H → va_S (gA g) s.heap H locs → lv_has ls 8 [(0, .ref (ad g a0)), (2, .ref (ad g a2)), (3, .int x3), (5, .int x5), (6, .int x6)] → W p l e (rmD 5) s m args below meth c H locs 0 0 (MQ below (QA g S (pI K)) args s 0 0 (gA g)) (F0 m 87 ls [])) (hf : f_X9_follow_B44 S a0 a2 x3 x5 x6 x7 M BK44 EK44 K) (H : Heap) (locs : List Loc) (ls : Array Slot) (hR : RP g S M H) (hS : va_S (gA g) s.heap H locs) (hl : lv_has ls 8 [(0, .ref (ad g a0)), (2, .ref (ad g a2)), (3, .int x3), (5, .int x5), (6, .int x6), (7, .int x7)]) : W p l e (rmD 5) s m args below meth c H locs 0 0 (MQ below (QA g S (pI K)) args s 0 0 (gA g)) (F0 m 44 ls []) := by
  have hx := E.1
  have hb := E.2.1
  unfold f_X9_follow_B44 at hf
  refine lv_iload hx hb dX9_follow_44 (lv_at hl 5 rfl) ?_
  refine lv_iload hx hb dX9_follow_46 (lv_at hl 4 rfl) ?_
  refine lv_icmp_ge (tgt := 87) hx hb dX9_follow_48 (by decide) (fun c8 => ?_) (fun c8 => ?_)
  · replace hf := hf.1 c8
    exact hEK44  _ _ _ _ hf hR hS (lv_sub hl [0, 1, 2, 3, 4] rfl)
  · replace hf := hf.2 c8
    refine lv_aload_n hx hb dX9_follow_51 rfl (lv_at hl 0 rfl) ?_
    refine lv_iload hx hb dX9_follow_52 (lv_at hl 5 rfl) ?_
    refine lv_iload hx hb dX9_follow_54 (lv_at hl 4 rfl) ?_
    refine lv_aload_n hx hb dX9_follow_56 rfl (lv_at hl 1 rfl) ?_
    refine lv_iload hx hb dX9_follow_57 (lv_at hl 3 rfl) ?_
    obtain ⟨n9, hn9, in9, hf⟩ := hf
    refine hw_iald E hR hS hn9 in9 dX9_follow_59 ?_
    refine lv_iload hx hb dX9_follow_60 (lv_at hl 3 rfl) ?_
    refine lv_iload_n hx hb dX9_follow_62 rfl (lv_at hl 2 rfl) ?_
    refine lv_iconst (v := 1) hx hb dX9_follow_63 (by decide) ?_
    refine lv_isub hx hb dX9_follow_64 ?_
    refine lv_icmp_ne (tgt := 72) hx hb dX9_follow_65 (by decide) (fun c10 => ?_) (fun c10 => ?_)
    · replace hf := hf.2 c10
      refine lv_iconst (v := 0) hx hb dX9_follow_72 (by decide) ?_
      exact w_X9_follow_J73 _ _ _ _ _ _ _ _ _ _ _ _ _ _ E hw hs0 hBK44 hf _ _ _ hR hS (lv_sub hl [0, 1, 2, 3, 4, 5] rfl)
    · replace hf := hf.1 c10
      refine lv_iconst (v := 1) hx hb dX9_follow_68 (by decide) ?_
      refine lv_goto (tgt := 73) hx hb dX9_follow_69 (by decide) ?_
      exact w_X9_follow_J73 _ _ _ _ _ _ _ _ _ _ _ _ _ _ E hw hs0 hBK44 hf _ _ _ hR hS (lv_sub hl [0, 1, 2, 3, 4, 5] rfl)
def f_X9_follow_L44 (S : Ss) (a0 : Nat) (a2 : Nat) (x3 : Int32) (x5 : Int32) (x6 : Int32) (EK44 : Mm → Prop) (K : Int32 → Mm → Prop) : Nat → Int32 → Mm → Prop
  | 0, _, _ => False
  | n + 1, x7, M => f_X9_follow_B44 S a0 a2 x3 x5 x6 x7 M (fun (x7 : Int32) (M : Mm) => f_X9_follow_L44 S a0 a2 x3 x5 x6 EK44 K n x7 M) EK44 K
set_option maxHeartbeats 4000000 in
set_option maxRecDepth 100000 in
theorem w_X9_follow_L44 {p : Program} {l : Launch} {e : Env} {s : State} {m : MethodId} {args : Array Value} {below : List Frame} {meth : Method} {c : Code} {g : Gg} {S : Ss} (a0 : Nat) (a2 : Nat) (x3 : Int32) (x5 : Int32) (x6 : Int32) (EK44 : Mm → Prop) (K : Int32 → Mm → Prop) (E : EN p s m args meth c cX9_follow 8 (some .boolean) RX9 g) (hw : ad g 100000 < s.heap.size) (hs0 : S[a0]? = some (8, 0)) (hEK44 : ∀ (M' : Mm) (H : Heap) (locs : List Loc) (ls : Array Slot), EK44 M' → RP g S M' H → va_S (gA g) s.heap H locs → lv_has ls 8 [(0, .ref (ad g a0)), (2, .ref (ad g a2)), (3, .int x3), (5, .int x5), (6, .int x6)] → W p l e (rmD 5) s m args below meth c H locs 0 0 (MQ below (QA g S (pI K)) args s 0 0 (gA g)) (F0 m 87 ls [])) : ∀ (n : Nat) (x7 : Int32) (M : Mm), f_X9_follow_L44 S a0 a2 x3 x5 x6 EK44 K n x7 M → ∀ (H : Heap) (locs : List Loc) (ls : Array Slot), RP g S M H → va_S (gA g) s.heap H locs → lv_has ls 8 [(0, .ref (ad g a0)), (2, .ref (ad g a2)), (3, .int x3), (5, .int x5), (6, .int x6), (7, .int x7)] → W p l e (rmD 5) s m args below meth c H locs 0 0 (MQ below (QA g S (pI K)) args s 0 0 (gA g)) (F0 m 44 ls []) := by
  intro n
  induction n with
  | zero => intro x7 M hf; exact hf.elim
  | succ n ih =>
    intro x7 M hf H locs ls hR hS hl
    exact w_X9_follow_B44 _ _ _ _ _ _ _ _ _ _ E hw hs0 (fun _ M H locs ls h hR hS hl => ih _ M h H locs ls hR hS hl) hEK44 hf H locs ls hR hS hl
def f_X9_follow_B21 (S : Ss) (a0 : Nat) (a2 : Nat) (x3 : Int32) (x4 : Int32) (x5 : Int32) (M : Mm) (BK21 : Int32 → Int32 → Mm → Prop) (EK21 : Mm → Prop) (K : Int32 → Mm → Prop) : Prop :=
  ((x3 ≤ x5 →
    EK21 M) ∧
   (¬ x3 ≤ x5 →
    (((8 : Int32) ≤ x5 →
      EK21 M) ∧
     (¬ (8 : Int32) ≤ x5 →
      ∀ v7 : Int32, v7 = (M.1 a0 10) →
      ∃ n18 : Nat, f_X9_follow_L44 S a0 a2 x3 x5 v7 (fun (m16 : Mm) =>
        ∀ v17 : Int32, v17 = x5 + (1 : Int32) →
        BK21 v7 v17 m16) K n18 x4 M))))
set_option maxHeartbeats 4000000 in
set_option maxRecDepth 100000 in
theorem w_X9_follow_B21 {p : Program} {l : Launch} {e : Env} {s : State} {m : MethodId} {args : Array Value} {below : List Frame} {meth : Method} {c : Code} {g : Gg} {S : Ss} (a0 : Nat) (a2 : Nat) (x3 : Int32) (x4 : Int32) (x5 : Int32) (M : Mm) (BK21 : Int32 → Int32 → Mm → Prop) (EK21 : Mm → Prop) (K : Int32 → Mm → Prop) (E : EN p s m args meth c cX9_follow 8 (some .boolean) RX9 g) (hw : ad g 100000 < s.heap.size) (hs0 : S[a0]? = some (8, 0)) (hBK21 : ∀ (x4' : Int32) (x5' : Int32) (M' : Mm) (H : Heap) (locs : List Loc) (ls : Array Slot), BK21 x4' x5' M' → RP g S M' H → va_S (gA g) s.heap H locs → lv_has ls 8 [(0, .ref (ad g a0)), (2, .ref (ad g a2)), (3, .int x3), (4, .int x4'), (5, .int x5')] → W p l e (rmD 5) s m args below meth c H locs 0 0 (MQ below (QA g S (pI K)) args s 0 0 (gA g)) (F0 m 21 ls [])) (hEK21 : ∀ (M' : Mm) (H : Heap) (locs : List Loc) (ls : Array Slot), EK21 M' → RP g S M' H → va_S (gA g) s.heap H locs → lv_has ls 8 [] → W p l e (rmD 5) s m args below meth c H locs 0 0 (MQ below (QA g S (pI K)) args s 0 0 (gA g)) (F0 m 97 ls [])) (hf : f_X9_follow_B21 S a0 a2 x3 x4 x5 M BK21 EK21 K) (H : Heap) (locs : List Loc) (ls : Array Slot) (hR : RP g S M H) (hS : va_S (gA g) s.heap H locs) (hl : lv_has ls 8 [(0, .ref (ad g a0)), (2, .ref (ad g a2)), (3, .int x3), (4, .int x4), (5, .int x5)]) : W p l e (rmD 5) s m args below meth c H locs 0 0 (MQ below (QA g S (pI K)) args s 0 0 (gA g)) (F0 m 21 ls []) := by
  have hx := E.1
  have hb := E.2.1
  unfold f_X9_follow_B21 at hf
  refine lv_iload hx hb dX9_follow_21 (lv_at hl 4 rfl) ?_
  refine lv_iload_n hx hb dX9_follow_23 rfl (lv_at hl 2 rfl) ?_
  refine lv_icmp_ge (tgt := 97) hx hb dX9_follow_24 (by decide) (fun c5 => ?_) (fun c5 => ?_)
  · replace hf := hf.1 c5
    exact hEK21  _ _ _ _ hf hR hS (lv_sub hl [] rfl)
  · replace hf := hf.2 c5
    refine lv_iload hx hb dX9_follow_27 (lv_at hl 4 rfl) ?_
    refine lv_bipush (v := 8) hx hb dX9_follow_29 (by decide) ?_
    refine lv_icmp_ge (tgt := 97) hx hb dX9_follow_31 (by decide) (fun c6 => ?_) (fun c6 => ?_)
    · replace hf := hf.1 c6
      exact hEK21  _ _ _ _ hf hR hS (lv_sub hl [] rfl)
    · replace hf := hf.2 c6
      refine lv_aload_n hx hb dX9_follow_34 rfl (lv_at hl 0 rfl) ?_
      refine hw_getI E hR cI8 hs0 10 (by decide) lfX9_52 rfl dX9_follow_35 ?_
      refine lv_topi (fun v7 ev7 => ?_)
      replace hf := hf v7 ev7
      refine lv_istore (lv' := [(6, .int v7), (0, .ref (ad g a0)), (2, .ref (ad g a2)), (3, .int x3), (4, .int x4), (5, .int x5)]) hx hb dX9_follow_38 hl (by decide) rfl (fun ls hl => ?_)
      refine lv_iload hx hb dX9_follow_40 (lv_at hl 4 rfl) ?_
      refine lv_istore (lv' := [(7, .int x4), (6, .int v7), (0, .ref (ad g a0)), (2, .ref (ad g a2)), (3, .int x3), (4, .int x4), (5, .int x5)]) hx hb dX9_follow_42 hl (by decide) rfl (fun ls hl => ?_)
      obtain ⟨n18, hf⟩ := hf
      refine w_X9_follow_L44 _ _ _ _ _ _ _ E hw hs0 ?_ n18 _ _ hf _ _ _ hR hS (lv_sub hl [2, 3, 4, 6, 1, 0] rfl)
      intro m16 H locs ls hf hR hS hl
      refine lv_iload hx hb dX9_follow_87 (lv_at hl 4 rfl) ?_
      refine lv_istore (lv' := [(4, .int v7), (0, .ref (ad g a0)), (2, .ref (ad g a2)), (3, .int x3), (5, .int x5), (6, .int v7)]) hx hb dX9_follow_89 hl (by decide) rfl (fun ls hl => ?_)
      obtain ⟨v17, ev17⟩ : ∃ y : Int32, y = x5 + (1 : Int32) := ⟨_, rfl⟩
      replace hf := hf v17 ev17
      refine lv_iinc (v := v17) (lv' := [(5, .int v17), (4, .int v7), (0, .ref (ad g a0)), (2, .ref (ad g a2)), (3, .int x3), (6, .int v7)]) hx hb dX9_follow_91 hl (k := 4) rfl (by rw [ev17]; rfl) (by decide) rfl (fun ls hl => ?_)
      refine lv_goto (tgt := 21) hx hb dX9_follow_94 (by decide) ?_
      exact hBK21 _ _ _ _ _ _ hf hR hS (lv_sub hl [2, 3, 4, 1, 0] rfl)
def f_X9_follow_L21 (S : Ss) (a0 : Nat) (a2 : Nat) (x3 : Int32) (EK21 : Mm → Prop) (K : Int32 → Mm → Prop) : Nat → Int32 → Int32 → Mm → Prop
  | 0, _, _, _ => False
  | n + 1, x4, x5, M => f_X9_follow_B21 S a0 a2 x3 x4 x5 M (fun (x4 : Int32) (x5 : Int32) (M : Mm) => f_X9_follow_L21 S a0 a2 x3 EK21 K n x4 x5 M) EK21 K
set_option maxHeartbeats 4000000 in
set_option maxRecDepth 100000 in
theorem w_X9_follow_L21 {p : Program} {l : Launch} {e : Env} {s : State} {m : MethodId} {args : Array Value} {below : List Frame} {meth : Method} {c : Code} {g : Gg} {S : Ss} (a0 : Nat) (a2 : Nat) (x3 : Int32) (EK21 : Mm → Prop) (K : Int32 → Mm → Prop) (E : EN p s m args meth c cX9_follow 8 (some .boolean) RX9 g) (hw : ad g 100000 < s.heap.size) (hs0 : S[a0]? = some (8, 0)) (hEK21 : ∀ (M' : Mm) (H : Heap) (locs : List Loc) (ls : Array Slot), EK21 M' → RP g S M' H → va_S (gA g) s.heap H locs → lv_has ls 8 [] → W p l e (rmD 5) s m args below meth c H locs 0 0 (MQ below (QA g S (pI K)) args s 0 0 (gA g)) (F0 m 97 ls [])) : ∀ (n : Nat) (x4 : Int32) (x5 : Int32) (M : Mm), f_X9_follow_L21 S a0 a2 x3 EK21 K n x4 x5 M → ∀ (H : Heap) (locs : List Loc) (ls : Array Slot), RP g S M H → va_S (gA g) s.heap H locs → lv_has ls 8 [(0, .ref (ad g a0)), (2, .ref (ad g a2)), (3, .int x3), (4, .int x4), (5, .int x5)] → W p l e (rmD 5) s m args below meth c H locs 0 0 (MQ below (QA g S (pI K)) args s 0 0 (gA g)) (F0 m 21 ls []) := by
  intro n
  induction n with
  | zero => intro x4 x5 M hf; exact hf.elim
  | succ n ih =>
    intro x4 x5 M hf H locs ls hR hS hl
    exact w_X9_follow_B21 _ _ _ _ _ _ _ _ _ E hw hs0 (fun _ _ M H locs ls h hR hS hl => ih _ _ M h H locs ls hR hS hl) hEK21 hf H locs ls hR hS hl
def f_X9_follow (S : Ss) (a0 : Nat) (a1 : Nat) (a2 : Nat) (x3 : Int32) (M : Mm) (K : Int32 → Mm → Prop) : Prop :=
  f_X9_begin S a0 a1 (4000 : Int32) M (fun (m1 : Mm) =>
    ∃ b2 : Nat, m1.2.2 a0 8 = some b2 ∧
  ∃ n3 : Nat, S[b2]? = some (53, n3) ∧ vp_in (0 : Int32) n3 ∧
  ∀ m4 : Mm, m4 = stJ m1 b2 (0 : Int32).toNatClampNeg (1 : Int64) →
  ∃ n20 : Nat, f_X9_follow_L21 S a0 a2 x3 (fun (m19 : Mm) =>
    K (1 : Int32) m19) K n20 (0 : Int32) (0 : Int32) m4)
set_option maxHeartbeats 4000000 in
set_option maxRecDepth 100000 in
theorem ok_X9_follow {l : Launch} {g : Gg} {S : Ss} {a0 : Nat} {a1 : Nat} {a2 : Nat} {x3 : Int32} {M : Mm} {K : Int32 → Mm → Prop} (hs0 : S[a0]? = some (8, 0)) (hs1 : S[a1]? = some (3, 0)) (hf : f_X9_follow S a0 a1 a2 x3 M K) : MT l g S yX9_follow cX9_follow 8 (some .boolean) 5 [.ref (ad g a0), .ref (ad g a1), .ref (ad g a2), .int x3] M (pI K) := by
  refine MT.of (by decide +kernel) (Nat.le_of_ble_eq_true rfl) ?_
  intro p e s m below meth c ls E hw hR hS hl
  have hl : lv_has ls 8 [(0, .ref (ad g a0)), (1, .ref (ad g a1)), (2, .ref (ad g a2)), (3, .int x3)] := hl
  generalize ([.ref (ad g a0), .ref (ad g a1), .ref (ad g a2), .int x3] : List Value).toArray = args at E ⊢
  have E : EN p s m args meth c cX9_follow 8 (some .boolean) RX9 g := E
  have hx := E.1
  have hb := E.2.1
  unfold f_X9_follow at hf
  refine lv_aload_n hx hb dX9_follow_0 rfl (lv_at hl 0 rfl) ?_
  refine lv_aload_n hx hb dX9_follow_1 rfl (lv_at hl 1 rfl) ?_
  refine lv_sipush (v := 4000) hx hb dX9_follow_2 (by decide) ?_
  refine hw_callV (d := 5) E hR hS (As := [.ref (ad g a1), .int (4000 : Int32)]) (rest := []) cI8 hs0 rfl mcX9_begin miX9_begin lmX9_81 (ok_X9_begin hs0 hs1 hf) rfl rfl (by decide) hl.1 (Nat.le_of_ble_eq_true rfl) dX9_follow_5 (fun rr m1 H locs hp hR hS => ?_)
  obtain ⟨rfl, hf⟩ := hp
  refine W.eq (g2 := F0 m 8 ls []) rfl ?_
  refine lv_aload_n hx hb dX9_follow_8 rfl (lv_at hl 0 rfl) ?_
  obtain ⟨b2, hb2, hf⟩ := hf
  refine hw_getR E hR cI8 hs0 8 (by decide) lfX9_46 rfl hb2 dX9_follow_9 ?_
  refine lv_iconst (v := 0) hx hb dX9_follow_12 (by decide) ?_
  refine lv_lconst (v := 1) hx hb dX9_follow_13 (by decide) ?_
  obtain ⟨n3, hn3, in3, hf⟩ := hf
  refine hw_last E hR hS hw hn3 in3 dX9_follow_14 (fun m4 H locs em4 hR hS => ?_)
  replace hf := hf m4 em4
  refine lv_iconst (v := 0) hx hb dX9_follow_15 (by decide) ?_
  refine lv_istore (lv' := [(4, .int (0 : Int32)), (0, .ref (ad g a0)), (1, .ref (ad g a1)), (2, .ref (ad g a2)), (3, .int x3)]) hx hb dX9_follow_16 hl (by decide) rfl (fun ls hl => ?_)
  refine lv_iconst (v := 0) hx hb dX9_follow_18 (by decide) ?_
  refine lv_istore (lv' := [(5, .int (0 : Int32)), (4, .int (0 : Int32)), (0, .ref (ad g a0)), (1, .ref (ad g a1)), (2, .ref (ad g a2)), (3, .int x3)]) hx hb dX9_follow_19 hl (by decide) rfl (fun ls hl => ?_)
  obtain ⟨n20, hf⟩ := hf
  refine w_X9_follow_L21 _ _ _ _ _ E hw hs0 ?_ n20 _ _ _ hf _ _ _ hR hS (lv_sub hl [2, 4, 5, 1, 0] rfl)
  intro m19 H locs ls hf hR hS hl
  refine lv_iconst (v := 1) hx hb dX9_follow_97 (by decide) ?_
  exact hw_zret E hR hS (by decide) ⟨_, rfl, hf⟩ dX9_follow_98
def f_X9_tellSteps_B5 (S : Ss) (a0 : Nat) (x1 : Int32) (a2 : Nat) (x3 : Int32) (x4 : Int32) (M : Mm) (BK5 : Int32 → Int32 → Mm → Prop) (EK5 : Int32 → Mm → Prop) (K : Mm → Prop) : Prop :=
  ((x4 < 0 →
    EK5 x3 M) ∧
   (¬ x4 < 0 →
    (((20 : Int32) ≤ x3 →
      EK5 x3 M) ∧
     (¬ (20 : Int32) ≤ x3 →
      ∀ v3 : Int32, v3 = x3 + (1 : Int32) →
      ∃ b4 : Nat, M.2.2 a0 4 = some b4 ∧
      ∃ n5 : Nat, shp S b4 = some (50, n5) ∧ vp_in (x4 >>> ((5 : Int32) &&& 31)) n5 ∧
      ∀ v6 : Int32, v6 = (M.1 b4 (x4 >>> ((5 : Int32) &&& 31)).toNatClampNeg) →
      BK5 v3 v6 M))))
set_option maxHeartbeats 4000000 in
set_option maxRecDepth 100000 in
theorem w_X9_tellSteps_B5 {p : Program} {l : Launch} {e : Env} {s : State} {m : MethodId} {args : Array Value} {below : List Frame} {meth : Method} {c : Code} {g : Gg} {S : Ss} (a0 : Nat) (x1 : Int32) (a2 : Nat) (x3 : Int32) (x4 : Int32) (M : Mm) (BK5 : Int32 → Int32 → Mm → Prop) (EK5 : Int32 → Mm → Prop) (K : Mm → Prop) (E : EN p s m args meth c cX9_tellSteps 6 none RX9 g) (hw : ad g 100000 < s.heap.size) (hs0 : S[a0]? = some (8, 0)) (hs2 : S[a2]? = some (6, 0)) (hBK5 : ∀ (x3' : Int32) (x4' : Int32) (M' : Mm) (H : Heap) (locs : List Loc) (ls : Array Slot), BK5 x3' x4' M' → RP g S M' H → va_S (gA g) s.heap H locs → lv_has ls 6 [(0, .ref (ad g a0)), (1, .int x1), (2, .ref (ad g a2)), (3, .int x3'), (4, .int x4')] → W p l e (rmD 0) s m args below meth c H locs 0 0 (MQ below (QA g S (pV K)) args s 0 0 (gA g)) (F0 m 5 ls [])) (hEK5 : ∀ (x3' : Int32) (M' : Mm) (H : Heap) (locs : List Loc) (ls : Array Slot), EK5 x3' M' → RP g S M' H → va_S (gA g) s.heap H locs → lv_has ls 6 [(0, .ref (ad g a0)), (1, .int x1), (2, .ref (ad g a2)), (3, .int x3')] → W p l e (rmD 0) s m args below meth c H locs 0 0 (MQ below (QA g S (pV K)) args s 0 0 (gA g)) (F0 m 33 ls [])) (hf : f_X9_tellSteps_B5 S a0 x1 a2 x3 x4 M BK5 EK5 K) (H : Heap) (locs : List Loc) (ls : Array Slot) (hR : RP g S M H) (hS : va_S (gA g) s.heap H locs) (hl : lv_has ls 6 [(0, .ref (ad g a0)), (1, .int x1), (2, .ref (ad g a2)), (3, .int x3), (4, .int x4)]) : W p l e (rmD 0) s m args below meth c H locs 0 0 (MQ below (QA g S (pV K)) args s 0 0 (gA g)) (F0 m 5 ls []) := by
  have hx := E.1
  have hb := E.2.1
  unfold f_X9_tellSteps_B5 at hf
  refine lv_iload hx hb dX9_tellSteps_5 (lv_at hl 4 rfl) ?_
  refine lv_if_lt (tgt := 33) hx hb dX9_tellSteps_7 (by decide) (fun c1 => ?_) (fun c1 => ?_)
  · replace hf := hf.1 c1
    exact hEK5 _ _ _ _ _ hf hR hS (lv_sub hl [0, 1, 2, 3] rfl)
  · replace hf := hf.2 c1
    refine lv_iload_n hx hb dX9_tellSteps_10 rfl (lv_at hl 3 rfl) ?_
    refine lv_bipush (v := 20) hx hb dX9_tellSteps_11 (by decide) ?_
    refine lv_icmp_ge (tgt := 33) hx hb dX9_tellSteps_13 (by decide) (fun c2 => ?_) (fun c2 => ?_)
    · replace hf := hf.1 c2
      exact hEK5 _ _ _ _ _ hf hR hS (lv_sub hl [0, 1, 2, 3] rfl)
    · replace hf := hf.2 c2
      obtain ⟨v3, ev3⟩ : ∃ y : Int32, y = x3 + (1 : Int32) := ⟨_, rfl⟩
      replace hf := hf v3 ev3
      refine lv_iinc (v := v3) (lv' := [(3, .int v3), (0, .ref (ad g a0)), (1, .int x1), (2, .ref (ad g a2)), (4, .int x4)]) hx hb dX9_tellSteps_16 hl (k := 3) rfl (by rw [ev3]; rfl) (by decide) rfl (fun ls hl => ?_)
      refine lv_aload_n hx hb dX9_tellSteps_19 rfl (lv_at hl 1 rfl) ?_
      obtain ⟨b4, hb4, hf⟩ := hf
      refine hw_getR E hR cI8 hs0 4 (by decide) lfX9_32 rfl hb4 dX9_tellSteps_20 ?_
      refine lv_iload hx hb dX9_tellSteps_23 (lv_at hl 4 rfl) ?_
      refine lv_iconst (v := 5) hx hb dX9_tellSteps_25 (by decide) ?_
      refine lv_ishr hx hb dX9_tellSteps_26 ?_
      obtain ⟨n5, hn5, in5, hf⟩ := hf
      refine hw_iald E hR hS hn5 in5 dX9_tellSteps_27 ?_
      refine lv_topi (fun v6 ev6 => ?_)
      replace hf := hf v6 ev6
      refine lv_istore (lv' := [(4, .int v6), (3, .int v3), (0, .ref (ad g a0)), (1, .int x1), (2, .ref (ad g a2))]) hx hb dX9_tellSteps_28 hl (by decide) rfl (fun ls hl => ?_)
      refine lv_goto (tgt := 5) hx hb dX9_tellSteps_30 (by decide) ?_
      exact hBK5 _ _ _ _ _ _ hf hR hS (lv_sub hl [2, 3, 4, 1, 0] rfl)
def f_X9_tellSteps_L5 (S : Ss) (a0 : Nat) (x1 : Int32) (a2 : Nat) (EK5 : Int32 → Mm → Prop) (K : Mm → Prop) : Nat → Int32 → Int32 → Mm → Prop
  | 0, _, _, _ => False
  | n + 1, x3, x4, M => f_X9_tellSteps_B5 S a0 x1 a2 x3 x4 M (fun (x3 : Int32) (x4 : Int32) (M : Mm) => f_X9_tellSteps_L5 S a0 x1 a2 EK5 K n x3 x4 M) EK5 K
set_option maxHeartbeats 4000000 in
set_option maxRecDepth 100000 in
theorem w_X9_tellSteps_L5 {p : Program} {l : Launch} {e : Env} {s : State} {m : MethodId} {args : Array Value} {below : List Frame} {meth : Method} {c : Code} {g : Gg} {S : Ss} (a0 : Nat) (x1 : Int32) (a2 : Nat) (EK5 : Int32 → Mm → Prop) (K : Mm → Prop) (E : EN p s m args meth c cX9_tellSteps 6 none RX9 g) (hw : ad g 100000 < s.heap.size) (hs0 : S[a0]? = some (8, 0)) (hs2 : S[a2]? = some (6, 0)) (hEK5 : ∀ (x3' : Int32) (M' : Mm) (H : Heap) (locs : List Loc) (ls : Array Slot), EK5 x3' M' → RP g S M' H → va_S (gA g) s.heap H locs → lv_has ls 6 [(0, .ref (ad g a0)), (1, .int x1), (2, .ref (ad g a2)), (3, .int x3')] → W p l e (rmD 0) s m args below meth c H locs 0 0 (MQ below (QA g S (pV K)) args s 0 0 (gA g)) (F0 m 33 ls [])) : ∀ (n : Nat) (x3 : Int32) (x4 : Int32) (M : Mm), f_X9_tellSteps_L5 S a0 x1 a2 EK5 K n x3 x4 M → ∀ (H : Heap) (locs : List Loc) (ls : Array Slot), RP g S M H → va_S (gA g) s.heap H locs → lv_has ls 6 [(0, .ref (ad g a0)), (1, .int x1), (2, .ref (ad g a2)), (3, .int x3), (4, .int x4)] → W p l e (rmD 0) s m args below meth c H locs 0 0 (MQ below (QA g S (pV K)) args s 0 0 (gA g)) (F0 m 5 ls []) := by
  intro n
  induction n with
  | zero => intro x3 x4 M hf; exact hf.elim
  | succ n ih =>
    intro x3 x4 M hf H locs ls hR hS hl
    exact w_X9_tellSteps_B5 _ _ _ _ _ _ _ _ _ E hw hs0 hs2 (fun _ _ M H locs ls h hR hS hl => ih _ _ M h H locs ls hR hS hl) hEK5 hf H locs ls hR hS hl
def f_X9_tellSteps_B46 (S : Ss) (a0 : Nat) (a2 : Nat) (x4 : Int32) (x5 : Int32) (M : Mm) (BK46 : Int32 → Int32 → Mm → Prop) (EK46 : Mm → Prop) (K : Mm → Prop) : Prop :=
  ((x5 < 0 →
    EK46 M) ∧
   (¬ x5 < 0 →
    ((x4 < 0 →
      EK46 M) ∧
     (¬ x4 < 0 →
      ∃ b13 : Nat, M.2.2 a2 0 = some b13 ∧
      ∃ n14 : Nat, S[b13]? = some (53, n14) ∧ vp_in x5 n14 ∧
      ∀ m15 : Mm, m15 = stJ M b13 x5.toNatClampNeg (x4 &&& (31 : Int32)).toInt64 →
      ∃ b16 : Nat, m15.2.2 a0 4 = some b16 ∧
      ∃ n17 : Nat, shp S b16 = some (50, n17) ∧ vp_in (x4 >>> ((5 : Int32) &&& 31)) n17 ∧
      ∀ v18 : Int32, v18 = (m15.1 b16 (x4 >>> ((5 : Int32) &&& 31)).toNatClampNeg) →
      ∀ v19 : Int32, v19 = x5 + (-1 : Int32) →
      BK46 v18 v19 m15))))
set_option maxHeartbeats 4000000 in
set_option maxRecDepth 100000 in
theorem w_X9_tellSteps_B46 {p : Program} {l : Launch} {e : Env} {s : State} {m : MethodId} {args : Array Value} {below : List Frame} {meth : Method} {c : Code} {g : Gg} {S : Ss} (a0 : Nat) (a2 : Nat) (x4 : Int32) (x5 : Int32) (M : Mm) (BK46 : Int32 → Int32 → Mm → Prop) (EK46 : Mm → Prop) (K : Mm → Prop) (E : EN p s m args meth c cX9_tellSteps 6 none RX9 g) (hw : ad g 100000 < s.heap.size) (hs0 : S[a0]? = some (8, 0)) (hs2 : S[a2]? = some (6, 0)) (hBK46 : ∀ (x4' : Int32) (x5' : Int32) (M' : Mm) (H : Heap) (locs : List Loc) (ls : Array Slot), BK46 x4' x5' M' → RP g S M' H → va_S (gA g) s.heap H locs → lv_has ls 6 [(0, .ref (ad g a0)), (2, .ref (ad g a2)), (4, .int x4'), (5, .int x5')] → W p l e (rmD 0) s m args below meth c H locs 0 0 (MQ below (QA g S (pV K)) args s 0 0 (gA g)) (F0 m 46 ls [])) (hEK46 : ∀ (M' : Mm) (H : Heap) (locs : List Loc) (ls : Array Slot), EK46 M' → RP g S M' H → va_S (gA g) s.heap H locs → lv_has ls 6 [] → W p l e (rmD 0) s m args below meth c H locs 0 0 (MQ below (QA g S (pV K)) args s 0 0 (gA g)) (F0 m 86 ls [])) (hf : f_X9_tellSteps_B46 S a0 a2 x4 x5 M BK46 EK46 K) (H : Heap) (locs : List Loc) (ls : Array Slot) (hR : RP g S M H) (hS : va_S (gA g) s.heap H locs) (hl : lv_has ls 6 [(0, .ref (ad g a0)), (2, .ref (ad g a2)), (4, .int x4), (5, .int x5)]) : W p l e (rmD 0) s m args below meth c H locs 0 0 (MQ below (QA g S (pV K)) args s 0 0 (gA g)) (F0 m 46 ls []) := by
  have hx := E.1
  have hb := E.2.1
  unfold f_X9_tellSteps_B46 at hf
  refine lv_iload hx hb dX9_tellSteps_46 (lv_at hl 3 rfl) ?_
  refine lv_if_lt (tgt := 86) hx hb dX9_tellSteps_48 (by decide) (fun c11 => ?_) (fun c11 => ?_)
  · replace hf := hf.1 c11
    exact hEK46  _ _ _ _ hf hR hS (lv_sub hl [] rfl)
  · replace hf := hf.2 c11
    refine lv_iload hx hb dX9_tellSteps_51 (lv_at hl 2 rfl) ?_
    refine lv_if_lt (tgt := 86) hx hb dX9_tellSteps_53 (by decide) (fun c12 => ?_) (fun c12 => ?_)
    · replace hf := hf.1 c12
      exact hEK46  _ _ _ _ hf hR hS (lv_sub hl [] rfl)
    · replace hf := hf.2 c12
      refine lv_aload_n hx hb dX9_tellSteps_56 rfl (lv_at hl 1 rfl) ?_
      obtain ⟨b13, hb13, hf⟩ := hf
      refine hw_getR E hR cI6 hs2 0 (by decide) lfX9_169 rfl hb13 dX9_tellSteps_57 ?_
      refine lv_iload hx hb dX9_tellSteps_60 (lv_at hl 3 rfl) ?_
      refine lv_iload hx hb dX9_tellSteps_62 (lv_at hl 2 rfl) ?_
      refine lv_bipush (v := 31) hx hb dX9_tellSteps_64 (by decide) ?_
      refine lv_iand hx hb dX9_tellSteps_66 ?_
      refine lv_i2l hx hb dX9_tellSteps_67 rfl ?_
      obtain ⟨n14, hn14, in14, hf⟩ := hf
      refine hw_last E hR hS hw hn14 in14 dX9_tellSteps_68 (fun m15 H locs em15 hR hS => ?_)
      replace hf := hf m15 em15
      refine lv_aload_n hx hb dX9_tellSteps_69 rfl (lv_at hl 0 rfl) ?_
      obtain ⟨b16, hb16, hf⟩ := hf
      refine hw_getR E hR cI8 hs0 4 (by decide) lfX9_32 rfl hb16 dX9_tellSteps_70 ?_
      refine lv_iload hx hb dX9_tellSteps_73 (lv_at hl 2 rfl) ?_
      refine lv_iconst (v := 5) hx hb dX9_tellSteps_75 (by decide) ?_
      refine lv_ishr hx hb dX9_tellSteps_76 ?_
      obtain ⟨n17, hn17, in17, hf⟩ := hf
      refine hw_iald E hR hS hn17 in17 dX9_tellSteps_77 ?_
      refine lv_topi (fun v18 ev18 => ?_)
      replace hf := hf v18 ev18
      refine lv_istore (lv' := [(4, .int v18), (0, .ref (ad g a0)), (2, .ref (ad g a2)), (5, .int x5)]) hx hb dX9_tellSteps_78 hl (by decide) rfl (fun ls hl => ?_)
      obtain ⟨v19, ev19⟩ : ∃ y : Int32, y = x5 + (-1 : Int32) := ⟨_, rfl⟩
      replace hf := hf v19 ev19
      refine lv_iinc (v := v19) (lv' := [(5, .int v19), (4, .int v18), (0, .ref (ad g a0)), (2, .ref (ad g a2))]) hx hb dX9_tellSteps_80 hl (k := 3) rfl (by rw [ev19]; rfl) (by decide) rfl (fun ls hl => ?_)
      refine lv_goto (tgt := 46) hx hb dX9_tellSteps_83 (by decide) ?_
      exact hBK46 _ _ _ _ _ _ hf hR hS (lv_sub hl [2, 3, 1, 0] rfl)
def f_X9_tellSteps_L46 (S : Ss) (a0 : Nat) (a2 : Nat) (EK46 : Mm → Prop) (K : Mm → Prop) : Nat → Int32 → Int32 → Mm → Prop
  | 0, _, _, _ => False
  | n + 1, x4, x5, M => f_X9_tellSteps_B46 S a0 a2 x4 x5 M (fun (x4 : Int32) (x5 : Int32) (M : Mm) => f_X9_tellSteps_L46 S a0 a2 EK46 K n x4 x5 M) EK46 K
set_option maxHeartbeats 4000000 in
set_option maxRecDepth 100000 in
theorem w_X9_tellSteps_L46 {p : Program} {l : Launch} {e : Env} {s : State} {m : MethodId} {args : Array Value} {below : List Frame} {meth : Method} {c : Code} {g : Gg} {S : Ss} (a0 : Nat) (a2 : Nat) (EK46 : Mm → Prop) (K : Mm → Prop) (E : EN p s m args meth c cX9_tellSteps 6 none RX9 g) (hw : ad g 100000 < s.heap.size) (hs0 : S[a0]? = some (8, 0)) (hs2 : S[a2]? = some (6, 0)) (hEK46 : ∀ (M' : Mm) (H : Heap) (locs : List Loc) (ls : Array Slot), EK46 M' → RP g S M' H → va_S (gA g) s.heap H locs → lv_has ls 6 [] → W p l e (rmD 0) s m args below meth c H locs 0 0 (MQ below (QA g S (pV K)) args s 0 0 (gA g)) (F0 m 86 ls [])) : ∀ (n : Nat) (x4 : Int32) (x5 : Int32) (M : Mm), f_X9_tellSteps_L46 S a0 a2 EK46 K n x4 x5 M → ∀ (H : Heap) (locs : List Loc) (ls : Array Slot), RP g S M H → va_S (gA g) s.heap H locs → lv_has ls 6 [(0, .ref (ad g a0)), (2, .ref (ad g a2)), (4, .int x4), (5, .int x5)] → W p l e (rmD 0) s m args below meth c H locs 0 0 (MQ below (QA g S (pV K)) args s 0 0 (gA g)) (F0 m 46 ls []) := by
  intro n
  induction n with
  | zero => intro x4 x5 M hf; exact hf.elim
  | succ n ih =>
    intro x4 x5 M hf H locs ls hR hS hl
    exact w_X9_tellSteps_B46 _ _ _ _ _ _ _ _ E hw hs0 hs2 (fun _ _ M H locs ls h hR hS hl => ih _ _ M h H locs ls hR hS hl) hEK46 hf H locs ls hR hS hl
def f_X9_tellSteps (S : Ss) (a0 : Nat) (x1 : Int32) (a2 : Nat) (M : Mm) (K : Mm → Prop) : Prop :=
  ∃ n22 : Nat, f_X9_tellSteps_L5 S a0 x1 a2 (fun (v7 : Int32) (m8 : Mm) =>
    ∀ m9 : Mm, m9 = stI m8 a2 1 v7 →
    ∀ v10 : Int32, v10 = (v7 - (1 : Int32)) →
    ∃ n21 : Nat, f_X9_tellSteps_L46 S a0 a2 (fun (m20 : Mm) =>
      K m20) K n21 x1 v10 m9) K n22 (0 : Int32) x1 M
set_option maxHeartbeats 4000000 in
set_option maxRecDepth 100000 in
theorem ok_X9_tellSteps {l : Launch} {g : Gg} {S : Ss} {a0 : Nat} {x1 : Int32} {a2 : Nat} {M : Mm} {K : Mm → Prop} (hs0 : S[a0]? = some (8, 0)) (hs2 : S[a2]? = some (6, 0)) (hf : f_X9_tellSteps S a0 x1 a2 M K) : MT l g S yX9_tellSteps cX9_tellSteps 6 none 0 [.ref (ad g a0), .int x1, .ref (ad g a2)] M (pV K) := by
  refine MT.of (by decide +kernel) (Nat.le_of_ble_eq_true rfl) ?_
  intro p e s m below meth c ls E hw hR hS hl
  have hl : lv_has ls 6 [(0, .ref (ad g a0)), (1, .int x1), (2, .ref (ad g a2))] := hl
  generalize ([.ref (ad g a0), .int x1, .ref (ad g a2)] : List Value).toArray = args at E ⊢
  have E : EN p s m args meth c cX9_tellSteps 6 none RX9 g := E
  have hx := E.1
  have hb := E.2.1
  unfold f_X9_tellSteps at hf
  refine lv_iconst (v := 0) hx hb dX9_tellSteps_0 (by decide) ?_
  refine lv_istore_n (lv' := [(3, .int (0 : Int32)), (0, .ref (ad g a0)), (1, .int x1), (2, .ref (ad g a2))]) hx hb dX9_tellSteps_1 rfl hl (by decide) rfl (fun ls hl => ?_)
  refine lv_iload_n hx hb dX9_tellSteps_2 rfl (lv_at hl 2 rfl) ?_
  refine lv_istore (lv' := [(4, .int x1), (3, .int (0 : Int32)), (0, .ref (ad g a0)), (1, .int x1), (2, .ref (ad g a2))]) hx hb dX9_tellSteps_3 hl (by decide) rfl (fun ls hl => ?_)
  obtain ⟨n22, hf⟩ := hf
  refine w_X9_tellSteps_L5 _ _ _ _ _ E hw hs0 hs2 ?_ n22 _ _ _ hf _ _ _ hR hS (lv_sub hl [2, 3, 4, 1, 0] rfl)
  intro v7 m8 H locs ls hf hR hS hl
  refine lv_aload_n hx hb dX9_tellSteps_33 rfl (lv_at hl 2 rfl) ?_
  refine lv_iload_n hx hb dX9_tellSteps_34 rfl (lv_at hl 3 rfl) ?_
  refine hw_putI E hR hS hw cI6 hs2 1 (by decide) lfX9_164 rfl (Or.inl rfl) dX9_tellSteps_35 (fun m9 H locs em9 hR hS => ?_)
  replace hf := hf m9 em9
  refine lv_iload_n hx hb dX9_tellSteps_38 rfl (lv_at hl 1 rfl) ?_
  refine lv_istore (lv' := [(4, .int x1), (0, .ref (ad g a0)), (1, .int x1), (2, .ref (ad g a2)), (3, .int v7)]) hx hb dX9_tellSteps_39 hl (by decide) rfl (fun ls hl => ?_)
  refine lv_iload_n hx hb dX9_tellSteps_41 rfl (lv_at hl 4 rfl) ?_
  refine lv_iconst (v := 1) hx hb dX9_tellSteps_42 (by decide) ?_
  refine lv_isub hx hb dX9_tellSteps_43 ?_
  refine lv_topi (fun v10 ev10 => ?_)
  replace hf := hf v10 ev10
  refine lv_istore (lv' := [(5, .int v10), (4, .int x1), (0, .ref (ad g a0)), (1, .int x1), (2, .ref (ad g a2)), (3, .int v7)]) hx hb dX9_tellSteps_44 hl (by decide) rfl (fun ls hl => ?_)
  obtain ⟨n21, hf⟩ := hf
  refine w_X9_tellSteps_L46 _ _ _ _ E hw hs0 hs2 ?_ n21 _ _ _ hf _ _ _ hR hS (lv_sub hl [2, 4, 1, 0] rfl)
  intro m20 H locs ls hf hR hS hl
  exact hw_vret E hR hS ⟨rfl, hf⟩ dX9_tellSteps_86
