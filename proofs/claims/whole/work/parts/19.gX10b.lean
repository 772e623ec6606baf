def f_X10_odds (S : Ss) (a0 : Nat) (x1 : Int32) (x2 : Int32) (M : Mm) (K : Int32 → Mm → Prop) : Prop :=
  f_X10_refusesRuns S a0 x2 M (fun (r2 : Int32) (m1 : Mm) =>
    ((r2 = 0 →
    ((x1 < 0 →
      K (-1 : Int32) m1) ∧
     (¬ x1 < 0 →
      ((x1 ≤ (1 : Int32) →
        f_X10_weightOfAll S a0 x1 x2 m1 (fun (r7 : Int64) (m6 : Mm) =>
          ((r7 ≤ (1000000000000 : Int64) →
          f_X10_explored S a0 x2 m6 (fun (r10 : Int32) (m9 : Mm) =>
            ((r10 = 0 →
            K (-3 : Int32) m9) ∧
           (¬ r10 = 0 →
            ((r7 = (0 : Int64) →
              K (-2 : Int32) m9) ∧
             (¬ r7 = (0 : Int64) →
              ∃ b13 : Nat, m9.2.2 a0 1 = some b13 ∧
              f_X10_weightsOf S a0 x1 m9 (fun (r15 : Nat) (m14 : Mm) =>
                S[b13]? = some (8, 0) ∧
              f_X9_weightWithout S b13 (1 : Int32) x2 r15 m14 (fun (r18 : Int64) (m16 : Mm) =>
                ∀ v19 : Int64, v19 = (r7 - r18) →
              f_X10_commonDivisor S  r7 v19 m16 (fun (r21 : Int64) (m20 : Mm) =>
                ∃ b22 : Nat, m20.2.2 a0 6 = some b22 ∧
              ¬ r21 = 0 ∧
              ¬ r21 = 0 ∧
              S[b22]? = some (6, 0) ∧
              f_X7_tellTwo S b22 (v19 / r21) (r7 / r21) m20 (fun (m25 : Mm) =>
                K (0 : Int32) m25)))))))))) ∧
         (¬ r7 ≤ (1000000000000 : Int64) →
          K (-1 : Int32) m6)))) ∧
       (¬ x1 ≤ (1 : Int32) →
        K (-1 : Int32) m1))))) ∧
   (¬ r2 = 0 →
    K (-1 : Int32) m1)))
set_option maxHeartbeats 4000000 in
set_option maxRecDepth 100000 in
theorem ok_X10_odds {l : Launch} {g : Gg} {S : Ss} {a0 : Nat} {x1 : Int32} {x2 : Int32} {M : Mm} {K : Int32 → Mm → Prop} (hs0 : S[a0]? = some (9, 0)) (hf : f_X10_odds S a0 x1 x2 M K) : MT l g S yX10_odds cX10_odds 9 (some .int) 7 [.ref (ad g a0), .int x1, .int x2] M (pI K) := by
  refine MT.of (by decide +kernel) (Nat.le_of_ble_eq_true rfl) ?_
  intro p e s m below meth c ls E hw hR hS hl
  have hl : lv_has ls 9 [(0, .ref (ad g a0)), (1, .int x1), (2, .int x2)] := hl
  generalize ([.ref (ad g a0), .int x1, .int x2] : List Value).toArray = args at E ⊢
  have E : EN p s m args meth c cX10_odds 9 (some .int) RX10 g := E
  have hx := E.1
  have hb := E.2.1
  unfold f_X10_odds at hf
  refine lv_aload_n hx hb dX10_odds_0 rfl (lv_at hl 0 rfl) ?_
  refine lv_iload_n hx hb dX10_odds_1 rfl (lv_at hl 2 rfl) ?_
  refine hw_callV (d := 7) E hR hS (As := [.int x2]) (rest := []) cI9 hs0 rfl mcX10_refusesRuns miX10_refusesRuns lmX10_194 (ok_X10_refusesRuns hs0 hf) rfl rfl (by decide) hl.1 (Nat.le_of_ble_eq_true rfl) dX10_odds_2 (fun rr m1 H locs hp hR hS => ?_)
  obtain ⟨r2, rfl, hf⟩ := hp
  refine W.eq (g2 := F0 m 5 ls [.int r2]) rfl ?_
  refine lv_if_ne (tgt := 17) hx hb dX10_odds_5 (by decide) (fun c3 => ?_) (fun c3 => ?_)
  · replace hf := hf.2 c3
    refine lv_iconst (v := -1) hx hb dX10_odds_17 (by decide) ?_
    exact hw_iret E hR hS ⟨_, rfl, hf⟩ dX10_odds_18
  · replace hf := hf.1 c3
    refine lv_iload_n hx hb dX10_odds_8 rfl (lv_at hl 1 rfl) ?_
    refine lv_if_lt (tgt := 17) hx hb dX10_odds_9 (by decide) (fun c4 => ?_) (fun c4 => ?_)
    · replace hf := hf.1 c4
      refine lv_iconst (v := -1) hx hb dX10_odds_17 (by decide) ?_
      exact hw_iret E hR hS ⟨_, rfl, hf⟩ dX10_odds_18
    · replace hf := hf.2 c4
      refine lv_iload_n hx hb dX10_odds_12 rfl (lv_at hl 1 rfl) ?_
      refine lv_iconst (v := 1) hx hb dX10_odds_13 (by decide) ?_
      refine lv_icmp_le (tgt := 19) hx hb dX10_odds_14 (by decide) (fun c5 => ?_) (fun c5 => ?_)
      · replace hf := hf.1 c5
        refine lv_aload_n hx hb dX10_odds_19 rfl (lv_at hl 0 rfl) ?_
        refine lv_iload_n hx hb dX10_odds_20 rfl (lv_at hl 1 rfl) ?_
        refine lv_iload_n hx hb dX10_odds_21 rfl (lv_at hl 2 rfl) ?_
        refine hw_callV (d := 7) E hR hS (As := [.int x1, .int x2]) (rest := []) cI9 hs0 rfl mcX10_weightOfAll miX10_weightOfAll lmX10_255 (ok_X10_weightOfAll hs0 hf) rfl rfl (by decide) hl.1 (Nat.le_of_ble_eq_true rfl) dX10_odds_22 (fun rr m6 H locs hp hR hS => ?_)
        obtain ⟨r7, rfl, hf⟩ := hp
        refine W.eq (g2 := F0 m 25 ls [.long r7]) rfl ?_
        refine lv_lstore_n (lv' := [(3, .long r7), (0, .ref (ad g a0)), (1, .int x1), (2, .int x2)]) hx hb dX10_odds_25 rfl hl (by decide) rfl (fun ls hl => ?_)
        refine lv_lload_n hx hb dX10_odds_26 rfl (lv_at hl 0 rfl) ?_
        refine lv_ldc2 (v := 1000000000000) hx hb E.2.2.2.2.1 (E.2.2.2.2.2.1 _ ljX10_238) dX10_odds_27 ?_
        refine hw_lif_le (tgt := 36) hx hb dX10_odds_30 dX10_odds_31 (by decide) (fun c8 => ?_) (fun c8 => ?_)
        · replace hf := hf.1 c8
          refine lv_aload_n hx hb dX10_odds_36 rfl (lv_at hl 1 rfl) ?_
          refine lv_iload_n hx hb dX10_odds_37 rfl (lv_at hl 3 rfl) ?_
          refine hw_callV (d := 7) E hR hS (As := [.int x2]) (rest := []) cI9 hs0 rfl mcX10_explored miX10_explored lmX10_198 (ok_X10_explored hs0 hf) rfl rfl (by decide) hl.1 (Nat.le_of_ble_eq_true rfl) dX10_odds_38 (fun rr m9 H locs hp hR hS => ?_)
          obtain ⟨r10, rfl, hf⟩ := hp
          refine W.eq (g2 := F0 m 41 ls [.int r10]) rfl ?_
          refine lv_if_ne (tgt := 47) hx hb dX10_odds_41 (by decide) (fun c11 => ?_) (fun c11 => ?_)
          · replace hf := hf.2 c11
            refine lv_lload_n hx hb dX10_odds_47 rfl (lv_at hl 0 rfl) ?_
            refine lv_lconst (v := 0) hx hb dX10_odds_48 (by decide) ?_
            refine hw_lif_ne (tgt := 56) hx hb dX10_odds_49 dX10_odds_50 (by decide) (fun c12 => ?_) (fun c12 => ?_)
            · replace hf := hf.2 c12
              refine lv_lload_n hx hb dX10_odds_56 rfl (lv_at hl 0 rfl) ?_
              refine lv_aload_n hx hb dX10_odds_57 rfl (lv_at hl 1 rfl) ?_
              obtain ⟨b13, hb13, hf⟩ := hf
              refine hw_getR E hR cI9 hs0 1 (by decide) lfX10_19 rfl hb13 dX10_odds_58 ?_
              refine lv_iconst (v := 1) hx hb dX10_odds_61 (by decide) ?_
              refine lv_iload_n hx hb dX10_odds_62 rfl (lv_at hl 3 rfl) ?_
              refine lv_aload_n hx hb dX10_odds_63 rfl (lv_at hl 1 rfl) ?_
              refine lv_iload_n hx hb dX10_odds_64 rfl (lv_at hl 2 rfl) ?_
              refine hw_callV (d := 7) E hR hS (As := [.int x1]) (rest := [.int x2, .int (1 : Int32), .ref (ad g b13), .long r7]) cI9 hs0 rfl mcX10_weightsOf miX10_weightsOf lmX10_251 (ok_X10_weightsOf hs0 hf) rfl rfl (by decide) hl.1 (Nat.le_of_ble_eq_true rfl) dX10_odds_65 (fun rr m14 H locs hp hR hS => ?_)
              obtain ⟨r15, rfl, hf⟩ := hp
              refine W.eq (g2 := F0 m 68 ls [.ref (ad g r15), .int x2, .int (1 : Int32), .ref (ad g b13), .long r7]) rfl ?_
              obtain ⟨h17, hf⟩ := hf
              refine hw_callV (d := 7) E hR hS (As := [.int (1 : Int32), .int x2, .ref (ad g r15)]) (rest := [.long r7]) cI8 h17 rfl mcX9_weightWithout miX9_weightWithout lmX10_243 (ok_X9_weightWithout h17 hf) rfl rfl (by decide) hl.1 (Nat.le_of_ble_eq_true rfl) dX10_odds_68 (fun rr m16 H locs hp hR hS => ?_)
              obtain ⟨r18, rfl, hf⟩ := hp
              refine W.eq (g2 := F0 m 71 ls [.long r18, .long r7]) rfl ?_
              refine lv_lsub hx hb dX10_odds_71 ?_
              refine lv_topl (fun v19 ev19 => ?_)
              replace hf := hf v19 ev19
              refine lv_lstore (lv' := [(5, .long v19), (3, .long r7), (0, .ref (ad g a0)), (1, .int x1), (2, .int x2)]) hx hb dX10_odds_72 hl (by decide) rfl (fun ls hl => ?_)
              refine lv_lload_n hx hb dX10_odds_74 rfl (lv_at hl 1 rfl) ?_
              refine lv_lload hx hb dX10_odds_75 (lv_at hl 0 rfl) ?_
              refine hw_callS (d := 7) E hR hS (As := [.long r7, .long v19]) (rest := []) mcX10_commonDivisor msX10_commonDivisor lmX10_258 (ok_X10_commonDivisor  hf) rfl rfl (by decide) hl.1 (Nat.le_of_ble_eq_true rfl) dX10_odds_77 (fun rr m20 H locs hp hR hS => ?_)
              obtain ⟨r21, rfl, hf⟩ := hp
              refine W.eq (g2 := F0 m 80 ls [.long r21]) rfl ?_
              refine lv_lstore (lv' := [(7, .long r21), (5, .long v19), (3, .long r7), (0, .ref (ad g a0)), (1, .int x1), (2, .int x2)]) hx hb dX10_odds_80 hl (by decide) rfl (fun ls hl => ?_)
              refine lv_aload_n hx hb dX10_odds_82 rfl (lv_at hl 3 rfl) ?_
              obtain ⟨b22, hb22, hf⟩ := hf
              refine hw_getR E hR cI9 hs0 6 (by decide) lfX10_45 rfl hb22 dX10_odds_83 ?_
              refine lv_lload hx hb dX10_odds_86 (lv_at hl 1 rfl) ?_
              refine lv_lload hx hb dX10_odds_88 (lv_at hl 0 rfl) ?_
              obtain ⟨h23, hf⟩ := hf
              refine lv_ldiv hx hb dX10_odds_90 h23 ?_
              refine lv_lload_n hx hb dX10_odds_91 rfl (lv_at hl 2 rfl) ?_
              refine lv_lload hx hb dX10_odds_92 (lv_at hl 0 rfl) ?_
              obtain ⟨h24, hf⟩ := hf
              refine lv_ldiv hx hb dX10_odds_94 h24 ?_
              obtain ⟨h26, hf⟩ := hf
              refine hw_callV (d := 7) E hR hS (As := [.long (v19 / r21), .long (r7 / r21)]) (rest := []) cI6 h26 rfl mcX7_tellTwo miX7_tellTwo lmX10_247 (ok_X7_tellTwo h26 hf) rfl rfl (by decide) hl.1 (Nat.le_of_ble_eq_true rfl) dX10_odds_95 (fun rr m25 H locs hp hR hS => ?_)
              obtain ⟨rfl, hf⟩ := hp
              refine W.eq (g2 := F0 m 98 ls []) rfl ?_
              refine lv_iconst (v := 0) hx hb dX10_odds_98 (by decide) ?_
              exact hw_iret E hR hS ⟨_, rfl, hf⟩ dX10_odds_99
            · replace hf := hf.1 c12
              refine lv_bipush (v := -2) hx hb dX10_odds_53 (by decide) ?_
              exact hw_iret E hR hS ⟨_, rfl, hf⟩ dX10_odds_55
          · replace hf := hf.1 c11
            refine lv_bipush (v := -3) hx hb dX10_odds_44 (by decide) ?_
            exact hw_iret E hR hS ⟨_, rfl, hf⟩ dX10_odds_46
        · replace hf := hf.2 c8
          refine lv_iconst (v := -1) hx hb dX10_odds_34 (by decide) ?_
          exact hw_iret E hR hS ⟨_, rfl, hf⟩ dX10_odds_35
      · replace hf := hf.2 c5
        refine lv_iconst (v := -1) hx hb dX10_odds_17 (by decide) ?_
        exact hw_iret E hR hS ⟨_, rfl, hf⟩ dX10_odds_18
def f_X10_comparedFractions_B6 (S : Ss) (x0 : Int64) (x2 : Int64) (x4 : Int64) (x6 : Int64) (x8 : Int32) (x9 : Int32) (M : Mm) (BK6 : Int64 → Int64 → Int64 → Int64 → Int32 → Int32 → Mm → Prop) (EK6 : Int64 → Int64 → Int32 → Mm → Prop) (K : Int32 → Mm → Prop) : Prop :=
  (((200 : Int32) ≤ x9 →
    EK6 x2 x6 x8 M) ∧
   (¬ (200 : Int32) ≤ x9 →
    ((x2 = (0 : Int64) →
      EK6 x2 x6 x8 M) ∧
     (¬ x2 = (0 : Int64) →
      ((x6 = (0 : Int64) →
        EK6 x2 x6 x8 M) ∧
       (¬ x6 = (0 : Int64) →
        ¬ x2 = 0 ∧
        ∀ v5 : Int64, v5 = (x0 / x2) →
        ¬ x6 = 0 ∧
        ∀ v7 : Int64, v7 = (x4 / x6) →
        ((v5 = v7 →
          ¬ x2 = 0 ∧
          ∀ v10 : Int64, v10 = (x0 - x0 / x2 * x2) →
          ¬ x6 = 0 ∧
          ∀ v12 : Int64, v12 = (x4 - x4 / x6 * x6) →
          ∀ v13 : Int32, v13 = (-x8) →
          ∀ v14 : Int32, v14 = x9 + (1 : Int32) →
          BK6 x2 v10 x6 v12 v13 v14 M) ∧
         (¬ v5 = v7 →
          ((v7 ≤ v5 →
            K x8 M) ∧
           (¬ v7 ≤ v5 →
            K (-x8) M))))))))))
set_option maxHeartbeats 4000000 in
set_option maxRecDepth 100000 in
theorem w_X10_comparedFractions_B6 {p : Program} {l : Launch} {e : Env} {s : State} {m : MethodId} {args : Array Value} {below : List Frame} {meth : Method} {c : Code} {g : Gg} {S : Ss} (x0 : Int64) (x2 : Int64) (x4 : Int64) (x6 : Int64) (x8 : Int32) (x9 : Int32) (M : Mm) (BK6 : Int64 → Int64 → Int64 → Int64 → Int32 → Int32 → Mm → Prop) (EK6 : Int64 → Int64 → Int32 → Mm → Prop) (K : Int32 → Mm → Prop) (E : EN p s m args meth c cX10_comparedFractions 18 (some .int) RX10 g) (hw : ad g 100000 < s.heap.size) (hBK6 : ∀ (x0' : Int64) (x2' : Int64) (x4' : Int64) (x6' : Int64) (x8' : Int32) (x9' : Int32) (M' : Mm) (H : Heap) (locs : List Loc) (ls : Array Slot), BK6 x0' x2' x4' x6' x8' x9' M' → RP g S M' H → va_S (gA g) s.heap H locs → lv_has ls 18 [(0, .long x0'), (2, .long x2'), (4, .long x4'), (6, .long x6'), (8, .int x8'), (9, .int x9')] → W p l e (rmD 0) s m args below meth c H locs 0 0 (MQ below (QA g S (pI K)) args s 0 0 (gA g)) (F0 m 6 ls [])) (hEK6 : ∀ (x2' : Int64) (x6' : Int64) (x8' : Int32) (M' : Mm) (H : Heap) (locs : List Loc) (ls : Array Slot), EK6 x2' x6' x8' M' → RP g S M' H → va_S (gA g) s.heap H locs → lv_has ls 18 [(2, .long x2'), (6, .long x6'), (8, .int x8')] → W p l e (rmD 0) s m args below meth c H locs 0 0 (MQ below (QA g S (pI K)) args s 0 0 (gA g)) (F0 m 100 ls [])) (hf : f_X10_comparedFractions_B6 S x0 x2 x4 x6 x8 x9 M BK6 EK6 K) (H : Heap) (locs : List Loc) (ls : Array Slot) (hR : RP g S M H) (hS : va_S (gA g) s.heap H locs) (hl : lv_has ls 18 [(0, .long x0), (2, .long x2), (4, .long x4), (6, .long x6), (8, .int x8), (9, .int x9)]) : W p l e (rmD 0) s m args below meth c H locs 0 0 (MQ below (QA g S (pI K)) args s 0 0 (gA g)) (F0 m 6 ls []) := by
  have hx := E.1
  have hb := E.2.1
  unfold f_X10_comparedFractions_B6 at hf
  refine lv_iload hx hb dX10_comparedFractions_6 (lv_at hl 5 rfl) ?_
  refine lv_sipush (v := 200) hx hb dX10_comparedFractions_8 (by decide) ?_
  refine lv_icmp_ge (tgt := 100) hx hb dX10_comparedFractions_11 (by decide) (fun c1 => ?_) (fun c1 => ?_)
  · replace hf := hf.1 c1
    exact hEK6 _ _ _ _ _ _ _ hf hR hS (lv_sub hl [1, 3, 4] rfl)
  · replace hf := hf.2 c1
    refine lv_lload_n hx hb dX10_comparedFractions_14 rfl (lv_at hl 1 rfl) ?_
    refine lv_lconst (v := 0) hx hb dX10_comparedFractions_15 (by decide) ?_
    refine hw_lif_eq (tgt := 100) hx hb dX10_comparedFractions_16 dX10_comparedFractions_17 (by decide) (fun c2 => ?_) (fun c2 => ?_)
    · replace hf := hf.1 c2
      exact hEK6 _ _ _ _ _ _ _ hf hR hS (lv_sub hl [1, 3, 4] rfl)
    · replace hf := hf.2 c2
      refine lv_lload hx hb dX10_comparedFractions_20 (lv_at hl 3 rfl) ?_
      refine lv_lconst (v := 0) hx hb dX10_comparedFractions_22 (by decide) ?_
      refine hw_lif_eq (tgt := 100) hx hb dX10_comparedFractions_23 dX10_comparedFractions_24 (by decide) (fun c3 => ?_) (fun c3 => ?_)
      · replace hf := hf.1 c3
        exact hEK6 _ _ _ _ _ _ _ hf hR hS (lv_sub hl [1, 3, 4] rfl)
      · replace hf := hf.2 c3
        refine lv_lload_n hx hb dX10_comparedFractions_27 rfl (lv_at hl 0 rfl) ?_
        refine lv_lload_n hx hb dX10_comparedFractions_28 rfl (lv_at hl 1 rfl) ?_
        obtain ⟨h4, hf⟩ := hf
        refine lv_ldiv hx hb dX10_comparedFractions_29 h4 ?_
        refine lv_topl (fun v5 ev5 => ?_)
        replace hf := hf v5 ev5
        refine lv_lstore (lv' := [(10, .long v5), (0, .long x0), (2, .long x2), (4, .long x4), (6, .long x6), (8, .int x8), (9, .int x9)]) hx hb dX10_comparedFractions_30 hl (by decide) rfl (fun ls hl => ?_)
        refine lv_lload hx hb dX10_comparedFractions_32 (lv_at hl 3 rfl) ?_
        refine lv_lload hx hb dX10_comparedFractions_34 (lv_at hl 4 rfl) ?_
        obtain ⟨h6, hf⟩ := hf
        refine lv_ldiv hx hb dX10_comparedFractions_36 h6 ?_
        refine lv_topl (fun v7 ev7 => ?_)
        replace hf := hf v7 ev7
        refine lv_lstore (lv' := [(12, .long v7), (10, .long v5), (0, .long x0), (2, .long x2), (4, .long x4), (6, .long x6), (8, .int x8), (9, .int x9)]) hx hb dX10_comparedFractions_37 hl (by decide) rfl (fun ls hl => ?_)
        refine lv_lload hx hb dX10_comparedFractions_39 (lv_at hl 1 rfl) ?_
        refine lv_lload hx hb dX10_comparedFractions_41 (lv_at hl 0 rfl) ?_
        refine hw_lif_eq (tgt := 64) hx hb dX10_comparedFractions_43 dX10_comparedFractions_44 (by decide) (fun c8 => ?_) (fun c8 => ?_)
        · replace hf := hf.1 c8
          refine lv_lload_n hx hb dX10_comparedFractions_64 rfl (lv_at hl 2 rfl) ?_
          refine lv_lload_n hx hb dX10_comparedFractions_65 rfl (lv_at hl 3 rfl) ?_
          obtain ⟨h9, hf⟩ := hf
          refine lv_lrem hx hb dX10_comparedFractions_66 h9 ?_
          refine lv_topl (fun v10 ev10 => ?_)
          replace hf := hf v10 ev10
          refine lv_lstore (lv' := [(14, .long v10), (12, .long v7), (10, .long v5), (0, .long x0), (2, .long x2), (4, .long x4), (6, .long x6), (8, .int x8), (9, .int x9)]) hx hb dX10_comparedFractions_67 hl (by decide) rfl (fun ls hl => ?_)
          refine lv_lload hx hb dX10_comparedFractions_69 (lv_at hl 5 rfl) ?_
          refine lv_lload hx hb dX10_comparedFractions_71 (lv_at hl 6 rfl) ?_
          obtain ⟨h11, hf⟩ := hf
          refine lv_lrem hx hb dX10_comparedFractions_73 h11 ?_
          refine lv_topl (fun v12 ev12 => ?_)
          replace hf := hf v12 ev12
          refine lv_lstore (lv' := [(16, .long v12), (14, .long v10), (12, .long v7), (10, .long v5), (0, .long x0), (2, .long x2), (4, .long x4), (6, .long x6), (8, .int x8), (9, .int x9)]) hx hb dX10_comparedFractions_74 hl (by decide) rfl (fun ls hl => ?_)
          refine lv_lload_n hx hb dX10_comparedFractions_76 rfl (lv_at hl 5 rfl) ?_
          refine lv_lstore_n (lv' := [(0, .long x2), (16, .long v12), (14, .long v10), (12, .long v7), (10, .long v5), (2, .long x2), (4, .long x4), (6, .long x6), (8, .int x8), (9, .int x9)]) hx hb dX10_comparedFractions_77 rfl hl (by decide) rfl (fun ls hl => ?_)
          refine lv_lload hx hb dX10_comparedFractions_78 (lv_at hl 2 rfl) ?_
          refine lv_lstore_n (lv' := [(2, .long v10), (0, .long x2), (16, .long v12), (14, .long v10), (12, .long v7), (10, .long v5), (4, .long x4), (6, .long x6), (8, .int x8), (9, .int x9)]) hx hb dX10_comparedFractions_80 rfl hl (by decide) rfl (fun ls hl => ?_)
          refine lv_lload hx hb dX10_comparedFractions_81 (lv_at hl 7 rfl) ?_
          refine lv_lstore (lv' := [(4, .long x6), (2, .long v10), (0, .long x2), (16, .long v12), (14, .long v10), (12, .long v7), (10, .long v5), (6, .long x6), (8, .int x8), (9, .int x9)]) hx hb dX10_comparedFractions_83 hl (by decide) rfl (fun ls hl => ?_)
          refine lv_lload hx hb dX10_comparedFractions_85 (lv_at hl 3 rfl) ?_
          refine lv_lstore (lv' := [(6, .long v12), (4, .long x6), (2, .long v10), (0, .long x2), (16, .long v12), (14, .long v10), (12, .long v7), (10, .long v5), (8, .int x8), (9, .int x9)]) hx hb dX10_comparedFractions_87 hl (by decide) rfl (fun ls hl => ?_)
          refine lv_iload hx hb dX10_comparedFractions_89 (lv_at hl 8 rfl) ?_
          refine lv_ineg hx hb dX10_comparedFractions_91 ?_
          refine lv_topi (fun v13 ev13 => ?_)
          replace hf := hf v13 ev13
          refine lv_istore (lv' := [(8, .int v13), (6, .long v12), (4, .long x6), (2, .long v10), (0, .long x2), (16, .long v12), (14, .long v10), (12, .long v7), (10, .long v5), (9, .int x9)]) hx hb dX10_comparedFractions_92 hl (by decide) rfl (fun ls hl => ?_)
          obtain ⟨v14, ev14⟩ : ∃ y : Int32, y = x9 + (1 : Int32) := ⟨_, rfl⟩
          replace hf := hf v14 ev14
          refine lv_iinc (v := v14) (lv' := [(9, .int v14), (8, .int v13), (6, .long v12), (4, .long x6), (2, .long v10), (0, .long x2), (16, .long v12), (14, .long v10), (12, .long v7), (10, .long v5)]) hx hb dX10_comparedFractions_94 hl (k := 9) rfl (by rw [ev14]; rfl) (by decide) rfl (fun ls hl => ?_)
          refine lv_goto (tgt := 6) hx hb dX10_comparedFractions_97 (by decide) ?_
          exact hBK6 _ _ _ _ _ _ _ _ _ _ hf hR hS (lv_sub hl [5, 4, 3, 2, 1, 0] rfl)
        · replace hf := hf.2 c8
          refine lv_lload hx hb dX10_comparedFractions_47 (lv_at hl 1 rfl) ?_
          refine lv_lload hx hb dX10_comparedFractions_49 (lv_at hl 0 rfl) ?_
          refine hw_lif_ge (tgt := 61) hx hb dX10_comparedFractions_51 dX10_comparedFractions_52 (by decide) (fun c15 => ?_) (fun c15 => ?_)
          · replace hf := hf.1 c15
            refine lv_iload hx hb dX10_comparedFractions_61 (lv_at hl 6 rfl) ?_
            exact hw_iret E hR hS ⟨_, rfl, hf⟩ dX10_comparedFractions_63
          · replace hf := hf.2 c15
            refine lv_iload hx hb dX10_comparedFractions_55 (lv_at hl 6 rfl) ?_
            refine lv_ineg hx hb dX10_comparedFractions_57 ?_
            refine lv_goto (tgt := 63) hx hb dX10_comparedFractions_58 (by decide) ?_
            exact hw_iret E hR hS ⟨_, rfl, hf⟩ dX10_comparedFractions_63
def f_X10_comparedFractions_L6 (S : Ss) (EK6 : Int64 → Int64 → Int32 → Mm → Prop) (K : Int32 → Mm → Prop) : Nat → Int64 → Int64 → Int64 → Int64 → Int32 → Int32 → Mm → Prop
  | 0, _, _, _, _, _, _, _ => False
  | n + 1, x0, x2, x4, x6, x8, x9, M => f_X10_comparedFractions_B6 S x0 x2 x4 x6 x8 x9 M (fun (x0 : Int64) (x2 : Int64) (x4 : Int64) (x6 : Int64) (x8 : Int32) (x9 : Int32) (M : Mm) => f_X10_comparedFractions_L6 S EK6 K n x0 x2 x4 x6 x8 x9 M) EK6 K
set_option maxHeartbeats 4000000 in
set_option maxRecDepth 100000 in
theorem w_X10_comparedFractions_L6 {p : Program} {l : Launch} {e : Env} {s : State} {m : MethodId} {args : Array Value} {below : List Frame} {meth : Method} {c : Code} {g : Gg} {S : Ss} (EK6 : Int64 → Int64 → Int32 → Mm → Prop) (K : Int32 → Mm → Prop) (E : EN p s m args meth c cX10_comparedFractions 18 (some .int) RX10 g) (hw : ad g 100000 < s.heap.size) (hEK6 : ∀ (x2' : Int64) (x6' : Int64) (x8' : Int32) (M' : Mm) (H : Heap) (locs : List Loc) (ls : Array Slot), EK6 x2' x6' x8' M' → RP g S M' H → va_S (gA g) s.heap H locs → lv_has ls 18 [(2, .long x2'), (6, .long x6'), (8, .int x8')] → W p l e (rmD 0) s m args below meth c H locs 0 0 (MQ below (QA g S (pI K)) args s 0 0 (gA g)) (F0 m 100 ls [])) : ∀ (n : Nat) (x0 : Int64) (x2 : Int64) (x4 : Int64) (x6 : Int64) (x8 : Int32) (x9 : Int32) (M : Mm), f_X10_comparedFractions_L6 S EK6 K n x0 x2 x4 x6 x8 x9 M → ∀ (H : Heap) (locs : List Loc) (ls : Array Slot), RP g S M H → va_S (gA g) s.heap H locs → lv_has ls 18 [(0, .long x0), (2, .long x2), (4, .long x4), (6, .long x6), (8, .int x8), (9, .int x9)] → W p l e (rmD 0) s m args below meth c H locs 0 0 (MQ below (QA g S (pI K)) args s 0 0 (gA g)) (F0 m 6 ls []) := by
  intro n
  induction n with
  | zero => intro x0 x2 x4 x6 x8 x9 M hf; exact hf.elim
  | succ n ih =>
    intro x0 x2 x4 x6 x8 x9 M hf H locs ls hR hS hl
    exact w_X10_comparedFractions_B6 _ _ _ _ _ _ _ _ _ _ E hw (fun _ _ _ _ _ _ M H locs ls h hR hS hl => ih _ _ _ _ _ _ M h H locs ls hR hS hl) hEK6 hf H locs ls hR hS hl
def f_X10_comparedFractions_J115 (S : Ss) (x2 : Int64) (x8 : Int32) (M : Mm) (K : Int32 → Mm → Prop) : Prop :=
  ((x2 = (0 : Int64) →
    K x8 M) ∧
   (¬ x2 = (0 : Int64) →
    K (-x8) M))
set_option maxHeartbeats 4000000 in
set_option maxRecDepth 100000 in
theorem w_X10_comparedFractions_J115 {p : Program} {l : Launch} {e : Env} {s : State} {m : MethodId} {args : Array Value} {below : List Frame} {meth : Method} {c : Code} {g : Gg} {S : Ss} (x2 : Int64) (x8 : Int32) (M : Mm) (K : Int32 → Mm → Prop) (E : EN p s m args meth c cX10_comparedFractions 18 (some .int) RX10 g) (hw : ad g 100000 < s.heap.size) (hf : f_X10_comparedFractions_J115 S x2 x8 M K) (H : Heap) (locs : List Loc) (ls : Array Slot) (hR : RP g S M H) (hS : va_S (gA g) s.heap H locs) (hl : lv_has ls 18 [(2, .long x2), (8, .int x8)]) : W p l e (rmD 0) s m args below meth c H locs 0 0 (MQ below (QA g S (pI K)) args s 0 0 (gA g)) (F0 m 115 ls []) := by
  have hx := E.1
  have hb := E.2.1
  unfold f_X10_comparedFractions_J115 at hf
  refine lv_lload_n hx hb dX10_comparedFractions_115 rfl (lv_at hl 0 rfl) ?_
  refine lv_lconst (v := 0) hx hb dX10_comparedFractions_116 (by decide) ?_
  refine hw_lif_ne (tgt := 126) hx hb dX10_comparedFractions_117 dX10_comparedFractions_118 (by decide) (fun c21 => ?_) (fun c21 => ?_)
  · replace hf := hf.2 c21
    refine lv_iload hx hb dX10_comparedFractions_126 (lv_at hl 1 rfl) ?_
    refine lv_ineg hx hb dX10_comparedFractions_128 ?_
    exact hw_iret E hR hS ⟨_, rfl, hf⟩ dX10_comparedFractions_129
  · replace hf := hf.1 c21
    refine lv_iload hx hb dX10_comparedFractions_121 (lv_at hl 1 rfl) ?_
    refine lv_goto (tgt := 129) hx hb dX10_comparedFractions_123 (by decide) ?_
    exact hw_iret E hR hS ⟨_, rfl, hf⟩ dX10_comparedFractions_129
def f_X10_comparedFractions (S : Ss) (x0 : Int64) (x2 : Int64) (x4 : Int64) (x6 : Int64) (M : Mm) (K : Int32 → Mm → Prop) : Prop :=
  ∃ n23 : Nat, f_X10_comparedFractions_L6 S (fun (v16 : Int64) (v17 : Int64) (v18 : Int32) (m19 : Mm) =>
    ((v16 = (0 : Int64) →
      ((v17 = (0 : Int64) →
        K (0 : Int32) m19) ∧
       (¬ v17 = (0 : Int64) →
        f_X10_comparedFractions_J115 S v16 v18 m19 K))) ∧
     (¬ v16 = (0 : Int64) →
      f_X10_comparedFractions_J115 S v16 v18 m19 K))) K n23 x0 x2 x4 x6 (1 : Int32) (0 : Int32) M
set_option maxHeartbeats 4000000 in
set_option maxRecDepth 100000 in
theorem ok_X10_comparedFractions {l : Launch} {g : Gg} {S : Ss} {x0 : Int64} {x2 : Int64} {x4 : Int64} {x6 : Int64} {M : Mm} {K : Int32 → Mm → Prop} (hf : f_X10_comparedFractions S x0 x2 x4 x6 M K) : MT l g S yX10_comparedFractions cX10_comparedFractions 18 (some .int) 0 [.long x0, .long x2, .long x4, .long x6] M (pI K) := by
  refine MT.of (by decide +kernel) (Nat.le_of_ble_eq_true rfl) ?_
  intro p e s m below meth c ls E hw hR hS hl
  have hl : lv_has ls 18 [(0, .long x0), (2, .long x2), (4, .long x4), (6, .long x6)] := hl
  generalize ([.long x0, .long x2, .long x4, .long x6] : List Value).toArray = args at E ⊢
  have E : EN p s m args meth c cX10_comparedFractions 18 (some .int) RX10 g := E
  have hx := E.1
  have hb := E.2.1
  unfold f_X10_comparedFractions at hf
  refine lv_iconst (v := 1) hx hb dX10_comparedFractions_0 (by decide) ?_
  refine lv_istore (lv' := [(8, .int (1 : Int32)), (0, .long x0), (2, .long x2), (4, .long x4), (6, .long x6)]) hx hb dX10_comparedFractions_1 hl (by decide) rfl (fun ls hl => ?_)
  refine lv_iconst (v := 0) hx hb dX10_comparedFractions_3 (by decide) ?_
  refine lv_istore (lv' := [(9, .int (0 : Int32)), (8, .int (1 : Int32)), (0, .long x0), (2, .long x2), (4, .long x4), (6, .long x6)]) hx hb dX10_comparedFractions_4 hl (by decide) rfl (fun ls hl => ?_)
  obtain ⟨n23, hf⟩ := hf
  refine w_X10_comparedFractions_L6 _ _ E hw ?_ n23 _ _ _ _ _ _ _ hf _ _ _ hR hS (lv_sub hl [2, 3, 4, 5, 1, 0] rfl)
  intro v16 v17 v18 m19 H locs ls hf hR hS hl
  refine lv_lload_n hx hb dX10_comparedFractions_100 rfl (lv_at hl 0 rfl) ?_
  refine lv_lconst (v := 0) hx hb dX10_comparedFractions_101 (by decide) ?_
  refine hw_lif_ne (tgt := 115) hx hb dX10_comparedFractions_102 dX10_comparedFractions_103 (by decide) (fun c20 => ?_) (fun c20 => ?_)
  · replace hf := hf.2 c20
    exact w_X10_comparedFractions_J115 _ _ _ _ E hw hf _ _ _ hR hS (lv_sub hl [0, 2] rfl)
  · replace hf := hf.1 c20
    refine lv_lload hx hb dX10_comparedFractions_106 (lv_at hl 1 rfl) ?_
    refine lv_lconst (v := 0) hx hb dX10_comparedFractions_108 (by decide) ?_
    refine hw_lif_ne (tgt := 115) hx hb dX10_comparedFractions_109 dX10_comparedFractions_110 (by decide) (fun c22 => ?_) (fun c22 => ?_)
    · replace hf := hf.2 c22
      exact w_X10_comparedFractions_J115 _ _ _ _ E hw hf _ _ _ hR hS (lv_sub hl [0, 2] rfl)
    · replace hf := hf.1 c22
      refine lv_iconst (v := 0) hx hb dX10_comparedFractions_113 (by decide) ?_
      exact hw_iret E hR hS ⟨_, rfl, hf⟩ dX10_comparedFractions_114
def f_X10_quick (S : Ss) (a0 : Nat) (x1 : Int32) (M : Mm) (K : Int32 → Mm → Prop) : Prop :=
  f_X10_refusesRuns S a0 x1 M (fun (r2 : Int32) (m1 : Mm) =>
    ((r2 = 0 →
    f_X10_weightOfAll S a0 (0 : Int32) x1 m1 (fun (r5 : Int64) (m4 : Mm) =>
      f_X10_weightOfAll S a0 (1 : Int32) x1 m4 (fun (r7 : Int64) (m6 : Mm) =>
      (((1000000000000 : Int64) < r5 →
      K (-1 : Int32) m6) ∧
     (¬ (1000000000000 : Int64) < r5 →
      ((r7 ≤ (1000000000000 : Int64) →
        f_X10_explored S a0 x1 m6 (fun (r11 : Int32) (m10 : Mm) =>
          ((r11 = 0 →
          K (-3 : Int32) m10) ∧
         (¬ r11 = 0 →
          ((r5 = (0 : Int64) →
            K (-2 : Int32) m10) ∧
           (¬ r5 = (0 : Int64) →
            ((r7 = (0 : Int64) →
              K (-2 : Int32) m10) ∧
             (¬ r7 = (0 : Int64) →
              ∃ b15 : Nat, m10.2.2 a0 1 = some b15 ∧
              ∃ b16 : Nat, m10.2.2 a0 10 = some b16 ∧
              S[b15]? = some (8, 0) ∧
              f_X9_weightWithout S b15 (1 : Int32) x1 b16 m10 (fun (r19 : Int64) (m17 : Mm) =>
                ∃ b20 : Nat, m17.2.2 a0 1 = some b20 ∧
              ∃ b21 : Nat, m17.2.2 a0 11 = some b21 ∧
              S[b20]? = some (8, 0) ∧
              f_X9_weightWithout S b20 (1 : Int32) x1 b21 m17 (fun (r24 : Int64) (m22 : Mm) =>
                f_X10_comparedFractions S  r19 r5 r24 r7 m22 (fun (r26 : Int32) (m25 : Mm) =>
                ((r26 = 0 →
                K (2 : Int32) m25) ∧
               (¬ r26 = 0 →
                ((0 ≤ r26 →
                  K (1 : Int32) m25) ∧
                 (¬ 0 ≤ r26 →
                  K (0 : Int32) m25))))))))))))))) ∧
       (¬ r7 ≤ (1000000000000 : Int64) →
        K (-1 : Int32) m6))))))) ∧
   (¬ r2 = 0 →
    K (-1 : Int32) m1)))
set_option maxHeartbeats 4000000 in
set_option maxRecDepth 100000 in
theorem ok_X10_quick {l : Launch} {g : Gg} {S : Ss} {a0 : Nat} {x1 : Int32} {M : Mm} {K : Int32 → Mm → Prop} (hs0 : S[a0]? = some (9, 0)) (hf : f_X10_quick S a0 x1 M K) : MT l g S yX10_quick cX10_quick 11 (some .int) 7 [.ref (ad g a0), .int x1] M (pI K) := by
  refine MT.of (by decide +kernel) (Nat.le_of_ble_eq_true rfl) ?_
  intro p e s m below meth c ls E hw hR hS hl
  have hl : lv_has ls 11 [(0, .ref (ad g a0)), (1, .int x1)] := hl
  generalize ([.ref (ad g a0), .int x1] : List Value).toArray = args at E ⊢
  have E : EN p s m args meth c cX10_quick 11 (some .int) RX10 g := E
  have hx := E.1
  have hb := E.2.1
  unfold f_X10_quick at hf
  refine lv_aload_n hx hb dX10_quick_0 rfl (lv_at hl 0 rfl) ?_
  refine lv_iload_n hx hb dX10_quick_1 rfl (lv_at hl 1 rfl) ?_
  refine hw_callV (d := 7) E hR hS (As := [.int x1]) (rest := []) cI9 hs0 rfl mcX10_refusesRuns miX10_refusesRuns lmX10_194 (ok_X10_refusesRuns hs0 hf) rfl rfl (by decide) hl.1 (Nat.le_of_ble_eq_true rfl) dX10_quick_2 (fun rr m1 H locs hp hR hS => ?_)
  obtain ⟨r2, rfl, hf⟩ := hp
  refine W.eq (g2 := F0 m 5 ls [.int r2]) rfl ?_
  refine lv_if_eq (tgt := 10) hx hb dX10_quick_5 (by decide) (fun c3 => ?_) (fun c3 => ?_)
  · replace hf := hf.1 c3
    refine lv_aload_n hx hb dX10_quick_10 rfl (lv_at hl 0 rfl) ?_
    refine lv_iconst (v := 0) hx hb dX10_quick_11 (by decide) ?_
    refine lv_iload_n hx hb dX10_quick_12 rfl (lv_at hl 1 rfl) ?_
    refine hw_callV (d := 7) E hR hS (As := [.int (0 : Int32), .int x1]) (rest := []) cI9 hs0 rfl mcX10_weightOfAll miX10_weightOfAll lmX10_255 (ok_X10_weightOfAll hs0 hf) rfl rfl (by decide) hl.1 (Nat.le_of_ble_eq_true rfl) dX10_quick_13 (fun rr m4 H locs hp hR hS => ?_)
    obtain ⟨r5, rfl, hf⟩ := hp
    refine W.eq (g2 := F0 m 16 ls [.long r5]) rfl ?_
    refine lv_lstore_n (lv' := [(2, .long r5), (0, .ref (ad g a0)), (1, .int x1)]) hx hb dX10_quick_16 rfl hl (by decide) rfl (fun ls hl => ?_)
    refine lv_aload_n hx hb dX10_quick_17 rfl (lv_at hl 1 rfl) ?_
    refine lv_iconst (v := 1) hx hb dX10_quick_18 (by decide) ?_
    refine lv_iload_n hx hb dX10_quick_19 rfl (lv_at hl 2 rfl) ?_
    refine hw_callV (d := 7) E hR hS (As := [.int (1 : Int32), .int x1]) (rest := []) cI9 hs0 rfl mcX10_weightOfAll miX10_weightOfAll lmX10_255 (ok_X10_weightOfAll hs0 hf) rfl rfl (by decide) hl.1 (Nat.le_of_ble_eq_true rfl) dX10_quick_20 (fun rr m6 H locs hp hR hS => ?_)
    obtain ⟨r7, rfl, hf⟩ := hp
    refine W.eq (g2 := F0 m 23 ls [.long r7]) rfl ?_
    refine lv_lstore (lv' := [(4, .long r7), (2, .long r5), (0, .ref (ad g a0)), (1, .int x1)]) hx hb dX10_quick_23 hl (by decide) rfl (fun ls hl => ?_)
    refine lv_lload_n hx hb dX10_quick_25 rfl (lv_at hl 1 rfl) ?_
    refine lv_ldc2 (v := 1000000000000) hx hb E.2.2.2.2.1 (E.2.2.2.2.2.1 _ ljX10_238) dX10_quick_26 ?_
    refine hw_lif_gt (tgt := 42) hx hb dX10_quick_29 dX10_quick_30 (by decide) (fun c8 => ?_) (fun c8 => ?_)
    · replace hf := hf.1 c8
      refine lv_iconst (v := -1) hx hb dX10_quick_42 (by decide) ?_
      exact hw_iret E hR hS ⟨_, rfl, hf⟩ dX10_quick_43
    · replace hf := hf.2 c8
      refine lv_lload hx hb dX10_quick_33 (lv_at hl 0 rfl) ?_
      refine lv_ldc2 (v := 1000000000000) hx hb E.2.2.2.2.1 (E.2.2.2.2.2.1 _ ljX10_238) dX10_quick_35 ?_
      refine hw_lif_le (tgt := 44) hx hb dX10_quick_38 dX10_quick_39 (by decide) (fun c9 => ?_) (fun c9 => ?_)
      · replace hf := hf.1 c9
        refine lv_aload_n hx hb dX10_quick_44 rfl (lv_at hl 2 rfl) ?_
        refine lv_iload_n hx hb dX10_quick_45 rfl (lv_at hl 3 rfl) ?_
        refine hw_callV (d := 7) E hR hS (As := [.int x1]) (rest := []) cI9 hs0 rfl mcX10_explored miX10_explored lmX10_198 (ok_X10_explored hs0 hf) rfl rfl (by decide) hl.1 (Nat.le_of_ble_eq_true rfl) dX10_quick_46 (fun rr m10 H locs hp hR hS => ?_)
        obtain ⟨r11, rfl, hf⟩ := hp
        refine W.eq (g2 := F0 m 49 ls [.int r11]) rfl ?_
        refine lv_if_ne (tgt := 55) hx hb dX10_quick_49 (by decide) (fun c12 => ?_) (fun c12 => ?_)
        · replace hf := hf.2 c12
          refine lv_lload_n hx hb dX10_quick_55 rfl (lv_at hl 1 rfl) ?_
          refine lv_lconst (v := 0) hx hb dX10_quick_56 (by decide) ?_
          refine hw_lif_eq (tgt := 68) hx hb dX10_quick_57 dX10_quick_58 (by decide) (fun c13 => ?_) (fun c13 => ?_)
          · replace hf := hf.1 c13
            refine lv_bipush (v := -2) hx hb dX10_quick_68 (by decide) ?_
            exact hw_iret E hR hS ⟨_, rfl, hf⟩ dX10_quick_70
          · replace hf := hf.2 c13
            refine lv_lload hx hb dX10_quick_61 (lv_at hl 0 rfl) ?_
            refine lv_lconst (v := 0) hx hb dX10_quick_63 (by decide) ?_
            refine hw_lif_ne (tgt := 71) hx hb dX10_quick_64 dX10_quick_65 (by decide) (fun c14 => ?_) (fun c14 => ?_)
            · replace hf := hf.2 c14
              refine lv_aload_n hx hb dX10_quick_71 rfl (lv_at hl 2 rfl) ?_
              obtain ⟨b15, hb15, hf⟩ := hf
              refine hw_getR E hR cI9 hs0 1 (by decide) lfX10_19 rfl hb15 dX10_quick_72 ?_
              refine lv_iconst (v := 1) hx hb dX10_quick_75 (by decide) ?_
              refine lv_iload_n hx hb dX10_quick_76 rfl (lv_at hl 3 rfl) ?_
              refine lv_aload_n hx hb dX10_quick_77 rfl (lv_at hl 2 rfl) ?_
              obtain ⟨b16, hb16, hf⟩ := hf
              refine hw_getR E hR cI9 hs0 10 (by decide) lfX10_69 rfl hb16 dX10_quick_78 ?_
              obtain ⟨h18, hf⟩ := hf
              refine hw_callV (d := 7) E hR hS (As := [.int (1 : Int32), .int x1, .ref (ad g b16)]) (rest := []) cI8 h18 rfl mcX9_weightWithout miX9_weightWithout lmX10_243 (ok_X9_weightWithout h18 hf) rfl rfl (by decide) hl.1 (Nat.le_of_ble_eq_true rfl) dX10_quick_81 (fun rr m17 H locs hp hR hS => ?_)
              obtain ⟨r19, rfl, hf⟩ := hp
              refine W.eq (g2 := F0 m 84 ls [.long r19]) rfl ?_
              refine lv_lstore (lv' := [(6, .long r19), (4, .long r7), (2, .long r5), (0, .ref (ad g a0)), (1, .int x1)]) hx hb dX10_quick_84 hl (by decide) rfl (fun ls hl => ?_)
              refine lv_aload_n hx hb dX10_quick_86 rfl (lv_at hl 3 rfl) ?_
              obtain ⟨b20, hb20, hf⟩ := hf
              refine hw_getR E hR cI9 hs0 1 (by decide) lfX10_19 rfl hb20 dX10_quick_87 ?_
              refine lv_iconst (v := 1) hx hb dX10_quick_90 (by decide) ?_
              refine lv_iload_n hx hb dX10_quick_91 rfl (lv_at hl 4 rfl) ?_
              refine lv_aload_n hx hb dX10_quick_92 rfl (lv_at hl 3 rfl) ?_
              obtain ⟨b21, hb21, hf⟩ := hf
              refine hw_getR E hR cI9 hs0 11 (by decide) lfX10_73 rfl hb21 dX10_quick_93 ?_
              obtain ⟨h23, hf⟩ := hf
              refine hw_callV (d := 7) E hR hS (As := [.int (1 : Int32), .int x1, .ref (ad g b21)]) (rest := []) cI8 h23 rfl mcX9_weightWithout miX9_weightWithout lmX10_243 (ok_X9_weightWithout h23 hf) rfl rfl (by decide) hl.1 (Nat.le_of_ble_eq_true rfl) dX10_quick_96 (fun rr m22 H locs hp hR hS => ?_)
              obtain ⟨r24, rfl, hf⟩ := hp
              refine W.eq (g2 := F0 m 99 ls [.long r24]) rfl ?_
              refine lv_lstore (lv' := [(8, .long r24), (6, .long r19), (4, .long r7), (2, .long r5), (0, .ref (ad g a0)), (1, .int x1)]) hx hb dX10_quick_99 hl (by decide) rfl (fun ls hl => ?_)
              refine lv_lload hx hb dX10_quick_101 (lv_at hl 1 rfl) ?_
              refine lv_lload_n hx hb dX10_quick_103 rfl (lv_at hl 3 rfl) ?_
              refine lv_lload hx hb dX10_quick_104 (lv_at hl 0 rfl) ?_
              refine lv_lload hx hb dX10_quick_106 (lv_at hl 2 rfl) ?_
              refine hw_callS (d := 7) E hR hS (As := [.long r19, .long r5, .long r24, .long r7]) (rest := []) mcX10_comparedFractions msX10_comparedFractions lmX10_262 (ok_X10_comparedFractions  hf) rfl rfl (by decide) hl.1 (Nat.le_of_ble_eq_true rfl) dX10_quick_108 (fun rr m25 H locs hp hR hS => ?_)
              obtain ⟨r26, rfl, hf⟩ := hp
              refine W.eq (g2 := F0 m 111 ls [.int r26]) rfl ?_
              refine lv_istore (lv' := [(10, .int r26), (8, .long r24), (6, .long r19), (4, .long r7), (2, .long r5), (0, .ref (ad g a0)), (1, .int x1)]) hx hb dX10_quick_111 hl (by decide) rfl (fun ls hl => ?_)
              refine lv_iload hx hb dX10_quick_113 (lv_at hl 0 rfl) ?_
              refine lv_if_ne (tgt := 122) hx hb dX10_quick_115 (by decide) (fun c27 => ?_) (fun c27 => ?_)
              · replace hf := hf.2 c27
                refine lv_iload hx hb dX10_quick_122 (lv_at hl 0 rfl) ?_
                refine lv_if_ge (tgt := 131) hx hb dX10_quick_124 (by decide) (fun c28 => ?_) (fun c28 => ?_)
                · replace hf := hf.1 c28
                  refine lv_iconst (v := 1) hx hb dX10_quick_131 (by decide) ?_
                  exact hw_iret E hR hS ⟨_, rfl, hf⟩ dX10_quick_132
                · replace hf := hf.2 c28
                  refine lv_iconst (v := 0) hx hb dX10_quick_127 (by decide) ?_
                  refine lv_goto (tgt := 132) hx hb dX10_quick_128 (by decide) ?_
                  exact hw_iret E hR hS ⟨_, rfl, hf⟩ dX10_quick_132
              · replace hf := hf.1 c27
                refine lv_iconst (v := 2) hx hb dX10_quick_118 (by decide) ?_
                refine lv_goto (tgt := 132) hx hb dX10_quick_119 (by decide) ?_
                exact hw_iret E hR hS ⟨_, rfl, hf⟩ dX10_quick_132
            · replace hf := hf.1 c14
              refine lv_bipush (v := -2) hx hb dX10_quick_68 (by decide) ?_
              exact hw_iret E hR hS ⟨_, rfl, hf⟩ dX10_quick_70
        · replace hf := hf.1 c12
          refine lv_bipush (v := -3) hx hb dX10_quick_52 (by decide) ?_
          exact hw_iret E hR hS ⟨_, rfl, hf⟩ dX10_quick_54
      · replace hf := hf.2 c9
        refine lv_iconst (v := -1) hx hb dX10_quick_42 (by decide) ?_
        exact hw_iret E hR hS ⟨_, rfl, hf⟩ dX10_quick_43
  · replace hf := hf.2 c3
    refine lv_iconst (v := -1) hx hb dX10_quick_8 (by decide) ?_
    exact hw_iret E hR hS ⟨_, rfl, hf⟩ dX10_quick_9
def f_X10_tellBreakingNumbers_B11 (S : Ss) (a0 : Nat) (x1 : Int32) (x2 : Int32) (M : Mm) (BK11 : Int32 → Int32 → Mm → Prop) (EK11 : Int32 → Mm → Prop) (K : Int32 → Mm → Prop) : Prop :=
  (((256 : Int32) ≤ x2 →
    EK11 x1 M) ∧
   (¬ (256 : Int32) ≤ x2 →
    ∃ b5 : Nat, M.2.2 a0 5 = some b5 ∧
    ∃ n6 : Nat, S[b5]? = some (52, n6) ∧ vp_in x2 n6 ∧
    (((M.1 b5 x2.toNatClampNeg) = 0 →
      ∀ v8 : Int32, v8 = x2 + (1 : Int32) →
      BK11 x1 v8 M) ∧
     (¬ (M.1 b5 x2.toNatClampNeg) = 0 →
      ∀ v9 : Int32, v9 = x1 + (1 : Int32) →
      ∃ b10 : Nat, M.2.2 a0 6 = some b10 ∧
      S[b10]? = some (6, 0) ∧
      f_X7_tellNext S b10 x2.toInt64 M (fun (m11 : Mm) =>
        ∀ v13 : Int32, v13 = x2 + (1 : Int32) →
      BK11 v9 v13 m11)))))
set_option maxHeartbeats 4000000 in
set_option maxRecDepth 100000 in
theorem w_X10_tellBreakingNumbers_B11 {p : Program} {l : Launch} {e : Env} {s : State} {m : MethodId} {args : Array Value} {below : List Frame} {meth : Method} {c : Code} {g : Gg} {S : Ss} (a0 : Nat) (x1 : Int32) (x2 : Int32) (M : Mm) (BK11 : Int32 → Int32 → Mm → Prop) (EK11 : Int32 → Mm → Prop) (K : Int32 → Mm → Prop) (E : EN p s m args meth c cX10_tellBreakingNumbers 3 (some .int) RX10 g) (hw : ad g 100000 < s.heap.size) (hs0 : S[a0]? = some (9, 0)) (hBK11 : ∀ (x1' : Int32) (x2' : Int32) (M' : Mm) (H : Heap) (locs : List Loc) (ls : Array Slot), BK11 x1' x2' M' → RP g S M' H → va_S (gA g) s.heap H locs → lv_has ls 3 [(0, .ref (ad g a0)), (1, .int x1'), (2, .int x2')] → W p l e (rmD 1) s m args below meth c H locs 0 0 (MQ below (QA g S (pI K)) args s 0 0 (gA g)) (F0 m 11 ls [])) (hEK11 : ∀ (x1' : Int32) (M' : Mm) (H : Heap) (locs : List Loc) (ls : Array Slot), EK11 x1' M' → RP g S M' H → va_S (gA g) s.heap H locs → lv_has ls 3 [(1, .int x1')] → W p l e (rmD 1) s m args below meth c H locs 0 0 (MQ below (QA g S (pI K)) args s 0 0 (gA g)) (F0 m 45 ls [])) (hf : f_X10_tellBreakingNumbers_B11 S a0 x1 x2 M BK11 EK11 K) (H : Heap) (locs : List Loc) (ls : Array Slot) (hR : RP g S M H) (hS : va_S (gA g) s.heap H locs) (hl : lv_has ls 3 [(0, .ref (ad g a0)), (1, .int x1), (2, .int x2)]) : W p l e (rmD 1) s m args below meth c H locs 0 0 (MQ below (QA g S (pI K)) args s 0 0 (gA g)) (F0 m 11 ls []) := by
  have hx := E.1
  have hb := E.2.1
  unfold f_X10_tellBreakingNumbers_B11 at hf
  refine lv_iload_n hx hb dX10_tellBreakingNumbers_11 rfl (lv_at hl 2 rfl) ?_
  refine lv_sipush (v := 256) hx hb dX10_tellBreakingNumbers_12 (by decide) ?_
  refine lv_icmp_ge (tgt := 45) hx hb dX10_tellBreakingNumbers_15 (by decide) (fun c4 => ?_) (fun c4 => ?_)
  · replace hf := hf.1 c4
    exact hEK11 _ _ _ _ _ hf hR hS (lv_sub hl [1] rfl)
  · replace hf := hf.2 c4
    refine lv_aload_n hx hb dX10_tellBreakingNumbers_18 rfl (lv_at hl 0 rfl) ?_
    obtain ⟨b5, hb5, hf⟩ := hf
    refine hw_getR E hR cI9 hs0 5 (by decide) lfX10_38 rfl hb5 dX10_tellBreakingNumbers_19 ?_
    refine lv_iload_n hx hb dX10_tellBreakingNumbers_22 rfl (lv_at hl 2 rfl) ?_
    obtain ⟨n6, hn6, in6, hf⟩ := hf
    refine hw_zald E hR hn6 in6 dX10_tellBreakingNumbers_23 ?_
    refine lv_if_eq (tgt := 39) hx hb dX10_tellBreakingNumbers_24 (by decide) (fun c7 => ?_) (fun c7 => ?_)
    · replace hf := hf.1 c7
      obtain ⟨v8, ev8⟩ : ∃ y : Int32, y = x2 + (1 : Int32) := ⟨_, rfl⟩
      replace hf := hf v8 ev8
      refine lv_iinc (v := v8) (lv' := [(2, .int v8), (0, .ref (ad g a0)), (1, .int x1)]) hx hb dX10_tellBreakingNumbers_39 hl (k := 2) rfl (by rw [ev8]; rfl) (by decide) rfl (fun ls hl => ?_)
      refine lv_goto (tgt := 11) hx hb dX10_tellBreakingNumbers_42 (by decide) ?_
      exact hBK11 _ _ _ _ _ _ hf hR hS (lv_sub hl [1, 2, 0] rfl)
    · replace hf := hf.2 c7
      obtain ⟨v9, ev9⟩ : ∃ y : Int32, y = x1 + (1 : Int32) := ⟨_, rfl⟩
      replace hf := hf v9 ev9
      refine lv_iinc (v := v9) (lv' := [(1, .int v9), (0, .ref (ad g a0)), (2, .int x2)]) hx hb dX10_tellBreakingNumbers_27 hl (k := 1) rfl (by rw [ev9]; rfl) (by decide) rfl (fun ls hl => ?_)
      refine lv_aload_n hx hb dX10_tellBreakingNumbers_30 rfl (lv_at hl 1 rfl) ?_
      obtain ⟨b10, hb10, hf⟩ := hf
      refine hw_getR E hR cI9 hs0 6 (by decide) lfX10_45 rfl hb10 dX10_tellBreakingNumbers_31 ?_
      refine lv_iload_n hx hb dX10_tellBreakingNumbers_34 rfl (lv_at hl 2 rfl) ?_
      refine lv_i2l hx hb dX10_tellBreakingNumbers_35 rfl ?_
      obtain ⟨h12, hf⟩ := hf
      refine hw_callV (d := 1) E hR hS (As := [.long x2.toInt64]) (rest := []) cI6 h12 rfl mcX7_tellNext miX7_tellNext lmX10_372 (ok_X7_tellNext h12 hf) rfl rfl (by decide) hl.1 (Nat.le_of_ble_eq_true rfl) dX10_tellBreakingNumbers_36 (fun rr m11 H locs hp hR hS => ?_)
      obtain ⟨rfl, hf⟩ := hp
      refine W.eq (g2 := F0 m 39 ls []) rfl ?_
      obtain ⟨v13, ev13⟩ : ∃ y : Int32, y = x2 + (1 : Int32) := ⟨_, rfl⟩
      replace hf := hf v13 ev13
      refine lv_iinc (v := v13) (lv' := [(2, .int v13), (1, .int v9), (0, .ref (ad g a0))]) hx hb dX10_tellBreakingNumbers_39 hl (k := 2) rfl (by rw [ev13]; rfl) (by decide) rfl (fun ls hl => ?_)
      refine lv_goto (tgt := 11) hx hb dX10_tellBreakingNumbers_42 (by decide) ?_
      exact hBK11 _ _ _ _ _ _ hf hR hS (lv_sub hl [2, 1, 0] rfl)
def f_X10_tellBreakingNumbers_L11 (S : Ss) (a0 : Nat) (EK11 : Int32 → Mm → Prop) (K : Int32 → Mm → Prop) : Nat → Int32 → Int32 → Mm → Prop
  | 0, _, _, _ => False
  | n + 1, x1, x2, M => f_X10_tellBreakingNumbers_B11 S a0 x1 x2 M (fun (x1 : Int32) (x2 : Int32) (M : Mm) => f_X10_tellBreakingNumbers_L11 S a0 EK11 K n x1 x2 M) EK11 K
set_option maxHeartbeats 4000000 in
set_option maxRecDepth 100000 in
theorem w_X10_tellBreakingNumbers_L11 {p : Program} {l : Launch} {e : Env} {s : State} {m : MethodId} {args : Array Value} {below : List Frame} {meth : Method} {c : Code} {g : Gg} {S : Ss} (a0 : Nat) (EK11 : Int32 → Mm → Prop) (K : Int32 → Mm → Prop) (E : EN p s m args meth c cX10_tellBreakingNumbers 3 (some .int) RX10 g) (hw : ad g 100000 < s.heap.size) (hs0 : S[a0]? = some (9, 0)) (hEK11 : ∀ (x1' : Int32) (M' : Mm) (H : Heap) (locs : List Loc) (ls : Array Slot), EK11 x1' M' → RP g S M' H → va_S (gA g) s.heap H locs → lv_has ls 3 [(1, .int x1')] → W p l e (rmD 1) s m args below meth c H locs 0 0 (MQ below (QA g S (pI K)) args s 0 0 (gA g)) (F0 m 45 ls [])) : ∀ (n : Nat) (x1 : Int32) (x2 : Int32) (M : Mm), f_X10_tellBreakingNumbers_L11 S a0 EK11 K n x1 x2 M → ∀ (H : Heap) (locs : List Loc) (ls : Array Slot), RP g S M H → va_S (gA g) s.heap H locs → lv_has ls 3 [(0, .ref (ad g a0)), (1, .int x1), (2, .int x2)] → W p l e (rmD 1) s m args below meth c H locs 0 0 (MQ below (QA g S (pI K)) args s 0 0 (gA g)) (F0 m 11 ls []) := by
  intro n
  induction n with
  | zero => intro x1 x2 M hf; exact hf.elim
  | succ n ih =>
    intro x1 x2 M hf H locs ls hR hS hl
    exact w_X10_tellBreakingNumbers_B11 _ _ _ _ _ _ _ E hw hs0 (fun _ _ M H locs ls h hR hS hl => ih _ _ M h H locs ls hR hS hl) hEK11 hf H locs ls hR hS hl
def f_X10_tellBreakingNumbers (S : Ss) (a0 : Nat) (M : Mm) (K : Int32 → Mm → Prop) : Prop :=
  ∃ b1 : Nat, M.2.2 a0 6 = some b1 ∧
  S[b1]? = some (6, 0) ∧
  f_X7_clear S b1  M (fun (m2 : Mm) =>
    ∃ n16 : Nat, f_X10_tellBreakingNumbers_L11 S a0 (fun (v14 : Int32) (m15 : Mm) =>
    K v14 m15) K n16 (0 : Int32) (0 : Int32) m2)
set_option maxHeartbeats 4000000 in
set_option maxRecDepth 100000 in
theorem ok_X10_tellBreakingNumbers {l : Launch} {g : Gg} {S : Ss} {a0 : Nat} {M : Mm} {K : Int32 → Mm → Prop} (hs0 : S[a0]? = some (9, 0)) (hf : f_X10_tellBreakingNumbers S a0 M K) : MT l g S yX10_tellBreakingNumbers cX10_tellBreakingNumbers 3 (some .int) 1 [.ref (ad g a0)] M (pI K) := by
  refine MT.of (by decide +kernel) (Nat.le_of_ble_eq_true rfl) ?_
  intro p e s m below meth c ls E hw hR hS hl
  have hl : lv_has ls 3 [(0, .ref (ad g a0))] := hl
  generalize ([.ref (ad g a0)] : List Value).toArray = args at E ⊢
  have E : EN p s m args meth c cX10_tellBreakingNumbers 3 (some .int) RX10 g := E
  have hx := E.1
  have hb := E.2.1
  unfold f_X10_tellBreakingNumbers at hf
  refine lv_iconst (v := 0) hx hb dX10_tellBreakingNumbers_0 (by decide) ?_
  refine lv_istore_n (lv' := [(1, .int (0 : Int32)), (0, .ref (ad g a0))]) hx hb dX10_tellBreakingNumbers_1 rfl hl (by decide) rfl (fun ls hl => ?_)
  refine lv_aload_n hx hb dX10_tellBreakingNumbers_2 rfl (lv_at hl 1 rfl) ?_
  obtain ⟨b1, hb1, hf⟩ := hf
  refine hw_getR E hR cI9 hs0 6 (by decide) lfX10_45 rfl hb1 dX10_tellBreakingNumbers_3 ?_
  obtain ⟨h3, hf⟩ := hf
  refine hw_callV (d := 1) E hR hS (As := []) (rest := []) cI6 h3 rfl mcX7_clear miX7_clear lmX10_217 (ok_X7_clear h3 hf) rfl rfl (by decide) hl.1 (Nat.le_of_ble_eq_true rfl) dX10_tellBreakingNumbers_6 (fun rr m2 H locs hp hR hS => ?_)
  obtain ⟨rfl, hf⟩ := hp
  refine W.eq (g2 := F0 m 9 ls []) rfl ?_
  refine lv_iconst (v := 0) hx hb dX10_tellBreakingNumbers_9 (by decide) ?_
  refine lv_istore_n (lv' := [(2, .int (0 : Int32)), (1, .int (0 : Int32)), (0, .ref (ad g a0))]) hx hb dX10_tellBreakingNumbers_10 rfl hl (by decide) rfl (fun ls hl => ?_)
  obtain ⟨n16, hf⟩ := hf
  refine w_X10_tellBreakingNumbers_L11 _ _ _ E hw hs0 ?_ n16 _ _ _ hf _ _ _ hR hS (lv_sub hl [2, 1, 0] rfl)
  intro v14 m15 H locs ls hf hR hS hl
  refine lv_iload_n hx hb dX10_tellBreakingNumbers_45 rfl (lv_at hl 0 rfl) ?_
  exact hw_iret E hR hS ⟨_, rfl, hf⟩ dX10_tellBreakingNumbers_46
def f_X10_round_B28 (S : Ss) (a0 : Nat) (x1 : Int32) (x2 : Int32) (x3 : Int32) (M : Mm) (BK28 : Int32 → Mm → Prop) (EK28 : Mm → Prop) (K : Int32 → Mm → Prop) : Prop :=
  (((256 : Int32) ≤ x3 →
    EK28 M) ∧
   (¬ (256 : Int32) ≤ x3 →
    ∃ b8 : Nat, M.2.2 a0 4 = some b8 ∧
    ∃ b9 : Nat, M.2.2 a0 3 = some b9 ∧
    S[b8]? = some (3, 0) ∧
    S[b9]? = some (3, 0) ∧
    f_X4_copy S b8 b9 M (fun (m10 : Mm) =>
      ∃ b13 : Nat, m10.2.2 a0 4 = some b13 ∧
    S[b13]? = some (3, 0) ∧
    f_X4_putSlot S b13 x1 x3 m10 (fun (m14 : Mm) =>
      ∃ b16 : Nat, m14.2.2 a0 1 = some b16 ∧
    ∃ b17 : Nat, m14.2.2 a0 4 = some b17 ∧
    S[b16]? = some (8, 0) ∧
    S[b17]? = some (3, 0) ∧
    f_X9_explore S b16 b17 x2 (300 : Int32) (0 : Int32) (0 : Int32) m14 (fun (r21 : Int32) (m18 : Mm) =>
      ((r21 = 0 →
      K (-3 : Int32) m18) ∧
     (¬ r21 = 0 →
      ∃ b23 : Nat, m18.2.2 a0 5 = some b23 ∧
      ∃ b24 : Nat, m18.2.2 a0 1 = some b24 ∧
      S[b24]? = some (8, 0) ∧
      (((m18.1 b24 14) < 0 →
        ∃ n27 : Nat, S[b23]? = some (52, n27) ∧ vp_in x3 n27 ∧
        ∀ m28 : Mm, m28 = stI m18 b23 x3.toNatClampNeg (vp_nar .boolean (0 : Int32)) →
        ∀ v29 : Int32, v29 = x3 + (1 : Int32) →
        BK28 v29 m28) ∧
       (¬ (m18.1 b24 14) < 0 →
        ∃ n30 : Nat, S[b23]? = some (52, n30) ∧ vp_in x3 n30 ∧
        ∀ m31 : Mm, m31 = stI m18 b23 x3.toNatClampNeg (vp_nar .boolean (1 : Int32)) →
        ∀ v32 : Int32, v32 = x3 + (1 : Int32) →
        BK28 v32 m31)))))))))
set_option maxHeartbeats 4000000 in
set_option maxRecDepth 100000 in
theorem w_X10_round_B28 {p : Program} {l : Launch} {e : Env} {s : State} {m : MethodId} {args : Array Value} {below : List Frame} {meth : Method} {c : Code} {g : Gg} {S : Ss} (a0 : Nat) (x1 : Int32) (x2 : Int32) (x3 : Int32) (M : Mm) (BK28 : Int32 → Mm → Prop) (EK28 : Mm → Prop) (K : Int32 → Mm → Prop) (E : EN p s m args meth c cX10_round 4 (some .int) RX10 g) (hw : ad g 100000 < s.heap.size) (hs0 : S[a0]? = some (9, 0)) (hBK28 : ∀ (x3' : Int32) (M' : Mm) (H : Heap) (locs : List Loc) (ls : Array Slot), BK28 x3' M' → RP g S M' H → va_S (gA g) s.heap H locs → lv_has ls 4 [(0, .ref (ad g a0)), (1, .int x1), (2, .int x2), (3, .int x3')] → W p l e (rmD 6) s m args below meth c H locs 0 0 (MQ below (QA g S (pI K)) args s 0 0 (gA g)) (F0 m 28 ls [])) (hEK28 : ∀ (M' : Mm) (H : Heap) (locs : List Loc) (ls : Array Slot), EK28 M' → RP g S M' H → va_S (gA g) s.heap H locs → lv_has ls 4 [(0, .ref (ad g a0))] → W p l e (rmD 6) s m args below meth c H locs 0 0 (MQ below (QA g S (pI K)) args s 0 0 (gA g)) (F0 m 105 ls [])) (hf : f_X10_round_B28 S a0 x1 x2 x3 M BK28 EK28 K) (H : Heap) (locs : List Loc) (ls : Array Slot) (hR : RP g S M H) (hS : va_S (gA g) s.heap H locs) (hl : lv_has ls 4 [(0, .ref (ad g a0)), (1, .int x1), (2, .int x2), (3, .int x3)]) : W p l e (rmD 6) s m args below meth c H locs 0 0 (MQ below (QA g S (pI K)) args s 0 0 (gA g)) (F0 m 28 ls []) := by
  have hx := E.1
  have hb := E.2.1
  unfold f_X10_round_B28 at hf
  refine lv_iload_n hx hb dX10_round_28 rfl (lv_at hl 3 rfl) ?_
  refine lv_sipush (v := 256) hx hb dX10_round_29 (by decide) ?_
  refine lv_icmp_ge (tgt := 105) hx hb dX10_round_32 (by decide) (fun c7 => ?_) (fun c7 => ?_)
  · replace hf := hf.1 c7
    exact hEK28  _ _ _ _ hf hR hS (lv_sub hl [0] rfl)
  · replace hf := hf.2 c7
    refine lv_aload_n hx hb dX10_round_35 rfl (lv_at hl 0 rfl) ?_
    obtain ⟨b8, hb8, hf⟩ := hf
    refine hw_getR E hR cI9 hs0 4 (by decide) lfX10_35 rfl hb8 dX10_round_36 ?_
    refine lv_aload_n hx hb dX10_round_39 rfl (lv_at hl 0 rfl) ?_
    obtain ⟨b9, hb9, hf⟩ := hf
    refine hw_getR E hR cI9 hs0 3 (by decide) lfX10_31 rfl hb9 dX10_round_40 ?_
    obtain ⟨h11, hf⟩ := hf
    obtain ⟨h12, hf⟩ := hf
    refine hw_callV (d := 6) E hR hS (As := [.ref (ad g b9)]) (rest := []) cI3 h11 rfl mcX4_copy miX4_copy lmX10_266 (ok_X4_copy h11 h12 hf) rfl rfl (by decide) hl.1 (Nat.le_of_ble_eq_true rfl) dX10_round_43 (fun rr m10 H locs hp hR hS => ?_)
    obtain ⟨rfl, hf⟩ := hp
    refine W.eq (g2 := F0 m 46 ls []) rfl ?_
    refine lv_aload_n hx hb dX10_round_46 rfl (lv_at hl 0 rfl) ?_
    obtain ⟨b13, hb13, hf⟩ := hf
    refine hw_getR E hR cI9 hs0 4 (by decide) lfX10_35 rfl hb13 dX10_round_47 ?_
    refine lv_iload_n hx hb dX10_round_50 rfl (lv_at hl 1 rfl) ?_
    refine lv_iload_n hx hb dX10_round_51 rfl (lv_at hl 3 rfl) ?_
    obtain ⟨h15, hf⟩ := hf
    refine hw_callV (d := 6) E hR hS (As := [.int x1, .int x3]) (rest := []) cI3 h15 rfl mcX4_putSlot miX4_putSlot lmX10_144 (ok_X4_putSlot h15 hf) rfl rfl (by decide) hl.1 (Nat.le_of_ble_eq_true rfl) dX10_round_52 (fun rr m14 H locs hp hR hS => ?_)
    obtain ⟨rfl, hf⟩ := hp
    refine W.eq (g2 := F0 m 55 ls []) rfl ?_
    refine lv_aload_n hx hb dX10_round_55 rfl (lv_at hl 0 rfl) ?_
    obtain ⟨b16, hb16, hf⟩ := hf
    refine hw_getR E hR cI9 hs0 1 (by decide) lfX10_19 rfl hb16 dX10_round_56 ?_
    refine lv_aload_n hx hb dX10_round_59 rfl (lv_at hl 0 rfl) ?_
    obtain ⟨b17, hb17, hf⟩ := hf
    refine hw_getR E hR cI9 hs0 4 (by decide) lfX10_35 rfl hb17 dX10_round_60 ?_
    refine lv_iload_n hx hb dX10_round_63 rfl (lv_at hl 2 rfl) ?_
    refine lv_sipush (v := 300) hx hb dX10_round_64 (by decide) ?_
    refine lv_iconst (v := 0) hx hb dX10_round_67 (by decide) ?_
    refine lv_iconst (v := 0) hx hb dX10_round_68 (by decide) ?_
    obtain ⟨h19, hf⟩ := hf
    obtain ⟨h20, hf⟩ := hf
    refine hw_callV (d := 6) E hR hS (As := [.ref (ad g b17), .int x2, .int (300 : Int32), .int (0 : Int32), .int (0 : Int32)]) (rest := []) cI8 h19 rfl mcX9_explore miX9_explore lmX10_213 (ok_X9_explore h19 h20 hf) rfl rfl (by decide) hl.1 (Nat.le_of_ble_eq_true rfl) dX10_round_69 (fun rr m18 H locs hp hR hS => ?_)
    obtain ⟨r21, rfl, hf⟩ := hp
    refine W.eq (g2 := F0 m 72 ls [.int r21]) rfl ?_
    refine lv_if_ne (tgt := 78) hx hb dX10_round_72 (by decide) (fun c22 => ?_) (fun c22 => ?_)
    · replace hf := hf.2 c22
      refine lv_aload_n hx hb dX10_round_78 rfl (lv_at hl 0 rfl) ?_
      obtain ⟨b23, hb23, hf⟩ := hf
      refine hw_getR E hR cI9 hs0 5 (by decide) lfX10_38 rfl hb23 dX10_round_79 ?_
      refine lv_iload_n hx hb dX10_round_82 rfl (lv_at hl 3 rfl) ?_
      refine lv_aload_n hx hb dX10_round_83 rfl (lv_at hl 0 rfl) ?_
      obtain ⟨b24, hb24, hf⟩ := hf
      refine hw_getR E hR cI9 hs0 1 (by decide) lfX10_19 rfl hb24 dX10_round_84 ?_
      obtain ⟨h25, hf⟩ := hf
      refine hw_getI E hR cI8 h25 14 (by decide) lfX10_204 rfl dX10_round_87 ?_
      refine lv_if_lt (tgt := 97) hx hb dX10_round_90 (by decide) (fun c26 => ?_) (fun c26 => ?_)
      · replace hf := hf.1 c26
        refine lv_iconst (v := 0) hx hb dX10_round_97 (by decide) ?_
        obtain ⟨n27, hn27, in27, hf⟩ := hf
        refine hw_zast E hR hS hw hn27 in27 dX10_round_98 (fun m28 H locs em28 hR hS => ?_)
        replace hf := hf m28 em28
        obtain ⟨v29, ev29⟩ : ∃ y : Int32, y = x3 + (1 : Int32) := ⟨_, rfl⟩
        replace hf := hf v29 ev29
        refine lv_iinc (v := v29) (lv' := [(3, .int v29), (0, .ref (ad g a0)), (1, .int x1), (2, .int x2)]) hx hb dX10_round_99 hl (k := 3) rfl (by rw [ev29]; rfl) (by decide) rfl (fun ls hl => ?_)
        refine lv_goto (tgt := 28) hx hb dX10_round_102 (by decide) ?_
        exact hBK28 _ _ _ _ _ hf hR hS (lv_sub hl [1, 2, 3, 0] rfl)
      · replace hf := hf.2 c26
        refine lv_iconst (v := 1) hx hb dX10_round_93 (by decide) ?_
        refine lv_goto (tgt := 98) hx hb dX10_round_94 (by decide) ?_
        obtain ⟨n30, hn30, in30, hf⟩ := hf
        refine hw_zast E hR hS hw hn30 in30 dX10_round_98 (fun m31 H locs em31 hR hS => ?_)
        replace hf := hf m31 em31
        obtain ⟨v32, ev32⟩ : ∃ y : Int32, y = x3 + (1 : Int32) := ⟨_, rfl⟩
        replace hf := hf v32 ev32
        refine lv_iinc (v := v32) (lv' := [(3, .int v32), (0, .ref (ad g a0)), (1, .int x1), (2, .int x2)]) hx hb dX10_round_99 hl (k := 3) rfl (by rw [ev32]; rfl) (by decide) rfl (fun ls hl => ?_)
        refine lv_goto (tgt := 28) hx hb dX10_round_102 (by decide) ?_
        exact hBK28 _ _ _ _ _ hf hR hS (lv_sub hl [1, 2, 3, 0] rfl)
    · replace hf := hf.1 c22
      refine lv_bipush (v := -3) hx hb dX10_round_75 (by decide) ?_
      exact hw_iret E hR hS ⟨_, rfl, hf⟩ dX10_round_77
def f_X10_round_L28 (S : Ss) (a0 : Nat) (x1 : Int32) (x2 : Int32) (EK28 : Mm → Prop) (K : Int32 → Mm → Prop) : Nat → Int32 → Mm → Prop
  | 0, _, _ => False
  | n + 1, x3, M => f_X10_round_B28 S a0 x1 x2 x3 M (fun (x3 : Int32) (M : Mm) => f_X10_round_L28 S a0 x1 x2 EK28 K n x3 M) EK28 K
set_option maxHeartbeats 4000000 in
set_option maxRecDepth 100000 in
theorem w_X10_round_L28 {p : Program} {l : Launch} {e : Env} {s : State} {m : MethodId} {args : Array Value} {below : List Frame} {meth : Method} {c : Code} {g : Gg} {S : Ss} (a0 : Nat) (x1 : Int32) (x2 : Int32) (EK28 : Mm → Prop) (K : Int32 → Mm → Prop) (E : EN p s m args meth c cX10_round 4 (some .int) RX10 g) (hw : ad g 100000 < s.heap.size) (hs0 : S[a0]? = some (9, 0)) (hEK28 : ∀ (M' : Mm) (H : Heap) (locs : List Loc) (ls : Array Slot), EK28 M' → RP g S M' H → va_S (gA g) s.heap H locs → lv_has ls 4 [(0, .ref (ad g a0))] → W p l e (rmD 6) s m args below meth c H locs 0 0 (MQ below (QA g S (pI K)) args s 0 0 (gA g)) (F0 m 105 ls [])) : ∀ (n : Nat) (x3 : Int32) (M : Mm), f_X10_round_L28 S a0 x1 x2 EK28 K n x3 M → ∀ (H : Heap) (locs : List Loc) (ls : Array Slot), RP g S M H → va_S (gA g) s.heap H locs → lv_has ls 4 [(0, .ref (ad g a0)), (1, .int x1), (2, .int x2), (3, .int x3)] → W p l e (rmD 6) s m args below meth c H locs 0 0 (MQ below (QA g S (pI K)) args s 0 0 (gA g)) (F0 m 28 ls []) := by
  intro n
  induction n with
  | zero => intro x3 M hf; exact hf.elim
  | succ n ih =>
    intro x3 M hf H locs ls hR hS hl
    exact w_X10_round_B28 _ _ _ _ _ _ _ _ E hw hs0 (fun _ M H locs ls h hR hS hl => ih _ M h H locs ls hR hS hl) hEK28 hf H locs ls hR hS hl
def f_X10_round (S : Ss) (a0 : Nat) (x1 : Int32) (x2 : Int32) (M : Mm) (K : Int32 → Mm → Prop) : Prop :=
  f_X10_refusesRuns S a0 x2 M (fun (r2 : Int32) (m1 : Mm) =>
    ((r2 = 0 →
    (((6 : Int32) < x2 →
      K (-1 : Int32) m1) ∧
     (¬ (6 : Int32) < x2 →
      ((x1 < 0 →
        K (-1 : Int32) m1) ∧
       (¬ x1 < 0 →
        ((x1 < (8 : Int32) →
          ∃ n36 : Nat, f_X10_round_L28 S a0 x1 x2 (fun (m33 : Mm) =>
            f_X10_tellBreakingNumbers S a0  m33 (fun (r35 : Int32) (m34 : Mm) =>
              K r35 m34)) K n36 (0 : Int32) m1) ∧
         (¬ x1 < (8 : Int32) →
          K (-1 : Int32) m1))))))) ∧
   (¬ r2 = 0 →
    K (-1 : Int32) m1)))
set_option maxHeartbeats 4000000 in
set_option maxRecDepth 100000 in
theorem ok_X10_round {l : Launch} {g : Gg} {S : Ss} {a0 : Nat} {x1 : Int32} {x2 : Int32} {M : Mm} {K : Int32 → Mm → Prop} (hs0 : S[a0]? = some (9, 0)) (hf : f_X10_round S a0 x1 x2 M K) : MT l g S yX10_round cX10_round 4 (some .int) 6 [.ref (ad g a0), .int x1, .int x2] M (pI K) := by
  refine MT.of (by decide +kernel) (Nat.le_of_ble_eq_true rfl) ?_
  intro p e s m below meth c ls E hw hR hS hl
  have hl : lv_has ls 4 [(0, .ref (ad g a0)), (1, .int x1), (2, .int x2)] := hl
  generalize ([.ref (ad g a0), .int x1, .int x2] : List Value).toArray = args at E ⊢
  have E : EN p s m args meth c cX10_round 4 (some .int) RX10 g := E
  have hx := E.1
  have hb := E.2.1
  unfold f_X10_round at hf
  refine lv_aload_n hx hb dX10_round_0 rfl (lv_at hl 0 rfl) ?_
  refine lv_iload_n hx hb dX10_round_1 rfl (lv_at hl 2 rfl) ?_
  refine hw_callV (d := 6) E hR hS (As := [.int x2]) (rest := []) cI9 hs0 rfl mcX10_refusesRuns miX10_refusesRuns lmX10_194 (ok_X10_refusesRuns hs0 hf) rfl rfl (by decide) hl.1 (Nat.le_of_ble_eq_true rfl) dX10_round_2 (fun rr m1 H locs hp hR hS => ?_)
  obtain ⟨r2, rfl, hf⟩ := hp
  refine W.eq (g2 := F0 m 5 ls [.int r2]) rfl ?_
  refine lv_if_ne (tgt := 24) hx hb dX10_round_5 (by decide) (fun c3 => ?_) (fun c3 => ?_)
  · replace hf := hf.2 c3
    refine lv_iconst (v := -1) hx hb dX10_round_24 (by decide) ?_
    exact hw_iret E hR hS ⟨_, rfl, hf⟩ dX10_round_25
  · replace hf := hf.1 c3
    refine lv_iload_n hx hb dX10_round_8 rfl (lv_at hl 2 rfl) ?_
    refine lv_bipush (v := 6) hx hb dX10_round_9 (by decide) ?_
    refine lv_icmp_gt (tgt := 24) hx hb dX10_round_11 (by decide) (fun c4 => ?_) (fun c4 => ?_)
    · replace hf := hf.1 c4
      refine lv_iconst (v := -1) hx hb dX10_round_24 (by decide) ?_
      exact hw_iret E hR hS ⟨_, rfl, hf⟩ dX10_round_25
    · replace hf := hf.2 c4
      refine lv_iload_n hx hb dX10_round_14 rfl (lv_at hl 1 rfl) ?_
      refine lv_if_lt (tgt := 24) hx hb dX10_round_15 (by decide) (fun c5 => ?_) (fun c5 => ?_)
      · replace hf := hf.1 c5
        refine lv_iconst (v := -1) hx hb dX10_round_24 (by decide) ?_
        exact hw_iret E hR hS ⟨_, rfl, hf⟩ dX10_round_25
      · replace hf := hf.2 c5
        refine lv_iload_n hx hb dX10_round_18 rfl (lv_at hl 1 rfl) ?_
        refine lv_bipush (v := 8) hx hb dX10_round_19 (by decide) ?_
        refine lv_icmp_lt (tgt := 26) hx hb dX10_round_21 (by decide) (fun c6 => ?_) (fun c6 => ?_)
        · replace hf := hf.1 c6
          refine lv_iconst (v := 0) hx hb dX10_round_26 (by decide) ?_
          refine lv_istore_n (lv' := [(3, .int (0 : Int32)), (0, .ref (ad g a0)), (1, .int x1), (2, .int x2)]) hx hb dX10_round_27 rfl hl (by decide) rfl (fun ls hl => ?_)
          obtain ⟨n36, hf⟩ := hf
          refine w_X10_round_L28 _ _ _ _ _ E hw hs0 ?_ n36 _ _ hf _ _ _ hR hS (lv_sub hl [1, 2, 3, 0] rfl)
          intro m33 H locs ls hf hR hS hl
          refine lv_aload_n hx hb dX10_round_105 rfl (lv_at hl 0 rfl) ?_
          refine hw_callV (d := 6) E hR hS (As := []) (rest := []) cI9 hs0 rfl mcX10_tellBreakingNumbers miX10_tellBreakingNumbers lmX10_270 (ok_X10_tellBreakingNumbers hs0 hf) rfl rfl (by decide) hl.1 (Nat.le_of_ble_eq_true rfl) dX10_round_106 (fun rr m34 H locs hp hR hS => ?_)
          obtain ⟨r35, rfl, hf⟩ := hp
          refine W.eq (g2 := F0 m 109 ls [.int r35]) rfl ?_
          exact hw_iret E hR hS ⟨_, rfl, hf⟩ dX10_round_109
        · replace hf := hf.2 c6
          refine lv_iconst (v := -1) hx hb dX10_round_24 (by decide) ?_
          exact hw_iret E hR hS ⟨_, rfl, hf⟩ dX10_round_25
def f_X10_means (S : Ss) (a0 : Nat) (x1 : Int32) (x2 : Int32) (M : Mm) (K : Int32 → Mm → Prop) : Prop :=
  f_X10_refusesRuns S a0 x2 M (fun (r2 : Int32) (m1 : Mm) =>
    ((r2 = 0 →
    ((x1 < 0 →
      K (-1 : Int32) m1) ∧
     (¬ x1 < 0 →
      ((x1 ≤ (99 : Int32) →
        ∃ b6 : Nat, m1.2.2 a0 2 = some b6 ∧
        S[b6]? = some (2, 0) ∧
        ∃ b8 : Nat, m1.2.2 a0 2 = some b8 ∧
        S[b8]? = some (2, 0) ∧
        f_X10_power S  ((m1.1 b6 10) * ((m1.1 b8 13) + (1 : Int32))) x2 m1 (fun (r11 : Int64) (m10 : Mm) =>
          ((r11 ≤ (1000000000000 : Int64) →
          ∃ b13 : Nat, m10.2.2 a0 1 = some b13 ∧
          ∃ b14 : Nat, m10.2.2 a0 3 = some b14 ∧
          S[b13]? = some (8, 0) ∧
          S[b14]? = some (3, 0) ∧
          f_X9_explore S b13 b14 x2 (4000 : Int32) (2 : Int32) x1 m10 (fun (r18 : Int32) (m15 : Mm) =>
            ((r18 = 0 →
            K (-3 : Int32) m15) ∧
           (¬ r18 = 0 →
            ∃ b20 : Nat, m15.2.2 a0 1 = some b20 ∧
            S[b20]? = some (8, 0) ∧
            f_X9_weightWithout S b20 (2 : Int32) x2 100000 m15 (fun (r23 : Int64) (m21 : Mm) =>
              ∃ b24 : Nat, m21.2.2 a0 1 = some b24 ∧
            S[b24]? = some (8, 0) ∧
            f_X9_weightWithout S b24 (1 : Int32) x2 100000 m21 (fun (r27 : Int64) (m25 : Mm) =>
              ∃ b28 : Nat, m25.2.2 a0 1 = some b28 ∧
            S[b28]? = some (8, 0) ∧
            f_X9_weightWithout S b28 (3 : Int32) x2 100000 m25 (fun (r31 : Int64) (m29 : Mm) =>
              ∃ b32 : Nat, m29.2.2 a0 6 = some b32 ∧
            S[b32]? = some (6, 0) ∧
            f_X7_tellTwo S b32 (r11 - r23) (((r11 - r23) - r27) + r31) m29 (fun (m33 : Mm) =>
              K (0 : Int32) m33)))))))) ∧
         (¬ r11 ≤ (1000000000000 : Int64) →
          K (-1 : Int32) m10)))) ∧
       (¬ x1 ≤ (99 : Int32) →
        K (-1 : Int32) m1))))) ∧
   (¬ r2 = 0 →
    K (-1 : Int32) m1)))
set_option maxHeartbeats 4000000 in
set_option maxRecDepth 100000 in
theorem ok_X10_means {l : Launch} {g : Gg} {S : Ss} {a0 : Nat} {x1 : Int32} {x2 : Int32} {M : Mm} {K : Int32 → Mm → Prop} (hs0 : S[a0]? = some (9, 0)) (hf : f_X10_means S a0 x1 x2 M K) : MT l g S yX10_means cX10_means 11 (some .int) 6 [.ref (ad g a0), .int x1, .int x2] M (pI K) := by
  refine MT.of (by decide +kernel) (Nat.le_of_ble_eq_true rfl) ?_
  intro p e s m below meth c ls E hw hR hS hl
  have hl : lv_has ls 11 [(0, .ref (ad g a0)), (1, .int x1), (2, .int x2)] := hl
  generalize ([.ref (ad g a0), .int x1, .int x2] : List Value).toArray = args at E ⊢
  have E : EN p s m args meth c cX10_means 11 (some .int) RX10 g := E
  have hx := E.1
  have hb := E.2.1
  unfold f_X10_means at hf
  refine lv_aload_n hx hb dX10_means_0 rfl (lv_at hl 0 rfl) ?_
  refine lv_iload_n hx hb dX10_means_1 rfl (lv_at hl 2 rfl) ?_
  refine hw_callV (d := 6) E hR hS (As := [.int x2]) (rest := []) cI9 hs0 rfl mcX10_refusesRuns miX10_refusesRuns lmX10_194 (ok_X10_refusesRuns hs0 hf) rfl rfl (by decide) hl.1 (Nat.le_of_ble_eq_true rfl) dX10_means_2 (fun rr m1 H locs hp hR hS => ?_)
  obtain ⟨r2, rfl, hf⟩ := hp
  refine W.eq (g2 := F0 m 5 ls [.int r2]) rfl ?_
  refine lv_if_ne (tgt := 18) hx hb dX10_means_5 (by decide) (fun c3 => ?_) (fun c3 => ?_)
  · replace hf := hf.2 c3
    refine lv_iconst (v := -1) hx hb dX10_means_18 (by decide) ?_
    exact hw_iret E hR hS ⟨_, rfl, hf⟩ dX10_means_19
  · replace hf := hf.1 c3
    refine lv_iload_n hx hb dX10_means_8 rfl (lv_at hl 1 rfl) ?_
    refine lv_if_lt (tgt := 18) hx hb dX10_means_9 (by decide) (fun c4 => ?_) (fun c4 => ?_)
    · replace hf := hf.1 c4
      refine lv_iconst (v := -1) hx hb dX10_means_18 (by decide) ?_
      exact hw_iret E hR hS ⟨_, rfl, hf⟩ dX10_means_19
    · replace hf := hf.2 c4
      refine lv_iload_n hx hb dX10_means_12 rfl (lv_at hl 1 rfl) ?_
      refine lv_bipush (v := 99) hx hb dX10_means_13 (by decide) ?_
      refine lv_icmp_le (tgt := 20) hx hb dX10_means_15 (by decide) (fun c5 => ?_) (fun c5 => ?_)
      · replace hf := hf.1 c5
        refine lv_aload_n hx hb dX10_means_20 rfl (lv_at hl 0 rfl) ?_
        obtain ⟨b6, hb6, hf⟩ := hf
        refine hw_getR E hR cI9 hs0 2 (by decide) lfX10_27 rfl hb6 dX10_means_21 ?_
        obtain ⟨h7, hf⟩ := hf
        refine hw_getI E hR cI2 h7 10 (by decide) lfX10_92 rfl dX10_means_24 ?_
        refine lv_aload_n hx hb dX10_means_27 rfl (lv_at hl 0 rfl) ?_
        obtain ⟨b8, hb8, hf⟩ := hf
        refine hw_getR E hR cI9 hs0 2 (by decide) lfX10_27 rfl hb8 dX10_means_28 ?_
        obtain ⟨h9, hf⟩ := hf
        refine hw_getI E hR cI2 h9 13 (by decide) lfX10_150 rfl dX10_means_31 ?_
        refine lv_iconst (v := 1) hx hb dX10_means_34 (by decide) ?_
        refine lv_iadd hx hb dX10_means_35 ?_
        refine lv_imul hx hb dX10_means_36 ?_
        refine lv_iload_n hx hb dX10_means_37 rfl (lv_at hl 2 rfl) ?_
        refine hw_callS (d := 6) E hR hS (As := [.int ((m1.1 b6 10) * ((m1.1 b8 13) + (1 : Int32))), .int x2]) (rest := []) mcX10_power msX10_power lmX10_234 (ok_X10_power  hf) rfl rfl (by decide) hl.1 (Nat.le_of_ble_eq_true rfl) dX10_means_38 (fun rr m10 H locs hp hR hS => ?_)
        obtain ⟨r11, rfl, hf⟩ := hp
        refine W.eq (g2 := F0 m 41 ls [.long r11]) rfl ?_
        refine lv_lstore_n (lv' := [(3, .long r11), (0, .ref (ad g a0)), (1, .int x1), (2, .int x2)]) hx hb dX10_means_41 rfl hl (by decide) rfl (fun ls hl => ?_)
        refine lv_lload_n hx hb dX10_means_42 rfl (lv_at hl 0 rfl) ?_
        refine lv_ldc2 (v := 1000000000000) hx hb E.2.2.2.2.1 (E.2.2.2.2.2.1 _ ljX10_238) dX10_means_43 ?_
        refine hw_lif_le (tgt := 52) hx hb dX10_means_46 dX10_means_47 (by decide) (fun c12 => ?_) (fun c12 => ?_)
        · replace hf := hf.1 c12
          refine lv_aload_n hx hb dX10_means_52 rfl (lv_at hl 1 rfl) ?_
          obtain ⟨b13, hb13, hf⟩ := hf
          refine hw_getR E hR cI9 hs0 1 (by decide) lfX10_19 rfl hb13 dX10_means_53 ?_
          refine lv_aload_n hx hb dX10_means_56 rfl (lv_at hl 1 rfl) ?_
          obtain ⟨b14, hb14, hf⟩ := hf
          refine hw_getR E hR cI9 hs0 3 (by decide) lfX10_31 rfl hb14 dX10_means_57 ?_
          refine lv_iload_n hx hb dX10_means_60 rfl (lv_at hl 3 rfl) ?_
          refine lv_sipush (v := 4000) hx hb dX10_means_61 (by decide) ?_
          refine lv_iconst (v := 2) hx hb dX10_means_64 (by decide) ?_
          refine lv_iload_n hx hb dX10_means_65 rfl (lv_at hl 2 rfl) ?_
          obtain ⟨h16, hf⟩ := hf
          obtain ⟨h17, hf⟩ := hf
          refine hw_callV (d := 6) E hR hS (As := [.ref (ad g b14), .int x2, .int (4000 : Int32), .int (2 : Int32), .int x1]) (rest := []) cI8 h16 rfl mcX9_explore miX9_explore lmX10_213 (ok_X9_explore h16 h17 hf) rfl rfl (by decide) hl.1 (Nat.le_of_ble_eq_true rfl) dX10_means_66 (fun rr m15 H locs hp hR hS => ?_)
          obtain ⟨r18, rfl, hf⟩ := hp
          refine W.eq (g2 := F0 m 69 ls [.int r18]) rfl ?_
          refine lv_if_ne (tgt := 75) hx hb dX10_means_69 (by decide) (fun c19 => ?_) (fun c19 => ?_)
          · replace hf := hf.2 c19
            refine lv_aload_n hx hb dX10_means_75 rfl (lv_at hl 1 rfl) ?_
            obtain ⟨b20, hb20, hf⟩ := hf
            refine hw_getR E hR cI9 hs0 1 (by decide) lfX10_19 rfl hb20 dX10_means_76 ?_
            refine lv_iconst (v := 2) hx hb dX10_means_79 (by decide) ?_
            refine lv_iload_n hx hb dX10_means_80 rfl (lv_at hl 3 rfl) ?_
            refine va_gets hx hb E.2.2.2.2.2.2.2.2.1 hS E.2.2.2.2.1 (E.2.2.2.2.2.1 _ lsX10_240) (fun _ h => h) dX10_means_81 ?_
            obtain ⟨h22, hf⟩ := hf
            refine hw_callV (d := 6) E hR hS (As := [.int (2 : Int32), .int x2, .ref (ad g 100000)]) (rest := []) cI8 h22 rfl mcX9_weightWithout miX9_weightWithout lmX10_243 (ok_X9_weightWithout h22 hf) rfl rfl (by decide) hl.1 (Nat.le_of_ble_eq_true rfl) dX10_means_84 (fun rr m21 H locs hp hR hS => ?_)
            obtain ⟨r23, rfl, hf⟩ := hp
            refine W.eq (g2 := F0 m 87 ls [.long r23]) rfl ?_
            refine lv_lstore (lv' := [(5, .long r23), (3, .long r11), (0, .ref (ad g a0)), (1, .int x1), (2, .int x2)]) hx hb dX10_means_87 hl (by decide) rfl (fun ls hl => ?_)
            refine lv_aload_n hx hb dX10_means_89 rfl (lv_at hl 2 rfl) ?_
            obtain ⟨b24, hb24, hf⟩ := hf
            refine hw_getR E hR cI9 hs0 1 (by decide) lfX10_19 rfl hb24 dX10_means_90 ?_
            refine lv_iconst (v := 1) hx hb dX10_means_93 (by decide) ?_
            refine lv_iload_n hx hb dX10_means_94 rfl (lv_at hl 4 rfl) ?_
            refine va_gets hx hb E.2.2.2.2.2.2.2.2.1 hS E.2.2.2.2.1 (E.2.2.2.2.2.1 _ lsX10_240) (fun _ h => h) dX10_means_95 ?_
            obtain ⟨h26, hf⟩ := hf
            refine hw_callV (d := 6) E hR hS (As := [.int (1 : Int32), .int x2, .ref (ad g 100000)]) (rest := []) cI8 h26 rfl mcX9_weightWithout miX9_weightWithout lmX10_243 (ok_X9_weightWithout h26 hf) rfl rfl (by decide) hl.1 (Nat.le_of_ble_eq_true rfl) dX10_means_98 (fun rr m25 H locs hp hR hS => ?_)
            obtain ⟨r27, rfl, hf⟩ := hp
            refine W.eq (g2 := F0 m 101 ls [.long r27]) rfl ?_
            refine lv_lstore (lv' := [(7, .long r27), (5, .long r23), (3, .long r11), (0, .ref (ad g a0)), (1, .int x1), (2, .int x2)]) hx hb dX10_means_101 hl (by decide) rfl (fun ls hl => ?_)
            refine lv_aload_n hx hb dX10_means_103 rfl (lv_at hl 3 rfl) ?_
            obtain ⟨b28, hb28, hf⟩ := hf
            refine hw_getR E hR cI9 hs0 1 (by decide) lfX10_19 rfl hb28 dX10_means_104 ?_
            refine lv_iconst (v := 3) hx hb dX10_means_107 (by decide) ?_
            refine lv_iload_n hx hb dX10_means_108 rfl (lv_at hl 5 rfl) ?_
            refine va_gets hx hb E.2.2.2.2.2.2.2.2.1 hS E.2.2.2.2.1 (E.2.2.2.2.2.1 _ lsX10_240) (fun _ h => h) dX10_means_109 ?_
            obtain ⟨h30, hf⟩ := hf
            refine hw_callV (d := 6) E hR hS (As := [.int (3 : Int32), .int x2, .ref (ad g 100000)]) (rest := []) cI8 h30 rfl mcX9_weightWithout miX9_weightWithout lmX10_243 (ok_X9_weightWithout h30 hf) rfl rfl (by decide) hl.1 (Nat.le_of_ble_eq_true rfl) dX10_means_112 (fun rr m29 H locs hp hR hS => ?_)
            obtain ⟨r31, rfl, hf⟩ := hp
            refine W.eq (g2 := F0 m 115 ls [.long r31]) rfl ?_
            refine lv_lstore (lv' := [(9, .long r31), (7, .long r27), (5, .long r23), (3, .long r11), (0, .ref (ad g a0)), (1, .int x1), (2, .int x2)]) hx hb dX10_means_115 hl (by decide) rfl (fun ls hl => ?_)
            refine lv_aload_n hx hb dX10_means_117 rfl (lv_at hl 4 rfl) ?_
            obtain ⟨b32, hb32, hf⟩ := hf
            refine hw_getR E hR cI9 hs0 6 (by decide) lfX10_45 rfl hb32 dX10_means_118 ?_
            refine lv_lload_n hx hb dX10_means_121 rfl (lv_at hl 3 rfl) ?_
            refine lv_lload hx hb dX10_means_122 (lv_at hl 2 rfl) ?_
            refine lv_lsub hx hb dX10_means_124 ?_
            refine lv_lload_n hx hb dX10_means_125 rfl (lv_at hl 3 rfl) ?_
            refine lv_lload hx hb dX10_means_126 (lv_at hl 2 rfl) ?_
            refine lv_lsub hx hb dX10_means_128 ?_
            refine lv_lload hx hb dX10_means_129 (lv_at hl 1 rfl) ?_
            refine lv_lsub hx hb dX10_means_131 ?_
            refine lv_lload hx hb dX10_means_132 (lv_at hl 0 rfl) ?_
            refine lv_ladd hx hb dX10_means_134 ?_
            obtain ⟨h34, hf⟩ := hf
            refine hw_callV (d := 6) E hR hS (As := [.long (r11 - r23), .long (((r11 - r23) - r27) + r31)]) (rest := []) cI6 h34 rfl mcX7_tellTwo miX7_tellTwo lmX10_247 (ok_X7_tellTwo h34 hf) rfl rfl (by decide) hl.1 (Nat.le_of_ble_eq_true rfl) dX10_means_135 (fun rr m33 H locs hp hR hS => ?_)
            obtain ⟨rfl, hf⟩ := hp
            refine W.eq (g2 := F0 m 138 ls []) rfl ?_
            refine lv_iconst (v := 0) hx hb dX10_means_138 (by decide) ?_
            exact hw_iret E hR hS ⟨_, rfl, hf⟩ dX10_means_139
          · replace hf := hf.1 c19
            refine lv_bipush (v := -3) hx hb dX10_means_72 (by decide) ?_
            exact hw_iret E hR hS ⟨_, rfl, hf⟩ dX10_means_74
        · replace hf := hf.2 c12
          refine lv_iconst (v := -1) hx hb dX10_means_50 (by decide) ?_
          exact hw_iret E hR hS ⟨_, rfl, hf⟩ dX10_means_51
      · replace hf := hf.2 c5
        refine lv_iconst (v := -1) hx hb dX10_means_18 (by decide) ?_
        exact hw_iret E hR hS ⟨_, rfl, hf⟩ dX10_means_19
def f_X10_hid (S : Ss) (a0 : Nat) (x1 : Int32) (x2 : Int32) (M : Mm) (K : Int32 → Mm → Prop) : Prop :=
  f_X10_refusesRuns S a0 x2 M (fun (r2 : Int32) (m1 : Mm) =>
    ((r2 = 0 →
    ((x1 < 0 →
      K (-1 : Int32) m1) ∧
     (¬ x1 < 0 →
      ∃ b5 : Nat, m1.2.2 a0 2 = some b5 ∧
      S[b5]? = some (2, 0) ∧
      ((x1 < (m1.1 b5 11) →
        ∃ b8 : Nat, m1.2.2 a0 2 = some b8 ∧
        S[b8]? = some (2, 0) ∧
        ((((m1.1 b8 14) &&& ((1 : Int32) <<< (x1 &&& 31))) = 0 →
          K (-1 : Int32) m1) ∧
         (¬ ((m1.1 b8 14) &&& ((1 : Int32) <<< (x1 &&& 31))) = 0 →
          ∃ b11 : Nat, m1.2.2 a0 1 = some b11 ∧
          ∃ b12 : Nat, m1.2.2 a0 3 = some b12 ∧
          S[b11]? = some (8, 0) ∧
          S[b12]? = some (3, 0) ∧
          f_X9_explore S b11 b12 x2 (4000 : Int32) (3 : Int32) x1 m1 (fun (r16 : Int32) (m13 : Mm) =>
            ((r16 = 0 →
            K (-3 : Int32) m13) ∧
           (¬ r16 = 0 →
            ∃ b18 : Nat, m13.2.2 a0 1 = some b18 ∧
            S[b18]? = some (8, 0) ∧
            f_X10_tellStepsTo S a0 (m13.1 b18 15) m13 (fun (r21 : Int32) (m20 : Mm) =>
              K r21 m20))))))) ∧
       (¬ x1 < (m1.1 b5 11) →
        K (-1 : Int32) m1))))) ∧
   (¬ r2 = 0 →
    K (-1 : Int32) m1)))
set_option maxHeartbeats 4000000 in
set_option maxRecDepth 100000 in
theorem ok_X10_hid {l : Launch} {g : Gg} {S : Ss} {a0 : Nat} {x1 : Int32} {x2 : Int32} {M : Mm} {K : Int32 → Mm → Prop} (hs0 : S[a0]? = some (9, 0)) (hf : f_X10_hid S a0 x1 x2 M K) : MT l g S yX10_hid cX10_hid 3 (some .int) 6 [.ref (ad g a0), .int x1, .int x2] M (pI K) := by
  refine MT.of (by decide +kernel) (Nat.le_of_ble_eq_true rfl) ?_
  intro p e s m below meth c ls E hw hR hS hl
  have hl : lv_has ls 3 [(0, .ref (ad g a0)), (1, .int x1), (2, .int x2)] := hl
  generalize ([.ref (ad g a0), .int x1, .int x2] : List Value).toArray = args at E ⊢
  have E : EN p s m args meth c cX10_hid 3 (some .int) RX10 g := E
  have hx := E.1
  have hb := E.2.1
  unfold f_X10_hid at hf
  refine lv_aload_n hx hb dX10_hid_0 rfl (lv_at hl 0 rfl) ?_
  refine lv_iload_n hx hb dX10_hid_1 rfl (lv_at hl 2 rfl) ?_
  refine hw_callV (d := 6) E hR hS (As := [.int x2]) (rest := []) cI9 hs0 rfl mcX10_refusesRuns miX10_refusesRuns lmX10_194 (ok_X10_refusesRuns hs0 hf) rfl rfl (by decide) hl.1 (Nat.le_of_ble_eq_true rfl) dX10_hid_2 (fun rr m1 H locs hp hR hS => ?_)
  obtain ⟨r2, rfl, hf⟩ := hp
  refine W.eq (g2 := F0 m 5 ls [.int r2]) rfl ?_
  refine lv_if_ne (tgt := 23) hx hb dX10_hid_5 (by decide) (fun c3 => ?_) (fun c3 => ?_)
  · replace hf := hf.2 c3
    refine lv_iconst (v := -1) hx hb dX10_hid_23 (by decide) ?_
    exact hw_iret E hR hS ⟨_, rfl, hf⟩ dX10_hid_24
  · replace hf := hf.1 c3
    refine lv_iload_n hx hb dX10_hid_8 rfl (lv_at hl 1 rfl) ?_
    refine lv_if_lt (tgt := 23) hx hb dX10_hid_9 (by decide) (fun c4 => ?_) (fun c4 => ?_)
    · replace hf := hf.1 c4
      refine lv_iconst (v := -1) hx hb dX10_hid_23 (by decide) ?_
      exact hw_iret E hR hS ⟨_, rfl, hf⟩ dX10_hid_24
    · replace hf := hf.2 c4
      refine lv_iload_n hx hb dX10_hid_12 rfl (lv_at hl 1 rfl) ?_
      refine lv_aload_n hx hb dX10_hid_13 rfl (lv_at hl 0 rfl) ?_
      obtain ⟨b5, hb5, hf⟩ := hf
      refine hw_getR E hR cI9 hs0 2 (by decide) lfX10_27 rfl hb5 dX10_hid_14 ?_
      obtain ⟨h6, hf⟩ := hf
      refine hw_getI E hR cI2 h6 11 (by decide) lfX10_132 rfl dX10_hid_17 ?_
      refine lv_icmp_lt (tgt := 25) hx hb dX10_hid_20 (by decide) (fun c7 => ?_) (fun c7 => ?_)
      · replace hf := hf.1 c7
        refine lv_aload_n hx hb dX10_hid_25 rfl (lv_at hl 0 rfl) ?_
        obtain ⟨b8, hb8, hf⟩ := hf
        refine hw_getR E hR cI9 hs0 2 (by decide) lfX10_27 rfl hb8 dX10_hid_26 ?_
        obtain ⟨h9, hf⟩ := hf
        refine hw_getI E hR cI2 h9 14 (by decide) lfX10_138 rfl dX10_hid_29 ?_
        refine lv_iconst (v := 1) hx hb dX10_hid_32 (by decide) ?_
        refine lv_iload_n hx hb dX10_hid_33 rfl (lv_at hl 1 rfl) ?_
        refine lv_ishl hx hb dX10_hid_34 ?_
        refine lv_iand hx hb dX10_hid_35 ?_
        refine lv_if_ne (tgt := 41) hx hb dX10_hid_36 (by decide) (fun c10 => ?_) (fun c10 => ?_)
        · replace hf := hf.2 c10
          refine lv_aload_n hx hb dX10_hid_41 rfl (lv_at hl 0 rfl) ?_
          obtain ⟨b11, hb11, hf⟩ := hf
          refine hw_getR E hR cI9 hs0 1 (by decide) lfX10_19 rfl hb11 dX10_hid_42 ?_
          refine lv_aload_n hx hb dX10_hid_45 rfl (lv_at hl 0 rfl) ?_
          obtain ⟨b12, hb12, hf⟩ := hf
          refine hw_getR E hR cI9 hs0 3 (by decide) lfX10_31 rfl hb12 dX10_hid_46 ?_
          refine lv_iload_n hx hb dX10_hid_49 rfl (lv_at hl 2 rfl) ?_
          refine lv_sipush (v := 4000) hx hb dX10_hid_50 (by decide) ?_
          refine lv_iconst (v := 3) hx hb dX10_hid_53 (by decide) ?_
          refine lv_iload_n hx hb dX10_hid_54 rfl (lv_at hl 1 rfl) ?_
          obtain ⟨h14, hf⟩ := hf
          obtain ⟨h15, hf⟩ := hf
          refine hw_callV (d := 6) E hR hS (As := [.ref (ad g b12), .int x2, .int (4000 : Int32), .int (3 : Int32), .int x1]) (rest := []) cI8 h14 rfl mcX9_explore miX9_explore lmX10_213 (ok_X9_explore h14 h15 hf) rfl rfl (by decide) hl.1 (Nat.le_of_ble_eq_true rfl) dX10_hid_55 (fun rr m13 H locs hp hR hS => ?_)
          obtain ⟨r16, rfl, hf⟩ := hp
          refine W.eq (g2 := F0 m 58 ls [.int r16]) rfl ?_
          refine lv_if_ne (tgt := 64) hx hb dX10_hid_58 (by decide) (fun c17 => ?_) (fun c17 => ?_)
          · replace hf := hf.2 c17
            refine lv_aload_n hx hb dX10_hid_64 rfl (lv_at hl 0 rfl) ?_
            refine lv_aload_n hx hb dX10_hid_65 rfl (lv_at hl 0 rfl) ?_
            obtain ⟨b18, hb18, hf⟩ := hf
            refine hw_getR E hR cI9 hs0 1 (by decide) lfX10_19 rfl hb18 dX10_hid_66 ?_
            obtain ⟨h19, hf⟩ := hf
            refine hw_getI E hR cI8 h19 15 (by decide) lfX10_218 rfl dX10_hid_69 ?_
            refine hw_callV (d := 6) E hR hS (As := [.int (m13.1 b18 15)]) (rest := []) cI9 hs0 rfl mcX10_tellStepsTo miX10_tellStepsTo lmX10_207 (ok_X10_tellStepsTo hs0 hf) rfl rfl (by decide) hl.1 (Nat.le_of_ble_eq_true rfl) dX10_hid_72 (fun rr m20 H locs hp hR hS => ?_)
            obtain ⟨r21, rfl, hf⟩ := hp
            refine W.eq (g2 := F0 m 75 ls [.int r21]) rfl ?_
            exact hw_iret E hR hS ⟨_, rfl, hf⟩ dX10_hid_75
          · replace hf := hf.1 c17
            refine lv_bipush (v := -3) hx hb dX10_hid_61 (by decide) ?_
            exact hw_iret E hR hS ⟨_, rfl, hf⟩ dX10_hid_63
        · replace hf := hf.1 c10
          refine lv_iconst (v := -1) hx hb dX10_hid_39 (by decide) ?_
          exact hw_iret E hR hS ⟨_, rfl, hf⟩ dX10_hid_40
      · replace hf := hf.2 c7
        refine lv_iconst (v := -1) hx hb dX10_hid_23 (by decide) ?_
        exact hw_iret E hR hS ⟨_, rfl, hf⟩ dX10_hid_24
def f_X10_useSet (S : Ss) (a0 : Nat) (x1 : Int32) (x2 : Int32) (M : Mm) (K : Mm → Prop) : Prop :=
  ((x1 = 0 →
    ∃ b11 : Nat, M.2.2 a0 2 = some b11 ∧
    S[b11]? = some (2, 0) ∧
    ∀ m13 : Mm, m13 = stI M b11 14 x2 →
    K m13) ∧
   (¬ x1 = 0 →
    ((x1 = (1 : Int32) →
      ∃ b8 : Nat, M.2.2 a0 2 = some b8 ∧
      S[b8]? = some (2, 0) ∧
      f_X3_usePatches S b8 x2 M (fun (m9 : Mm) =>
        K m9)) ∧
     (¬ x1 = (1 : Int32) →
      ∃ b3 : Nat, M.2.2 a0 7 = some b3 ∧
      ∃ b4 : Nat, M.2.2 a0 2 = some b4 ∧
      S[b4]? = some (2, 0) ∧
      S[b3]? = some (7, 0) ∧
      f_X8_prepare S b3 x2 (M.1 b4 13) M (fun (m6 : Mm) =>
        K m6)))))
set_option maxHeartbeats 4000000 in
set_option maxRecDepth 100000 in
theorem ok_X10_useSet {l : Launch} {g : Gg} {S : Ss} {a0 : Nat} {x1 : Int32} {x2 : Int32} {M : Mm} {K : Mm → Prop} (hs0 : S[a0]? = some (9, 0)) (hf : f_X10_useSet S a0 x1 x2 M K) : MT l g S yX10_useSet cX10_useSet 3 none 1 [.ref (ad g a0), .int x1, .int x2] M (pV K) := by
  refine MT.of (by decide +kernel) (Nat.le_of_ble_eq_true rfl) ?_
  intro p e s m below meth c ls E hw hR hS hl
  have hl : lv_has ls 3 [(0, .ref (ad g a0)), (1, .int x1), (2, .int x2)] := hl
  generalize ([.ref (ad g a0), .int x1, .int x2] : List Value).toArray = args at E ⊢
  have E : EN p s m args meth c cX10_useSet 3 none RX10 g := E
  have hx := E.1
  have hb := E.2.1
  unfold f_X10_useSet at hf
  refine lv_iload_n hx hb dX10_useSet_0 rfl (lv_at hl 1 rfl) ?_
  refine lv_if_ne (tgt := 15) hx hb dX10_useSet_1 (by decide) (fun c1 => ?_) (fun c1 => ?_)
  · replace hf := hf.2 c1
    refine lv_iload_n hx hb dX10_useSet_15 rfl (lv_at hl 1 rfl) ?_
    refine lv_iconst (v := 1) hx hb dX10_useSet_16 (by decide) ?_
    refine lv_icmp_ne (tgt := 31) hx hb dX10_useSet_17 (by decide) (fun c2 => ?_) (fun c2 => ?_)
    · replace hf := hf.2 c2
      refine lv_aload_n hx hb dX10_useSet_31 rfl (lv_at hl 0 rfl) ?_
      obtain ⟨b3, hb3, hf⟩ := hf
      refine hw_getR E hR cI9 hs0 7 (by decide) lfX10_52 rfl hb3 dX10_useSet_32 ?_
      refine lv_iload_n hx hb dX10_useSet_35 rfl (lv_at hl 2 rfl) ?_
      refine lv_aload_n hx hb dX10_useSet_36 rfl (lv_at hl 0 rfl) ?_
      obtain ⟨b4, hb4, hf⟩ := hf
      refine hw_getR E hR cI9 hs0 2 (by decide) lfX10_27 rfl hb4 dX10_useSet_37 ?_
      obtain ⟨h5, hf⟩ := hf
      refine hw_getI E hR cI2 h5 13 (by decide) lfX10_150 rfl dX10_useSet_40 ?_
      obtain ⟨h7, hf⟩ := hf
      refine hw_callV (d := 1) E hR hS (As := [.int x2, .int (M.1 b4 13)]) (rest := []) cI7 h7 rfl mcX8_prepare miX8_prepare lmX10_358 (ok_X8_prepare h7 hf) rfl rfl (by decide) hl.1 (Nat.le_of_ble_eq_true rfl) dX10_useSet_43 (fun rr m6 H locs hp hR hS => ?_)
      obtain ⟨rfl, hf⟩ := hp
      refine W.eq (g2 := F0 m 46 ls []) rfl ?_
      exact hw_vret E hR hS ⟨rfl, hf⟩ dX10_useSet_46
    · replace hf := hf.1 c2
      refine lv_aload_n hx hb dX10_useSet_20 rfl (lv_at hl 0 rfl) ?_
      obtain ⟨b8, hb8, hf⟩ := hf
      refine hw_getR E hR cI9 hs0 2 (by decide) lfX10_27 rfl hb8 dX10_useSet_21 ?_
      refine lv_iload_n hx hb dX10_useSet_24 rfl (lv_at hl 2 rfl) ?_
      obtain ⟨h10, hf⟩ := hf
      refine hw_callV (d := 1) E hR hS (As := [.int x2]) (rest := []) cI2 h10 rfl mcX3_usePatches miX3_usePatches lmX10_289 (ok_X3_usePatches h10 hf) rfl rfl (by decide) hl.1 (Nat.le_of_ble_eq_true rfl) dX10_useSet_25 (fun rr m9 H locs hp hR hS => ?_)
      obtain ⟨rfl, hf⟩ := hp
      refine W.eq (g2 := F0 m 28 ls []) rfl ?_
      refine lv_goto (tgt := 46) hx hb dX10_useSet_28 (by decide) ?_
      exact hw_vret E hR hS ⟨rfl, hf⟩ dX10_useSet_46
  · replace hf := hf.1 c1
    refine lv_aload_n hx hb dX10_useSet_4 rfl (lv_at hl 0 rfl) ?_
    obtain ⟨b11, hb11, hf⟩ := hf
    refine hw_getR E hR cI9 hs0 2 (by decide) lfX10_27 rfl hb11 dX10_useSet_5 ?_
    refine lv_iload_n hx hb dX10_useSet_8 rfl (lv_at hl 2 rfl) ?_
    obtain ⟨h12, hf⟩ := hf
    refine hw_putI E hR hS hw cI2 h12 14 (by decide) lfX10_138 rfl (Or.inl rfl) dX10_useSet_9 (fun m13 H locs em13 hR hS => ?_)
    replace hf := hf m13 em13
    refine lv_goto (tgt := 46) hx hb dX10_useSet_12 (by decide) ?_
    exact hw_vret E hR hS ⟨rfl, hf⟩ dX10_useSet_46
def f_X10_fewest_J125 (S : Ss) (a0 : Nat) (x1 : Int32) (x2 : Int32) (x3 : Int32) (x4 : Int32) (x5 : Int32) (x6 : Int32) (x7 : Int32) (t0 : Int32) (M : Mm) (BK38 : Int32 → Mm → Prop) (K : Int32 → Mm → Prop) : Prop :=
  ((t0 = 0 →
    K (-3 : Int32) M) ∧
   (¬ t0 = 0 →
    ∃ b20 : Nat, M.2.2 a0 1 = some b20 ∧
    S[b20]? = some (8, 0) ∧
    ((0 ≤ (M.1 b20 14) →
      ∀ v23 : Int32, v23 = x7 + (1 : Int32) →
      BK38 v23 M) ∧
     (¬ 0 ≤ (M.1 b20 14) →
      ∃ b24 : Nat, M.2.2 a0 6 = some b24 ∧
      S[b24]? = some (6, 0) ∧
      f_X7_tellOne S b24 x7.toInt64 M (fun (m25 : Mm) =>
        K x6 m25)))))
set_option maxHeartbeats 4000000 in
set_option maxRecDepth 100000 in
theorem w_X10_fewest_J125 {p : Program} {l : Launch} {e : Env} {s : State} {m : MethodId} {args : Array Value} {below : List Frame} {meth : Method} {c : Code} {g : Gg} {S : Ss} (a0 : Nat) (x1 : Int32) (x2 : Int32) (x3 : Int32) (x4 : Int32) (x5 : Int32) (x6 : Int32) (x7 : Int32) (t0 : Int32) (M : Mm) (BK38 : Int32 → Mm → Prop) (K : Int32 → Mm → Prop) (E : EN p s m args meth c cX10_fewest 9 (some .int) RX10 g) (hw : ad g 100000 < s.heap.size) (hs0 : S[a0]? = some (9, 0)) (hBK38 : ∀ (x7' : Int32) (M' : Mm) (H : Heap) (locs : List Loc) (ls : Array Slot), BK38 x7' M' → RP g S M' H → va_S (gA g) s.heap H locs → lv_has ls 9 [(0, .ref (ad g a0)), (1, .int x1), (2, .int x2), (3, .int x3), (4, .int x4), (5, .int x5), (6, .int x6), (7, .int x7')] → W p l e (rmD 6) s m args below meth c H locs 0 0 (MQ below (QA g S (pI K)) args s 0 0 (gA g)) (F0 m 38 ls [])) (hf : f_X10_fewest_J125 S a0 x1 x2 x3 x4 x5 x6 x7 t0 M BK38 K) (H : Heap) (locs : List Loc) (ls : Array Slot) (hR : RP g S M H) (hS : va_S (gA g) s.heap H locs) (hl : lv_has ls 9 [(0, .ref (ad g a0)), (1, .int x1), (2, .int x2), (3, .int x3), (4, .int x4), (5, .int x5), (6, .int x6), (7, .int x7)]) : W p l e (rmD 6) s m args below meth c H locs 0 0 (MQ below (QA g S (pI K)) args s 0 0 (gA g)) (F0 m 125 ls [.int t0]) := by
  have hx := E.1
  have hb := E.2.1
  unfold f_X10_fewest_J125 at hf
  refine lv_istore (lv' := [(8, .int t0), (0, .ref (ad g a0)), (1, .int x1), (2, .int x2), (3, .int x3), (4, .int x4), (5, .int x5), (6, .int x6), (7, .int x7)]) hx hb dX10_fewest_125 hl (by decide) rfl (fun ls hl => ?_)
  refine lv_iload hx hb dX10_fewest_127 (lv_at hl 0 rfl) ?_
  refine lv_if_ne (tgt := 135) hx hb dX10_fewest_129 (by decide) (fun c19 => ?_) (fun c19 => ?_)
  · replace hf := hf.2 c19
    refine lv_aload_n hx hb dX10_fewest_135 rfl (lv_at hl 1 rfl) ?_
    obtain ⟨b20, hb20, hf⟩ := hf
    refine hw_getR E hR cI9 hs0 1 (by decide) lfX10_19 rfl hb20 dX10_fewest_136 ?_
    obtain ⟨h21, hf⟩ := hf
    refine hw_getI E hR cI8 h21 14 (by decide) lfX10_204 rfl dX10_fewest_139 ?_
    refine lv_if_ge (tgt := 158) hx hb dX10_fewest_142 (by decide) (fun c22 => ?_) (fun c22 => ?_)
    · replace hf := hf.1 c22
      obtain ⟨v23, ev23⟩ : ∃ y : Int32, y = x7 + (1 : Int32) := ⟨_, rfl⟩
      replace hf := hf v23 ev23
      refine lv_iinc (v := v23) (lv' := [(7, .int v23), (8, .int t0), (0, .ref (ad g a0)), (1, .int x1), (2, .int x2), (3, .int x3), (4, .int x4), (5, .int x5), (6, .int x6)]) hx hb dX10_fewest_158 hl (k := 8) rfl (by rw [ev23]; rfl) (by decide) rfl (fun ls hl => ?_)
      refine lv_goto (tgt := 38) hx hb dX10_fewest_161 (by decide) ?_
      exact hBK38 _ _ _ _ _ hf hR hS (lv_sub hl [2, 3, 4, 5, 6, 7, 8, 0] rfl)
    · replace hf := hf.2 c22
      refine lv_aload_n hx hb dX10_fewest_145 rfl (lv_at hl 1 rfl) ?_
      obtain ⟨b24, hb24, hf⟩ := hf
      refine hw_getR E hR cI9 hs0 6 (by decide) lfX10_45 rfl hb24 dX10_fewest_146 ?_
      refine lv_iload hx hb dX10_fewest_149 (lv_at hl 8 rfl) ?_
      refine lv_i2l hx hb dX10_fewest_151 rfl ?_
      obtain ⟨h26, hf⟩ := hf
      refine hw_callV (d := 6) E hR hS (As := [.long x7.toInt64]) (rest := []) cI6 h26 rfl mcX7_tellOne miX7_tellOne lmX10_190 (ok_X7_tellOne h26 hf) rfl rfl (by decide) hl.1 (Nat.le_of_ble_eq_true rfl) dX10_fewest_152 (fun rr m25 H locs hp hR hS => ?_)
      obtain ⟨rfl, hf⟩ := hp
      refine W.eq (g2 := F0 m 155 ls []) rfl ?_
      refine lv_iload hx hb dX10_fewest_155 (lv_at hl 7 rfl) ?_
      exact hw_iret E hR hS ⟨_, rfl, hf⟩ dX10_fewest_157
  · replace hf := hf.1 c19
    refine lv_bipush (v := -3) hx hb dX10_fewest_132 (by decide) ?_
    exact hw_iret E hR hS ⟨_, rfl, hf⟩ dX10_fewest_134
def f_X10_fewest_B38 (S : Ss) (a0 : Nat) (x1 : Int32) (x2 : Int32) (x3 : Int32) (x4 : Int32) (x5 : Int32) (x6 : Int32) (x7 : Int32) (M : Mm) (BK38 : Int32 → Mm → Prop) (EK38 : Mm → Prop) (K : Int32 → Mm → Prop) : Prop :=
  ((x4 ≤ x7 →
    EK38 M) ∧
   (¬ x4 ≤ x7 →
    f_J6_bitCount_0f7a4 S  x7 M (fun (r7 : Int32) (m6 : Mm) =>
      ((r7 = x6 →
      (((x7 &&& (x5 ^^^ (-1 : Int32))) = 0 →
        f_X10_useSet S a0 x1 x7 m6 (fun (m11 : Mm) =>
          ((x1 = (2 : Int32) →
          ∃ b27 : Nat, m11.2.2 a0 1 = some b27 ∧
          ∃ b28 : Nat, m11.2.2 a0 3 = some b28 ∧
          ∃ b29 : Nat, m11.2.2 a0 7 = some b29 ∧
          S[b29]? = some (7, 0) ∧
          ∃ b31 : Nat, m11.2.2 b29 1 = some b31 ∧
          ∃ b32 : Nat, m11.2.2 a0 7 = some b32 ∧
          S[b32]? = some (7, 0) ∧
          S[b27]? = some (8, 0) ∧
          S[b28]? = some (3, 0) ∧
          f_X9_follow S b27 b28 b31 (m11.1 b32 2) m11 (fun (r37 : Int32) (m34 : Mm) =>
            f_X10_fewest_J125 S a0 x1 x2 x3 x4 x5 x6 x7 r37 m34 BK38 K)) ∧
         (¬ x1 = (2 : Int32) →
          ∃ b13 : Nat, m11.2.2 a0 1 = some b13 ∧
          ∃ b14 : Nat, m11.2.2 a0 3 = some b14 ∧
          S[b13]? = some (8, 0) ∧
          S[b14]? = some (3, 0) ∧
          f_X9_explore S b13 b14 x2 (4000 : Int32) (0 : Int32) (0 : Int32) m11 (fun (r18 : Int32) (m15 : Mm) =>
            f_X10_fewest_J125 S a0 x1 x2 x3 x4 x5 x6 x7 r18 m15 BK38 K))))) ∧
       (¬ (x7 &&& (x5 ^^^ (-1 : Int32))) = 0 →
        ∀ v38 : Int32, v38 = x7 + (1 : Int32) →
        BK38 v38 m6))) ∧
     (¬ r7 = x6 →
      ∀ v9 : Int32, v9 = x7 + (1 : Int32) →
      BK38 v9 m6)))))
set_option maxHeartbeats 4000000 in
set_option maxRecDepth 100000 in
theorem w_X10_fewest_B38 {p : Program} {l : Launch} {e : Env} {s : State} {m : MethodId} {args : Array Value} {below : List Frame} {meth : Method} {c : Code} {g : Gg} {S : Ss} (a0 : Nat) (x1 : Int32) (x2 : Int32) (x3 : Int32) (x4 : Int32) (x5 : Int32) (x6 : Int32) (x7 : Int32) (M : Mm) (BK38 : Int32 → Mm → Prop) (EK38 : Mm → Prop) (K : Int32 → Mm → Prop) (E : EN p s m args meth c cX10_fewest 9 (some .int) RX10 g) (hw : ad g 100000 < s.heap.size) (hs0 : S[a0]? = some (9, 0)) (hBK38 : ∀ (x7' : Int32) (M' : Mm) (H : Heap) (locs : List Loc) (ls : Array Slot), BK38 x7' M' → RP g S M' H → va_S (gA g) s.heap H locs → lv_has ls 9 [(0, .ref (ad g a0)), (1, .int x1), (2, .int x2), (3, .int x3), (4, .int x4), (5, .int x5), (6, .int x6), (7, .int x7')] → W p l e (rmD 6) s m args below meth c H locs 0 0 (MQ below (QA g S (pI K)) args s 0 0 (gA g)) (F0 m 38 ls [])) (hEK38 : ∀ (M' : Mm) (H : Heap) (locs : List Loc) (ls : Array Slot), EK38 M' → RP g S M' H → va_S (gA g) s.heap H locs → lv_has ls 9 [(0, .ref (ad g a0)), (1, .int x1), (2, .int x2), (3, .int x3), (4, .int x4), (5, .int x5), (6, .int x6)] → W p l e (rmD 6) s m args below meth c H locs 0 0 (MQ below (QA g S (pI K)) args s 0 0 (gA g)) (F0 m 164 ls [])) (hf : f_X10_fewest_B38 S a0 x1 x2 x3 x4 x5 x6 x7 M BK38 EK38 K) (H : Heap) (locs : List Loc) (ls : Array Slot) (hR : RP g S M H) (hS : va_S (gA g) s.heap H locs) (hl : lv_has ls 9 [(0, .ref (ad g a0)), (1, .int x1), (2, .int x2), (3, .int x3), (4, .int x4), (5, .int x5), (6, .int x6), (7, .int x7)]) : W p l e (rmD 6) s m args below meth c H locs 0 0 (MQ below (QA g S (pI K)) args s 0 0 (gA g)) (F0 m 38 ls []) := by
  have hx := E.1
  have hb := E.2.1
  unfold f_X10_fewest_B38 at hf
  refine lv_iload hx hb dX10_fewest_38 (lv_at hl 7 rfl) ?_
  refine lv_iload hx hb dX10_fewest_40 (lv_at hl 4 rfl) ?_
  refine lv_icmp_ge (tgt := 164) hx hb dX10_fewest_42 (by decide) (fun c5 => ?_) (fun c5 => ?_)
  · replace hf := hf.1 c5
    exact hEK38  _ _ _ _ hf hR hS (lv_sub hl [0, 1, 2, 3, 4, 5, 6] rfl)
  · replace hf := hf.2 c5
    refine lv_iload hx hb dX10_fewest_45 (lv_at hl 7 rfl) ?_
    refine hw_callS (d := 6) E hR hS (As := [.int x7]) (rest := []) mcJ6_bitCount_0f7a4 msJ6_bitCount_0f7a4 lmX10_378 (ok_J6_bitCount_0f7a4  hf) rfl rfl (by decide) hl.1 (Nat.le_of_ble_eq_true rfl) dX10_fewest_47 (fun rr m6 H locs hp hR hS => ?_)
    obtain ⟨r7, rfl, hf⟩ := hp
    refine W.eq (g2 := F0 m 50 ls [.int r7]) rfl ?_
    refine lv_iload hx hb dX10_fewest_50 (lv_at hl 6 rfl) ?_
    refine lv_icmp_ne (tgt := 158) hx hb dX10_fewest_52 (by decide) (fun c8 => ?_) (fun c8 => ?_)
    · replace hf := hf.2 c8
      obtain ⟨v9, ev9⟩ : ∃ y : Int32, y = x7 + (1 : Int32) := ⟨_, rfl⟩
      replace hf := hf v9 ev9
      refine lv_iinc (v := v9) (lv' := [(7, .int v9), (0, .ref (ad g a0)), (1, .int x1), (2, .int x2), (3, .int x3), (4, .int x4), (5, .int x5), (6, .int x6)]) hx hb dX10_fewest_158 hl (k := 7) rfl (by rw [ev9]; rfl) (by decide) rfl (fun ls hl => ?_)
      refine lv_goto (tgt := 38) hx hb dX10_fewest_161 (by decide) ?_
      exact hBK38 _ _ _ _ _ hf hR hS (lv_sub hl [1, 2, 3, 4, 5, 6, 7, 0] rfl)
    · replace hf := hf.1 c8
      refine lv_iload hx hb dX10_fewest_55 (lv_at hl 7 rfl) ?_
      refine lv_iload hx hb dX10_fewest_57 (lv_at hl 5 rfl) ?_
      refine lv_iconst (v := -1) hx hb dX10_fewest_59 (by decide) ?_
      refine lv_ixor hx hb dX10_fewest_60 ?_
      refine lv_iand hx hb dX10_fewest_61 ?_
      refine lv_if_eq (tgt := 68) hx hb dX10_fewest_62 (by decide) (fun c10 => ?_) (fun c10 => ?_)
      · replace hf := hf.1 c10
        refine lv_aload_n hx hb dX10_fewest_68 rfl (lv_at hl 0 rfl) ?_
        refine lv_iload_n hx hb dX10_fewest_69 rfl (lv_at hl 1 rfl) ?_
        refine lv_iload hx hb dX10_fewest_70 (lv_at hl 7 rfl) ?_
        refine hw_callV (d := 6) E hR hS (As := [.int x1, .int x7]) (rest := []) cI9 hs0 rfl mcX10_useSet miX10_useSet lmX10_383 (ok_X10_useSet hs0 hf) rfl rfl (by decide) hl.1 (Nat.le_of_ble_eq_true rfl) dX10_fewest_72 (fun rr m11 H locs hp hR hS => ?_)
        obtain ⟨rfl, hf⟩ := hp
        refine W.eq (g2 := F0 m 75 ls []) rfl ?_
        refine lv_iload_n hx hb dX10_fewest_75 rfl (lv_at hl 1 rfl) ?_
        refine lv_iconst (v := 2) hx hb dX10_fewest_76 (by decide) ?_
        refine lv_icmp_ne (tgt := 108) hx hb dX10_fewest_77 (by decide) (fun c12 => ?_) (fun c12 => ?_)
        · replace hf := hf.2 c12
          refine lv_aload_n hx hb dX10_fewest_108 rfl (lv_at hl 0 rfl) ?_
          obtain ⟨b13, hb13, hf⟩ := hf
          refine hw_getR E hR cI9 hs0 1 (by decide) lfX10_19 rfl hb13 dX10_fewest_109 ?_
          refine lv_aload_n hx hb dX10_fewest_112 rfl (lv_at hl 0 rfl) ?_
          obtain ⟨b14, hb14, hf⟩ := hf
          refine hw_getR E hR cI9 hs0 3 (by decide) lfX10_31 rfl hb14 dX10_fewest_113 ?_
          refine lv_iload_n hx hb dX10_fewest_116 rfl (lv_at hl 2 rfl) ?_
          refine lv_sipush (v := 4000) hx hb dX10_fewest_117 (by decide) ?_
          refine lv_iconst (v := 0) hx hb dX10_fewest_120 (by decide) ?_
          refine lv_iconst (v := 0) hx hb dX10_fewest_121 (by decide) ?_
          obtain ⟨h16, hf⟩ := hf
          obtain ⟨h17, hf⟩ := hf
          refine hw_callV (d := 6) E hR hS (As := [.ref (ad g b14), .int x2, .int (4000 : Int32), .int (0 : Int32), .int (0 : Int32)]) (rest := []) cI8 h16 rfl mcX9_explore miX9_explore lmX10_213 (ok_X9_explore h16 h17 hf) rfl rfl (by decide) hl.1 (Nat.le_of_ble_eq_true rfl) dX10_fewest_122 (fun rr m15 H locs hp hR hS => ?_)
          obtain ⟨r18, rfl, hf⟩ := hp
          refine W.eq (g2 := F0 m 125 ls [.int r18]) rfl ?_
          exact w_X10_fewest_J125 _ _ _ _ _ _ _ _ _ _ _ _ E hw hs0 hBK38 hf _ _ _ hR hS (lv_sub hl [0, 1, 2, 3, 4, 5, 6, 7] rfl)
        · replace hf := hf.1 c12
          refine lv_aload_n hx hb dX10_fewest_80 rfl (lv_at hl 0 rfl) ?_
          obtain ⟨b27, hb27, hf⟩ := hf
          refine hw_getR E hR cI9 hs0 1 (by decide) lfX10_19 rfl hb27 dX10_fewest_81 ?_
          refine lv_aload_n hx hb dX10_fewest_84 rfl (lv_at hl 0 rfl) ?_
          obtain ⟨b28, hb28, hf⟩ := hf
          refine hw_getR E hR cI9 hs0 3 (by decide) lfX10_31 rfl hb28 dX10_fewest_85 ?_
          refine lv_aload_n hx hb dX10_fewest_88 rfl (lv_at hl 0 rfl) ?_
          obtain ⟨b29, hb29, hf⟩ := hf
          refine hw_getR E hR cI9 hs0 7 (by decide) lfX10_52 rfl hb29 dX10_fewest_89 ?_
          obtain ⟨h30, hf⟩ := hf
          obtain ⟨b31, hb31, hf⟩ := hf
          refine hw_getR E hR cI7 h30 1 (by decide) lfX10_361 rfl hb31 dX10_fewest_92 ?_
          refine lv_aload_n hx hb dX10_fewest_95 rfl (lv_at hl 0 rfl) ?_
          obtain ⟨b32, hb32, hf⟩ := hf
          refine hw_getR E hR cI9 hs0 7 (by decide) lfX10_52 rfl hb32 dX10_fewest_96 ?_
          obtain ⟨h33, hf⟩ := hf
          refine hw_getI E hR cI7 h33 2 (by decide) lfX10_293 rfl dX10_fewest_99 ?_
          obtain ⟨h35, hf⟩ := hf
          obtain ⟨h36, hf⟩ := hf
          refine hw_callV (d := 6) E hR hS (As := [.ref (ad g b28), .ref (ad g b31), .int (m11.1 b32 2)]) (rest := []) cI8 h35 rfl mcX9_follow miX9_follow lmX10_364 (ok_X9_follow h35 h36 hf) rfl rfl (by decide) hl.1 (Nat.le_of_ble_eq_true rfl) dX10_fewest_102 (fun rr m34 H locs hp hR hS => ?_)
          obtain ⟨r37, rfl, hf⟩ := hp
          refine W.eq (g2 := F0 m 105 ls [.int r37]) rfl ?_
          refine lv_goto (tgt := 125) hx hb dX10_fewest_105 (by decide) ?_
          exact w_X10_fewest_J125 _ _ _ _ _ _ _ _ _ _ _ _ E hw hs0 hBK38 hf _ _ _ hR hS (lv_sub hl [0, 1, 2, 3, 4, 5, 6, 7] rfl)
      · replace hf := hf.2 c10
        refine lv_goto (tgt := 158) hx hb dX10_fewest_65 (by decide) ?_
        obtain ⟨v38, ev38⟩ : ∃ y : Int32, y = x7 + (1 : Int32) := ⟨_, rfl⟩
        replace hf := hf v38 ev38
        refine lv_iinc (v := v38) (lv' := [(7, .int v38), (0, .ref (ad g a0)), (1, .int x1), (2, .int x2), (3, .int x3), (4, .int x4), (5, .int x5), (6, .int x6)]) hx hb dX10_fewest_158 hl (k := 7) rfl (by rw [ev38]; rfl) (by decide) rfl (fun ls hl => ?_)
        refine lv_goto (tgt := 38) hx hb dX10_fewest_161 (by decide) ?_
        exact hBK38 _ _ _ _ _ hf hR hS (lv_sub hl [1, 2, 3, 4, 5, 6, 7, 0] rfl)
def f_X10_fewest_L38 (S : Ss) (a0 : Nat) (x1 : Int32) (x2 : Int32) (x3 : Int32) (x4 : Int32) (x5 : Int32) (x6 : Int32) (EK38 : Mm → Prop) (K : Int32 → Mm → Prop) : Nat → Int32 → Mm → Prop
  | 0, _, _ => False
  | n + 1, x7, M => f_X10_fewest_B38 S a0 x1 x2 x3 x4 x5 x6 x7 M (fun (x7 : Int32) (M : Mm) => f_X10_fewest_L38 S a0 x1 x2 x3 x4 x5 x6 EK38 K n x7 M) EK38 K
set_option maxHeartbeats 4000000 in
set_option maxRecDepth 100000 in
theorem w_X10_fewest_L38 {p : Program} {l : Launch} {e : Env} {s : State} {m : MethodId} {args : Array Value} {below : List Frame} {meth : Method} {c : Code} {g : Gg} {S : Ss} (a0 : Nat) (x1 : Int32) (x2 : Int32) (x3 : Int32) (x4 : Int32) (x5 : Int32) (x6 : Int32) (EK38 : Mm → Prop) (K : Int32 → Mm → Prop) (E : EN p s m args meth c cX10_fewest 9 (some .int) RX10 g) (hw : ad g 100000 < s.heap.size) (hs0 : S[a0]? = some (9, 0)) (hEK38 : ∀ (M' : Mm) (H : Heap) (locs : List Loc) (ls : Array Slot), EK38 M' → RP g S M' H → va_S (gA g) s.heap H locs → lv_has ls 9 [(0, .ref (ad g a0)), (1, .int x1), (2, .int x2), (3, .int x3), (4, .int x4), (5, .int x5), (6, .int x6)] → W p l e (rmD 6) s m args below meth c H locs 0 0 (MQ below (QA g S (pI K)) args s 0 0 (gA g)) (F0 m 164 ls [])) : ∀ (n : Nat) (x7 : Int32) (M : Mm), f_X10_fewest_L38 S a0 x1 x2 x3 x4 x5 x6 EK38 K n x7 M → ∀ (H : Heap) (locs : List Loc) (ls : Array Slot), RP g S M H → va_S (gA g) s.heap H locs → lv_has ls 9 [(0, .ref (ad g a0)), (1, .int x1), (2, .int x2), (3, .int x3), (4, .int x4), (5, .int x5), (6, .int x6), (7, .int x7)] → W p l e (rmD 6) s m args below meth c H locs 0 0 (MQ below (QA g S (pI K)) args s 0 0 (gA g)) (F0 m 38 ls []) := by
  intro n
  induction n with
  | zero => intro x7 M hf; exact hf.elim
  | succ n ih =>
    intro x7 M hf H locs ls hR hS hl
    exact w_X10_fewest_B38 _ _ _ _ _ _ _ _ _ _ _ _ E hw hs0 (fun _ M H locs ls h hR hS hl => ih _ M h H locs ls hR hS hl) hEK38 hf H locs ls hR hS hl
def f_X10_fewest_B29 (S : Ss) (a0 : Nat) (x1 : Int32) (x2 : Int32) (x3 : Int32) (x4 : Int32) (x5 : Int32) (x6 : Int32) (M : Mm) (BK29 : Int32 → Mm → Prop) (EK29 : Mm → Prop) (K : Int32 → Mm → Prop) : Prop :=
  ((x3 < x6 →
    EK29 M) ∧
   (¬ x3 < x6 →
    ∃ n41 : Nat, f_X10_fewest_L38 S a0 x1 x2 x3 x4 x5 x6 (fun (m39 : Mm) =>
      ∀ v40 : Int32, v40 = x6 + (1 : Int32) →
      BK29 v40 m39) K n41 (0 : Int32) M))
set_option maxHeartbeats 4000000 in
set_option maxRecDepth 100000 in
theorem w_X10_fewest_B29 {p : Program} {l : Launch} {e : Env} {s : State} {m : MethodId} {args : Array Value} {below : List Frame} {meth : Method} {c : Code} {g : Gg} {S : Ss} (a0 : Nat) (x1 : Int32) (x2 : Int32) (x3 : Int32) (x4 : Int32) (x5 : Int32) (x6 : Int32) (M : Mm) (BK29 : Int32 → Mm → Prop) (EK29 : Mm → Prop) (K : Int32 → Mm → Prop) (E : EN p s m args meth c cX10_fewest 9 (some .int) RX10 g) (hw : ad g 100000 < s.heap.size) (hs0 : S[a0]? = some (9, 0)) (hBK29 : ∀ (x6' : Int32) (M' : Mm) (H : Heap) (locs : List Loc) (ls : Array Slot), BK29 x6' M' → RP g S M' H → va_S (gA g) s.heap H locs → lv_has ls 9 [(0, .ref (ad g a0)), (1, .int x1), (2, .int x2), (3, .int x3), (4, .int x4), (5, .int x5), (6, .int x6')] → W p l e (rmD 6) s m args below meth c H locs 0 0 (MQ below (QA g S (pI K)) args s 0 0 (gA g)) (F0 m 29 ls [])) (hEK29 : ∀ (M' : Mm) (H : Heap) (locs : List Loc) (ls : Array Slot), EK29 M' → RP g S M' H → va_S (gA g) s.heap H locs → lv_has ls 9 [] → W p l e (rmD 6) s m args below meth c H locs 0 0 (MQ below (QA g S (pI K)) args s 0 0 (gA g)) (F0 m 170 ls [])) (hf : f_X10_fewest_B29 S a0 x1 x2 x3 x4 x5 x6 M BK29 EK29 K) (H : Heap) (locs : List Loc) (ls : Array Slot) (hR : RP g S M H) (hS : va_S (gA g) s.heap H locs) (hl : lv_has ls 9 [(0, .ref (ad g a0)), (1, .int x1), (2, .int x2), (3, .int x3), (4, .int x4), (5, .int x5), (6, .int x6)]) : W p l e (rmD 6) s m args below meth c H locs 0 0 (MQ below (QA g S (pI K)) args s 0 0 (gA g)) (F0 m 29 ls []) := by
  have hx := E.1
  have hb := E.2.1
  unfold f_X10_fewest_B29 at hf
  refine lv_iload hx hb dX10_fewest_29 (lv_at hl 6 rfl) ?_
  refine lv_iload_n hx hb dX10_fewest_31 rfl (lv_at hl 3 rfl) ?_
  refine lv_icmp_gt (tgt := 170) hx hb dX10_fewest_32 (by decide) (fun c4 => ?_) (fun c4 => ?_)
  · replace hf := hf.1 c4
    exact hEK29  _ _ _ _ hf hR hS (lv_sub hl [] rfl)
  · replace hf := hf.2 c4
    refine lv_iconst (v := 0) hx hb dX10_fewest_35 (by decide) ?_
    refine lv_istore (lv' := [(7, .int (0 : Int32)), (0, .ref (ad g a0)), (1, .int x1), (2, .int x2), (3, .int x3), (4, .int x4), (5, .int x5), (6, .int x6)]) hx hb dX10_fewest_36 hl (by decide) rfl (fun ls hl => ?_)
    obtain ⟨n41, hf⟩ := hf
    refine w_X10_fewest_L38 _ _ _ _ _ _ _ _ _ E hw hs0 ?_ n41 _ _ hf _ _ _ hR hS (lv_sub hl [1, 2, 3, 4, 5, 6, 7, 0] rfl)
    intro m39 H locs ls hf hR hS hl
    obtain ⟨v40, ev40⟩ : ∃ y : Int32, y = x6 + (1 : Int32) := ⟨_, rfl⟩
    replace hf := hf v40 ev40
    refine lv_iinc (v := v40) (lv' := [(6, .int v40), (0, .ref (ad g a0)), (1, .int x1), (2, .int x2), (3, .int x3), (4, .int x4), (5, .int x5)]) hx hb dX10_fewest_164 hl (k := 6) rfl (by rw [ev40]; rfl) (by decide) rfl (fun ls hl => ?_)
    refine lv_goto (tgt := 29) hx hb dX10_fewest_167 (by decide) ?_
    exact hBK29 _ _ _ _ _ hf hR hS (lv_sub hl [1, 2, 3, 4, 5, 6, 0] rfl)
def f_X10_fewest_L29 (S : Ss) (a0 : Nat) (x1 : Int32) (x2 : Int32) (x3 : Int32) (x4 : Int32) (x5 : Int32) (EK29 : Mm → Prop) (K : Int32 → Mm → Prop) : Nat → Int32 → Mm → Prop
  | 0, _, _ => False
  | n + 1, x6, M => f_X10_fewest_B29 S a0 x1 x2 x3 x4 x5 x6 M (fun (x6 : Int32) (M : Mm) => f_X10_fewest_L29 S a0 x1 x2 x3 x4 x5 EK29 K n x6 M) EK29 K
set_option maxHeartbeats 4000000 in
set_option maxRecDepth 100000 in
theorem w_X10_fewest_L29 {p : Program} {l : Launch} {e : Env} {s : State} {m : MethodId} {args : Array Value} {below : List Frame} {meth : Method} {c : Code} {g : Gg} {S : Ss} (a0 : Nat) (x1 : Int32) (x2 : Int32) (x3 : Int32) (x4 : Int32) (x5 : Int32) (EK29 : Mm → Prop) (K : Int32 → Mm → Prop) (E : EN p s m args meth c cX10_fewest 9 (some .int) RX10 g) (hw : ad g 100000 < s.heap.size) (hs0 : S[a0]? = some (9, 0)) (hEK29 : ∀ (M' : Mm) (H : Heap) (locs : List Loc) (ls : Array Slot), EK29 M' → RP g S M' H → va_S (gA g) s.heap H locs → lv_has ls 9 [] → W p l e (rmD 6) s m args below meth c H locs 0 0 (MQ below (QA g S (pI K)) args s 0 0 (gA g)) (F0 m 170 ls [])) : ∀ (n : Nat) (x6 : Int32) (M : Mm), f_X10_fewest_L29 S a0 x1 x2 x3 x4 x5 EK29 K n x6 M → ∀ (H : Heap) (locs : List Loc) (ls : Array Slot), RP g S M H → va_S (gA g) s.heap H locs → lv_has ls 9 [(0, .ref (ad g a0)), (1, .int x1), (2, .int x2), (3, .int x3), (4, .int x4), (5, .int x5), (6, .int x6)] → W p l e (rmD 6) s m args below meth c H locs 0 0 (MQ below (QA g S (pI K)) args s 0 0 (gA g)) (F0 m 29 ls []) := by
  intro n
  induction n with
  | zero => intro x6 M hf; exact hf.elim
  | succ n ih =>
    intro x6 M hf H locs ls hR hS hl
    exact w_X10_fewest_B29 _ _ _ _ _ _ _ _ _ _ _ E hw hs0 (fun _ M H locs ls h hR hS hl => ih _ M h H locs ls hR hS hl) hEK29 hf H locs ls hR hS hl
def f_X10_fewest (S : Ss) (a0 : Nat) (x1 : Int32) (x2 : Int32) (x3 : Int32) (M : Mm) (K : Int32 → Mm → Prop) : Prop :=
  ∀ v1 : Int32, v1 = ((1 : Int32) <<< (x3 &&& 31)) →
  ((x1 = (2 : Int32) →
    ∃ b44 : Nat, M.2.2 a0 7 = some b44 ∧
    S[b44]? = some (7, 0) ∧
    f_X8_typedBits S b44  M (fun (r47 : Int32) (m45 : Mm) =>
      ∃ n49 : Nat, f_X10_fewest_L29 S a0 x1 x2 x3 v1 r47 (fun (m48 : Mm) =>
      K (-2 : Int32) m48) K n49 (0 : Int32) m45)) ∧
   (¬ x1 = (2 : Int32) →
    ∀ v3 : Int32, v3 = (v1 - (1 : Int32)) →
    ∃ n43 : Nat, f_X10_fewest_L29 S a0 x1 x2 x3 v1 v3 (fun (m42 : Mm) =>
      K (-2 : Int32) m42) K n43 (0 : Int32) M))
set_option maxHeartbeats 4000000 in
set_option maxRecDepth 100000 in
theorem ok_X10_fewest {l : Launch} {g : Gg} {S : Ss} {a0 : Nat} {x1 : Int32} {x2 : Int32} {x3 : Int32} {M : Mm} {K : Int32 → Mm → Prop} (hs0 : S[a0]? = some (9, 0)) (hf : f_X10_fewest S a0 x1 x2 x3 M K) : MT l g S yX10_fewest cX10_fewest 9 (some .int) 6 [.ref (ad g a0), .int x1, .int x2, .int x3] M (pI K) := by
  refine MT.of (by decide +kernel) (Nat.le_of_ble_eq_true rfl) ?_
  intro p e s m below meth c ls E hw hR hS hl
  have hl : lv_has ls 9 [(0, .ref (ad g a0)), (1, .int x1), (2, .int x2), (3, .int x3)] := hl
  generalize ([.ref (ad g a0), .int x1, .int x2, .int x3] : List Value).toArray = args at E ⊢
  have E : EN p s m args meth c cX10_fewest 9 (some .int) RX10 g := E
  have hx := E.1
  have hb := E.2.1
  unfold f_X10_fewest at hf
  refine lv_iconst (v := 1) hx hb dX10_fewest_0 (by decide) ?_
  refine lv_iload_n hx hb dX10_fewest_1 rfl (lv_at hl 3 rfl) ?_
  refine lv_ishl hx hb dX10_fewest_2 ?_
  refine lv_topi (fun v1 ev1 => ?_)
  replace hf := hf v1 ev1
  refine lv_istore (lv' := [(4, .int v1), (0, .ref (ad g a0)), (1, .int x1), (2, .int x2), (3, .int x3)]) hx hb dX10_fewest_3 hl (by decide) rfl (fun ls hl => ?_)
  refine lv_iload_n hx hb dX10_fewest_5 rfl (lv_at hl 2 rfl) ?_
  refine lv_iconst (v := 2) hx hb dX10_fewest_6 (by decide) ?_
  refine lv_icmp_ne (tgt := 20) hx hb dX10_fewest_7 (by decide) (fun c2 => ?_) (fun c2 => ?_)
  · replace hf := hf.2 c2
    refine lv_iload hx hb dX10_fewest_20 (lv_at hl 0 rfl) ?_
    refine lv_iconst (v := 1) hx hb dX10_fewest_22 (by decide) ?_
    refine lv_isub hx hb dX10_fewest_23 ?_
    refine lv_topi (fun v3 ev3 => ?_)
    replace hf := hf v3 ev3
    refine lv_istore (lv' := [(5, .int v3), (4, .int v1), (0, .ref (ad g a0)), (1, .int x1), (2, .int x2), (3, .int x3)]) hx hb dX10_fewest_24 hl (by decide) rfl (fun ls hl => ?_)
    refine lv_iconst (v := 0) hx hb dX10_fewest_26 (by decide) ?_
    refine lv_istore (lv' := [(6, .int (0 : Int32)), (5, .int v3), (4, .int v1), (0, .ref (ad g a0)), (1, .int x1), (2, .int x2), (3, .int x3)]) hx hb dX10_fewest_27 hl (by decide) rfl (fun ls hl => ?_)
    obtain ⟨n43, hf⟩ := hf
    refine w_X10_fewest_L29 _ _ _ _ _ _ _ _ E hw hs0 ?_ n43 _ _ hf _ _ _ hR hS (lv_sub hl [3, 4, 5, 6, 2, 1, 0] rfl)
    intro m42 H locs ls hf hR hS hl
    refine lv_bipush (v := -2) hx hb dX10_fewest_170 (by decide) ?_
    exact hw_iret E hR hS ⟨_, rfl, hf⟩ dX10_fewest_172
  · replace hf := hf.1 c2
    refine lv_aload_n hx hb dX10_fewest_10 rfl (lv_at hl 1 rfl) ?_
    obtain ⟨b44, hb44, hf⟩ := hf
    refine hw_getR E hR cI9 hs0 7 (by decide) lfX10_52 rfl hb44 dX10_fewest_11 ?_
    obtain ⟨h46, hf⟩ := hf
    refine hw_callV (d := 6) E hR hS (As := []) (rest := []) cI7 h46 rfl mcX8_typedBits miX8_typedBits lmX10_375 (ok_X8_typedBits h46 hf) rfl rfl (by decide) hl.1 (Nat.le_of_ble_eq_true rfl) dX10_fewest_14 (fun rr m45 H locs hp hR hS => ?_)
    obtain ⟨r47, rfl, hf⟩ := hp
    refine W.eq (g2 := F0 m 17 ls [.int r47]) rfl ?_
    refine lv_goto (tgt := 24) hx hb dX10_fewest_17 (by decide) ?_
    refine lv_istore (lv' := [(5, .int r47), (4, .int v1), (0, .ref (ad g a0)), (1, .int x1), (2, .int x2), (3, .int x3)]) hx hb dX10_fewest_24 hl (by decide) rfl (fun ls hl => ?_)
    refine lv_iconst (v := 0) hx hb dX10_fewest_26 (by decide) ?_
    refine lv_istore (lv' := [(6, .int (0 : Int32)), (5, .int r47), (4, .int v1), (0, .ref (ad g a0)), (1, .int x1), (2, .int x2), (3, .int x3)]) hx hb dX10_fewest_27 hl (by decide) rfl (fun ls hl => ?_)
    obtain ⟨n49, hf⟩ := hf
    refine w_X10_fewest_L29 _ _ _ _ _ _ _ _ E hw hs0 ?_ n49 _ _ hf _ _ _ hR hS (lv_sub hl [3, 4, 5, 6, 2, 1, 0] rfl)
    intro m48 H locs ls hf hR hS hl
    refine lv_bipush (v := -2) hx hb dX10_fewest_170 (by decide) ?_
    exact hw_iret E hR hS ⟨_, rfl, hf⟩ dX10_fewest_172
def f_X10_iron (S : Ss) (a0 : Nat) (x1 : Int32) (M : Mm) (K : Int32 → Mm → Prop) : Prop :=
  f_X10_refusesRuns S a0 x1 M (fun (r2 : Int32) (m1 : Mm) =>
    ((r2 = 0 →
    ∃ b4 : Nat, m1.2.2 a0 2 = some b4 ∧
    S[b4]? = some (2, 0) ∧
    ∀ v6 : Int32, v6 = (m1.1 b4 14) →
    ∃ b7 : Nat, m1.2.2 a0 2 = some b7 ∧
    S[b7]? = some (2, 0) ∧
    f_X10_fewest S a0 (0 : Int32) x1 (m1.1 b7 11) m1 (fun (r10 : Int32) (m9 : Mm) =>
      ∃ b11 : Nat, m9.2.2 a0 2 = some b11 ∧
    S[b11]? = some (2, 0) ∧
    ∀ m13 : Mm, m13 = stI m9 b11 14 v6 →
    K r10 m13)) ∧
   (¬ r2 = 0 →
    K (-1 : Int32) m1)))
set_option maxHeartbeats 4000000 in
set_option maxRecDepth 100000 in
theorem ok_X10_iron {l : Launch} {g : Gg} {S : Ss} {a0 : Nat} {x1 : Int32} {M : Mm} {K : Int32 → Mm → Prop} (hs0 : S[a0]? = some (9, 0)) (hf : f_X10_iron S a0 x1 M K) : MT l g S yX10_iron cX10_iron 4 (some .int) 7 [.ref (ad g a0), .int x1] M (pI K) := by
  refine MT.of (by decide +kernel) (Nat.le_of_ble_eq_true rfl) ?_
  intro p e s m below meth c ls E hw hR hS hl
  have hl : lv_has ls 4 [(0, .ref (ad g a0)), (1, .int x1)] := hl
  generalize ([.ref (ad g a0), .int x1] : List Value).toArray = args at E ⊢
  have E : EN p s m args meth c cX10_iron 4 (some .int) RX10 g := E
  have hx := E.1
  have hb := E.2.1
  unfold f_X10_iron at hf
  refine lv_aload_n hx hb dX10_iron_0 rfl (lv_at hl 0 rfl) ?_
  refine lv_iload_n hx hb dX10_iron_1 rfl (lv_at hl 1 rfl) ?_
  refine hw_callV (d := 7) E hR hS (As := [.int x1]) (rest := []) cI9 hs0 rfl mcX10_refusesRuns miX10_refusesRuns lmX10_194 (ok_X10_refusesRuns hs0 hf) rfl rfl (by decide) hl.1 (Nat.le_of_ble_eq_true rfl) dX10_iron_2 (fun rr m1 H locs hp hR hS => ?_)
  obtain ⟨r2, rfl, hf⟩ := hp
  refine W.eq (g2 := F0 m 5 ls [.int r2]) rfl ?_
  refine lv_if_eq (tgt := 10) hx hb dX10_iron_5 (by decide) (fun c3 => ?_) (fun c3 => ?_)
  · replace hf := hf.1 c3
    refine lv_aload_n hx hb dX10_iron_10 rfl (lv_at hl 0 rfl) ?_
    obtain ⟨b4, hb4, hf⟩ := hf
    refine hw_getR E hR cI9 hs0 2 (by decide) lfX10_27 rfl hb4 dX10_iron_11 ?_
    obtain ⟨h5, hf⟩ := hf
    refine hw_getI E hR cI2 h5 14 (by decide) lfX10_138 rfl dX10_iron_14 ?_
    refine lv_topi (fun v6 ev6 => ?_)
    replace hf := hf v6 ev6
    refine lv_istore_n (lv' := [(2, .int v6), (0, .ref (ad g a0)), (1, .int x1)]) hx hb dX10_iron_17 rfl hl (by decide) rfl (fun ls hl => ?_)
    refine lv_aload_n hx hb dX10_iron_18 rfl (lv_at hl 1 rfl) ?_
    refine lv_iconst (v := 0) hx hb dX10_iron_19 (by decide) ?_
    refine lv_iload_n hx hb dX10_iron_20 rfl (lv_at hl 2 rfl) ?_
    refine lv_aload_n hx hb dX10_iron_21 rfl (lv_at hl 1 rfl) ?_
    obtain ⟨b7, hb7, hf⟩ := hf
    refine hw_getR E hR cI9 hs0 2 (by decide) lfX10_27 rfl hb7 dX10_iron_22 ?_
    obtain ⟨h8, hf⟩ := hf
    refine hw_getI E hR cI2 h8 11 (by decide) lfX10_132 rfl dX10_iron_25 ?_
    refine hw_callV (d := 7) E hR hS (As := [.int (0 : Int32), .int x1, .int (m1.1 b7 11)]) (rest := []) cI9 hs0 rfl mcX10_fewest miX10_fewest lmX10_273 (ok_X10_fewest hs0 hf) rfl rfl (by decide) hl.1 (Nat.le_of_ble_eq_true rfl) dX10_iron_28 (fun rr m9 H locs hp hR hS => ?_)
    obtain ⟨r10, rfl, hf⟩ := hp
    refine W.eq (g2 := F0 m 31 ls [.int r10]) rfl ?_
    refine lv_istore_n (lv' := [(3, .int r10), (2, .int v6), (0, .ref (ad g a0)), (1, .int x1)]) hx hb dX10_iron_31 rfl hl (by decide) rfl (fun ls hl => ?_)
    refine lv_aload_n hx hb dX10_iron_32 rfl (lv_at hl 2 rfl) ?_
    obtain ⟨b11, hb11, hf⟩ := hf
    refine hw_getR E hR cI9 hs0 2 (by decide) lfX10_27 rfl hb11 dX10_iron_33 ?_
    refine lv_iload_n hx hb dX10_iron_36 rfl (lv_at hl 1 rfl) ?_
    obtain ⟨h12, hf⟩ := hf
    refine hw_putI E hR hS hw cI2 h12 14 (by decide) lfX10_138 rfl (Or.inl rfl) dX10_iron_37 (fun m13 H locs em13 hR hS => ?_)
    replace hf := hf m13 em13
    refine lv_iload_n hx hb dX10_iron_40 rfl (lv_at hl 0 rfl) ?_
    exact hw_iret E hR hS ⟨_, rfl, hf⟩ dX10_iron_41
  · replace hf := hf.2 c3
    refine lv_iconst (v := -1) hx hb dX10_iron_8 (by decide) ?_
    exact hw_iret E hR hS ⟨_, rfl, hf⟩ dX10_iron_9
def f_X10_patch (S : Ss) (a0 : Nat) (x1 : Int32) (x2 : Int32) (M : Mm) (K : Int32 → Mm → Prop) : Prop :=
  f_X10_takeText S a0  M (fun (r2 : Int32) (m1 : Mm) =>
    ∃ b3 : Nat, m1.2.2 a0 2 = some b3 ∧
  S[b3]? = some (2, 0) ∧
  ∀ v5 : Int32, v5 = (m1.1 b3 12) →
  ((x1 < 0 →
    K (-100 : Int32) m1) ∧
   (¬ x1 < 0 →
    ∃ b7 : Nat, m1.2.2 a0 2 = some b7 ∧
    S[b7]? = some (2, 0) ∧
    (((m1.1 b7 10) ≤ x1 →
      K (-100 : Int32) m1) ∧
     (¬ (m1.1 b7 10) ≤ x1 →
      ((v5 < (5 : Int32) →
        ((x2 < 0 →
          K (-100 : Int32) m1) ∧
         (¬ x2 < 0 →
          ∃ b12 : Nat, m1.2.2 a0 2 = some b12 ∧
          S[b12]? = some (2, 0) ∧
          ∃ b14 : Nat, m1.2.2 b12 0 = some b14 ∧
          ∃ n15 : Nat, S[b14]? = some (55, n15) ∧ vp_in x1 n15 ∧
          ∃ b16 : Nat, m1.2.2 b14 x1.toNatClampNeg = some b16 ∧
          S[b16]? = some (4, 0) ∧
          ((x2 < (m1.1 b16 6) →
            ∃ b19 : Nat, m1.2.2 a0 0 = some b19 ∧
            S[b19]? = some (5, 0) ∧
            f_X6_readLines S b19 r2 (1 : Int32) m1 (fun (r22 : Int32) (m20 : Mm) =>
              ((r22 < 0 →
              ∃ b24 : Nat, m20.2.2 a0 2 = some b24 ∧
              S[b24]? = some (2, 0) ∧
              ∃ b26 : Nat, m20.2.2 b24 2 = some b26 ∧
              ∃ b27 : Nat, m20.2.2 a0 0 = some b27 ∧
              ∃ b28 : Nat, m20.2.2 a0 2 = some b28 ∧
              S[b28]? = some (2, 0) ∧
              ∃ b30 : Nat, m20.2.2 b28 2 = some b30 ∧
              ∃ n31 : Nat, S[b30]? = some (55, n31) ∧ vp_in v5 n31 ∧
              ∃ b32 : Nat, m20.2.2 b30 v5.toNatClampNeg = some b32 ∧
              S[b27]? = some (5, 0) ∧
              S[b32]? = some (4, 0) ∧
              f_X6_exchange S b27 b32 m20 (fun (r36 : Nat) (m33 : Mm) =>
                S[r36]? = some (4, 0) ∧
              ∃ n37 : Nat, S[b26]? = some (55, n37) ∧ vp_in v5 n37 ∧
              ∀ m38 : Mm, m38 = stR m33 b26 v5.toNatClampNeg (some r36) →
              ∃ b40 : Nat, m38.2.2 a0 2 = some b40 ∧
              S[b40]? = some (2, 0) ∧
              ∃ b42 : Nat, m38.2.2 b40 3 = some b42 ∧
              ∃ n43 : Nat, S[b42]? = some (50, n43) ∧ vp_in v5 n43 ∧
              ∀ m44 : Mm, m44 = stI m38 b42 v5.toNatClampNeg x1 →
              ∃ b45 : Nat, m44.2.2 a0 2 = some b45 ∧
              S[b45]? = some (2, 0) ∧
              ∃ b47 : Nat, m44.2.2 b45 4 = some b47 ∧
              ∃ n48 : Nat, S[b47]? = some (50, n48) ∧ vp_in v5 n48 ∧
              ∀ m49 : Mm, m49 = stI m44 b47 v5.toNatClampNeg x2 →
              ∃ b50 : Nat, m49.2.2 a0 2 = some b50 ∧
              S[b50]? = some (2, 0) ∧
              ∀ m52 : Mm, m52 = stI m49 b50 12 ((m49.1 b50 12) + (1 : Int32)) →
              K v5 m52)) ∧
             (¬ r22 < 0 →
              K ((-1 : Int32) - r22) m20)))) ∧
           (¬ x2 < (m1.1 b16 6) →
            K (-100 : Int32) m1))))) ∧
       (¬ v5 < (5 : Int32) →
        K (-100 : Int32) m1)))))))
set_option maxHeartbeats 4000000 in
set_option maxRecDepth 100000 in
theorem ok_X10_patch {l : Launch} {g : Gg} {S : Ss} {a0 : Nat} {x1 : Int32} {x2 : Int32} {M : Mm} {K : Int32 → Mm → Prop} (hs0 : S[a0]? = some (9, 0)) (hf : f_X10_patch S a0 x1 x2 M K) : MT l g S yX10_patch cX10_patch 6 (some .int) 7 [.ref (ad g a0), .int x1, .int x2] M (pI K) := by
  refine MT.of (by decide +kernel) (Nat.le_of_ble_eq_true rfl) ?_
  intro p e s m below meth c ls E hw hR hS hl
  have hl : lv_has ls 6 [(0, .ref (ad g a0)), (1, .int x1), (2, .int x2)] := hl
  generalize ([.ref (ad g a0), .int x1, .int x2] : List Value).toArray = args at E ⊢
  have E : EN p s m args meth c cX10_patch 6 (some .int) RX10 g := E
  have hx := E.1
  have hb := E.2.1
  unfold f_X10_patch at hf
  refine lv_aload_n hx hb dX10_patch_0 rfl (lv_at hl 0 rfl) ?_
  refine hw_callV (d := 7) E hR hS (As := []) (rest := []) cI9 hs0 rfl mcX10_takeText miX10_takeText lmX10_88 (ok_X10_takeText hs0 hf) rfl rfl (by decide) hl.1 (Nat.le_of_ble_eq_true rfl) dX10_patch_1 (fun rr m1 H locs hp hR hS => ?_)
  obtain ⟨r2, rfl, hf⟩ := hp
  refine W.eq (g2 := F0 m 4 ls [.int r2]) rfl ?_
  refine lv_istore_n (lv' := [(3, .int r2), (0, .ref (ad g a0)), (1, .int x1), (2, .int x2)]) hx hb dX10_patch_4 rfl hl (by decide) rfl (fun ls hl => ?_)
  refine lv_aload_n hx hb dX10_patch_5 rfl (lv_at hl 1 rfl) ?_
  obtain ⟨b3, hb3, hf⟩ := hf
  refine hw_getR E hR cI9 hs0 2 (by decide) lfX10_27 rfl hb3 dX10_patch_6 ?_
  obtain ⟨h4, hf⟩ := hf
  refine hw_getI E hR cI2 h4 12 (by decide) lfX10_277 rfl dX10_patch_9 ?_
  refine lv_topi (fun v5 ev5 => ?_)
  replace hf := hf v5 ev5
  refine lv_istore (lv' := [(4, .int v5), (3, .int r2), (0, .ref (ad g a0)), (1, .int x1), (2, .int x2)]) hx hb dX10_patch_12 hl (by decide) rfl (fun ls hl => ?_)
  refine lv_iload_n hx hb dX10_patch_14 rfl (lv_at hl 3 rfl) ?_
  refine lv_if_lt (tgt := 35) hx hb dX10_patch_15 (by decide) (fun c6 => ?_) (fun c6 => ?_)
  · replace hf := hf.1 c6
    refine lv_bipush (v := -100) hx hb dX10_patch_35 (by decide) ?_
    exact hw_iret E hR hS ⟨_, rfl, hf⟩ dX10_patch_37
  · replace hf := hf.2 c6
    refine lv_iload_n hx hb dX10_patch_18 rfl (lv_at hl 3 rfl) ?_
    refine lv_aload_n hx hb dX10_patch_19 rfl (lv_at hl 2 rfl) ?_
    obtain ⟨b7, hb7, hf⟩ := hf
    refine hw_getR E hR cI9 hs0 2 (by decide) lfX10_27 rfl hb7 dX10_patch_20 ?_
    obtain ⟨h8, hf⟩ := hf
    refine hw_getI E hR cI2 h8 10 (by decide) lfX10_92 rfl dX10_patch_23 ?_
    refine lv_icmp_ge (tgt := 35) hx hb dX10_patch_26 (by decide) (fun c9 => ?_) (fun c9 => ?_)
    · replace hf := hf.1 c9
      refine lv_bipush (v := -100) hx hb dX10_patch_35 (by decide) ?_
      exact hw_iret E hR hS ⟨_, rfl, hf⟩ dX10_patch_37
    · replace hf := hf.2 c9
      refine lv_iload hx hb dX10_patch_29 (lv_at hl 0 rfl) ?_
      refine lv_iconst (v := 5) hx hb dX10_patch_31 (by decide) ?_
      refine lv_icmp_lt (tgt := 38) hx hb dX10_patch_32 (by decide) (fun c10 => ?_) (fun c10 => ?_)
      · replace hf := hf.1 c10
        refine lv_iload_n hx hb dX10_patch_38 rfl (lv_at hl 4 rfl) ?_
        refine lv_if_lt (tgt := 58) hx hb dX10_patch_39 (by decide) (fun c11 => ?_) (fun c11 => ?_)
        · replace hf := hf.1 c11
          refine lv_bipush (v := -100) hx hb dX10_patch_58 (by decide) ?_
          exact hw_iret E hR hS ⟨_, rfl, hf⟩ dX10_patch_60
        · replace hf := hf.2 c11
          refine lv_iload_n hx hb dX10_patch_42 rfl (lv_at hl 4 rfl) ?_
          refine lv_aload_n hx hb dX10_patch_43 rfl (lv_at hl 2 rfl) ?_
          obtain ⟨b12, hb12, hf⟩ := hf
          refine hw_getR E hR cI9 hs0 2 (by decide) lfX10_27 rfl hb12 dX10_patch_44 ?_
          obtain ⟨h13, hf⟩ := hf
          obtain ⟨b14, hb14, hf⟩ := hf
          refine hw_getR E hR cI2 h13 0 (by decide) lfX10_101 rfl hb14 dX10_patch_47 ?_
          refine lv_iload_n hx hb dX10_patch_50 rfl (lv_at hl 3 rfl) ?_
          obtain ⟨n15, hn15, in15, hf⟩ := hf
          obtain ⟨b16, hb16, hf⟩ := hf
          refine hw_aaldS E hR (t := 55) (by decide) hn15 in15 hb16 dX10_patch_51 ?_
          obtain ⟨h17, hf⟩ := hf
          refine hw_getI E hR cI4 h17 6 (by decide) lfX10_116 rfl dX10_patch_52 ?_
          refine lv_icmp_lt (tgt := 61) hx hb dX10_patch_55 (by decide) (fun c18 => ?_) (fun c18 => ?_)
          · replace hf := hf.1 c18
            refine lv_aload_n hx hb dX10_patch_61 rfl (lv_at hl 2 rfl) ?_
            obtain ⟨b19, hb19, hf⟩ := hf
            refine hw_getR E hR cI9 hs0 0 (by decide) lfX10_10 rfl hb19 dX10_patch_62 ?_
            refine lv_iload_n hx hb dX10_patch_65 rfl (lv_at hl 1 rfl) ?_
            refine lv_iconst (v := 1) hx hb dX10_patch_66 (by decide) ?_
            obtain ⟨h21, hf⟩ := hf
            refine hw_callV (d := 7) E hR hS (As := [.int r2, .int (1 : Int32)]) (rest := []) cI5 h21 rfl mcX6_readLines miX6_readLines lmX10_97 (ok_X6_readLines h21 hf) rfl rfl (by decide) hl.1 (Nat.le_of_ble_eq_true rfl) dX10_patch_67 (fun rr m20 H locs hp hR hS => ?_)
            obtain ⟨r22, rfl, hf⟩ := hp
            refine W.eq (g2 := F0 m 70 ls [.int r22]) rfl ?_
            refine lv_istore (lv' := [(5, .int r22), (4, .int v5), (3, .int r2), (0, .ref (ad g a0)), (1, .int x1), (2, .int x2)]) hx hb dX10_patch_70 hl (by decide) rfl (fun ls hl => ?_)
            refine lv_iload hx hb dX10_patch_72 (lv_at hl 0 rfl) ?_
            refine lv_if_lt (tgt := 82) hx hb dX10_patch_74 (by decide) (fun c23 => ?_) (fun c23 => ?_)
            · replace hf := hf.1 c23
              refine lv_aload_n hx hb dX10_patch_82 rfl (lv_at hl 3 rfl) ?_
              obtain ⟨b24, hb24, hf⟩ := hf
              refine hw_getR E hR cI9 hs0 2 (by decide) lfX10_27 rfl hb24 dX10_patch_83 ?_
              obtain ⟨h25, hf⟩ := hf
              obtain ⟨b26, hb26, hf⟩ := hf
              refine hw_getR E hR cI2 h25 2 (by decide) lfX10_280 rfl hb26 dX10_patch_86 ?_
              refine lv_iload hx hb dX10_patch_89 (lv_at hl 1 rfl) ?_
              refine lv_aload_n hx hb dX10_patch_91 rfl (lv_at hl 3 rfl) ?_
              obtain ⟨b27, hb27, hf⟩ := hf
              refine hw_getR E hR cI9 hs0 0 (by decide) lfX10_10 rfl hb27 dX10_patch_92 ?_
              refine lv_aload_n hx hb dX10_patch_95 rfl (lv_at hl 3 rfl) ?_
              obtain ⟨b28, hb28, hf⟩ := hf
              refine hw_getR E hR cI9 hs0 2 (by decide) lfX10_27 rfl hb28 dX10_patch_96 ?_
              obtain ⟨h29, hf⟩ := hf
              obtain ⟨b30, hb30, hf⟩ := hf
              refine hw_getR E hR cI2 h29 2 (by decide) lfX10_280 rfl hb30 dX10_patch_99 ?_
              refine lv_iload hx hb dX10_patch_102 (lv_at hl 1 rfl) ?_
              obtain ⟨n31, hn31, in31, hf⟩ := hf
              obtain ⟨b32, hb32, hf⟩ := hf
              refine hw_aaldS E hR (t := 55) (by decide) hn31 in31 hb32 dX10_patch_104 ?_
              obtain ⟨h34, hf⟩ := hf
              obtain ⟨h35, hf⟩ := hf
              refine hw_callV (d := 7) E hR hS (As := [.ref (ad g b32)]) (rest := [.int v5, .ref (ad g b26)]) cI5 h34 rfl mcX6_exchange miX6_exchange lmX10_105 (ok_X6_exchange h34 h35 hf) rfl rfl (by decide) hl.1 (Nat.le_of_ble_eq_true rfl) dX10_patch_105 (fun rr m33 H locs hp hR hS => ?_)
              obtain ⟨r36, rfl, hf⟩ := hp
              refine W.eq (g2 := F0 m 108 ls [.ref (ad g r36), .int v5, .ref (ad g b26)]) rfl ?_
              obtain ⟨h39, hf⟩ := hf
              obtain ⟨n37, hn37, in37, hf⟩ := hf
              refine hw_aast55 E hR hS hw hn37 h39 in37 dX10_patch_108 (fun m38 H locs em38 hR hS => ?_)
              replace hf := hf m38 em38
              refine lv_aload_n hx hb dX10_patch_109 rfl (lv_at hl 3 rfl) ?_
              obtain ⟨b40, hb40, hf⟩ := hf
              refine hw_getR E hR cI9 hs0 2 (by decide) lfX10_27 rfl hb40 dX10_patch_110 ?_
              obtain ⟨h41, hf⟩ := hf
              obtain ⟨b42, hb42, hf⟩ := hf
              refine hw_getR E hR cI2 h41 3 (by decide) lfX10_283 rfl hb42 dX10_patch_113 ?_
              refine lv_iload hx hb dX10_patch_116 (lv_at hl 1 rfl) ?_
              refine lv_iload_n hx hb dX10_patch_118 rfl (lv_at hl 4 rfl) ?_
              obtain ⟨n43, hn43, in43, hf⟩ := hf
              refine hw_iast E hR hS hw hn43 in43 dX10_patch_119 (fun m44 H locs em44 hR hS => ?_)
              replace hf := hf m44 em44
              refine lv_aload_n hx hb dX10_patch_120 rfl (lv_at hl 3 rfl) ?_
              obtain ⟨b45, hb45, hf⟩ := hf
              refine hw_getR E hR cI9 hs0 2 (by decide) lfX10_27 rfl hb45 dX10_patch_121 ?_
              obtain ⟨h46, hf⟩ := hf
              obtain ⟨b47, hb47, hf⟩ := hf
              refine hw_getR E hR cI2 h46 4 (by decide) lfX10_286 rfl hb47 dX10_patch_124 ?_
              refine lv_iload hx hb dX10_patch_127 (lv_at hl 1 rfl) ?_
              refine lv_iload_n hx hb dX10_patch_129 rfl (lv_at hl 5 rfl) ?_
              obtain ⟨n48, hn48, in48, hf⟩ := hf
              refine hw_iast E hR hS hw hn48 in48 dX10_patch_130 (fun m49 H locs em49 hR hS => ?_)
              replace hf := hf m49 em49
              refine lv_aload_n hx hb dX10_patch_131 rfl (lv_at hl 3 rfl) ?_
              obtain ⟨b50, hb50, hf⟩ := hf
              refine hw_getR E hR cI9 hs0 2 (by decide) lfX10_27 rfl hb50 dX10_patch_132 ?_
              refine lv_dup hx hb dX10_patch_135 rfl ?_
              obtain ⟨h51, hf⟩ := hf
              refine hw_getI E hR cI2 h51 12 (by decide) lfX10_277 rfl dX10_patch_136 ?_
              refine lv_iconst (v := 1) hx hb dX10_patch_139 (by decide) ?_
              refine lv_iadd hx hb dX10_patch_140 ?_
              refine hw_putI E hR hS hw cI2 h51 12 (by decide) lfX10_277 rfl (Or.inl rfl) dX10_patch_141 (fun m52 H locs em52 hR hS => ?_)
              replace hf := hf m52 em52
              refine lv_iload hx hb dX10_patch_144 (lv_at hl 1 rfl) ?_
              exact hw_iret E hR hS ⟨_, rfl, hf⟩ dX10_patch_146
            · replace hf := hf.2 c23
              refine lv_iconst (v := -1) hx hb dX10_patch_77 (by decide) ?_
              refine lv_iload hx hb dX10_patch_78 (lv_at hl 0 rfl) ?_
              refine lv_isub hx hb dX10_patch_80 ?_
              exact hw_iret E hR hS ⟨_, rfl, hf⟩ dX10_patch_81
          · replace hf := hf.2 c18
            refine lv_bipush (v := -100) hx hb dX10_patch_58 (by decide) ?_
            exact hw_iret E hR hS ⟨_, rfl, hf⟩ dX10_patch_60
      · replace hf := hf.2 c10
        refine lv_bipush (v := -100) hx hb dX10_patch_35 (by decide) ?_
        exact hw_iret E hR hS ⟨_, rfl, hf⟩ dX10_patch_37
def f_X10_mend (S : Ss) (a0 : Nat) (x1 : Int32) (M : Mm) (K : Int32 → Mm → Prop) : Prop :=
  f_X10_refusesRuns S a0 x1 M (fun (r2 : Int32) (m1 : Mm) =>
    ((r2 = 0 →
    ∃ b4 : Nat, m1.2.2 a0 2 = some b4 ∧
    S[b4]? = some (2, 0) ∧
    f_X10_fewest S a0 (1 : Int32) x1 (m1.1 b4 12) m1 (fun (r7 : Int32) (m6 : Mm) =>
      ∃ b8 : Nat, m6.2.2 a0 2 = some b8 ∧
    S[b8]? = some (2, 0) ∧
    f_X3_usePatches S b8 (0 : Int32) m6 (fun (m9 : Mm) =>
      K r7 m9))) ∧
   (¬ r2 = 0 →
    K (-1 : Int32) m1)))
set_option maxHeartbeats 4000000 in
set_option maxRecDepth 100000 in
theorem ok_X10_mend {l : Launch} {g : Gg} {S : Ss} {a0 : Nat} {x1 : Int32} {M : Mm} {K : Int32 → Mm → Prop} (hs0 : S[a0]? = some (9, 0)) (hf : f_X10_mend S a0 x1 M K) : MT l g S yX10_mend cX10_mend 3 (some .int) 7 [.ref (ad g a0), .int x1] M (pI K) := by
  refine MT.of (by decide +kernel) (Nat.le_of_ble_eq_true rfl) ?_
  intro p e s m below meth c ls E hw hR hS hl
  have hl : lv_has ls 3 [(0, .ref (ad g a0)), (1, .int x1)] := hl
  generalize ([.ref (ad g a0), .int x1] : List Value).toArray = args at E ⊢
  have E : EN p s m args meth c cX10_mend 3 (some .int) RX10 g := E
  have hx := E.1
  have hb := E.2.1
  unfold f_X10_mend at hf
  refine lv_aload_n hx hb dX10_mend_0 rfl (lv_at hl 0 rfl) ?_
  refine lv_iload_n hx hb dX10_mend_1 rfl (lv_at hl 1 rfl) ?_
  refine hw_callV (d := 7) E hR hS (As := [.int x1]) (rest := []) cI9 hs0 rfl mcX10_refusesRuns miX10_refusesRuns lmX10_194 (ok_X10_refusesRuns hs0 hf) rfl rfl (by decide) hl.1 (Nat.le_of_ble_eq_true rfl) dX10_mend_2 (fun rr m1 H locs hp hR hS => ?_)
  obtain ⟨r2, rfl, hf⟩ := hp
  refine W.eq (g2 := F0 m 5 ls [.int r2]) rfl ?_
  refine lv_if_eq (tgt := 10) hx hb dX10_mend_5 (by decide) (fun c3 => ?_) (fun c3 => ?_)
  · replace hf := hf.1 c3
    refine lv_aload_n hx hb dX10_mend_10 rfl (lv_at hl 0 rfl) ?_
    refine lv_iconst (v := 1) hx hb dX10_mend_11 (by decide) ?_
    refine lv_iload_n hx hb dX10_mend_12 rfl (lv_at hl 1 rfl) ?_
    refine lv_aload_n hx hb dX10_mend_13 rfl (lv_at hl 0 rfl) ?_
    obtain ⟨b4, hb4, hf⟩ := hf
    refine hw_getR E hR cI9 hs0 2 (by decide) lfX10_27 rfl hb4 dX10_mend_14 ?_
    obtain ⟨h5, hf⟩ := hf
    refine hw_getI E hR cI2 h5 12 (by decide) lfX10_277 rfl dX10_mend_17 ?_
    refine hw_callV (d := 7) E hR hS (As := [.int (1 : Int32), .int x1, .int (m1.1 b4 12)]) (rest := []) cI9 hs0 rfl mcX10_fewest miX10_fewest lmX10_273 (ok_X10_fewest hs0 hf) rfl rfl (by decide) hl.1 (Nat.le_of_ble_eq_true rfl) dX10_mend_20 (fun rr m6 H locs hp hR hS => ?_)
    obtain ⟨r7, rfl, hf⟩ := hp
    refine W.eq (g2 := F0 m 23 ls [.int r7]) rfl ?_
    refine lv_istore_n (lv' := [(2, .int r7), (0, .ref (ad g a0)), (1, .int x1)]) hx hb dX10_mend_23 rfl hl (by decide) rfl (fun ls hl => ?_)
    refine lv_aload_n hx hb dX10_mend_24 rfl (lv_at hl 1 rfl) ?_
    obtain ⟨b8, hb8, hf⟩ := hf
    refine hw_getR E hR cI9 hs0 2 (by decide) lfX10_27 rfl hb8 dX10_mend_25 ?_
    refine lv_iconst (v := 0) hx hb dX10_mend_28 (by decide) ?_
    obtain ⟨h10, hf⟩ := hf
    refine hw_callV (d := 7) E hR hS (As := [.int (0 : Int32)]) (rest := []) cI2 h10 rfl mcX3_usePatches miX3_usePatches lmX10_289 (ok_X3_usePatches h10 hf) rfl rfl (by decide) hl.1 (Nat.le_of_ble_eq_true rfl) dX10_mend_29 (fun rr m9 H locs hp hR hS => ?_)
    obtain ⟨rfl, hf⟩ := hp
    refine W.eq (g2 := F0 m 32 ls []) rfl ?_
    refine lv_iload_n hx hb dX10_mend_32 rfl (lv_at hl 0 rfl) ?_
    exact hw_iret E hR hS ⟨_, rfl, hf⟩ dX10_mend_33
  · replace hf := hf.2 c3
    refine lv_iconst (v := -1) hx hb dX10_mend_8 (by decide) ?_
    exact hw_iret E hR hS ⟨_, rfl, hf⟩ dX10_mend_9
def f_X10_drop (S : Ss) (a0 : Nat) (M : Mm) (K : Int32 → Mm → Prop) : Prop :=
  ∃ b1 : Nat, M.2.2 a0 2 = some b1 ∧
  S[b1]? = some (2, 0) ∧
  ∀ v3 : Int32, v3 = (M.1 b1 12) →
  ∃ b4 : Nat, M.2.2 a0 2 = some b4 ∧
  S[b4]? = some (2, 0) ∧
  ∀ m6 : Mm, m6 = stI M b4 12 (0 : Int32) →
  K v3 m6
set_option maxHeartbeats 4000000 in
set_option maxRecDepth 100000 in
theorem ok_X10_drop {l : Launch} {g : Gg} {S : Ss} {a0 : Nat} {M : Mm} {K : Int32 → Mm → Prop} (hs0 : S[a0]? = some (9, 0)) (hf : f_X10_drop S a0 M K) : MT l g S yX10_drop cX10_drop 2 (some .int) 0 [.ref (ad g a0)] M (pI K) := by
  refine MT.of (by decide +kernel) (Nat.le_of_ble_eq_true rfl) ?_
  intro p e s m below meth c ls E hw hR hS hl
  have hl : lv_has ls 2 [(0, .ref (ad g a0))] := hl
  generalize ([.ref (ad g a0)] : List Value).toArray = args at E ⊢
  have E : EN p s m args meth c cX10_drop 2 (some .int) RX10 g := E
  have hx := E.1
  have hb := E.2.1
  unfold f_X10_drop at hf
  refine lv_aload_n hx hb dX10_drop_0 rfl (lv_at hl 0 rfl) ?_
  obtain ⟨b1, hb1, hf⟩ := hf
  refine hw_getR E hR cI9 hs0 2 (by decide) lfX10_27 rfl hb1 dX10_drop_1 ?_
  obtain ⟨h2, hf⟩ := hf
  refine hw_getI E hR cI2 h2 12 (by decide) lfX10_277 rfl dX10_drop_4 ?_
  refine lv_topi (fun v3 ev3 => ?_)
  replace hf := hf v3 ev3
  refine lv_istore_n (lv' := [(1, .int v3), (0, .ref (ad g a0))]) hx hb dX10_drop_7 rfl hl (by decide) rfl (fun ls hl => ?_)
  refine lv_aload_n hx hb dX10_drop_8 rfl (lv_at hl 1 rfl) ?_
  obtain ⟨b4, hb4, hf⟩ := hf
  refine hw_getR E hR cI9 hs0 2 (by decide) lfX10_27 rfl hb4 dX10_drop_9 ?_
  refine lv_iconst (v := 0) hx hb dX10_drop_12 (by decide) ?_
  obtain ⟨h5, hf⟩ := hf
  refine hw_putI E hR hS hw cI2 h5 12 (by decide) lfX10_277 rfl (Or.inl rfl) dX10_drop_13 (fun m6 H locs em6 hR hS => ?_)
  replace hf := hf m6 em6
  refine lv_iload_n hx hb dX10_drop_16 rfl (lv_at hl 0 rfl) ?_
  exact hw_iret E hR hS ⟨_, rfl, hf⟩ dX10_drop_17
def f_X10_type (S : Ss) (a0 : Nat) (x1 : Int32) (M : Mm) (K : Int32 → Mm → Prop) : Prop :=
  ((x1 < 0 →
    K (-1 : Int32) M) ∧
   (¬ x1 < 0 →
    (((4 : Int32) < x1 →
      K (-1 : Int32) M) ∧
     (¬ (4 : Int32) < x1 →
      ∃ b3 : Nat, M.2.2 a0 7 = some b3 ∧
      S[b3]? = some (7, 0) ∧
      (((M.1 b3 2) < (8 : Int32) →
        ∃ b6 : Nat, M.2.2 a0 7 = some b6 ∧
        S[b6]? = some (7, 0) ∧
        ∃ b8 : Nat, M.2.2 b6 0 = some b8 ∧
        ∃ b9 : Nat, M.2.2 a0 7 = some b9 ∧
        S[b9]? = some (7, 0) ∧
        ∃ n11 : Nat, S[b8]? = some (50, n11) ∧ vp_in (M.1 b9 2) n11 ∧
        ∀ m12 : Mm, m12 = stI M b8 (M.1 b9 2).toNatClampNeg x1 →
        ∃ b13 : Nat, m12.2.2 a0 7 = some b13 ∧
        S[b13]? = some (7, 0) ∧
        ∀ m15 : Mm, m15 = stI m12 b13 2 ((m12.1 b13 2) + (1 : Int32)) →
        ∃ b16 : Nat, m15.2.2 a0 7 = some b16 ∧
        S[b16]? = some (7, 0) ∧
        K (m15.1 b16 2) m15) ∧
       (¬ (M.1 b3 2) < (8 : Int32) →
        K (-1 : Int32) M))))))
set_option maxHeartbeats 4000000 in
set_option maxRecDepth 100000 in
theorem ok_X10_type {l : Launch} {g : Gg} {S : Ss} {a0 : Nat} {x1 : Int32} {M : Mm} {K : Int32 → Mm → Prop} (hs0 : S[a0]? = some (9, 0)) (hf : f_X10_type S a0 x1 M K) : MT l g S yX10_type cX10_type 2 (some .int) 0 [.ref (ad g a0), .int x1] M (pI K) := by
  refine MT.of (by decide +kernel) (Nat.le_of_ble_eq_true rfl) ?_
  intro p e s m below meth c ls E hw hR hS hl
  have hl : lv_has ls 2 [(0, .ref (ad g a0)), (1, .int x1)] := hl
  generalize ([.ref (ad g a0), .int x1] : List Value).toArray = args at E ⊢
  have E : EN p s m args meth c cX10_type 2 (some .int) RX10 g := E
  have hx := E.1
  have hb := E.2.1
  unfold f_X10_type at hf
  refine lv_iload_n hx hb dX10_type_0 rfl (lv_at hl 1 rfl) ?_
  refine lv_if_lt (tgt := 21) hx hb dX10_type_1 (by decide) (fun c1 => ?_) (fun c1 => ?_)
  · replace hf := hf.1 c1
    refine lv_iconst (v := -1) hx hb dX10_type_21 (by decide) ?_
    exact hw_iret E hR hS ⟨_, rfl, hf⟩ dX10_type_22
  · replace hf := hf.2 c1
    refine lv_iload_n hx hb dX10_type_4 rfl (lv_at hl 1 rfl) ?_
    refine lv_iconst (v := 4) hx hb dX10_type_5 (by decide) ?_
    refine lv_icmp_gt (tgt := 21) hx hb dX10_type_6 (by decide) (fun c2 => ?_) (fun c2 => ?_)
    · replace hf := hf.1 c2
      refine lv_iconst (v := -1) hx hb dX10_type_21 (by decide) ?_
      exact hw_iret E hR hS ⟨_, rfl, hf⟩ dX10_type_22
    · replace hf := hf.2 c2
      refine lv_aload_n hx hb dX10_type_9 rfl (lv_at hl 0 rfl) ?_
      obtain ⟨b3, hb3, hf⟩ := hf
      refine hw_getR E hR cI9 hs0 7 (by decide) lfX10_52 rfl hb3 dX10_type_10 ?_
      obtain ⟨h4, hf⟩ := hf
      refine hw_getI E hR cI7 h4 2 (by decide) lfX10_293 rfl dX10_type_13 ?_
      refine lv_bipush (v := 8) hx hb dX10_type_16 (by decide) ?_
      refine lv_icmp_lt (tgt := 23) hx hb dX10_type_18 (by decide) (fun c5 => ?_) (fun c5 => ?_)
      · replace hf := hf.1 c5
        refine lv_aload_n hx hb dX10_type_23 rfl (lv_at hl 0 rfl) ?_
        obtain ⟨b6, hb6, hf⟩ := hf
        refine hw_getR E hR cI9 hs0 7 (by decide) lfX10_52 rfl hb6 dX10_type_24 ?_
        obtain ⟨h7, hf⟩ := hf
        obtain ⟨b8, hb8, hf⟩ := hf
        refine hw_getR E hR cI7 h7 0 (by decide) lfX10_296 rfl hb8 dX10_type_27 ?_
        refine lv_aload_n hx hb dX10_type_30 rfl (lv_at hl 0 rfl) ?_
        obtain ⟨b9, hb9, hf⟩ := hf
        refine hw_getR E hR cI9 hs0 7 (by decide) lfX10_52 rfl hb9 dX10_type_31 ?_
        obtain ⟨h10, hf⟩ := hf
        refine hw_getI E hR cI7 h10 2 (by decide) lfX10_293 rfl dX10_type_34 ?_
        refine lv_iload_n hx hb dX10_type_37 rfl (lv_at hl 1 rfl) ?_
        obtain ⟨n11, hn11, in11, hf⟩ := hf
        refine hw_iast E hR hS hw hn11 in11 dX10_type_38 (fun m12 H locs em12 hR hS => ?_)
        replace hf := hf m12 em12
        refine lv_aload_n hx hb dX10_type_39 rfl (lv_at hl 0 rfl) ?_
        obtain ⟨b13, hb13, hf⟩ := hf
        refine hw_getR E hR cI9 hs0 7 (by decide) lfX10_52 rfl hb13 dX10_type_40 ?_
        refine lv_dup hx hb dX10_type_43 rfl ?_
        obtain ⟨h14, hf⟩ := hf
        refine hw_getI E hR cI7 h14 2 (by decide) lfX10_293 rfl dX10_type_44 ?_
        refine lv_iconst (v := 1) hx hb dX10_type_47 (by decide) ?_
        refine lv_iadd hx hb dX10_type_48 ?_
        refine hw_putI E hR hS hw cI7 h14 2 (by decide) lfX10_293 rfl (Or.inl rfl) dX10_type_49 (fun m15 H locs em15 hR hS => ?_)
        replace hf := hf m15 em15
        refine lv_aload_n hx hb dX10_type_52 rfl (lv_at hl 0 rfl) ?_
        obtain ⟨b16, hb16, hf⟩ := hf
        refine hw_getR E hR cI9 hs0 7 (by decide) lfX10_52 rfl hb16 dX10_type_53 ?_
        obtain ⟨h17, hf⟩ := hf
        refine hw_getI E hR cI7 h17 2 (by decide) lfX10_293 rfl dX10_type_56 ?_
        exact hw_iret E hR hS ⟨_, rfl, hf⟩ dX10_type_59
      · replace hf := hf.2 c5
        refine lv_iconst (v := -1) hx hb dX10_type_21 (by decide) ?_
        exact hw_iret E hR hS ⟨_, rfl, hf⟩ dX10_type_22
def f_X10_wipe (S : Ss) (a0 : Nat) (M : Mm) (K : Int32 → Mm → Prop) : Prop :=
  ∃ b1 : Nat, M.2.2 a0 7 = some b1 ∧
  S[b1]? = some (7, 0) ∧
  ∀ v3 : Int32, v3 = (M.1 b1 2) →
  ∃ b4 : Nat, M.2.2 a0 7 = some b4 ∧
  S[b4]? = some (7, 0) ∧
  ∀ m6 : Mm, m6 = stI M b4 2 (0 : Int32) →
  K v3 m6
set_option maxHeartbeats 4000000 in
set_option maxRecDepth 100000 in
theorem ok_X10_wipe {l : Launch} {g : Gg} {S : Ss} {a0 : Nat} {M : Mm} {K : Int32 → Mm → Prop} (hs0 : S[a0]? = some (9, 0)) (hf : f_X10_wipe S a0 M K) : MT l g S yX10_wipe cX10_wipe 2 (some .int) 0 [.ref (ad g a0)] M (pI K) := by
  refine MT.of (by decide +kernel) (Nat.le_of_ble_eq_true rfl) ?_
  intro p e s m below meth c ls E hw hR hS hl
  have hl : lv_has ls 2 [(0, .ref (ad g a0))] := hl
  generalize ([.ref (ad g a0)] : List Value).toArray = args at E ⊢
  have E : EN p s m args meth c cX10_wipe 2 (some .int) RX10 g := E
  have hx := E.1
  have hb := E.2.1
  unfold f_X10_wipe at hf
  refine lv_aload_n hx hb dX10_wipe_0 rfl (lv_at hl 0 rfl) ?_
  obtain ⟨b1, hb1, hf⟩ := hf
  refine hw_getR E hR cI9 hs0 7 (by decide) lfX10_52 rfl hb1 dX10_wipe_1 ?_
  obtain ⟨h2, hf⟩ := hf
  refine hw_getI E hR cI7 h2 2 (by decide) lfX10_293 rfl dX10_wipe_4 ?_
  refine lv_topi (fun v3 ev3 => ?_)
  replace hf := hf v3 ev3
  refine lv_istore_n (lv' := [(1, .int v3), (0, .ref (ad g a0))]) hx hb dX10_wipe_7 rfl hl (by decide) rfl (fun ls hl => ?_)
  refine lv_aload_n hx hb dX10_wipe_8 rfl (lv_at hl 1 rfl) ?_
  obtain ⟨b4, hb4, hf⟩ := hf
  refine hw_getR E hR cI9 hs0 7 (by decide) lfX10_52 rfl hb4 dX10_wipe_9 ?_
  refine lv_iconst (v := 0) hx hb dX10_wipe_12 (by decide) ?_
  obtain ⟨h5, hf⟩ := hf
  refine hw_putI E hR hS hw cI7 h5 2 (by decide) lfX10_293 rfl (Or.inl rfl) dX10_wipe_13 (fun m6 H locs em6 hR hS => ?_)
  replace hf := hf m6 em6
  refine lv_iload_n hx hb dX10_wipe_16 rfl (lv_at hl 0 rfl) ?_
  exact hw_iret E hR hS ⟨_, rfl, hf⟩ dX10_wipe_17
def f_X10_followed (S : Ss) (a0 : Nat) (M : Mm) (K : Int32 → Mm → Prop) : Prop :=
  ∃ b1 : Nat, M.2.2 a0 7 = some b1 ∧
  ∃ b2 : Nat, M.2.2 a0 2 = some b2 ∧
  S[b2]? = some (2, 0) ∧
  S[b1]? = some (7, 0) ∧
  f_X8_prepare S b1 (0 : Int32) (M.1 b2 13) M (fun (m4 : Mm) =>
    ∃ b6 : Nat, m4.2.2 a0 1 = some b6 ∧
  ∃ b7 : Nat, m4.2.2 a0 3 = some b7 ∧
  ∃ b8 : Nat, m4.2.2 a0 7 = some b8 ∧
  S[b8]? = some (7, 0) ∧
  ∃ b10 : Nat, m4.2.2 b8 1 = some b10 ∧
  ∃ b11 : Nat, m4.2.2 a0 7 = some b11 ∧
  S[b11]? = some (7, 0) ∧
  S[b6]? = some (8, 0) ∧
  S[b7]? = some (3, 0) ∧
  f_X9_follow S b6 b7 b10 (m4.1 b11 2) m4 (fun (r16 : Int32) (m13 : Mm) =>
    (r16 = 0 ∨ r16 = 1) ∧ K r16 m13))
set_option maxHeartbeats 4000000 in
set_option maxRecDepth 100000 in
theorem ok_X10_followed {l : Launch} {g : Gg} {S : Ss} {a0 : Nat} {M : Mm} {K : Int32 → Mm → Prop} (hs0 : S[a0]? = some (9, 0)) (hf : f_X10_followed S a0 M K) : MT l g S yX10_followed cX10_followed 1 (some .boolean) 6 [.ref (ad g a0)] M (pI K) := by
  refine MT.of (by decide +kernel) (Nat.le_of_ble_eq_true rfl) ?_
  intro p e s m below meth c ls E hw hR hS hl
  have hl : lv_has ls 1 [(0, .ref (ad g a0))] := hl
  generalize ([.ref (ad g a0)] : List Value).toArray = args at E ⊢
  have E : EN p s m args meth c cX10_followed 1 (some .boolean) RX10 g := E
  have hx := E.1
  have hb := E.2.1
  unfold f_X10_followed at hf
  refine lv_aload_n hx hb dX10_followed_0 rfl (lv_at hl 0 rfl) ?_
  obtain ⟨b1, hb1, hf⟩ := hf
  refine hw_getR E hR cI9 hs0 7 (by decide) lfX10_52 rfl hb1 dX10_followed_1 ?_
  refine lv_iconst (v := 0) hx hb dX10_followed_4 (by decide) ?_
  refine lv_aload_n hx hb dX10_followed_5 rfl (lv_at hl 0 rfl) ?_
  obtain ⟨b2, hb2, hf⟩ := hf
  refine hw_getR E hR cI9 hs0 2 (by decide) lfX10_27 rfl hb2 dX10_followed_6 ?_
  obtain ⟨h3, hf⟩ := hf
  refine hw_getI E hR cI2 h3 13 (by decide) lfX10_150 rfl dX10_followed_9 ?_
  obtain ⟨h5, hf⟩ := hf
  refine hw_callV (d := 6) E hR hS (As := [.int (0 : Int32), .int (M.1 b2 13)]) (rest := []) cI7 h5 rfl mcX8_prepare miX8_prepare lmX10_358 (ok_X8_prepare h5 hf) rfl rfl (by decide) hl.1 (Nat.le_of_ble_eq_true rfl) dX10_followed_12 (fun rr m4 H locs hp hR hS => ?_)
  obtain ⟨rfl, hf⟩ := hp
  refine W.eq (g2 := F0 m 15 ls []) rfl ?_
  refine lv_aload_n hx hb dX10_followed_15 rfl (lv_at hl 0 rfl) ?_
  obtain ⟨b6, hb6, hf⟩ := hf
  refine hw_getR E hR cI9 hs0 1 (by decide) lfX10_19 rfl hb6 dX10_followed_16 ?_
  refine lv_aload_n hx hb dX10_followed_19 rfl (lv_at hl 0 rfl) ?_
  obtain ⟨b7, hb7, hf⟩ := hf
  refine hw_getR E hR cI9 hs0 3 (by decide) lfX10_31 rfl hb7 dX10_followed_20 ?_
  refine lv_aload_n hx hb dX10_followed_23 rfl (lv_at hl 0 rfl) ?_
  obtain ⟨b8, hb8, hf⟩ := hf
  refine hw_getR E hR cI9 hs0 7 (by decide) lfX10_52 rfl hb8 dX10_followed_24 ?_
  obtain ⟨h9, hf⟩ := hf
  obtain ⟨b10, hb10, hf⟩ := hf
  refine hw_getR E hR cI7 h9 1 (by decide) lfX10_361 rfl hb10 dX10_followed_27 ?_
  refine lv_aload_n hx hb dX10_followed_30 rfl (lv_at hl 0 rfl) ?_
  obtain ⟨b11, hb11, hf⟩ := hf
  refine hw_getR E hR cI9 hs0 7 (by decide) lfX10_52 rfl hb11 dX10_followed_31 ?_
  obtain ⟨h12, hf⟩ := hf
  refine hw_getI E hR cI7 h12 2 (by decide) lfX10_293 rfl dX10_followed_34 ?_
  obtain ⟨h14, hf⟩ := hf
  obtain ⟨h15, hf⟩ := hf
  refine hw_callV (d := 6) E hR hS (As := [.ref (ad g b7), .ref (ad g b10), .int (m4.1 b11 2)]) (rest := []) cI8 h14 rfl mcX9_follow miX9_follow lmX10_364 (ok_X9_follow h14 h15 hf) rfl rfl (by decide) hl.1 (Nat.le_of_ble_eq_true rfl) dX10_followed_37 (fun rr m13 H locs hp hR hS => ?_)
  obtain ⟨r16, rfl, hf⟩ := hp
  refine W.eq (g2 := F0 m 40 ls [.int r16]) rfl ?_
  exact hw_zret E hR hS hf.1 ⟨_, rfl, hf.2⟩ dX10_followed_40
def f_X10_refusesTyping (S : Ss) (a0 : Nat) (M : Mm) (K : Int32 → Mm → Prop) : Prop :=
  ∃ b1 : Nat, M.2.2 a0 2 = some b1 ∧
  S[b1]? = some (2, 0) ∧
  (((M.1 b1 10) = 0 →
    K (1 : Int32) M) ∧
   (¬ (M.1 b1 10) = 0 →
    ∃ b4 : Nat, M.2.2 a0 7 = some b4 ∧
    S[b4]? = some (7, 0) ∧
    (((M.1 b4 2) = 0 →
      K (1 : Int32) M) ∧
     (¬ (M.1 b4 2) = 0 →
      K (0 : Int32) M))))
set_option maxHeartbeats 4000000 in
set_option maxRecDepth 100000 in
theorem ok_X10_refusesTyping {l : Launch} {g : Gg} {S : Ss} {a0 : Nat} {M : Mm} {K : Int32 → Mm → Prop} (hs0 : S[a0]? = some (9, 0)) (hf : f_X10_refusesTyping S a0 M K) : MT l g S yX10_refusesTyping cX10_refusesTyping 1 (some .boolean) 0 [.ref (ad g a0)] M (pI K) := by
  refine MT.of (by decide +kernel) (Nat.le_of_ble_eq_true rfl) ?_
  intro p e s m below meth c ls E hw hR hS hl
  have hl : lv_has ls 1 [(0, .ref (ad g a0))] := hl
  generalize ([.ref (ad g a0)] : List Value).toArray = args at E ⊢
  have E : EN p s m args meth c cX10_refusesTyping 1 (some .boolean) RX10 g := E
  have hx := E.1
  have hb := E.2.1
  unfold f_X10_refusesTyping at hf
  refine lv_aload_n hx hb dX10_refusesTyping_0 rfl (lv_at hl 0 rfl) ?_
  obtain ⟨b1, hb1, hf⟩ := hf
  refine hw_getR E hR cI9 hs0 2 (by decide) lfX10_27 rfl hb1 dX10_refusesTyping_1 ?_
  obtain ⟨h2, hf⟩ := hf
  refine hw_getI E hR cI2 h2 10 (by decide) lfX10_92 rfl dX10_refusesTyping_4 ?_
  refine lv_if_eq (tgt := 20) hx hb dX10_refusesTyping_7 (by decide) (fun c3 => ?_) (fun c3 => ?_)
  · replace hf := hf.1 c3
    refine lv_iconst (v := 1) hx hb dX10_refusesTyping_20 (by decide) ?_
    refine lv_goto (tgt := 25) hx hb dX10_refusesTyping_21 (by decide) ?_
    exact hw_zret E hR hS (by decide) ⟨_, rfl, hf⟩ dX10_refusesTyping_25
  · replace hf := hf.2 c3
    refine lv_aload_n hx hb dX10_refusesTyping_10 rfl (lv_at hl 0 rfl) ?_
    obtain ⟨b4, hb4, hf⟩ := hf
    refine hw_getR E hR cI9 hs0 7 (by decide) lfX10_52 rfl hb4 dX10_refusesTyping_11 ?_
    obtain ⟨h5, hf⟩ := hf
    refine hw_getI E hR cI7 h5 2 (by decide) lfX10_293 rfl dX10_refusesTyping_14 ?_
    refine lv_if_ne (tgt := 24) hx hb dX10_refusesTyping_17 (by decide) (fun c6 => ?_) (fun c6 => ?_)
    · replace hf := hf.2 c6
      refine lv_iconst (v := 0) hx hb dX10_refusesTyping_24 (by decide) ?_
      exact hw_zret E hR hS (by decide) ⟨_, rfl, hf⟩ dX10_refusesTyping_25
    · replace hf := hf.1 c6
      refine lv_iconst (v := 1) hx hb dX10_refusesTyping_20 (by decide) ?_
      refine lv_goto (tgt := 25) hx hb dX10_refusesTyping_21 (by decide) ?_
      exact hw_zret E hR hS (by decide) ⟨_, rfl, hf⟩ dX10_refusesTyping_25
def f_X10_fits (S : Ss) (a0 : Nat) (M : Mm) (K : Int32 → Mm → Prop) : Prop :=
  f_X10_refusesTyping S a0  M (fun (r2 : Int32) (m1 : Mm) =>
    ((r2 = 0 →
    f_X10_followed S a0  m1 (fun (r5 : Int32) (m4 : Mm) =>
      ((r5 = 0 →
      K (-3 : Int32) m4) ∧
     (¬ r5 = 0 →
      ∃ b7 : Nat, m4.2.2 a0 1 = some b7 ∧
      S[b7]? = some (8, 0) ∧
      ((0 ≤ (m4.1 b7 17) →
        ∃ b10 : Nat, m4.2.2 a0 1 = some b10 ∧
        ∃ b11 : Nat, m4.2.2 a0 1 = some b11 ∧
        S[b11]? = some (8, 0) ∧
        ∃ b13 : Nat, m4.2.2 a0 6 = some b13 ∧
        S[b10]? = some (8, 0) ∧
        S[b13]? = some (6, 0) ∧
        f_X9_tellSteps S b10 (m4.1 b11 17) b13 m4 (fun (m14 : Mm) =>
          K (1 : Int32) m14)) ∧
       (¬ 0 ≤ (m4.1 b7 17) →
        K (0 : Int32) m4)))))) ∧
   (¬ r2 = 0 →
    K (-1 : Int32) m1)))
set_option maxHeartbeats 4000000 in
set_option maxRecDepth 100000 in
theorem ok_X10_fits {l : Launch} {g : Gg} {S : Ss} {a0 : Nat} {M : Mm} {K : Int32 → Mm → Prop} (hs0 : S[a0]? = some (9, 0)) (hf : f_X10_fits S a0 M K) : MT l g S yX10_fits cX10_fits 1 (some .int) 7 [.ref (ad g a0)] M (pI K) := by
  refine MT.of (by decide +kernel) (Nat.le_of_ble_eq_true rfl) ?_
  intro p e s m below meth c ls E hw hR hS hl
  have hl : lv_has ls 1 [(0, .ref (ad g a0))] := hl
  generalize ([.ref (ad g a0)] : List Value).toArray = args at E ⊢
  have E : EN p s m args meth c cX10_fits 1 (some .int) RX10 g := E
  have hx := E.1
  have hb := E.2.1
  unfold f_X10_fits at hf
  refine lv_aload_n hx hb dX10_fits_0 rfl (lv_at hl 0 rfl) ?_
  refine hw_callV (d := 7) E hR hS (As := []) (rest := []) cI9 hs0 rfl mcX10_refusesTyping miX10_refusesTyping lmX10_299 (ok_X10_refusesTyping hs0 hf) rfl rfl (by decide) hl.1 (Nat.le_of_ble_eq_true rfl) dX10_fits_1 (fun rr m1 H locs hp hR hS => ?_)
  obtain ⟨r2, rfl, hf⟩ := hp
  refine W.eq (g2 := F0 m 4 ls [.int r2]) rfl ?_
  refine lv_if_eq (tgt := 9) hx hb dX10_fits_4 (by decide) (fun c3 => ?_) (fun c3 => ?_)
  · replace hf := hf.1 c3
    refine lv_aload_n hx hb dX10_fits_9 rfl (lv_at hl 0 rfl) ?_
    refine hw_callV (d := 7) E hR hS (As := []) (rest := []) cI9 hs0 rfl mcX10_followed miX10_followed lmX10_303 (ok_X10_followed hs0 hf) rfl rfl (by decide) hl.1 (Nat.le_of_ble_eq_true rfl) dX10_fits_10 (fun rr m4 H locs hp hR hS => ?_)
    obtain ⟨r5, rfl, hf⟩ := hp
    refine W.eq (g2 := F0 m 13 ls [.int r5]) rfl ?_
    refine lv_if_ne (tgt := 19) hx hb dX10_fits_13 (by decide) (fun c6 => ?_) (fun c6 => ?_)
    · replace hf := hf.2 c6
      refine lv_aload_n hx hb dX10_fits_19 rfl (lv_at hl 0 rfl) ?_
      obtain ⟨b7, hb7, hf⟩ := hf
      refine hw_getR E hR cI9 hs0 1 (by decide) lfX10_19 rfl hb7 dX10_fits_20 ?_
      obtain ⟨h8, hf⟩ := hf
      refine hw_getI E hR cI8 h8 17 (by decide) lfX10_306 rfl dX10_fits_23 ?_
      refine lv_if_ge (tgt := 31) hx hb dX10_fits_26 (by decide) (fun c9 => ?_) (fun c9 => ?_)
      · replace hf := hf.1 c9
        refine lv_aload_n hx hb dX10_fits_31 rfl (lv_at hl 0 rfl) ?_
        obtain ⟨b10, hb10, hf⟩ := hf
        refine hw_getR E hR cI9 hs0 1 (by decide) lfX10_19 rfl hb10 dX10_fits_32 ?_
        refine lv_aload_n hx hb dX10_fits_35 rfl (lv_at hl 0 rfl) ?_
        obtain ⟨b11, hb11, hf⟩ := hf
        refine hw_getR E hR cI9 hs0 1 (by decide) lfX10_19 rfl hb11 dX10_fits_36 ?_
        obtain ⟨h12, hf⟩ := hf
        refine hw_getI E hR cI8 h12 17 (by decide) lfX10_306 rfl dX10_fits_39 ?_
        refine lv_aload_n hx hb dX10_fits_42 rfl (lv_at hl 0 rfl) ?_
        obtain ⟨b13, hb13, hf⟩ := hf
        refine hw_getR E hR cI9 hs0 6 (by decide) lfX10_45 rfl hb13 dX10_fits_43 ?_
        obtain ⟨h15, hf⟩ := hf
        obtain ⟨h16, hf⟩ := hf
        refine hw_callV (d := 7) E hR hS (As := [.int (m4.1 b11 17), .ref (ad g b13)]) (rest := []) cI8 h15 rfl mcX9_tellSteps miX9_tellSteps lmX10_227 (ok_X9_tellSteps h15 h16 hf) rfl rfl (by decide) hl.1 (Nat.le_of_ble_eq_true rfl) dX10_fits_46 (fun rr m14 H locs hp hR hS => ?_)
        obtain ⟨rfl, hf⟩ := hp
        refine W.eq (g2 := F0 m 49 ls []) rfl ?_
        refine lv_iconst (v := 1) hx hb dX10_fits_49 (by decide) ?_
        exact hw_iret E hR hS ⟨_, rfl, hf⟩ dX10_fits_50
      · replace hf := hf.2 c9
        refine lv_iconst (v := 0) hx hb dX10_fits_29 (by decide) ?_
        exact hw_iret E hR hS ⟨_, rfl, hf⟩ dX10_fits_30
    · replace hf := hf.1 c6
      refine lv_bipush (v := -3) hx hb dX10_fits_16 (by decide) ?_
      exact hw_iret E hR hS ⟨_, rfl, hf⟩ dX10_fits_18
  · replace hf := hf.2 c3
    refine lv_iconst (v := -1) hx hb dX10_fits_7 (by decide) ?_
    exact hw_iret E hR hS ⟨_, rfl, hf⟩ dX10_fits_8
def f_X10_many (S : Ss) (a0 : Nat) (M : Mm) (K : Int32 → Mm → Prop) : Prop :=
  f_X10_refusesTyping S a0  M (fun (r2 : Int32) (m1 : Mm) =>
    ((r2 = 0 →
    f_X10_followed S a0  m1 (fun (r5 : Int32) (m4 : Mm) =>
      ((r5 = 0 →
      K (-3 : Int32) m4) ∧
     (¬ r5 = 0 →
      ∃ b7 : Nat, m4.2.2 a0 6 = some b7 ∧
      ∃ b8 : Nat, m4.2.2 a0 1 = some b8 ∧
      S[b8]? = some (8, 0) ∧
      ∃ b10 : Nat, m4.2.2 a0 2 = some b10 ∧
      S[b10]? = some (2, 0) ∧
      ∃ b12 : Nat, m4.2.2 a0 7 = some b12 ∧
      S[b12]? = some (7, 0) ∧
      f_X10_power S  (m4.1 b10 10) (m4.1 b12 2) m4 (fun (r15 : Int64) (m14 : Mm) =>
        S[b7]? = some (6, 0) ∧
      f_X7_tellTwo S b7 (m4.2.1 b8 18) r15 m14 (fun (m16 : Mm) =>
        K (0 : Int32) m16)))))) ∧
   (¬ r2 = 0 →
    K (-1 : Int32) m1)))
set_option maxHeartbeats 4000000 in
set_option maxRecDepth 100000 in
theorem ok_X10_many {l : Launch} {g : Gg} {S : Ss} {a0 : Nat} {M : Mm} {K : Int32 → Mm → Prop} (hs0 : S[a0]? = some (9, 0)) (hf : f_X10_many S a0 M K) : MT l g S yX10_many cX10_many 1 (some .int) 7 [.ref (ad g a0)] M (pI K) := by
  refine MT.of (by decide +kernel) (Nat.le_of_ble_eq_true rfl) ?_
  intro p e s m below meth c ls E hw hR hS hl
  have hl : lv_has ls 1 [(0, .ref (ad g a0))] := hl
  generalize ([.ref (ad g a0)] : List Value).toArray = args at E ⊢
  have E : EN p s m args meth c cX10_many 1 (some .int) RX10 g := E
  have hx := E.1
  have hb := E.2.1
  unfold f_X10_many at hf
  refine lv_aload_n hx hb dX10_many_0 rfl (lv_at hl 0 rfl) ?_
  refine hw_callV (d := 7) E hR hS (As := []) (rest := []) cI9 hs0 rfl mcX10_refusesTyping miX10_refusesTyping lmX10_299 (ok_X10_refusesTyping hs0 hf) rfl rfl (by decide) hl.1 (Nat.le_of_ble_eq_true rfl) dX10_many_1 (fun rr m1 H locs hp hR hS => ?_)
  obtain ⟨r2, rfl, hf⟩ := hp
  refine W.eq (g2 := F0 m 4 ls [.int r2]) rfl ?_
  refine lv_if_eq (tgt := 9) hx hb dX10_many_4 (by decide) (fun c3 => ?_) (fun c3 => ?_)
  · replace hf := hf.1 c3
    refine lv_aload_n hx hb dX10_many_9 rfl (lv_at hl 0 rfl) ?_
    refine hw_callV (d := 7) E hR hS (As := []) (rest := []) cI9 hs0 rfl mcX10_followed miX10_followed lmX10_303 (ok_X10_followed hs0 hf) rfl rfl (by decide) hl.1 (Nat.le_of_ble_eq_true rfl) dX10_many_10 (fun rr m4 H locs hp hR hS => ?_)
    obtain ⟨r5, rfl, hf⟩ := hp
    refine W.eq (g2 := F0 m 13 ls [.int r5]) rfl ?_
    refine lv_if_ne (tgt := 19) hx hb dX10_many_13 (by decide) (fun c6 => ?_) (fun c6 => ?_)
    · replace hf := hf.2 c6
      refine lv_aload_n hx hb dX10_many_19 rfl (lv_at hl 0 rfl) ?_
      obtain ⟨b7, hb7, hf⟩ := hf
      refine hw_getR E hR cI9 hs0 6 (by decide) lfX10_45 rfl hb7 dX10_many_20 ?_
      refine lv_aload_n hx hb dX10_many_23 rfl (lv_at hl 0 rfl) ?_
      obtain ⟨b8, hb8, hf⟩ := hf
      refine hw_getR E hR cI9 hs0 1 (by decide) lfX10_19 rfl hb8 dX10_many_24 ?_
      obtain ⟨h9, hf⟩ := hf
      refine hw_getJ E hR cI8 h9 18 (by decide) lfX10_309 rfl dX10_many_27 ?_
      refine lv_aload_n hx hb dX10_many_30 rfl (lv_at hl 0 rfl) ?_
      obtain ⟨b10, hb10, hf⟩ := hf
      refine hw_getR E hR cI9 hs0 2 (by decide) lfX10_27 rfl hb10 dX10_many_31 ?_
      obtain ⟨h11, hf⟩ := hf
      refine hw_getI E hR cI2 h11 10 (by decide) lfX10_92 rfl dX10_many_34 ?_
      refine lv_aload_n hx hb dX10_many_37 rfl (lv_at hl 0 rfl) ?_
      obtain ⟨b12, hb12, hf⟩ := hf
      refine hw_getR E hR cI9 hs0 7 (by decide) lfX10_52 rfl hb12 dX10_many_38 ?_
      obtain ⟨h13, hf⟩ := hf
      refine hw_getI E hR cI7 h13 2 (by decide) lfX10_293 rfl dX10_many_41 ?_
      refine hw_callS (d := 7) E hR hS (As := [.int (m4.1 b10 10), .int (m4.1 b12 2)]) (rest := [.long (m4.2.1 b8 18), .ref (ad g b7)]) mcX10_power msX10_power lmX10_234 (ok_X10_power  hf) rfl rfl (by decide) hl.1 (Nat.le_of_ble_eq_true rfl) dX10_many_44 (fun rr m14 H locs hp hR hS => ?_)
      obtain ⟨r15, rfl, hf⟩ := hp
      refine W.eq (g2 := F0 m 47 ls [.long r15, .long (m4.2.1 b8 18), .ref (ad g b7)]) rfl ?_
      obtain ⟨h17, hf⟩ := hf
      refine hw_callV (d := 7) E hR hS (As := [.long (m4.2.1 b8 18), .long r15]) (rest := []) cI6 h17 rfl mcX7_tellTwo miX7_tellTwo lmX10_247 (ok_X7_tellTwo h17 hf) rfl rfl (by decide) hl.1 (Nat.le_of_ble_eq_true rfl) dX10_many_47 (fun rr m16 H locs hp hR hS => ?_)
      obtain ⟨rfl, hf⟩ := hp
      refine W.eq (g2 := F0 m 50 ls []) rfl ?_
      refine lv_iconst (v := 0) hx hb dX10_many_50 (by decide) ?_
      exact hw_iret E hR hS ⟨_, rfl, hf⟩ dX10_many_51
    · replace hf := hf.1 c6
      refine lv_bipush (v := -3) hx hb dX10_many_16 (by decide) ?_
      exact hw_iret E hR hS ⟨_, rfl, hf⟩ dX10_many_18
  · replace hf := hf.2 c3
    refine lv_iconst (v := -1) hx hb dX10_many_7 (by decide) ?_
    exact hw_iret E hR hS ⟨_, rfl, hf⟩ dX10_many_8
def f_X10_spare (S : Ss) (a0 : Nat) (M : Mm) (K : Int32 → Mm → Prop) : Prop :=
  f_X10_refusesTyping S a0  M (fun (r2 : Int32) (m1 : Mm) =>
    ((r2 = 0 →
    ∃ b4 : Nat, m1.2.2 a0 7 = some b4 ∧
    S[b4]? = some (7, 0) ∧
    f_X10_fewest S a0 (2 : Int32) (0 : Int32) (m1.1 b4 2) m1 (fun (r7 : Int32) (m6 : Mm) =>
      K r7 m6)) ∧
   (¬ r2 = 0 →
    K (-1 : Int32) m1)))
set_option maxHeartbeats 4000000 in
set_option maxRecDepth 100000 in
theorem ok_X10_spare {l : Launch} {g : Gg} {S : Ss} {a0 : Nat} {M : Mm} {K : Int32 → Mm → Prop} (hs0 : S[a0]? = some (9, 0)) (hf : f_X10_spare S a0 M K) : MT l g S yX10_spare cX10_spare 1 (some .int) 7 [.ref (ad g a0)] M (pI K) := by
  refine MT.of (by decide +kernel) (Nat.le_of_ble_eq_true rfl) ?_
  intro p e s m below meth c ls E hw hR hS hl
  have hl : lv_has ls 1 [(0, .ref (ad g a0))] := hl
  generalize ([.ref (ad g a0)] : List Value).toArray = args at E ⊢
  have E : EN p s m args meth c cX10_spare 1 (some .int) RX10 g := E
  have hx := E.1
  have hb := E.2.1
  unfold f_X10_spare at hf
  refine lv_aload_n hx hb dX10_spare_0 rfl (lv_at hl 0 rfl) ?_
  refine hw_callV (d := 7) E hR hS (As := []) (rest := []) cI9 hs0 rfl mcX10_refusesTyping miX10_refusesTyping lmX10_299 (ok_X10_refusesTyping hs0 hf) rfl rfl (by decide) hl.1 (Nat.le_of_ble_eq_true rfl) dX10_spare_1 (fun rr m1 H locs hp hR hS => ?_)
  obtain ⟨r2, rfl, hf⟩ := hp
  refine W.eq (g2 := F0 m 4 ls [.int r2]) rfl ?_
  refine lv_if_eq (tgt := 9) hx hb dX10_spare_4 (by decide) (fun c3 => ?_) (fun c3 => ?_)
  · replace hf := hf.1 c3
    refine lv_aload_n hx hb dX10_spare_9 rfl (lv_at hl 0 rfl) ?_
    refine lv_iconst (v := 2) hx hb dX10_spare_10 (by decide) ?_
    refine lv_iconst (v := 0) hx hb dX10_spare_11 (by decide) ?_
    refine lv_aload_n hx hb dX10_spare_12 rfl (lv_at hl 0 rfl) ?_
    obtain ⟨b4, hb4, hf⟩ := hf
    refine hw_getR E hR cI9 hs0 7 (by decide) lfX10_52 rfl hb4 dX10_spare_13 ?_
    obtain ⟨h5, hf⟩ := hf
    refine hw_getI E hR cI7 h5 2 (by decide) lfX10_293 rfl dX10_spare_16 ?_
    refine hw_callV (d := 7) E hR hS (As := [.int (2 : Int32), .int (0 : Int32), .int (m1.1 b4 2)]) (rest := []) cI9 hs0 rfl mcX10_fewest miX10_fewest lmX10_273 (ok_X10_fewest hs0 hf) rfl rfl (by decide) hl.1 (Nat.le_of_ble_eq_true rfl) dX10_spare_19 (fun rr m6 H locs hp hR hS => ?_)
    obtain ⟨r7, rfl, hf⟩ := hp
    refine W.eq (g2 := F0 m 22 ls [.int r7]) rfl ?_
    exact hw_iret E hR hS ⟨_, rfl, hf⟩ dX10_spare_22
  · replace hf := hf.2 c3
    refine lv_iconst (v := -1) hx hb dX10_spare_7 (by decide) ?_
    exact hw_iret E hR hS ⟨_, rfl, hf⟩ dX10_spare_8
def f_X10_nibble (S : Ss) (x0 : Int64) (x2 : Int32) (M : Mm) (K : Int32 → Mm → Prop) : Prop :=
  K ((x0.toUInt64 >>> ((x2 * (4 : Int32)).toInt64.toUInt64 &&& Int64.toUInt64 63)).toInt64.toInt32 &&& (15 : Int32)) M
set_option maxHeartbeats 4000000 in
set_option maxRecDepth 100000 in
theorem ok_X10_nibble {l : Launch} {g : Gg} {S : Ss} {x0 : Int64} {x2 : Int32} {M : Mm} {K : Int32 → Mm → Prop} (hf : f_X10_nibble S x0 x2 M K) : MT l g S yX10_nibble cX10_nibble 3 (some .int) 0 [.long x0, .int x2] M (pI K) := by
  refine MT.of (by decide +kernel) (Nat.le_of_ble_eq_true rfl) ?_
  intro p e s m below meth c ls E hw hR hS hl
  have hl : lv_has ls 3 [(0, .long x0), (2, .int x2)] := hl
  generalize ([.long x0, .int x2] : List Value).toArray = args at E ⊢
  have E : EN p s m args meth c cX10_nibble 3 (some .int) RX10 g := E
  have hx := E.1
  have hb := E.2.1
  unfold f_X10_nibble at hf
  refine lv_lload_n hx hb dX10_nibble_0 rfl (lv_at hl 0 rfl) ?_
  refine lv_iload_n hx hb dX10_nibble_1 rfl (lv_at hl 1 rfl) ?_
  refine lv_iconst (v := 4) hx hb dX10_nibble_2 (by decide) ?_
  refine lv_imul hx hb dX10_nibble_3 ?_
  refine lv_lushr hx hb dX10_nibble_4 rfl ?_
  refine lv_l2i hx hb dX10_nibble_5 rfl ?_
  refine lv_bipush (v := 15) hx hb dX10_nibble_6 (by decide) ?_
  refine lv_iand hx hb dX10_nibble_8 ?_
  exact hw_iret E hR hS ⟨_, rfl, hf⟩ dX10_nibble_9
def f_X10_tellShape_J70 (S : Ss) (a0 : Nat) (a1 : Nat) (a2 : Nat) (x3 : Int64) (x5 : Int64) (x7 : Int32) (x8 : Int32) (x9 : Int32) (M : Mm) (BK21 : Int64 → Int64 → Int32 → Mm → Prop) (K : Int32 → Mm → Prop) : Prop :=
  ((x8 = x9 →
    ∀ v13 : Int32, v13 = x7 + (1 : Int32) →
    BK21 x3 x5 v13 M) ∧
   (¬ x8 = x9 →
    K (0 : Int32) M))
set_option maxHeartbeats 4000000 in
set_option maxRecDepth 100000 in
theorem w_X10_tellShape_J70 {p : Program} {l : Launch} {e : Env} {s : State} {m : MethodId} {args : Array Value} {below : List Frame} {meth : Method} {c : Code} {g : Gg} {S : Ss} (a0 : Nat) (a1 : Nat) (a2 : Nat) (x3 : Int64) (x5 : Int64) (x7 : Int32) (x8 : Int32) (x9 : Int32) (M : Mm) (BK21 : Int64 → Int64 → Int32 → Mm → Prop) (K : Int32 → Mm → Prop) (E : EN p s m args meth c cX10_tellShape 12 (some .boolean) RX10 g) (hw : ad g 100000 < s.heap.size) (hs0 : S[a0]? = some (9, 0)) (hs1 : S[a1]? = some (4, 0)) (hs2 : S[a2]? = some (4, 0)) (hBK21 : ∀ (x3' : Int64) (x5' : Int64) (x7' : Int32) (M' : Mm) (H : Heap) (locs : List Loc) (ls : Array Slot), BK21 x3' x5' x7' M' → RP g S M' H → va_S (gA g) s.heap H locs → lv_has ls 12 [(0, .ref (ad g a0)), (1, .ref (ad g a1)), (2, .ref (ad g a2)), (3, .long x3'), (5, .long x5'), (7, .int x7')] → W p l e (rmD 1) s m args below meth c H locs 0 0 (MQ below (QA g S (pI K)) args s 0 0 (gA g)) (F0 m 21 ls [])) (hf : f_X10_tellShape_J70 S a0 a1 a2 x3 x5 x7 x8 x9 M BK21 K) (H : Heap) (locs : List Loc) (ls : Array Slot) (hR : RP g S M H) (hS : va_S (gA g) s.heap H locs) (hl : lv_has ls 12 [(0, .ref (ad g a0)), (1, .ref (ad g a1)), (2, .ref (ad g a2)), (3, .long x3), (5, .long x5), (7, .int x7), (8, .int x8), (9, .int x9)]) : W p l e (rmD 1) s m args below meth c H locs 0 0 (MQ below (QA g S (pI K)) args s 0 0 (gA g)) (F0 m 70 ls []) := by
  have hx := E.1
  have hb := E.2.1
  unfold f_X10_tellShape_J70 at hf
  refine lv_iload hx hb dX10_tellShape_70 (lv_at hl 6 rfl) ?_
  refine lv_iload hx hb dX10_tellShape_72 (lv_at hl 7 rfl) ?_
  refine lv_icmp_eq (tgt := 157) hx hb dX10_tellShape_74 (by decide) (fun c12 => ?_) (fun c12 => ?_)
  · replace hf := hf.1 c12
    obtain ⟨v13, ev13⟩ : ∃ y : Int32, y = x7 + (1 : Int32) := ⟨_, rfl⟩
    replace hf := hf v13 ev13
    refine lv_iinc (v := v13) (lv' := [(7, .int v13), (0, .ref (ad g a0)), (1, .ref (ad g a1)), (2, .ref (ad g a2)), (3, .long x3), (5, .long x5), (8, .int x8), (9, .int x9)]) hx hb dX10_tellShape_157 hl (k := 5) rfl (by rw [ev13]; rfl) (by decide) rfl (fun ls hl => ?_)
    refine lv_goto (tgt := 21) hx hb dX10_tellShape_160 (by decide) ?_
    exact hBK21 _ _ _ _ _ _ _ hf hR hS (lv_sub hl [1, 2, 3, 4, 5, 0] rfl)
  · replace hf := hf.2 c12
    refine lv_iconst (v := 0) hx hb dX10_tellShape_77 (by decide) ?_
    exact hw_zret E hR hS (by decide) ⟨_, rfl, hf⟩ dX10_tellShape_78
def f_X10_tellShape_J137 (S : Ss) (a0 : Nat) (a1 : Nat) (a2 : Nat) (x3 : Int64) (x5 : Int64) (x7 : Int32) (x8 : Int32) (x9 : Int32) (x10 : Int32) (x11 : Int32) (M : Mm) (BK21 : Int64 → Int64 → Int32 → Mm → Prop) (K : Int32 → Mm → Prop) : Prop :=
  ((x10 = (x9 + (1 : Int32)) →
    ((x11 = (x8 + (1 : Int32)) →
      ∀ v24 : Int32, v24 = x7 + (1 : Int32) →
      BK21 x3 x5 v24 M) ∧
     (¬ x11 = (x8 + (1 : Int32)) →
      K (0 : Int32) M))) ∧
   (¬ x10 = (x9 + (1 : Int32)) →
    K (0 : Int32) M))
set_option maxHeartbeats 4000000 in
set_option maxRecDepth 100000 in
theorem w_X10_tellShape_J137 {p : Program} {l : Launch} {e : Env} {s : State} {m : MethodId} {args : Array Value} {below : List Frame} {meth : Method} {c : Code} {g : Gg} {S : Ss} (a0 : Nat) (a1 : Nat) (a2 : Nat) (x3 : Int64) (x5 : Int64) (x7 : Int32) (x8 : Int32) (x9 : Int32) (x10 : Int32) (x11 : Int32) (M : Mm) (BK21 : Int64 → Int64 → Int32 → Mm → Prop) (K : Int32 → Mm → Prop) (E : EN p s m args meth c cX10_tellShape 12 (some .boolean) RX10 g) (hw : ad g 100000 < s.heap.size) (hs0 : S[a0]? = some (9, 0)) (hs1 : S[a1]? = some (4, 0)) (hs2 : S[a2]? = some (4, 0)) (hBK21 : ∀ (x3' : Int64) (x5' : Int64) (x7' : Int32) (M' : Mm) (H : Heap) (locs : List Loc) (ls : Array Slot), BK21 x3' x5' x7' M' → RP g S M' H → va_S (gA g) s.heap H locs → lv_has ls 12 [(0, .ref (ad g a0)), (1, .ref (ad g a1)), (2, .ref (ad g a2)), (3, .long x3'), (5, .long x5'), (7, .int x7')] → W p l e (rmD 1) s m args below meth c H locs 0 0 (MQ below (QA g S (pI K)) args s 0 0 (gA g)) (F0 m 21 ls [])) (hf : f_X10_tellShape_J137 S a0 a1 a2 x3 x5 x7 x8 x9 x10 x11 M BK21 K) (H : Heap) (locs : List Loc) (ls : Array Slot) (hR : RP g S M H) (hS : va_S (gA g) s.heap H locs) (hl : lv_has ls 12 [(0, .ref (ad g a0)), (1, .ref (ad g a1)), (2, .ref (ad g a2)), (3, .long x3), (5, .long x5), (7, .int x7), (8, .int x8), (9, .int x9), (10, .int x10), (11, .int x11)]) : W p l e (rmD 1) s m args below meth c H locs 0 0 (MQ below (QA g S (pI K)) args s 0 0 (gA g)) (F0 m 137 ls []) := by
  have hx := E.1
  have hb := E.2.1
  unfold f_X10_tellShape_J137 at hf
  refine lv_iload hx hb dX10_tellShape_137 (lv_at hl 8 rfl) ?_
  refine lv_iload hx hb dX10_tellShape_139 (lv_at hl 7 rfl) ?_
  refine lv_iconst (v := 1) hx hb dX10_tellShape_141 (by decide) ?_
  refine lv_iadd hx hb dX10_tellShape_142 ?_
  refine lv_icmp_ne (tgt := 155) hx hb dX10_tellShape_143 (by decide) (fun c22 => ?_) (fun c22 => ?_)
  · replace hf := hf.2 c22
    refine lv_iconst (v := 0) hx hb dX10_tellShape_155 (by decide) ?_
    exact hw_zret E hR hS (by decide) ⟨_, rfl, hf⟩ dX10_tellShape_156
  · replace hf := hf.1 c22
    refine lv_iload hx hb dX10_tellShape_146 (lv_at hl 9 rfl) ?_
    refine lv_iload hx hb dX10_tellShape_148 (lv_at hl 6 rfl) ?_
    refine lv_iconst (v := 1) hx hb dX10_tellShape_150 (by decide) ?_
    refine lv_iadd hx hb dX10_tellShape_151 ?_
    refine lv_icmp_eq (tgt := 157) hx hb dX10_tellShape_152 (by decide) (fun c23 => ?_) (fun c23 => ?_)
    · replace hf := hf.1 c23
      obtain ⟨v24, ev24⟩ : ∃ y : Int32, y = x7 + (1 : Int32) := ⟨_, rfl⟩
      replace hf := hf v24 ev24
      refine lv_iinc (v := v24) (lv' := [(7, .int v24), (0, .ref (ad g a0)), (1, .ref (ad g a1)), (2, .ref (ad g a2)), (3, .long x3), (5, .long x5), (8, .int x8), (9, .int x9), (10, .int x10), (11, .int x11)]) hx hb dX10_tellShape_157 hl (k := 5) rfl (by rw [ev24]; rfl) (by decide) rfl (fun ls hl => ?_)
      refine lv_goto (tgt := 21) hx hb dX10_tellShape_160 (by decide) ?_
      exact hBK21 _ _ _ _ _ _ _ hf hR hS (lv_sub hl [1, 2, 3, 4, 5, 0] rfl)
    · replace hf := hf.2 c23
      refine lv_iconst (v := 0) hx hb dX10_tellShape_155 (by decide) ?_
      exact hw_zret E hR hS (by decide) ⟨_, rfl, hf⟩ dX10_tellShape_156
def f_X10_tellShape_B21 (S : Ss) (a0 : Nat) (a1 : Nat) (a2 : Nat) (x3 : Int64) (x5 : Int64) (x7 : Int32) (M : Mm) (BK21 : Int64 → Int64 → Int32 → Mm → Prop) (EK21 : Int64 → Mm → Prop) (K : Int32 → Mm → Prop) : Prop :=
  (((M.1 a1 5) ≤ x7 →
    EK21 x3 M) ∧
   (¬ (M.1 a1 5) ≤ x7 →
    ∃ b3 : Nat, M.2.2 a1 0 = some b3 ∧
    ∃ n4 : Nat, S[b3]? = some (51, n4) ∧ vp_in x7 n4 ∧
    ∀ v5 : Int32, v5 = ((M.1 b3 x7.toNatClampNeg) - (97 : Int32)) →
    ∃ b6 : Nat, M.2.2 a2 0 = some b6 ∧
    ∃ n7 : Nat, S[b6]? = some (51, n7) ∧ vp_in x7 n7 ∧
    ∀ v8 : Int32, v8 = ((M.1 b6 x7.toNatClampNeg) - (97 : Int32)) →
    f_X4_isSlot S  v5 M (fun (r10 : Int32) (m9 : Mm) =>
      ((r10 = 0 →
      f_X10_tellShape_J70 S a0 a1 a2 x3 x5 x7 v5 v8 m9 BK21 K) ∧
     (¬ r10 = 0 →
      f_X4_isSlot S  v8 m9 (fun (r15 : Int32) (m14 : Mm) =>
        ((r15 = 0 →
        f_X10_tellShape_J70 S a0 a1 a2 x3 x5 x7 v5 v8 m14 BK21 K) ∧
       (¬ r15 = 0 →
        f_X10_nibble S  x3 v5 m14 (fun (r18 : Int32) (m17 : Mm) =>
          f_X10_nibble S  x5 v8 m17 (fun (r20 : Int32) (m19 : Mm) =>
          ((r18 = 0 →
          ((r20 = 0 →
            ∀ v26 : Int64, v26 = (x3 ||| ((v8 + (1 : Int32)).toInt64 <<< ((v5 * (4 : Int32)).toInt64 &&& 63))) →
            ∀ v27 : Int64, v27 = (x5 ||| ((v5 + (1 : Int32)).toInt64 <<< ((v8 * (4 : Int32)).toInt64 &&& 63))) →
            ∀ v28 : Int32, v28 = x7 + (1 : Int32) →
            BK21 v26 v27 v28 m19) ∧
           (¬ r20 = 0 →
            f_X10_tellShape_J137 S a0 a1 a2 x3 x5 x7 v5 v8 r18 r20 m19 BK21 K))) ∧
         (¬ r18 = 0 →
          f_X10_tellShape_J137 S a0 a1 a2 x3 x5 x7 v5 v8 r18 r20 m19 BK21 K))))))))))))
set_option maxHeartbeats 4000000 in
set_option maxRecDepth 100000 in
theorem w_X10_tellShape_B21 {p : Program} {l : Launch} {e : Env} {s : State} {m : MethodId} {args : Array Value} {below : List Frame} {meth : Method} {c : Code} {g : Gg} {S : Ss} (a0 : Nat) (a1 : Nat) (a2 : Nat) (x3 : Int64) (x5 : Int64) (x7 : Int32) (M : Mm) (BK21 : Int64 → Int64 → Int32 → Mm → Prop) (EK21 : Int64 → Mm → Prop) (K : Int32 → Mm → Prop) (E : EN p s m args meth c cX10_tellShape 12 (some .boolean) RX10 g) (hw : ad g 100000 < s.heap.size) (hs0 : S[a0]? = some (9, 0)) (hs1 : S[a1]? = some (4, 0)) (hs2 : S[a2]? = some (4, 0)) (hBK21 : ∀ (x3' : Int64) (x5' : Int64) (x7' : Int32) (M' : Mm) (H : Heap) (locs : List Loc) (ls : Array Slot), BK21 x3' x5' x7' M' → RP g S M' H → va_S (gA g) s.heap H locs → lv_has ls 12 [(0, .ref (ad g a0)), (1, .ref (ad g a1)), (2, .ref (ad g a2)), (3, .long x3'), (5, .long x5'), (7, .int x7')] → W p l e (rmD 1) s m args below meth c H locs 0 0 (MQ below (QA g S (pI K)) args s 0 0 (gA g)) (F0 m 21 ls [])) (hEK21 : ∀ (x3' : Int64) (M' : Mm) (H : Heap) (locs : List Loc) (ls : Array Slot), EK21 x3' M' → RP g S M' H → va_S (gA g) s.heap H locs → lv_has ls 12 [(0, .ref (ad g a0)), (3, .long x3')] → W p l e (rmD 1) s m args below meth c H locs 0 0 (MQ below (QA g S (pI K)) args s 0 0 (gA g)) (F0 m 163 ls [])) (hf : f_X10_tellShape_B21 S a0 a1 a2 x3 x5 x7 M BK21 EK21 K) (H : Heap) (locs : List Loc) (ls : Array Slot) (hR : RP g S M H) (hS : va_S (gA g) s.heap H locs) (hl : lv_has ls 12 [(0, .ref (ad g a0)), (1, .ref (ad g a1)), (2, .ref (ad g a2)), (3, .long x3), (5, .long x5), (7, .int x7)]) : W p l e (rmD 1) s m args below meth c H locs 0 0 (MQ below (QA g S (pI K)) args s 0 0 (gA g)) (F0 m 21 ls []) := by
  have hx := E.1
  have hb := E.2.1
  unfold f_X10_tellShape_B21 at hf
  refine lv_iload hx hb dX10_tellShape_21 (lv_at hl 5 rfl) ?_
  refine lv_aload_n hx hb dX10_tellShape_23 rfl (lv_at hl 1 rfl) ?_
  refine hw_getI E hR cI4 hs1 5 (by decide) lfX10_386 rfl dX10_tellShape_24 ?_
  refine lv_icmp_ge (tgt := 163) hx hb dX10_tellShape_27 (by decide) (fun c2 => ?_) (fun c2 => ?_)
  · replace hf := hf.1 c2
    exact hEK21 _ _ _ _ _ hf hR hS (lv_sub hl [0, 3] rfl)
  · replace hf := hf.2 c2
    refine lv_aload_n hx hb dX10_tellShape_30 rfl (lv_at hl 1 rfl) ?_
    obtain ⟨b3, hb3, hf⟩ := hf
    refine hw_getR E hR cI4 hs1 0 (by decide) lfX10_387 rfl hb3 dX10_tellShape_31 ?_
    refine lv_iload hx hb dX10_tellShape_34 (lv_at hl 5 rfl) ?_
    obtain ⟨n4, hn4, in4, hf⟩ := hf
    refine hw_cald E hR hn4 in4 dX10_tellShape_36 ?_
    refine lv_bipush (v := 97) hx hb dX10_tellShape_37 (by decide) ?_
    refine lv_isub hx hb dX10_tellShape_39 ?_
    refine lv_topi (fun v5 ev5 => ?_)
    replace hf := hf v5 ev5
    refine lv_istore (lv' := [(8, .int v5), (0, .ref (ad g a0)), (1, .ref (ad g a1)), (2, .ref (ad g a2)), (3, .long x3), (5, .long x5), (7, .int x7)]) hx hb dX10_tellShape_40 hl (by decide) rfl (fun ls hl => ?_)
    refine lv_aload_n hx hb dX10_tellShape_42 rfl (lv_at hl 3 rfl) ?_
    obtain ⟨b6, hb6, hf⟩ := hf
    refine hw_getR E hR cI4 hs2 0 (by decide) lfX10_387 rfl hb6 dX10_tellShape_43 ?_
    refine lv_iload hx hb dX10_tellShape_46 (lv_at hl 6 rfl) ?_
    obtain ⟨n7, hn7, in7, hf⟩ := hf
    refine hw_cald E hR hn7 in7 dX10_tellShape_48 ?_
    refine lv_bipush (v := 97) hx hb dX10_tellShape_49 (by decide) ?_
    refine lv_isub hx hb dX10_tellShape_51 ?_
    refine lv_topi (fun v8 ev8 => ?_)
    replace hf := hf v8 ev8
    refine lv_istore (lv' := [(9, .int v8), (8, .int v5), (0, .ref (ad g a0)), (1, .ref (ad g a1)), (2, .ref (ad g a2)), (3, .long x3), (5, .long x5), (7, .int x7)]) hx hb dX10_tellShape_52 hl (by decide) rfl (fun ls hl => ?_)
    refine lv_iload hx hb dX10_tellShape_54 (lv_at hl 1 rfl) ?_
    refine hw_callS (d := 1) E hR hS (As := [.int v5]) (rest := []) mcX4_isSlot msX4_isSlot lmX10_388 (ok_X4_isSlot  hf) rfl rfl (by decide) hl.1 (Nat.le_of_ble_eq_true rfl) dX10_tellShape_56 (fun rr m9 H locs hp hR hS => ?_)
    obtain ⟨r10, rfl, hf⟩ := hp
    refine W.eq (g2 := F0 m 59 ls [.int r10]) rfl ?_
    refine lv_if_eq (tgt := 70) hx hb dX10_tellShape_59 (by decide) (fun c11 => ?_) (fun c11 => ?_)
    · replace hf := hf.1 c11
      exact w_X10_tellShape_J70 _ _ _ _ _ _ _ _ _ _ _ E hw hs0 hs1 hs2 hBK21 hf _ _ _ hR hS (lv_sub hl [2, 3, 4, 5, 6, 7, 1, 0] rfl)
    · replace hf := hf.2 c11
      refine lv_iload hx hb dX10_tellShape_62 (lv_at hl 0 rfl) ?_
      refine hw_callS (d := 1) E hR hS (As := [.int v8]) (rest := []) mcX4_isSlot msX4_isSlot lmX10_388 (ok_X4_isSlot  hf) rfl rfl (by decide) hl.1 (Nat.le_of_ble_eq_true rfl) dX10_tellShape_64 (fun rr m14 H locs hp hR hS => ?_)
      obtain ⟨r15, rfl, hf⟩ := hp
      refine W.eq (g2 := F0 m 67 ls [.int r15]) rfl ?_
      refine lv_if_ne (tgt := 79) hx hb dX10_tellShape_67 (by decide) (fun c16 => ?_) (fun c16 => ?_)
      · replace hf := hf.2 c16
        refine lv_lload_n hx hb dX10_tellShape_79 rfl (lv_at hl 5 rfl) ?_
        refine lv_iload hx hb dX10_tellShape_80 (lv_at hl 1 rfl) ?_
        refine hw_callS (d := 1) E hR hS (As := [.long x3, .int v5]) (rest := []) mcX10_nibble msX10_nibble lmX10_391 (ok_X10_nibble  hf) rfl rfl (by decide) hl.1 (Nat.le_of_ble_eq_true rfl) dX10_tellShape_82 (fun rr m17 H locs hp hR hS => ?_)
        obtain ⟨r18, rfl, hf⟩ := hp
        refine W.eq (g2 := F0 m 85 ls [.int r18]) rfl ?_
        refine lv_istore (lv' := [(10, .int r18), (9, .int v8), (8, .int v5), (0, .ref (ad g a0)), (1, .ref (ad g a1)), (2, .ref (ad g a2)), (3, .long x3), (5, .long x5), (7, .int x7)]) hx hb dX10_tellShape_85 hl (by decide) rfl (fun ls hl => ?_)
        refine lv_lload hx hb dX10_tellShape_87 (lv_at hl 7 rfl) ?_
        refine lv_iload hx hb dX10_tellShape_89 (lv_at hl 1 rfl) ?_
        refine hw_callS (d := 1) E hR hS (As := [.long x5, .int v8]) (rest := []) mcX10_nibble msX10_nibble lmX10_391 (ok_X10_nibble  hf) rfl rfl (by decide) hl.1 (Nat.le_of_ble_eq_true rfl) dX10_tellShape_91 (fun rr m19 H locs hp hR hS => ?_)
        obtain ⟨r20, rfl, hf⟩ := hp
        refine W.eq (g2 := F0 m 94 ls [.int r20]) rfl ?_
        refine lv_istore (lv' := [(11, .int r20), (10, .int r18), (9, .int v8), (8, .int v5), (0, .ref (ad g a0)), (1, .ref (ad g a1)), (2, .ref (ad g a2)), (3, .long x3), (5, .long x5), (7, .int x7)]) hx hb dX10_tellShape_94 hl (by decide) rfl (fun ls hl => ?_)
        refine lv_iload hx hb dX10_tellShape_96 (lv_at hl 1 rfl) ?_
        refine lv_if_ne (tgt := 137) hx hb dX10_tellShape_98 (by decide) (fun c21 => ?_) (fun c21 => ?_)
        · replace hf := hf.2 c21
          exact w_X10_tellShape_J137 _ _ _ _ _ _ _ _ _ _ _ _ _ E hw hs0 hs1 hs2 hBK21 hf _ _ _ hR hS (lv_sub hl [4, 5, 6, 7, 8, 9, 3, 2, 1, 0] rfl)
        · replace hf := hf.1 c21
          refine lv_iload hx hb dX10_tellShape_101 (lv_at hl 0 rfl) ?_
          refine lv_if_ne (tgt := 137) hx hb dX10_tellShape_103 (by decide) (fun c25 => ?_) (fun c25 => ?_)
          · replace hf := hf.2 c25
            exact w_X10_tellShape_J137 _ _ _ _ _ _ _ _ _ _ _ _ _ E hw hs0 hs1 hs2 hBK21 hf _ _ _ hR hS (lv_sub hl [4, 5, 6, 7, 8, 9, 3, 2, 1, 0] rfl)
          · replace hf := hf.1 c25
            refine lv_lload_n hx hb dX10_tellShape_106 rfl (lv_at hl 7 rfl) ?_
            refine lv_iload hx hb dX10_tellShape_107 (lv_at hl 2 rfl) ?_
            refine lv_iconst (v := 1) hx hb dX10_tellShape_109 (by decide) ?_
            refine lv_iadd hx hb dX10_tellShape_110 ?_
            refine lv_i2l hx hb dX10_tellShape_111 rfl ?_
            refine lv_iload hx hb dX10_tellShape_112 (lv_at hl 3 rfl) ?_
            refine lv_iconst (v := 4) hx hb dX10_tellShape_114 (by decide) ?_
            refine lv_imul hx hb dX10_tellShape_115 ?_
            refine lv_lshl hx hb dX10_tellShape_116 rfl ?_
            refine lv_lor hx hb dX10_tellShape_117 ?_
            refine lv_topl (fun v26 ev26 => ?_)
            replace hf := hf v26 ev26
            refine lv_lstore_n (lv' := [(3, .long v26), (11, .int r20), (10, .int r18), (9, .int v8), (8, .int v5), (0, .ref (ad g a0)), (1, .ref (ad g a1)), (2, .ref (ad g a2)), (5, .long x5), (7, .int x7)]) hx hb dX10_tellShape_118 rfl hl (by decide) rfl (fun ls hl => ?_)
            refine lv_lload hx hb dX10_tellShape_119 (lv_at hl 8 rfl) ?_
            refine lv_iload hx hb dX10_tellShape_121 (lv_at hl 4 rfl) ?_
            refine lv_iconst (v := 1) hx hb dX10_tellShape_123 (by decide) ?_
            refine lv_iadd hx hb dX10_tellShape_124 ?_
            refine lv_i2l hx hb dX10_tellShape_125 rfl ?_
            refine lv_iload hx hb dX10_tellShape_126 (lv_at hl 3 rfl) ?_
            refine lv_iconst (v := 4) hx hb dX10_tellShape_128 (by decide) ?_
            refine lv_imul hx hb dX10_tellShape_129 ?_
            refine lv_lshl hx hb dX10_tellShape_130 rfl ?_
            refine lv_lor hx hb dX10_tellShape_131 ?_
            refine lv_topl (fun v27 ev27 => ?_)
            replace hf := hf v27 ev27
            refine lv_lstore (lv' := [(5, .long v27), (3, .long v26), (11, .int r20), (10, .int r18), (9, .int v8), (8, .int v5), (0, .ref (ad g a0)), (1, .ref (ad g a1)), (2, .ref (ad g a2)), (7, .int x7)]) hx hb dX10_tellShape_132 hl (by decide) rfl (fun ls hl => ?_)
            refine lv_goto (tgt := 157) hx hb dX10_tellShape_134 (by decide) ?_
            obtain ⟨v28, ev28⟩ : ∃ y : Int32, y = x7 + (1 : Int32) := ⟨_, rfl⟩
            replace hf := hf v28 ev28
            refine lv_iinc (v := v28) (lv' := [(7, .int v28), (5, .long v27), (3, .long v26), (11, .int r20), (10, .int r18), (9, .int v8), (8, .int v5), (0, .ref (ad g a0)), (1, .ref (ad g a1)), (2, .ref (ad g a2))]) hx hb dX10_tellShape_157 hl (k := 9) rfl (by rw [ev28]; rfl) (by decide) rfl (fun ls hl => ?_)
            refine lv_goto (tgt := 21) hx hb dX10_tellShape_160 (by decide) ?_
            exact hBK21 _ _ _ _ _ _ _ hf hR hS (lv_sub hl [7, 8, 9, 2, 1, 0] rfl)
      · replace hf := hf.1 c16
        exact w_X10_tellShape_J70 _ _ _ _ _ _ _ _ _ _ _ E hw hs0 hs1 hs2 hBK21 hf _ _ _ hR hS (lv_sub hl [2, 3, 4, 5, 6, 7, 1, 0] rfl)
def f_X10_tellShape_L21 (S : Ss) (a0 : Nat) (a1 : Nat) (a2 : Nat) (EK21 : Int64 → Mm → Prop) (K : Int32 → Mm → Prop) : Nat → Int64 → Int64 → Int32 → Mm → Prop
  | 0, _, _, _, _ => False
  | n + 1, x3, x5, x7, M => f_X10_tellShape_B21 S a0 a1 a2 x3 x5 x7 M (fun (x3 : Int64) (x5 : Int64) (x7 : Int32) (M : Mm) => f_X10_tellShape_L21 S a0 a1 a2 EK21 K n x3 x5 x7 M) EK21 K
set_option maxHeartbeats 4000000 in
set_option maxRecDepth 100000 in
theorem w_X10_tellShape_L21 {p : Program} {l : Launch} {e : Env} {s : State} {m : MethodId} {args : Array Value} {below : List Frame} {meth : Method} {c : Code} {g : Gg} {S : Ss} (a0 : Nat) (a1 : Nat) (a2 : Nat) (EK21 : Int64 → Mm → Prop) (K : Int32 → Mm → Prop) (E : EN p s m args meth c cX10_tellShape 12 (some .boolean) RX10 g) (hw : ad g 100000 < s.heap.size) (hs0 : S[a0]? = some (9, 0)) (hs1 : S[a1]? = some (4, 0)) (hs2 : S[a2]? = some (4, 0)) (hEK21 : ∀ (x3' : Int64) (M' : Mm) (H : Heap) (locs : List Loc) (ls : Array Slot), EK21 x3' M' → RP g S M' H → va_S (gA g) s.heap H locs → lv_has ls 12 [(0, .ref (ad g a0)), (3, .long x3')] → W p l e (rmD 1) s m args below meth c H locs 0 0 (MQ below (QA g S (pI K)) args s 0 0 (gA g)) (F0 m 163 ls [])) : ∀ (n : Nat) (x3 : Int64) (x5 : Int64) (x7 : Int32) (M : Mm), f_X10_tellShape_L21 S a0 a1 a2 EK21 K n x3 x5 x7 M → ∀ (H : Heap) (locs : List Loc) (ls : Array Slot), RP g S M H → va_S (gA g) s.heap H locs → lv_has ls 12 [(0, .ref (ad g a0)), (1, .ref (ad g a1)), (2, .ref (ad g a2)), (3, .long x3), (5, .long x5), (7, .int x7)] → W p l e (rmD 1) s m args below meth c H locs 0 0 (MQ below (QA g S (pI K)) args s 0 0 (gA g)) (F0 m 21 ls []) := by
  intro n
  induction n with
  | zero => intro x3 x5 x7 M hf; exact hf.elim
  | succ n ih =>
    intro x3 x5 x7 M hf H locs ls hR hS hl
    exact w_X10_tellShape_B21 _ _ _ _ _ _ _ _ _ _ E hw hs0 hs1 hs2 (fun _ _ _ M H locs ls h hR hS hl => ih _ _ _ M h H locs ls hR hS hl) hEK21 hf H locs ls hR hS hl
def f_X10_tellShape_B173 (S : Ss) (a0 : Nat) (x3 : Int64) (x7 : Int32) (M : Mm) (BK173 : Int32 → Mm → Prop) (EK173 : Mm → Prop) (K : Int32 → Mm → Prop) : Prop :=
  (((8 : Int32) ≤ x7 →
    EK173 M) ∧
   (¬ (8 : Int32) ≤ x7 →
    ∃ b35 : Nat, M.2.2 a0 6 = some b35 ∧
    f_X10_nibble S  x3 x7 M (fun (r37 : Int32) (m36 : Mm) =>
      S[b35]? = some (6, 0) ∧
    f_X7_tellNext S b35 (r37 - (1 : Int32)).toInt64 m36 (fun (m38 : Mm) =>
      ∀ v40 : Int32, v40 = x7 + (1 : Int32) →
    BK173 v40 m38))))
set_option maxHeartbeats 4000000 in
set_option maxRecDepth 100000 in
theorem w_X10_tellShape_B173 {p : Program} {l : Launch} {e : Env} {s : State} {m : MethodId} {args : Array Value} {below : List Frame} {meth : Method} {c : Code} {g : Gg} {S : Ss} (a0 : Nat) (x3 : Int64) (x7 : Int32) (M : Mm) (BK173 : Int32 → Mm → Prop) (EK173 : Mm → Prop) (K : Int32 → Mm → Prop) (E : EN p s m args meth c cX10_tellShape 12 (some .boolean) RX10 g) (hw : ad g 100000 < s.heap.size) (hs0 : S[a0]? = some (9, 0)) (hBK173 : ∀ (x7' : Int32) (M' : Mm) (H : Heap) (locs : List Loc) (ls : Array Slot), BK173 x7' M' → RP g S M' H → va_S (gA g) s.heap H locs → lv_has ls 12 [(0, .ref (ad g a0)), (3, .long x3), (7, .int x7')] → W p l e (rmD 1) s m args below meth c H locs 0 0 (MQ below (QA g S (pI K)) args s 0 0 (gA g)) (F0 m 173 ls [])) (hEK173 : ∀ (M' : Mm) (H : Heap) (locs : List Loc) (ls : Array Slot), EK173 M' → RP g S M' H → va_S (gA g) s.heap H locs → lv_has ls 12 [] → W p l e (rmD 1) s m args below meth c H locs 0 0 (MQ below (QA g S (pI K)) args s 0 0 (gA g)) (F0 m 202 ls [])) (hf : f_X10_tellShape_B173 S a0 x3 x7 M BK173 EK173 K) (H : Heap) (locs : List Loc) (ls : Array Slot) (hR : RP g S M H) (hS : va_S (gA g) s.heap H locs) (hl : lv_has ls 12 [(0, .ref (ad g a0)), (3, .long x3), (7, .int x7)]) : W p l e (rmD 1) s m args below meth c H locs 0 0 (MQ below (QA g S (pI K)) args s 0 0 (gA g)) (F0 m 173 ls []) := by
  have hx := E.1
  have hb := E.2.1
  unfold f_X10_tellShape_B173 at hf
  refine lv_iload hx hb dX10_tellShape_173 (lv_at hl 2 rfl) ?_
  refine lv_bipush (v := 8) hx hb dX10_tellShape_175 (by decide) ?_
  refine lv_icmp_ge (tgt := 202) hx hb dX10_tellShape_177 (by decide) (fun c34 => ?_) (fun c34 => ?_)
  · replace hf := hf.1 c34
    exact hEK173  _ _ _ _ hf hR hS (lv_sub hl [] rfl)
  · replace hf := hf.2 c34
    refine lv_aload_n hx hb dX10_tellShape_180 rfl (lv_at hl 0 rfl) ?_
    obtain ⟨b35, hb35, hf⟩ := hf
    refine hw_getR E hR cI9 hs0 6 (by decide) lfX10_45 rfl hb35 dX10_tellShape_181 ?_
    refine lv_lload_n hx hb dX10_tellShape_184 rfl (lv_at hl 1 rfl) ?_
    refine lv_iload hx hb dX10_tellShape_185 (lv_at hl 2 rfl) ?_
    refine hw_callS (d := 1) E hR hS (As := [.long x3, .int x7]) (rest := [.ref (ad g b35)]) mcX10_nibble msX10_nibble lmX10_391 (ok_X10_nibble  hf) rfl rfl (by decide) hl.1 (Nat.le_of_ble_eq_true rfl) dX10_tellShape_187 (fun rr m36 H locs hp hR hS => ?_)
    obtain ⟨r37, rfl, hf⟩ := hp
    refine W.eq (g2 := F0 m 190 ls [.int r37, .ref (ad g b35)]) rfl ?_
    refine lv_iconst (v := 1) hx hb dX10_tellShape_190 (by decide) ?_
    refine lv_isub hx hb dX10_tellShape_191 ?_
    refine lv_i2l hx hb dX10_tellShape_192 rfl ?_
    obtain ⟨h39, hf⟩ := hf
    refine hw_callV (d := 1) E hR hS (As := [.long (r37 - (1 : Int32)).toInt64]) (rest := []) cI6 h39 rfl mcX7_tellNext miX7_tellNext lmX10_372 (ok_X7_tellNext h39 hf) rfl rfl (by decide) hl.1 (Nat.le_of_ble_eq_true rfl) dX10_tellShape_193 (fun rr m38 H locs hp hR hS => ?_)
    obtain ⟨rfl, hf⟩ := hp
    refine W.eq (g2 := F0 m 196 ls []) rfl ?_
    obtain ⟨v40, ev40⟩ : ∃ y : Int32, y = x7 + (1 : Int32) := ⟨_, rfl⟩
    replace hf := hf v40 ev40
    refine lv_iinc (v := v40) (lv' := [(7, .int v40), (0, .ref (ad g a0)), (3, .long x3)]) hx hb dX10_tellShape_196 hl (k := 2) rfl (by rw [ev40]; rfl) (by decide) rfl (fun ls hl => ?_)
    refine lv_goto (tgt := 173) hx hb dX10_tellShape_199 (by decide) ?_
    exact hBK173 _ _ _ _ _ hf hR hS (lv_sub hl [1, 2, 0] rfl)
def f_X10_tellShape_L173 (S : Ss) (a0 : Nat) (x3 : Int64) (EK173 : Mm → Prop) (K : Int32 → Mm → Prop) : Nat → Int32 → Mm → Prop
  | 0, _, _ => False
  | n + 1, x7, M => f_X10_tellShape_B173 S a0 x3 x7 M (fun (x7 : Int32) (M : Mm) => f_X10_tellShape_L173 S a0 x3 EK173 K n x7 M) EK173 K
set_option maxHeartbeats 4000000 in
set_option maxRecDepth 100000 in
theorem w_X10_tellShape_L173 {p : Program} {l : Launch} {e : Env} {s : State} {m : MethodId} {args : Array Value} {below : List Frame} {meth : Method} {c : Code} {g : Gg} {S : Ss} (a0 : Nat) (x3 : Int64) (EK173 : Mm → Prop) (K : Int32 → Mm → Prop) (E : EN p s m args meth c cX10_tellShape 12 (some .boolean) RX10 g) (hw : ad g 100000 < s.heap.size) (hs0 : S[a0]? = some (9, 0)) (hEK173 : ∀ (M' : Mm) (H : Heap) (locs : List Loc) (ls : Array Slot), EK173 M' → RP g S M' H → va_S (gA g) s.heap H locs → lv_has ls 12 [] → W p l e (rmD 1) s m args below meth c H locs 0 0 (MQ below (QA g S (pI K)) args s 0 0 (gA g)) (F0 m 202 ls [])) : ∀ (n : Nat) (x7 : Int32) (M : Mm), f_X10_tellShape_L173 S a0 x3 EK173 K n x7 M → ∀ (H : Heap) (locs : List Loc) (ls : Array Slot), RP g S M H → va_S (gA g) s.heap H locs → lv_has ls 12 [(0, .ref (ad g a0)), (3, .long x3), (7, .int x7)] → W p l e (rmD 1) s m args below meth c H locs 0 0 (MQ below (QA g S (pI K)) args s 0 0 (gA g)) (F0 m 173 ls []) := by
  intro n
  induction n with
  | zero => intro x7 M hf; exact hf.elim
  | succ n ih =>
    intro x7 M hf H locs ls hR hS hl
    exact w_X10_tellShape_B173 _ _ _ _ _ _ _ E hw hs0 (fun _ M H locs ls h hR hS hl => ih _ M h H locs ls hR hS hl) hEK173 hf H locs ls hR hS hl
def f_X10_tellShape (S : Ss) (a0 : Nat) (a1 : Nat) (a2 : Nat) (M : Mm) (K : Int32 → Mm → Prop) : Prop :=
  (((M.1 a1 5) = (M.1 a2 5) →
    ∃ n43 : Nat, f_X10_tellShape_L21 S a0 a1 a2 (fun (v29 : Int64) (m30 : Mm) =>
      ∃ b31 : Nat, m30.2.2 a0 6 = some b31 ∧
      S[b31]? = some (6, 0) ∧
      f_X7_clear S b31  m30 (fun (m32 : Mm) =>
        ∃ n42 : Nat, f_X10_tellShape_L173 S a0 v29 (fun (m41 : Mm) =>
        K (1 : Int32) m41) K n42 (0 : Int32) m32)) K n43 (0 : Int64) (0 : Int64) (0 : Int32) M) ∧
   (¬ (M.1 a1 5) = (M.1 a2 5) →
    K (0 : Int32) M))
set_option maxHeartbeats 4000000 in
set_option maxRecDepth 100000 in
theorem ok_X10_tellShape {l : Launch} {g : Gg} {S : Ss} {a0 : Nat} {a1 : Nat} {a2 : Nat} {M : Mm} {K : Int32 → Mm → Prop} (hs0 : S[a0]? = some (9, 0)) (hs1 : S[a1]? = some (4, 0)) (hs2 : S[a2]? = some (4, 0)) (hf : f_X10_tellShape S a0 a1 a2 M K) : MT l g S yX10_tellShape cX10_tellShape 12 (some .boolean) 1 [.ref (ad g a0), .ref (ad g a1), .ref (ad g a2)] M (pI K) := by
  refine MT.of (by decide +kernel) (Nat.le_of_ble_eq_true rfl) ?_
  intro p e s m below meth c ls E hw hR hS hl
  have hl : lv_has ls 12 [(0, .ref (ad g a0)), (1, .ref (ad g a1)), (2, .ref (ad g a2))] := hl
  generalize ([.ref (ad g a0), .ref (ad g a1), .ref (ad g a2)] : List Value).toArray = args at E ⊢
  have E : EN p s m args meth c cX10_tellShape 12 (some .boolean) RX10 g := E
  have hx := E.1
  have hb := E.2.1
  unfold f_X10_tellShape at hf
  refine lv_aload_n hx hb dX10_tellShape_0 rfl (lv_at hl 1 rfl) ?_
  refine hw_getI E hR cI4 hs1 5 (by decide) lfX10_386 rfl dX10_tellShape_1 ?_
  refine lv_aload_n hx hb dX10_tellShape_4 rfl (lv_at hl 2 rfl) ?_
  refine hw_getI E hR cI4 hs2 5 (by decide) lfX10_386 rfl dX10_tellShape_5 ?_
  refine lv_icmp_eq (tgt := 13) hx hb dX10_tellShape_8 (by decide) (fun c1 => ?_) (fun c1 => ?_)
  · replace hf := hf.1 c1
    refine lv_lconst (v := 0) hx hb dX10_tellShape_13 (by decide) ?_
    refine lv_lstore_n (lv' := [(3, .long (0 : Int64)), (0, .ref (ad g a0)), (1, .ref (ad g a1)), (2, .ref (ad g a2))]) hx hb dX10_tellShape_14 rfl hl (by decide) rfl (fun ls hl => ?_)
    refine lv_lconst (v := 0) hx hb dX10_tellShape_15 (by decide) ?_
    refine lv_lstore (lv' := [(5, .long (0 : Int64)), (3, .long (0 : Int64)), (0, .ref (ad g a0)), (1, .ref (ad g a1)), (2, .ref (ad g a2))]) hx hb dX10_tellShape_16 hl (by decide) rfl (fun ls hl => ?_)
    refine lv_iconst (v := 0) hx hb dX10_tellShape_18 (by decide) ?_
    refine lv_istore (lv' := [(7, .int (0 : Int32)), (5, .long (0 : Int64)), (3, .long (0 : Int64)), (0, .ref (ad g a0)), (1, .ref (ad g a1)), (2, .ref (ad g a2))]) hx hb dX10_tellShape_19 hl (by decide) rfl (fun ls hl => ?_)
    obtain ⟨n43, hf⟩ := hf
    refine w_X10_tellShape_L21 _ _ _ _ _ E hw hs0 hs1 hs2 ?_ n43 _ _ _ _ hf _ _ _ hR hS (lv_sub hl [3, 4, 5, 2, 1, 0] rfl)
    intro v29 m30 H locs ls hf hR hS hl
    refine lv_aload_n hx hb dX10_tellShape_163 rfl (lv_at hl 0 rfl) ?_
    obtain ⟨b31, hb31, hf⟩ := hf
    refine hw_getR E hR cI9 hs0 6 (by decide) lfX10_45 rfl hb31 dX10_tellShape_164 ?_
    obtain ⟨h33, hf⟩ := hf
    refine hw_callV (d := 1) E hR hS (As := []) (rest := []) cI6 h33 rfl mcX7_clear miX7_clear lmX10_217 (ok_X7_clear h33 hf) rfl rfl (by decide) hl.1 (Nat.le_of_ble_eq_true rfl) dX10_tellShape_167 (fun rr m32 H locs hp hR hS => ?_)
    obtain ⟨rfl, hf⟩ := hp
    refine W.eq (g2 := F0 m 170 ls []) rfl ?_
    refine lv_iconst (v := 0) hx hb dX10_tellShape_170 (by decide) ?_
    refine lv_istore (lv' := [(7, .int (0 : Int32)), (0, .ref (ad g a0)), (3, .long v29)]) hx hb dX10_tellShape_171 hl (by decide) rfl (fun ls hl => ?_)
    obtain ⟨n42, hf⟩ := hf
    refine w_X10_tellShape_L173 _ _ _ _ E hw hs0 ?_ n42 _ _ hf _ _ _ hR hS (lv_sub hl [1, 2, 0] rfl)
    intro m41 H locs ls hf hR hS hl
    refine lv_iconst (v := 1) hx hb dX10_tellShape_202 (by decide) ?_
    exact hw_zret E hR hS (by decide) ⟨_, rfl, hf⟩ dX10_tellShape_203
  · replace hf := hf.2 c1
    refine lv_iconst (v := 0) hx hb dX10_tellShape_11 (by decide) ?_
    exact hw_zret E hR hS (by decide) ⟨_, rfl, hf⟩ dX10_tellShape_12
def f_X10_like (S : Ss) (a0 : Nat) (x1 : Int32) (x2 : Int32) (M : Mm) (K : Int32 → Mm → Prop) : Prop :=
  ∃ b1 : Nat, M.2.2 a0 2 = some b1 ∧
  S[b1]? = some (2, 0) ∧
  ∀ v3 : Int32, v3 = (M.1 b1 10) →
  ((x1 < 0 →
    K (-1 : Int32) M) ∧
   (¬ x1 < 0 →
    ((v3 ≤ x1 →
      K (-1 : Int32) M) ∧
     (¬ v3 ≤ x1 →
      ((x2 < 0 →
        K (-1 : Int32) M) ∧
       (¬ x2 < 0 →
        ((x2 < v3 →
          ∃ b8 : Nat, M.2.2 a0 2 = some b8 ∧
          S[b8]? = some (2, 0) ∧
          ∃ b10 : Nat, M.2.2 b8 0 = some b10 ∧
          ∃ n11 : Nat, S[b10]? = some (55, n11) ∧ vp_in x1 n11 ∧
          ∃ b12 : Nat, M.2.2 b10 x1.toNatClampNeg = some b12 ∧
          ∃ b13 : Nat, M.2.2 a0 2 = some b13 ∧
          S[b13]? = some (2, 0) ∧
          ∃ b15 : Nat, M.2.2 b13 0 = some b15 ∧
          ∃ n16 : Nat, S[b15]? = some (55, n16) ∧ vp_in x2 n16 ∧
          ∃ b17 : Nat, M.2.2 b15 x2.toNatClampNeg = some b17 ∧
          S[b12]? = some (4, 0) ∧
          S[b17]? = some (4, 0) ∧
          f_X10_tellShape S a0 b12 b17 M (fun (r21 : Int32) (m18 : Mm) =>
            ((r21 = 0 →
            K (0 : Int32) m18) ∧
           (¬ r21 = 0 →
            K (1 : Int32) m18)))) ∧
         (¬ x2 < v3 →
          K (-1 : Int32) M))))))))
set_option maxHeartbeats 4000000 in
set_option maxRecDepth 100000 in
theorem ok_X10_like {l : Launch} {g : Gg} {S : Ss} {a0 : Nat} {x1 : Int32} {x2 : Int32} {M : Mm} {K : Int32 → Mm → Prop} (hs0 : S[a0]? = some (9, 0)) (hf : f_X10_like S a0 x1 x2 M K) : MT l g S yX10_like cX10_like 4 (some .int) 2 [.ref (ad g a0), .int x1, .int x2] M (pI K) := by
  refine MT.of (by decide +kernel) (Nat.le_of_ble_eq_true rfl) ?_
  intro p e s m below meth c ls E hw hR hS hl
  have hl : lv_has ls 4 [(0, .ref (ad g a0)), (1, .int x1), (2, .int x2)] := hl
  generalize ([.ref (ad g a0), .int x1, .int x2] : List Value).toArray = args at E ⊢
  have E : EN p s m args meth c cX10_like 4 (some .int) RX10 g := E
  have hx := E.1
  have hb := E.2.1
  unfold f_X10_like at hf
  refine lv_aload_n hx hb dX10_like_0 rfl (lv_at hl 0 rfl) ?_
  obtain ⟨b1, hb1, hf⟩ := hf
  refine hw_getR E hR cI9 hs0 2 (by decide) lfX10_27 rfl hb1 dX10_like_1 ?_
  obtain ⟨h2, hf⟩ := hf
  refine hw_getI E hR cI2 h2 10 (by decide) lfX10_92 rfl dX10_like_4 ?_
  refine lv_topi (fun v3 ev3 => ?_)
  replace hf := hf v3 ev3
  refine lv_istore_n (lv' := [(3, .int v3), (0, .ref (ad g a0)), (1, .int x1), (2, .int x2)]) hx hb dX10_like_7 rfl hl (by decide) rfl (fun ls hl => ?_)
  refine lv_iload_n hx hb dX10_like_8 rfl (lv_at hl 2 rfl) ?_
  refine lv_if_lt (tgt := 26) hx hb dX10_like_9 (by decide) (fun c4 => ?_) (fun c4 => ?_)
  · replace hf := hf.1 c4
    refine lv_iconst (v := -1) hx hb dX10_like_26 (by decide) ?_
    exact hw_iret E hR hS ⟨_, rfl, hf⟩ dX10_like_27
  · replace hf := hf.2 c4
    refine lv_iload_n hx hb dX10_like_12 rfl (lv_at hl 2 rfl) ?_
    refine lv_iload_n hx hb dX10_like_13 rfl (lv_at hl 0 rfl) ?_
    refine lv_icmp_ge (tgt := 26) hx hb dX10_like_14 (by decide) (fun c5 => ?_) (fun c5 => ?_)
    · replace hf := hf.1 c5
      refine lv_iconst (v := -1) hx hb dX10_like_26 (by decide) ?_
      exact hw_iret E hR hS ⟨_, rfl, hf⟩ dX10_like_27
    · replace hf := hf.2 c5
      refine lv_iload_n hx hb dX10_like_17 rfl (lv_at hl 3 rfl) ?_
      refine lv_if_lt (tgt := 26) hx hb dX10_like_18 (by decide) (fun c6 => ?_) (fun c6 => ?_)
      · replace hf := hf.1 c6
        refine lv_iconst (v := -1) hx hb dX10_like_26 (by decide) ?_
        exact hw_iret E hR hS ⟨_, rfl, hf⟩ dX10_like_27
      · replace hf := hf.2 c6
        refine lv_iload_n hx hb dX10_like_21 rfl (lv_at hl 3 rfl) ?_
        refine lv_iload_n hx hb dX10_like_22 rfl (lv_at hl 0 rfl) ?_
        refine lv_icmp_lt (tgt := 28) hx hb dX10_like_23 (by decide) (fun c7 => ?_) (fun c7 => ?_)
        · replace hf := hf.1 c7
          refine lv_aload_n hx hb dX10_like_28 rfl (lv_at hl 1 rfl) ?_
          refine lv_aload_n hx hb dX10_like_29 rfl (lv_at hl 1 rfl) ?_
          obtain ⟨b8, hb8, hf⟩ := hf
          refine hw_getR E hR cI9 hs0 2 (by decide) lfX10_27 rfl hb8 dX10_like_30 ?_
          obtain ⟨h9, hf⟩ := hf
          obtain ⟨b10, hb10, hf⟩ := hf
          refine hw_getR E hR cI2 h9 0 (by decide) lfX10_101 rfl hb10 dX10_like_33 ?_
          refine lv_iload_n hx hb dX10_like_36 rfl (lv_at hl 2 rfl) ?_
          obtain ⟨n11, hn11, in11, hf⟩ := hf
          obtain ⟨b12, hb12, hf⟩ := hf
          refine hw_aaldS E hR (t := 55) (by decide) hn11 in11 hb12 dX10_like_37 ?_
          refine lv_aload_n hx hb dX10_like_38 rfl (lv_at hl 1 rfl) ?_
          obtain ⟨b13, hb13, hf⟩ := hf
          refine hw_getR E hR cI9 hs0 2 (by decide) lfX10_27 rfl hb13 dX10_like_39 ?_
          obtain ⟨h14, hf⟩ := hf
          obtain ⟨b15, hb15, hf⟩ := hf
          refine hw_getR E hR cI2 h14 0 (by decide) lfX10_101 rfl hb15 dX10_like_42 ?_
          refine lv_iload_n hx hb dX10_like_45 rfl (lv_at hl 3 rfl) ?_
          obtain ⟨n16, hn16, in16, hf⟩ := hf
          obtain ⟨b17, hb17, hf⟩ := hf
          refine hw_aaldS E hR (t := 55) (by decide) hn16 in16 hb17 dX10_like_46 ?_
          obtain ⟨h19, hf⟩ := hf
          obtain ⟨h20, hf⟩ := hf
          refine hw_callV (d := 2) E hR hS (As := [.ref (ad g b12), .ref (ad g b17)]) (rest := []) cI9 hs0 rfl mcX10_tellShape miX10_tellShape lmX10_313 (ok_X10_tellShape hs0 h19 h20 hf) rfl rfl (by decide) hl.1 (Nat.le_of_ble_eq_true rfl) dX10_like_47 (fun rr m18 H locs hp hR hS => ?_)
          obtain ⟨r21, rfl, hf⟩ := hp
          refine W.eq (g2 := F0 m 50 ls [.int r21]) rfl ?_
          refine lv_if_eq (tgt := 57) hx hb dX10_like_50 (by decide) (fun c22 => ?_) (fun c22 => ?_)
          · replace hf := hf.1 c22
            refine lv_iconst (v := 0) hx hb dX10_like_57 (by decide) ?_
            exact hw_iret E hR hS ⟨_, rfl, hf⟩ dX10_like_58
          · replace hf := hf.2 c22
            refine lv_iconst (v := 1) hx hb dX10_like_53 (by decide) ?_
            refine lv_goto (tgt := 58) hx hb dX10_like_54 (by decide) ?_
            exact hw_iret E hR hS ⟨_, rfl, hf⟩ dX10_like_58
        · replace hf := hf.2 c7
          refine lv_iconst (v := -1) hx hb dX10_like_26 (by decide) ?_
          exact hw_iret E hR hS ⟨_, rfl, hf⟩ dX10_like_27
def f_X10_given (S : Ss) (a0 : Nat) (x1 : Int32) (x2 : Int32) (x3 : Int32) (M : Mm) (K : Int32 → Mm → Prop) : Prop :=
  f_X1_isHouse S  x1 M (fun (r2 : Int32) (m1 : Mm) =>
    ((r2 = 0 →
    K (-1 : Int32) m1) ∧
   (¬ r2 = 0 →
    ((x2 < 0 →
      K (-1 : Int32) m1) ∧
     (¬ x2 < 0 →
      (((99 : Int32) < x2 →
        K (-1 : Int32) m1) ∧
       (¬ (99 : Int32) < x2 →
        ((x3 < 0 →
          K (-1 : Int32) m1) ∧
         (¬ x3 < 0 →
          ((x3 ≤ (255 : Int32) →
            ∃ b8 : Nat, m1.2.2 a0 8 = some b8 ∧
            S[b8]? = some (0, 0) ∧
            f_X1_addCase S b8 x1 x2 x3 m1 (fun (r11 : Int32) (m9 : Mm) =>
              K r11 m9)) ∧
           (¬ x3 ≤ (255 : Int32) →
            K (-1 : Int32) m1)))))))))))
set_option maxHeartbeats 4000000 in
set_option maxRecDepth 100000 in
theorem ok_X10_given {l : Launch} {g : Gg} {S : Ss} {a0 : Nat} {x1 : Int32} {x2 : Int32} {x3 : Int32} {M : Mm} {K : Int32 → Mm → Prop} (hs0 : S[a0]? = some (9, 0)) (hf : f_X10_given S a0 x1 x2 x3 M K) : MT l g S yX10_given cX10_given 4 (some .int) 3 [.ref (ad g a0), .int x1, .int x2, .int x3] M (pI K) := by
  refine MT.of (by decide +kernel) (Nat.le_of_ble_eq_true rfl) ?_
  intro p e s m below meth c ls E hw hR hS hl
  have hl : lv_has ls 4 [(0, .ref (ad g a0)), (1, .int x1), (2, .int x2), (3, .int x3)] := hl
  generalize ([.ref (ad g a0), .int x1, .int x2, .int x3] : List Value).toArray = args at E ⊢
  have E : EN p s m args meth c cX10_given 4 (some .int) RX10 g := E
  have hx := E.1
  have hb := E.2.1
  unfold f_X10_given at hf
  refine lv_iload_n hx hb dX10_given_0 rfl (lv_at hl 1 rfl) ?_
  refine hw_callS (d := 3) E hR hS (As := [.int x1]) (rest := []) mcX1_isHouse msX1_isHouse lmX10_317 (ok_X1_isHouse  hf) rfl rfl (by decide) hl.1 (Nat.le_of_ble_eq_true rfl) dX10_given_1 (fun rr m1 H locs hp hR hS => ?_)
  obtain ⟨r2, rfl, hf⟩ := hp
  refine W.eq (g2 := F0 m 4 ls [.int r2]) rfl ?_
  refine lv_if_eq (tgt := 28) hx hb dX10_given_4 (by decide) (fun c3 => ?_) (fun c3 => ?_)
  · replace hf := hf.1 c3
    refine lv_iconst (v := -1) hx hb dX10_given_28 (by decide) ?_
    exact hw_iret E hR hS ⟨_, rfl, hf⟩ dX10_given_29
  · replace hf := hf.2 c3
    refine lv_iload_n hx hb dX10_given_7 rfl (lv_at hl 2 rfl) ?_
    refine lv_if_lt (tgt := 28) hx hb dX10_given_8 (by decide) (fun c4 => ?_) (fun c4 => ?_)
    · replace hf := hf.1 c4
      refine lv_iconst (v := -1) hx hb dX10_given_28 (by decide) ?_
      exact hw_iret E hR hS ⟨_, rfl, hf⟩ dX10_given_29
    · replace hf := hf.2 c4
      refine lv_iload_n hx hb dX10_given_11 rfl (lv_at hl 2 rfl) ?_
      refine lv_bipush (v := 99) hx hb dX10_given_12 (by decide) ?_
      refine lv_icmp_gt (tgt := 28) hx hb dX10_given_14 (by decide) (fun c5 => ?_) (fun c5 => ?_)
      · replace hf := hf.1 c5
        refine lv_iconst (v := -1) hx hb dX10_given_28 (by decide) ?_
        exact hw_iret E hR hS ⟨_, rfl, hf⟩ dX10_given_29
      · replace hf := hf.2 c5
        refine lv_iload_n hx hb dX10_given_17 rfl (lv_at hl 3 rfl) ?_
        refine lv_if_lt (tgt := 28) hx hb dX10_given_18 (by decide) (fun c6 => ?_) (fun c6 => ?_)
        · replace hf := hf.1 c6
          refine lv_iconst (v := -1) hx hb dX10_given_28 (by decide) ?_
          exact hw_iret E hR hS ⟨_, rfl, hf⟩ dX10_given_29
        · replace hf := hf.2 c6
          refine lv_iload_n hx hb dX10_given_21 rfl (lv_at hl 3 rfl) ?_
          refine lv_sipush (v := 255) hx hb dX10_given_22 (by decide) ?_
          refine lv_icmp_le (tgt := 30) hx hb dX10_given_25 (by decide) (fun c7 => ?_) (fun c7 => ?_)
          · replace hf := hf.1 c7
            refine lv_aload_n hx hb dX10_given_30 rfl (lv_at hl 0 rfl) ?_
            obtain ⟨b8, hb8, hf⟩ := hf
            refine hw_getR E hR cI9 hs0 8 (by decide) lfX10_59 rfl hb8 dX10_given_31 ?_
            refine lv_iload_n hx hb dX10_given_34 rfl (lv_at hl 1 rfl) ?_
            refine lv_iload_n hx hb dX10_given_35 rfl (lv_at hl 2 rfl) ?_
            refine lv_iload_n hx hb dX10_given_36 rfl (lv_at hl 3 rfl) ?_
            obtain ⟨h10, hf⟩ := hf
            refine hw_callV (d := 3) E hR hS (As := [.int x1, .int x2, .int x3]) (rest := []) cI0 h10 rfl mcX1_addCase miX1_addCase lmX10_320 (ok_X1_addCase h10 hf) rfl rfl (by decide) hl.1 (Nat.le_of_ble_eq_true rfl) dX10_given_37 (fun rr m9 H locs hp hR hS => ?_)
            obtain ⟨r11, rfl, hf⟩ := hp
            refine W.eq (g2 := F0 m 40 ls [.int r11]) rfl ?_
            exact hw_iret E hR hS ⟨_, rfl, hf⟩ dX10_given_40
          · replace hf := hf.2 c7
            refine lv_iconst (v := -1) hx hb dX10_given_28 (by decide) ?_
            exact hw_iret E hR hS ⟨_, rfl, hf⟩ dX10_given_29
def f_X10_letter (S : Ss) (a0 : Nat) (x1 : Int32) (x2 : Int32) (x3 : Int32) (x4 : Int32) (M : Mm) (K : Int32 → Mm → Prop) : Prop :=
  f_X1_isHouse S  x1 M (fun (r2 : Int32) (m1 : Mm) =>
    ((r2 = 0 →
    K (-1 : Int32) m1) ∧
   (¬ r2 = 0 →
    f_X1_isHouse S  x2 m1 (fun (r5 : Int32) (m4 : Mm) =>
      ((r5 = 0 →
      K (-1 : Int32) m4) ∧
     (¬ r5 = 0 →
      ((x1 = x2 →
        K (-1 : Int32) m4) ∧
       (¬ x1 = x2 →
        ((x3 < 0 →
          K (-1 : Int32) m4) ∧
         (¬ x3 < 0 →
          (((99 : Int32) < x3 →
            K (-1 : Int32) m4) ∧
           (¬ (99 : Int32) < x3 →
            ((x4 < 0 →
              K (-1 : Int32) m4) ∧
             (¬ x4 < 0 →
              ((x4 ≤ (50 : Int32) →
                ∃ b12 : Nat, m4.2.2 a0 8 = some b12 ∧
                S[b12]? = some (0, 0) ∧
                f_X1_addLetter S b12 x1 x2 x3 x4 m4 (fun (r15 : Int32) (m13 : Mm) =>
                  K r15 m13)) ∧
               (¬ x4 ≤ (50 : Int32) →
                K (-1 : Int32) m4))))))))))))))))
set_option maxHeartbeats 4000000 in
set_option maxRecDepth 100000 in
theorem ok_X10_letter {l : Launch} {g : Gg} {S : Ss} {a0 : Nat} {x1 : Int32} {x2 : Int32} {x3 : Int32} {x4 : Int32} {M : Mm} {K : Int32 → Mm → Prop} (hs0 : S[a0]? = some (9, 0)) (hf : f_X10_letter S a0 x1 x2 x3 x4 M K) : MT l g S yX10_letter cX10_letter 5 (some .int) 3 [.ref (ad g a0), .int x1, .int x2, .int x3, .int x4] M (pI K) := by
  refine MT.of (by decide +kernel) (Nat.le_of_ble_eq_true rfl) ?_
  intro p e s m below meth c ls E hw hR hS hl
  have hl : lv_has ls 5 [(0, .ref (ad g a0)), (1, .int x1), (2, .int x2), (3, .int x3), (4, .int x4)] := hl
  generalize ([.ref (ad g a0), .int x1, .int x2, .int x3, .int x4] : List Value).toArray = args at E ⊢
  have E : EN p s m args meth c cX10_letter 5 (some .int) RX10 g := E
  have hx := E.1
  have hb := E.2.1
  unfold f_X10_letter at hf
  refine lv_iload_n hx hb dX10_letter_0 rfl (lv_at hl 1 rfl) ?_
  refine hw_callS (d := 3) E hR hS (As := [.int x1]) (rest := []) mcX1_isHouse msX1_isHouse lmX10_317 (ok_X1_isHouse  hf) rfl rfl (by decide) hl.1 (Nat.le_of_ble_eq_true rfl) dX10_letter_1 (fun rr m1 H locs hp hR hS => ?_)
  obtain ⟨r2, rfl, hf⟩ := hp
  refine W.eq (g2 := F0 m 4 ls [.int r2]) rfl ?_
  refine lv_if_eq (tgt := 19) hx hb dX10_letter_4 (by decide) (fun c3 => ?_) (fun c3 => ?_)
  · replace hf := hf.1 c3
    refine lv_iconst (v := -1) hx hb dX10_letter_19 (by decide) ?_
    exact hw_iret E hR hS ⟨_, rfl, hf⟩ dX10_letter_20
  · replace hf := hf.2 c3
    refine lv_iload_n hx hb dX10_letter_7 rfl (lv_at hl 2 rfl) ?_
    refine hw_callS (d := 3) E hR hS (As := [.int x2]) (rest := []) mcX1_isHouse msX1_isHouse lmX10_317 (ok_X1_isHouse  hf) rfl rfl (by decide) hl.1 (Nat.le_of_ble_eq_true rfl) dX10_letter_8 (fun rr m4 H locs hp hR hS => ?_)
    obtain ⟨r5, rfl, hf⟩ := hp
    refine W.eq (g2 := F0 m 11 ls [.int r5]) rfl ?_
    refine lv_if_eq (tgt := 19) hx hb dX10_letter_11 (by decide) (fun c6 => ?_) (fun c6 => ?_)
    · replace hf := hf.1 c6
      refine lv_iconst (v := -1) hx hb dX10_letter_19 (by decide) ?_
      exact hw_iret E hR hS ⟨_, rfl, hf⟩ dX10_letter_20
    · replace hf := hf.2 c6
      refine lv_iload_n hx hb dX10_letter_14 rfl (lv_at hl 1 rfl) ?_
      refine lv_iload_n hx hb dX10_letter_15 rfl (lv_at hl 2 rfl) ?_
      refine lv_icmp_ne (tgt := 21) hx hb dX10_letter_16 (by decide) (fun c7 => ?_) (fun c7 => ?_)
      · replace hf := hf.2 c7
        refine lv_iload_n hx hb dX10_letter_21 rfl (lv_at hl 3 rfl) ?_
        refine lv_if_lt (tgt := 43) hx hb dX10_letter_22 (by decide) (fun c8 => ?_) (fun c8 => ?_)
        · replace hf := hf.1 c8
          refine lv_iconst (v := -1) hx hb dX10_letter_43 (by decide) ?_
          exact hw_iret E hR hS ⟨_, rfl, hf⟩ dX10_letter_44
        · replace hf := hf.2 c8
          refine lv_iload_n hx hb dX10_letter_25 rfl (lv_at hl 3 rfl) ?_
          refine lv_bipush (v := 99) hx hb dX10_letter_26 (by decide) ?_
          refine lv_icmp_gt (tgt := 43) hx hb dX10_letter_28 (by decide) (fun c9 => ?_) (fun c9 => ?_)
          · replace hf := hf.1 c9
            refine lv_iconst (v := -1) hx hb dX10_letter_43 (by decide) ?_
            exact hw_iret E hR hS ⟨_, rfl, hf⟩ dX10_letter_44
          · replace hf := hf.2 c9
            refine lv_iload hx hb dX10_letter_31 (lv_at hl 4 rfl) ?_
            refine lv_if_lt (tgt := 43) hx hb dX10_letter_33 (by decide) (fun c10 => ?_) (fun c10 => ?_)
            · replace hf := hf.1 c10
              refine lv_iconst (v := -1) hx hb dX10_letter_43 (by decide) ?_
              exact hw_iret E hR hS ⟨_, rfl, hf⟩ dX10_letter_44
            · replace hf := hf.2 c10
              refine lv_iload hx hb dX10_letter_36 (lv_at hl 4 rfl) ?_
              refine lv_bipush (v := 50) hx hb dX10_letter_38 (by decide) ?_
              refine lv_icmp_le (tgt := 45) hx hb dX10_letter_40 (by decide) (fun c11 => ?_) (fun c11 => ?_)
              · replace hf := hf.1 c11
                refine lv_aload_n hx hb dX10_letter_45 rfl (lv_at hl 0 rfl) ?_
                obtain ⟨b12, hb12, hf⟩ := hf
                refine hw_getR E hR cI9 hs0 8 (by decide) lfX10_59 rfl hb12 dX10_letter_46 ?_
                refine lv_iload_n hx hb dX10_letter_49 rfl (lv_at hl 1 rfl) ?_
                refine lv_iload_n hx hb dX10_letter_50 rfl (lv_at hl 2 rfl) ?_
                refine lv_iload_n hx hb dX10_letter_51 rfl (lv_at hl 3 rfl) ?_
                refine lv_iload hx hb dX10_letter_52 (lv_at hl 4 rfl) ?_
                obtain ⟨h14, hf⟩ := hf
                refine hw_callV (d := 3) E hR hS (As := [.int x1, .int x2, .int x3, .int x4]) (rest := []) cI0 h14 rfl mcX1_addLetter miX1_addLetter lmX10_323 (ok_X1_addLetter h14 hf) rfl rfl (by decide) hl.1 (Nat.le_of_ble_eq_true rfl) dX10_letter_54 (fun rr m13 H locs hp hR hS => ?_)
                obtain ⟨r15, rfl, hf⟩ := hp
                refine W.eq (g2 := F0 m 57 ls [.int r15]) rfl ?_
                exact hw_iret E hR hS ⟨_, rfl, hf⟩ dX10_letter_57
              · replace hf := hf.2 c11
                refine lv_iconst (v := -1) hx hb dX10_letter_43 (by decide) ?_
                exact hw_iret E hR hS ⟨_, rfl, hf⟩ dX10_letter_44
      · replace hf := hf.1 c7
        refine lv_iconst (v := -1) hx hb dX10_letter_19 (by decide) ?_
        exact hw_iret E hR hS ⟨_, rfl, hf⟩ dX10_letter_20
def f_X10_knew (S : Ss) (a0 : Nat) (x1 : Int32) (x2 : Int32) (M : Mm) (K : Int32 → Mm → Prop) : Prop :=
  f_X1_isHouse S  x1 M (fun (r2 : Int32) (m1 : Mm) =>
    ((r2 = 0 →
    K (-1 : Int32) m1) ∧
   (¬ r2 = 0 →
    ((x2 < 0 →
      K (-1 : Int32) m1) ∧
     (¬ x2 < 0 →
      ((x2 ≤ (200 : Int32) →
        ∃ b6 : Nat, m1.2.2 a0 8 = some b6 ∧
        S[b6]? = some (0, 0) ∧
        f_X1_known S b6 x1 x2 m1 (fun (r9 : Int32) (m7 : Mm) =>
          K r9 m7)) ∧
       (¬ x2 ≤ (200 : Int32) →
        K (-1 : Int32) m1)))))))
set_option maxHeartbeats 4000000 in
set_option maxRecDepth 100000 in
theorem ok_X10_knew {l : Launch} {g : Gg} {S : Ss} {a0 : Nat} {x1 : Int32} {x2 : Int32} {M : Mm} {K : Int32 → Mm → Prop} (hs0 : S[a0]? = some (9, 0)) (hf : f_X10_knew S a0 x1 x2 M K) : MT l g S yX10_knew cX10_knew 3 (some .int) 1 [.ref (ad g a0), .int x1, .int x2] M (pI K) := by
  refine MT.of (by decide +kernel) (Nat.le_of_ble_eq_true rfl) ?_
  intro p e s m below meth c ls E hw hR hS hl
  have hl : lv_has ls 3 [(0, .ref (ad g a0)), (1, .int x1), (2, .int x2)] := hl
  generalize ([.ref (ad g a0), .int x1, .int x2] : List Value).toArray = args at E ⊢
  have E : EN p s m args meth c cX10_knew 3 (some .int) RX10 g := E
  have hx := E.1
  have hb := E.2.1
  unfold f_X10_knew at hf
  refine lv_iload_n hx hb dX10_knew_0 rfl (lv_at hl 1 rfl) ?_
  refine hw_callS (d := 1) E hR hS (As := [.int x1]) (rest := []) mcX1_isHouse msX1_isHouse lmX10_317 (ok_X1_isHouse  hf) rfl rfl (by decide) hl.1 (Nat.le_of_ble_eq_true rfl) dX10_knew_1 (fun rr m1 H locs hp hR hS => ?_)
  obtain ⟨r2, rfl, hf⟩ := hp
  refine W.eq (g2 := F0 m 4 ls [.int r2]) rfl ?_
  refine lv_if_eq (tgt := 18) hx hb dX10_knew_4 (by decide) (fun c3 => ?_) (fun c3 => ?_)
  · replace hf := hf.1 c3
    refine lv_iconst (v := -1) hx hb dX10_knew_18 (by decide) ?_
    exact hw_iret E hR hS ⟨_, rfl, hf⟩ dX10_knew_19
  · replace hf := hf.2 c3
    refine lv_iload_n hx hb dX10_knew_7 rfl (lv_at hl 2 rfl) ?_
    refine lv_if_lt (tgt := 18) hx hb dX10_knew_8 (by decide) (fun c4 => ?_) (fun c4 => ?_)
    · replace hf := hf.1 c4
      refine lv_iconst (v := -1) hx hb dX10_knew_18 (by decide) ?_
      exact hw_iret E hR hS ⟨_, rfl, hf⟩ dX10_knew_19
    · replace hf := hf.2 c4
      refine lv_iload_n hx hb dX10_knew_11 rfl (lv_at hl 2 rfl) ?_
      refine lv_sipush (v := 200) hx hb dX10_knew_12 (by decide) ?_
      refine lv_icmp_le (tgt := 20) hx hb dX10_knew_15 (by decide) (fun c5 => ?_) (fun c5 => ?_)
      · replace hf := hf.1 c5
        refine lv_aload_n hx hb dX10_knew_20 rfl (lv_at hl 0 rfl) ?_
        obtain ⟨b6, hb6, hf⟩ := hf
        refine hw_getR E hR cI9 hs0 8 (by decide) lfX10_59 rfl hb6 dX10_knew_21 ?_
        refine lv_iload_n hx hb dX10_knew_24 rfl (lv_at hl 1 rfl) ?_
        refine lv_iload_n hx hb dX10_knew_25 rfl (lv_at hl 2 rfl) ?_
        obtain ⟨h8, hf⟩ := hf
        refine hw_callV (d := 1) E hR hS (As := [.int x1, .int x2]) (rest := []) cI0 h8 rfl mcX1_known miX1_known lmX10_327 (ok_X1_known h8 hf) rfl rfl (by decide) hl.1 (Nat.le_of_ble_eq_true rfl) dX10_knew_26 (fun rr m7 H locs hp hR hS => ?_)
        obtain ⟨r9, rfl, hf⟩ := hp
        refine W.eq (g2 := F0 m 29 ls [.int r9]) rfl ?_
        exact hw_iret E hR hS ⟨_, rfl, hf⟩ dX10_knew_29
      · replace hf := hf.2 c5
        refine lv_iconst (v := -1) hx hb dX10_knew_18 (by decide) ?_
        exact hw_iret E hR hS ⟨_, rfl, hf⟩ dX10_knew_19
def f_X10_enough_B35 (S : Ss) (a0 : Nat) (x1 : Int32) (x2 : Int32) (x3 : Int32) (x4 : Int32) (M : Mm) (BK35 : Int32 → Mm → Prop) (EK35 : Mm → Prop) (K : Int32 → Mm → Prop) : Prop :=
  (((6 : Int32) ≤ x4 →
    EK35 M) ∧
   (¬ (6 : Int32) ≤ x4 →
    ∃ b7 : Nat, M.2.2 a0 8 = some b7 ∧
    ∃ b8 : Nat, M.2.2 a0 8 = some b8 ∧
    S[b8]? = some (0, 0) ∧
    f_X1_known S b8 x4 x3 M (fun (r11 : Int32) (m9 : Mm) =>
      S[b7]? = some (0, 0) ∧
    f_X1_hasEnough S b7 r11 x1 x2 m9 (fun (r14 : Int32) (m12 : Mm) =>
      ((r14 = 0 →
      ∀ v16 : Int32, v16 = x4 + (1 : Int32) →
      BK35 v16 m12) ∧
     (¬ r14 = 0 →
      ∃ b17 : Nat, m12.2.2 a0 6 = some b17 ∧
      S[b17]? = some (6, 0) ∧
      f_X7_tellOne S b17 x4.toInt64 m12 (fun (m18 : Mm) =>
        K x3 m18)))))))
set_option maxHeartbeats 4000000 in
set_option maxRecDepth 100000 in
theorem w_X10_enough_B35 {p : Program} {l : Launch} {e : Env} {s : State} {m : MethodId} {args : Array Value} {below : List Frame} {meth : Method} {c : Code} {g : Gg} {S : Ss} (a0 : Nat) (x1 : Int32) (x2 : Int32) (x3 : Int32) (x4 : Int32) (M : Mm) (BK35 : Int32 → Mm → Prop) (EK35 : Mm → Prop) (K : Int32 → Mm → Prop) (E : EN p s m args meth c cX10_enough 5 (some .int) RX10 g) (hw : ad g 100000 < s.heap.size) (hs0 : S[a0]? = some (9, 0)) (hBK35 : ∀ (x4' : Int32) (M' : Mm) (H : Heap) (locs : List Loc) (ls : Array Slot), BK35 x4' M' → RP g S M' H → va_S (gA g) s.heap H locs → lv_has ls 5 [(0, .ref (ad g a0)), (1, .int x1), (2, .int x2), (3, .int x3), (4, .int x4')] → W p l e (rmD 2) s m args below meth c H locs 0 0 (MQ below (QA g S (pI K)) args s 0 0 (gA g)) (F0 m 35 ls [])) (hEK35 : ∀ (M' : Mm) (H : Heap) (locs : List Loc) (ls : Array Slot), EK35 M' → RP g S M' H → va_S (gA g) s.heap H locs → lv_has ls 5 [(0, .ref (ad g a0)), (1, .int x1), (2, .int x2), (3, .int x3)] → W p l e (rmD 2) s m args below meth c H locs 0 0 (MQ below (QA g S (pI K)) args s 0 0 (gA g)) (F0 m 82 ls [])) (hf : f_X10_enough_B35 S a0 x1 x2 x3 x4 M BK35 EK35 K) (H : Heap) (locs : List Loc) (ls : Array Slot) (hR : RP g S M H) (hS : va_S (gA g) s.heap H locs) (hl : lv_has ls 5 [(0, .ref (ad g a0)), (1, .int x1), (2, .int x2), (3, .int x3), (4, .int x4)]) : W p l e (rmD 2) s m args below meth c H locs 0 0 (MQ below (QA g S (pI K)) args s 0 0 (gA g)) (F0 m 35 ls []) := by
  have hx := E.1
  have hb := E.2.1
  unfold f_X10_enough_B35 at hf
  refine lv_iload hx hb dX10_enough_35 (lv_at hl 4 rfl) ?_
  refine lv_bipush (v := 6) hx hb dX10_enough_37 (by decide) ?_
  refine lv_icmp_ge (tgt := 82) hx hb dX10_enough_39 (by decide) (fun c6 => ?_) (fun c6 => ?_)
  · replace hf := hf.1 c6
    exact hEK35  _ _ _ _ hf hR hS (lv_sub hl [0, 1, 2, 3] rfl)
  · replace hf := hf.2 c6
    refine lv_aload_n hx hb dX10_enough_42 rfl (lv_at hl 0 rfl) ?_
    obtain ⟨b7, hb7, hf⟩ := hf
    refine hw_getR E hR cI9 hs0 8 (by decide) lfX10_59 rfl hb7 dX10_enough_43 ?_
    refine lv_aload_n hx hb dX10_enough_46 rfl (lv_at hl 0 rfl) ?_
    obtain ⟨b8, hb8, hf⟩ := hf
    refine hw_getR E hR cI9 hs0 8 (by decide) lfX10_59 rfl hb8 dX10_enough_47 ?_
    refine lv_iload hx hb dX10_enough_50 (lv_at hl 4 rfl) ?_
    refine lv_iload_n hx hb dX10_enough_52 rfl (lv_at hl 3 rfl) ?_
    obtain ⟨h10, hf⟩ := hf
    refine hw_callV (d := 2) E hR hS (As := [.int x4, .int x3]) (rest := [.ref (ad g b7)]) cI0 h10 rfl mcX1_known miX1_known lmX10_327 (ok_X1_known h10 hf) rfl rfl (by decide) hl.1 (Nat.le_of_ble_eq_true rfl) dX10_enough_53 (fun rr m9 H locs hp hR hS => ?_)
    obtain ⟨r11, rfl, hf⟩ := hp
    refine W.eq (g2 := F0 m 56 ls [.int r11, .ref (ad g b7)]) rfl ?_
    refine lv_iload_n hx hb dX10_enough_56 rfl (lv_at hl 1 rfl) ?_
    refine lv_iload_n hx hb dX10_enough_57 rfl (lv_at hl 2 rfl) ?_
    obtain ⟨h13, hf⟩ := hf
    refine hw_callV (d := 2) E hR hS (As := [.int r11, .int x1, .int x2]) (rest := []) cI0 h13 rfl mcX1_hasEnough miX1_hasEnough lmX10_330 (ok_X1_hasEnough h13 hf) rfl rfl (by decide) hl.1 (Nat.le_of_ble_eq_true rfl) dX10_enough_58 (fun rr m12 H locs hp hR hS => ?_)
    obtain ⟨r14, rfl, hf⟩ := hp
    refine W.eq (g2 := F0 m 61 ls [.int r14]) rfl ?_
    refine lv_if_eq (tgt := 76) hx hb dX10_enough_61 (by decide) (fun c15 => ?_) (fun c15 => ?_)
    · replace hf := hf.1 c15
      obtain ⟨v16, ev16⟩ : ∃ y : Int32, y = x4 + (1 : Int32) := ⟨_, rfl⟩
      replace hf := hf v16 ev16
      refine lv_iinc (v := v16) (lv' := [(4, .int v16), (0, .ref (ad g a0)), (1, .int x1), (2, .int x2), (3, .int x3)]) hx hb dX10_enough_76 hl (k := 4) rfl (by rw [ev16]; rfl) (by decide) rfl (fun ls hl => ?_)
      refine lv_goto (tgt := 35) hx hb dX10_enough_79 (by decide) ?_
      exact hBK35 _ _ _ _ _ hf hR hS (lv_sub hl [1, 2, 3, 4, 0] rfl)
    · replace hf := hf.2 c15
      refine lv_aload_n hx hb dX10_enough_64 rfl (lv_at hl 0 rfl) ?_
      obtain ⟨b17, hb17, hf⟩ := hf
      refine hw_getR E hR cI9 hs0 6 (by decide) lfX10_45 rfl hb17 dX10_enough_65 ?_
      refine lv_iload hx hb dX10_enough_68 (lv_at hl 4 rfl) ?_
      refine lv_i2l hx hb dX10_enough_70 rfl ?_
      obtain ⟨h19, hf⟩ := hf
      refine hw_callV (d := 2) E hR hS (As := [.long x4.toInt64]) (rest := []) cI6 h19 rfl mcX7_tellOne miX7_tellOne lmX10_190 (ok_X7_tellOne h19 hf) rfl rfl (by decide) hl.1 (Nat.le_of_ble_eq_true rfl) dX10_enough_71 (fun rr m18 H locs hp hR hS => ?_)
      obtain ⟨rfl, hf⟩ := hp
      refine W.eq (g2 := F0 m 74 ls []) rfl ?_
      refine lv_iload_n hx hb dX10_enough_74 rfl (lv_at hl 3 rfl) ?_
      exact hw_iret E hR hS ⟨_, rfl, hf⟩ dX10_enough_75
def f_X10_enough_L35 (S : Ss) (a0 : Nat) (x1 : Int32) (x2 : Int32) (x3 : Int32) (EK35 : Mm → Prop) (K : Int32 → Mm → Prop) : Nat → Int32 → Mm → Prop
  | 0, _, _ => False
  | n + 1, x4, M => f_X10_enough_B35 S a0 x1 x2 x3 x4 M (fun (x4 : Int32) (M : Mm) => f_X10_enough_L35 S a0 x1 x2 x3 EK35 K n x4 M) EK35 K
set_option maxHeartbeats 4000000 in
set_option maxRecDepth 100000 in
theorem w_X10_enough_L35 {p : Program} {l : Launch} {e : Env} {s : State} {m : MethodId} {args : Array Value} {below : List Frame} {meth : Method} {c : Code} {g : Gg} {S : Ss} (a0 : Nat) (x1 : Int32) (x2 : Int32) (x3 : Int32) (EK35 : Mm → Prop) (K : Int32 → Mm → Prop) (E : EN p s m args meth c cX10_enough 5 (some .int) RX10 g) (hw : ad g 100000 < s.heap.size) (hs0 : S[a0]? = some (9, 0)) (hEK35 : ∀ (M' : Mm) (H : Heap) (locs : List Loc) (ls : Array Slot), EK35 M' → RP g S M' H → va_S (gA g) s.heap H locs → lv_has ls 5 [(0, .ref (ad g a0)), (1, .int x1), (2, .int x2), (3, .int x3)] → W p l e (rmD 2) s m args below meth c H locs 0 0 (MQ below (QA g S (pI K)) args s 0 0 (gA g)) (F0 m 82 ls [])) : ∀ (n : Nat) (x4 : Int32) (M : Mm), f_X10_enough_L35 S a0 x1 x2 x3 EK35 K n x4 M → ∀ (H : Heap) (locs : List Loc) (ls : Array Slot), RP g S M H → va_S (gA g) s.heap H locs → lv_has ls 5 [(0, .ref (ad g a0)), (1, .int x1), (2, .int x2), (3, .int x3), (4, .int x4)] → W p l e (rmD 2) s m args below meth c H locs 0 0 (MQ below (QA g S (pI K)) args s 0 0 (gA g)) (F0 m 35 ls []) := by
  intro n
  induction n with
  | zero => intro x4 M hf; exact hf.elim
  | succ n ih =>
    intro x4 M hf H locs ls hR hS hl
    exact w_X10_enough_B35 _ _ _ _ _ _ _ _ _ E hw hs0 (fun _ M H locs ls h hR hS hl => ih _ M h H locs ls hR hS hl) hEK35 hf H locs ls hR hS hl
def f_X10_enough_B25 (S : Ss) (a0 : Nat) (x1 : Int32) (x2 : Int32) (x3 : Int32) (M : Mm) (BK25 : Int32 → Mm → Prop) (EK25 : Mm → Prop) (K : Int32 → Mm → Prop) : Prop :=
  (((200 : Int32) < x3 →
    EK25 M) ∧
   (¬ (200 : Int32) < x3 →
    ∃ n22 : Nat, f_X10_enough_L35 S a0 x1 x2 x3 (fun (m20 : Mm) =>
      ∀ v21 : Int32, v21 = x3 + (1 : Int32) →
      BK25 v21 m20) K n22 (0 : Int32) M))
set_option maxHeartbeats 4000000 in
set_option maxRecDepth 100000 in
theorem w_X10_enough_B25 {p : Program} {l : Launch} {e : Env} {s : State} {m : MethodId} {args : Array Value} {below : List Frame} {meth : Method} {c : Code} {g : Gg} {S : Ss} (a0 : Nat) (x1 : Int32) (x2 : Int32) (x3 : Int32) (M : Mm) (BK25 : Int32 → Mm → Prop) (EK25 : Mm → Prop) (K : Int32 → Mm → Prop) (E : EN p s m args meth c cX10_enough 5 (some .int) RX10 g) (hw : ad g 100000 < s.heap.size) (hs0 : S[a0]? = some (9, 0)) (hBK25 : ∀ (x3' : Int32) (M' : Mm) (H : Heap) (locs : List Loc) (ls : Array Slot), BK25 x3' M' → RP g S M' H → va_S (gA g) s.heap H locs → lv_has ls 5 [(0, .ref (ad g a0)), (1, .int x1), (2, .int x2), (3, .int x3')] → W p l e (rmD 2) s m args below meth c H locs 0 0 (MQ below (QA g S (pI K)) args s 0 0 (gA g)) (F0 m 25 ls [])) (hEK25 : ∀ (M' : Mm) (H : Heap) (locs : List Loc) (ls : Array Slot), EK25 M' → RP g S M' H → va_S (gA g) s.heap H locs → lv_has ls 5 [] → W p l e (rmD 2) s m args below meth c H locs 0 0 (MQ below (QA g S (pI K)) args s 0 0 (gA g)) (F0 m 88 ls [])) (hf : f_X10_enough_B25 S a0 x1 x2 x3 M BK25 EK25 K) (H : Heap) (locs : List Loc) (ls : Array Slot) (hR : RP g S M H) (hS : va_S (gA g) s.heap H locs) (hl : lv_has ls 5 [(0, .ref (ad g a0)), (1, .int x1), (2, .int x2), (3, .int x3)]) : W p l e (rmD 2) s m args below meth c H locs 0 0 (MQ below (QA g S (pI K)) args s 0 0 (gA g)) (F0 m 25 ls []) := by
  have hx := E.1
  have hb := E.2.1
  unfold f_X10_enough_B25 at hf
  refine lv_iload_n hx hb dX10_enough_25 rfl (lv_at hl 3 rfl) ?_
  refine lv_sipush (v := 200) hx hb dX10_enough_26 (by decide) ?_
  refine lv_icmp_gt (tgt := 88) hx hb dX10_enough_29 (by decide) (fun c5 => ?_) (fun c5 => ?_)
  · replace hf := hf.1 c5
    exact hEK25  _ _ _ _ hf hR hS (lv_sub hl [] rfl)
  · replace hf := hf.2 c5
    refine lv_iconst (v := 0) hx hb dX10_enough_32 (by decide) ?_
    refine lv_istore (lv' := [(4, .int (0 : Int32)), (0, .ref (ad g a0)), (1, .int x1), (2, .int x2), (3, .int x3)]) hx hb dX10_enough_33 hl (by decide) rfl (fun ls hl => ?_)
    obtain ⟨n22, hf⟩ := hf
    refine w_X10_enough_L35 _ _ _ _ _ _ E hw hs0 ?_ n22 _ _ hf _ _ _ hR hS (lv_sub hl [1, 2, 3, 4, 0] rfl)
    intro m20 H locs ls hf hR hS hl
    obtain ⟨v21, ev21⟩ : ∃ y : Int32, y = x3 + (1 : Int32) := ⟨_, rfl⟩
    replace hf := hf v21 ev21
    refine lv_iinc (v := v21) (lv' := [(3, .int v21), (0, .ref (ad g a0)), (1, .int x1), (2, .int x2)]) hx hb dX10_enough_82 hl (k := 3) rfl (by rw [ev21]; rfl) (by decide) rfl (fun ls hl => ?_)
    refine lv_goto (tgt := 25) hx hb dX10_enough_85 (by decide) ?_
    exact hBK25 _ _ _ _ _ hf hR hS (lv_sub hl [1, 2, 3, 0] rfl)
def f_X10_enough_L25 (S : Ss) (a0 : Nat) (x1 : Int32) (x2 : Int32) (EK25 : Mm → Prop) (K : Int32 → Mm → Prop) : Nat → Int32 → Mm → Prop
  | 0, _, _ => False
  | n + 1, x3, M => f_X10_enough_B25 S a0 x1 x2 x3 M (fun (x3 : Int32) (M : Mm) => f_X10_enough_L25 S a0 x1 x2 EK25 K n x3 M) EK25 K
set_option maxHeartbeats 4000000 in
set_option maxRecDepth 100000 in
theorem w_X10_enough_L25 {p : Program} {l : Launch} {e : Env} {s : State} {m : MethodId} {args : Array Value} {below : List Frame} {meth : Method} {c : Code} {g : Gg} {S : Ss} (a0 : Nat) (x1 : Int32) (x2 : Int32) (EK25 : Mm → Prop) (K : Int32 → Mm → Prop) (E : EN p s m args meth c cX10_enough 5 (some .int) RX10 g) (hw : ad g 100000 < s.heap.size) (hs0 : S[a0]? = some (9, 0)) (hEK25 : ∀ (M' : Mm) (H : Heap) (locs : List Loc) (ls : Array Slot), EK25 M' → RP g S M' H → va_S (gA g) s.heap H locs → lv_has ls 5 [] → W p l e (rmD 2) s m args below meth c H locs 0 0 (MQ below (QA g S (pI K)) args s 0 0 (gA g)) (F0 m 88 ls [])) : ∀ (n : Nat) (x3 : Int32) (M : Mm), f_X10_enough_L25 S a0 x1 x2 EK25 K n x3 M → ∀ (H : Heap) (locs : List Loc) (ls : Array Slot), RP g S M H → va_S (gA g) s.heap H locs → lv_has ls 5 [(0, .ref (ad g a0)), (1, .int x1), (2, .int x2), (3, .int x3)] → W p l e (rmD 2) s m args below meth c H locs 0 0 (MQ below (QA g S (pI K)) args s 0 0 (gA g)) (F0 m 25 ls []) := by
  intro n
  induction n with
  | zero => intro x3 M hf; exact hf.elim
  | succ n ih =>
    intro x3 M hf H locs ls hR hS hl
    exact w_X10_enough_B25 _ _ _ _ _ _ _ _ E hw hs0 (fun _ M H locs ls h hR hS hl => ih _ M h H locs ls hR hS hl) hEK25 hf H locs ls hR hS hl
def f_X10_enough (S : Ss) (a0 : Nat) (x1 : Int32) (x2 : Int32) (M : Mm) (K : Int32 → Mm → Prop) : Prop :=
  ((x1 < 0 →
    K (-1 : Int32) M) ∧
   (¬ x1 < 0 →
    (((255 : Int32) < x1 →
      K (-1 : Int32) M) ∧
     (¬ (255 : Int32) < x1 →
      ((x2 < 0 →
        K (-1 : Int32) M) ∧
       (¬ x2 < 0 →
        ((x2 ≤ (12 : Int32) →
          ∃ n24 : Nat, f_X10_enough_L25 S a0 x1 x2 (fun (m23 : Mm) =>
            K (-2 : Int32) m23) K n24 (0 : Int32) M) ∧
         (¬ x2 ≤ (12 : Int32) →
          K (-1 : Int32) M))))))))
set_option maxHeartbeats 4000000 in
set_option maxRecDepth 100000 in
theorem ok_X10_enough {l : Launch} {g : Gg} {S : Ss} {a0 : Nat} {x1 : Int32} {x2 : Int32} {M : Mm} {K : Int32 → Mm → Prop} (hs0 : S[a0]? = some (9, 0)) (hf : f_X10_enough S a0 x1 x2 M K) : MT l g S yX10_enough cX10_enough 5 (some .int) 2 [.ref (ad g a0), .int x1, .int x2] M (pI K) := by
  refine MT.of (by decide +kernel) (Nat.le_of_ble_eq_true rfl) ?_
  intro p e s m below meth c ls E hw hR hS hl
  have hl : lv_has ls 5 [(0, .ref (ad g a0)), (1, .int x1), (2, .int x2)] := hl
  generalize ([.ref (ad g a0), .int x1, .int x2] : List Value).toArray = args at E ⊢
  have E : EN p s m args meth c cX10_enough 5 (some .int) RX10 g := E
  have hx := E.1
  have hb := E.2.1
  unfold f_X10_enough at hf
  refine lv_iload_n hx hb dX10_enough_0 rfl (lv_at hl 1 rfl) ?_
  refine lv_if_lt (tgt := 21) hx hb dX10_enough_1 (by decide) (fun c1 => ?_) (fun c1 => ?_)
  · replace hf := hf.1 c1
    refine lv_iconst (v := -1) hx hb dX10_enough_21 (by decide) ?_
    exact hw_iret E hR hS ⟨_, rfl, hf⟩ dX10_enough_22
  · replace hf := hf.2 c1
    refine lv_iload_n hx hb dX10_enough_4 rfl (lv_at hl 1 rfl) ?_
    refine lv_sipush (v := 255) hx hb dX10_enough_5 (by decide) ?_
    refine lv_icmp_gt (tgt := 21) hx hb dX10_enough_8 (by decide) (fun c2 => ?_) (fun c2 => ?_)
    · replace hf := hf.1 c2
      refine lv_iconst (v := -1) hx hb dX10_enough_21 (by decide) ?_
      exact hw_iret E hR hS ⟨_, rfl, hf⟩ dX10_enough_22
    · replace hf := hf.2 c2
      refine lv_iload_n hx hb dX10_enough_11 rfl (lv_at hl 2 rfl) ?_
      refine lv_if_lt (tgt := 21) hx hb dX10_enough_12 (by decide) (fun c3 => ?_) (fun c3 => ?_)
      · replace hf := hf.1 c3
        refine lv_iconst (v := -1) hx hb dX10_enough_21 (by decide) ?_
        exact hw_iret E hR hS ⟨_, rfl, hf⟩ dX10_enough_22
      · replace hf := hf.2 c3
        refine lv_iload_n hx hb dX10_enough_15 rfl (lv_at hl 2 rfl) ?_
        refine lv_bipush (v := 12) hx hb dX10_enough_16 (by decide) ?_
        refine lv_icmp_le (tgt := 23) hx hb dX10_enough_18 (by decide) (fun c4 => ?_) (fun c4 => ?_)
        · replace hf := hf.1 c4
          refine lv_iconst (v := 0) hx hb dX10_enough_23 (by decide) ?_
          refine lv_istore_n (lv' := [(3, .int (0 : Int32)), (0, .ref (ad g a0)), (1, .int x1), (2, .int x2)]) hx hb dX10_enough_24 rfl hl (by decide) rfl (fun ls hl => ?_)
          obtain ⟨n24, hf⟩ := hf
          refine w_X10_enough_L25 _ _ _ _ _ E hw hs0 ?_ n24 _ _ hf _ _ _ hR hS (lv_sub hl [1, 2, 3, 0] rfl)
          intro m23 H locs ls hf hR hS hl
          refine lv_bipush (v := -2) hx hb dX10_enough_88 (by decide) ?_
          exact hw_iret E hR hS ⟨_, rfl, hf⟩ dX10_enough_90
        · replace hf := hf.2 c4
          refine lv_iconst (v := -1) hx hb dX10_enough_21 (by decide) ?_
          exact hw_iret E hR hS ⟨_, rfl, hf⟩ dX10_enough_22
def f_X10_keep (S : Ss) (a0 : Nat) (x1 : Int32) (M : Mm) (K : Int32 → Mm → Prop) : Prop :=
  ((x1 < 0 →
    K (0 : Int32) M) ∧
   (¬ x1 < 0 →
    ((x1 < (3 : Int32) →
      ∃ b3 : Nat, M.2.2 a0 9 = some b3 ∧
      ∃ n4 : Nat, S[b3]? = some (54, n4) ∧ vp_in x1 n4 ∧
      ∃ b5 : Nat, M.2.2 b3 x1.toNatClampNeg = some b5 ∧
      ∃ b6 : Nat, M.2.2 a0 3 = some b6 ∧
      ∃ b7 : Nat, M.2.2 a0 2 = some b7 ∧
      S[b5]? = some (1, 0) ∧
      S[b6]? = some (3, 0) ∧
      S[b7]? = some (2, 0) ∧
      f_X2_take S b5 b6 b7 M (fun (m8 : Mm) =>
        K (1 : Int32) m8)) ∧
     (¬ x1 < (3 : Int32) →
      K (0 : Int32) M))))
set_option maxHeartbeats 4000000 in
set_option maxRecDepth 100000 in
theorem ok_X10_keep {l : Launch} {g : Gg} {S : Ss} {a0 : Nat} {x1 : Int32} {M : Mm} {K : Int32 → Mm → Prop} (hs0 : S[a0]? = some (9, 0)) (hf : f_X10_keep S a0 x1 M K) : MT l g S yX10_keep cX10_keep 2 (some .boolean) 2 [.ref (ad g a0), .int x1] M (pI K) := by
  refine MT.of (by decide +kernel) (Nat.le_of_ble_eq_true rfl) ?_
  intro p e s m below meth c ls E hw hR hS hl
  have hl : lv_has ls 2 [(0, .ref (ad g a0)), (1, .int x1)] := hl
  generalize ([.ref (ad g a0), .int x1] : List Value).toArray = args at E ⊢
  have E : EN p s m args meth c cX10_keep 2 (some .boolean) RX10 g := E
  have hx := E.1
  have hb := E.2.1
  unfold f_X10_keep at hf
  refine lv_iload_n hx hb dX10_keep_0 rfl (lv_at hl 1 rfl) ?_
  refine lv_if_lt (tgt := 9) hx hb dX10_keep_1 (by decide) (fun c1 => ?_) (fun c1 => ?_)
  · replace hf := hf.1 c1
    refine lv_iconst (v := 0) hx hb dX10_keep_9 (by decide) ?_
    exact hw_zret E hR hS (by decide) ⟨_, rfl, hf⟩ dX10_keep_10
  · replace hf := hf.2 c1
    refine lv_iload_n hx hb dX10_keep_4 rfl (lv_at hl 1 rfl) ?_
    refine lv_iconst (v := 3) hx hb dX10_keep_5 (by decide) ?_
    refine lv_icmp_lt (tgt := 11) hx hb dX10_keep_6 (by decide) (fun c2 => ?_) (fun c2 => ?_)
    · replace hf := hf.1 c2
      refine lv_aload_n hx hb dX10_keep_11 rfl (lv_at hl 0 rfl) ?_
      obtain ⟨b3, hb3, hf⟩ := hf
      refine hw_getR E hR cI9 hs0 9 (by decide) lfX10_65 rfl hb3 dX10_keep_12 ?_
      refine lv_iload_n hx hb dX10_keep_15 rfl (lv_at hl 1 rfl) ?_
      obtain ⟨n4, hn4, in4, hf⟩ := hf
      obtain ⟨b5, hb5, hf⟩ := hf
      refine hw_aaldS E hR (t := 54) (by decide) hn4 in4 hb5 dX10_keep_16 ?_
      refine lv_aload_n hx hb dX10_keep_17 rfl (lv_at hl 0 rfl) ?_
      obtain ⟨b6, hb6, hf⟩ := hf
      refine hw_getR E hR cI9 hs0 3 (by decide) lfX10_31 rfl hb6 dX10_keep_18 ?_
      refine lv_aload_n hx hb dX10_keep_21 rfl (lv_at hl 0 rfl) ?_
      obtain ⟨b7, hb7, hf⟩ := hf
      refine hw_getR E hR cI9 hs0 2 (by decide) lfX10_27 rfl hb7 dX10_keep_22 ?_
      obtain ⟨h9, hf⟩ := hf
      obtain ⟨h10, hf⟩ := hf
      obtain ⟨h11, hf⟩ := hf
      refine hw_callV (d := 2) E hR hS (As := [.ref (ad g b6), .ref (ad g b7)]) (rest := []) cI1 h9 rfl mcX2_take miX2_take lmX10_334 (ok_X2_take h9 h10 h11 hf) rfl rfl (by decide) hl.1 (Nat.le_of_ble_eq_true rfl) dX10_keep_25 (fun rr m8 H locs hp hR hS => ?_)
      obtain ⟨rfl, hf⟩ := hp
      refine W.eq (g2 := F0 m 28 ls []) rfl ?_
      refine lv_iconst (v := 1) hx hb dX10_keep_28 (by decide) ?_
      exact hw_zret E hR hS (by decide) ⟨_, rfl, hf⟩ dX10_keep_29
    · replace hf := hf.2 c2
      refine lv_iconst (v := 0) hx hb dX10_keep_9 (by decide) ?_
      exact hw_zret E hR hS (by decide) ⟨_, rfl, hf⟩ dX10_keep_10
def f_X10_again (S : Ss) (a0 : Nat) (x1 : Int32) (M : Mm) (K : Int32 → Mm → Prop) : Prop :=
  ((x1 < 0 →
    K (0 : Int32) M) ∧
   (¬ x1 < 0 →
    (((3 : Int32) ≤ x1 →
      K (0 : Int32) M) ∧
     (¬ (3 : Int32) ≤ x1 →
      ∃ b3 : Nat, M.2.2 a0 9 = some b3 ∧
      ∃ n4 : Nat, S[b3]? = some (54, n4) ∧ vp_in x1 n4 ∧
      ∃ b5 : Nat, M.2.2 b3 x1.toNatClampNeg = some b5 ∧
      S[b5]? = some (1, 0) ∧
      (((M.1 b5 4) = 0 →
        K (0 : Int32) M) ∧
       (¬ (M.1 b5 4) = 0 →
        ∃ b8 : Nat, M.2.2 a0 9 = some b8 ∧
        ∃ n9 : Nat, S[b8]? = some (54, n9) ∧ vp_in x1 n9 ∧
        ∃ b10 : Nat, M.2.2 b8 x1.toNatClampNeg = some b10 ∧
        ∃ b11 : Nat, M.2.2 a0 3 = some b11 ∧
        ∃ b12 : Nat, M.2.2 a0 2 = some b12 ∧
        S[b10]? = some (1, 0) ∧
        S[b11]? = some (3, 0) ∧
        S[b12]? = some (2, 0) ∧
        f_X2_giveBack S b10 b11 b12 M (fun (m13 : Mm) =>
          K (1 : Int32) m13)))))))
set_option maxHeartbeats 4000000 in
set_option maxRecDepth 100000 in
theorem ok_X10_again {l : Launch} {g : Gg} {S : Ss} {a0 : Nat} {x1 : Int32} {M : Mm} {K : Int32 → Mm → Prop} (hs0 : S[a0]? = some (9, 0)) (hf : f_X10_again S a0 x1 M K) : MT l g S yX10_again cX10_again 2 (some .boolean) 2 [.ref (ad g a0), .int x1] M (pI K) := by
  refine MT.of (by decide +kernel) (Nat.le_of_ble_eq_true rfl) ?_
  intro p e s m below meth c ls E hw hR hS hl
  have hl : lv_has ls 2 [(0, .ref (ad g a0)), (1, .int x1)] := hl
  generalize ([.ref (ad g a0), .int x1] : List Value).toArray = args at E ⊢
  have E : EN p s m args meth c cX10_again 2 (some .boolean) RX10 g := E
  have hx := E.1
  have hb := E.2.1
  unfold f_X10_again at hf
  refine lv_iload_n hx hb dX10_again_0 rfl (lv_at hl 1 rfl) ?_
  refine lv_if_lt (tgt := 21) hx hb dX10_again_1 (by decide) (fun c1 => ?_) (fun c1 => ?_)
  · replace hf := hf.1 c1
    refine lv_iconst (v := 0) hx hb dX10_again_21 (by decide) ?_
    exact hw_zret E hR hS (by decide) ⟨_, rfl, hf⟩ dX10_again_22
  · replace hf := hf.2 c1
    refine lv_iload_n hx hb dX10_again_4 rfl (lv_at hl 1 rfl) ?_
    refine lv_iconst (v := 3) hx hb dX10_again_5 (by decide) ?_
    refine lv_icmp_ge (tgt := 21) hx hb dX10_again_6 (by decide) (fun c2 => ?_) (fun c2 => ?_)
    · replace hf := hf.1 c2
      refine lv_iconst (v := 0) hx hb dX10_again_21 (by decide) ?_
      exact hw_zret E hR hS (by decide) ⟨_, rfl, hf⟩ dX10_again_22
    · replace hf := hf.2 c2
      refine lv_aload_n hx hb dX10_again_9 rfl (lv_at hl 0 rfl) ?_
      obtain ⟨b3, hb3, hf⟩ := hf
      refine hw_getR E hR cI9 hs0 9 (by decide) lfX10_65 rfl hb3 dX10_again_10 ?_
      refine lv_iload_n hx hb dX10_again_13 rfl (lv_at hl 1 rfl) ?_
      obtain ⟨n4, hn4, in4, hf⟩ := hf
      obtain ⟨b5, hb5, hf⟩ := hf
      refine hw_aaldS E hR (t := 54) (by decide) hn4 in4 hb5 dX10_again_14 ?_
      obtain ⟨h6, hf⟩ := hf
      refine hw_getI E hR cI1 h6 4 (by decide) lfX10_338 rfl dX10_again_15 ?_
      refine lv_if_ne (tgt := 23) hx hb dX10_again_18 (by decide) (fun c7 => ?_) (fun c7 => ?_)
      · replace hf := hf.2 c7
        refine lv_aload_n hx hb dX10_again_23 rfl (lv_at hl 0 rfl) ?_
        obtain ⟨b8, hb8, hf⟩ := hf
        refine hw_getR E hR cI9 hs0 9 (by decide) lfX10_65 rfl hb8 dX10_again_24 ?_
        refine lv_iload_n hx hb dX10_again_27 rfl (lv_at hl 1 rfl) ?_
        obtain ⟨n9, hn9, in9, hf⟩ := hf
        obtain ⟨b10, hb10, hf⟩ := hf
        refine hw_aaldS E hR (t := 54) (by decide) hn9 in9 hb10 dX10_again_28 ?_
        refine lv_aload_n hx hb dX10_again_29 rfl (lv_at hl 0 rfl) ?_
        obtain ⟨b11, hb11, hf⟩ := hf
        refine hw_getR E hR cI9 hs0 3 (by decide) lfX10_31 rfl hb11 dX10_again_30 ?_
        refine lv_aload_n hx hb dX10_again_33 rfl (lv_at hl 0 rfl) ?_
        obtain ⟨b12, hb12, hf⟩ := hf
        refine hw_getR E hR cI9 hs0 2 (by decide) lfX10_27 rfl hb12 dX10_again_34 ?_
        obtain ⟨h14, hf⟩ := hf
        obtain ⟨h15, hf⟩ := hf
        obtain ⟨h16, hf⟩ := hf
        refine hw_callV (d := 2) E hR hS (As := [.ref (ad g b11), .ref (ad g b12)]) (rest := []) cI1 h14 rfl mcX2_giveBack miX2_giveBack lmX10_342 (ok_X2_giveBack h14 h15 h16 hf) rfl rfl (by decide) hl.1 (Nat.le_of_ble_eq_true rfl) dX10_again_37 (fun rr m13 H locs hp hR hS => ?_)
        obtain ⟨rfl, hf⟩ := hp
        refine W.eq (g2 := F0 m 40 ls []) rfl ?_
        refine lv_iconst (v := 1) hx hb dX10_again_40 (by decide) ?_
        exact hw_zret E hR hS (by decide) ⟨_, rfl, hf⟩ dX10_again_41
      · replace hf := hf.1 c7
        refine lv_iconst (v := 0) hx hb dX10_again_21 (by decide) ?_
        exact hw_zret E hR hS (by decide) ⟨_, rfl, hf⟩ dX10_again_22
def f_X10_count (S : Ss) (a0 : Nat) (x1 : Int32) (M : Mm) (K : Int32 → Mm → Prop) : Prop :=
  ((x1 = 0 →
    ∃ b2 : Nat, M.2.2 a0 2 = some b2 ∧
    S[b2]? = some (2, 0) ∧
    K (M.1 b2 10) M) ∧
   (¬ x1 = 0 →
    ((x1 = 1 →
      ∃ b5 : Nat, M.2.2 a0 2 = some b5 ∧
      S[b5]? = some (2, 0) ∧
      K (M.1 b5 13) M) ∧
     (¬ x1 = 1 →
      ((x1 = 2 →
        ∃ b8 : Nat, M.2.2 a0 2 = some b8 ∧
        S[b8]? = some (2, 0) ∧
        K (M.1 b8 11) M) ∧
       (¬ x1 = 2 →
        ((x1 = 3 →
          ∃ b11 : Nat, M.2.2 a0 2 = some b11 ∧
          S[b11]? = some (2, 0) ∧
          K (M.1 b11 14) M) ∧
         (¬ x1 = 3 →
          ((x1 = 4 →
            ∃ b14 : Nat, M.2.2 a0 2 = some b14 ∧
            S[b14]? = some (2, 0) ∧
            K (M.1 b14 12) M) ∧
           (¬ x1 = 4 →
            ((x1 = 5 →
              ∃ b17 : Nat, M.2.2 a0 7 = some b17 ∧
              S[b17]? = some (7, 0) ∧
              K (M.1 b17 2) M) ∧
             (¬ x1 = 5 →
              ((x1 = 6 →
                ∃ b20 : Nat, M.2.2 a0 8 = some b20 ∧
                S[b20]? = some (0, 0) ∧
                K (M.1 b20 8) M) ∧
               (¬ x1 = 6 →
                ((x1 = 7 →
                  ∃ b23 : Nat, M.2.2 a0 8 = some b23 ∧
                  S[b23]? = some (0, 0) ∧
                  K (M.1 b23 9) M) ∧
                 (¬ x1 = 7 →
                  ((x1 = 8 →
                    ∃ b26 : Nat, M.2.2 a0 6 = some b26 ∧
                    S[b26]? = some (6, 0) ∧
                    K (M.1 b26 1) M) ∧
                   (¬ x1 = 8 →
                    ((x1 = 9 →
                      ∃ b29 : Nat, M.2.2 a0 0 = some b29 ∧
                      S[b29]? = some (5, 0) ∧
                      K (M.1 b29 1) M) ∧
                     (¬ x1 = 9 →
                      ((x1 = 10 →
                        K (M.1 a0 12) M) ∧
                       (¬ x1 = 10 →
                        ((x1 = 11 →
                          ∃ b33 : Nat, M.2.2 a0 3 = some b33 ∧
                          S[b33]? = some (3, 0) ∧
                          K (M.1 b33 2) M) ∧
                         (¬ x1 = 11 →
                          ((x1 = 12 →
                            ∃ b36 : Nat, M.2.2 a0 3 = some b36 ∧
                            S[b36]? = some (3, 0) ∧
                            K (M.1 b36 3) M) ∧
                           (¬ x1 = 12 →
                            ((x1 = 13 →
                              ∃ b39 : Nat, M.2.2 a0 3 = some b39 ∧
                              S[b39]? = some (3, 0) ∧
                              K (M.1 b39 4) M) ∧
                             (¬ x1 = 13 →
                              ((x1 = 14 →
                                ∃ b42 : Nat, M.2.2 a0 3 = some b42 ∧
                                S[b42]? = some (3, 0) ∧
                                K (M.1 b42 5) M) ∧
                               (¬ x1 = 14 →
                                K (-1 : Int32) M))))))))))))))))))))))))))))))
set_option maxHeartbeats 4000000 in
set_option maxRecDepth 100000 in
theorem ok_X10_count {l : Launch} {g : Gg} {S : Ss} {a0 : Nat} {x1 : Int32} {M : Mm} {K : Int32 → Mm → Prop} (hs0 : S[a0]? = some (9, 0)) (hf : f_X10_count S a0 x1 M K) : MT l g S yX10_count cX10_count 2 (some .int) 0 [.ref (ad g a0), .int x1] M (pI K) := by
  refine MT.of (by decide +kernel) (Nat.le_of_ble_eq_true rfl) ?_
  intro p e s m below meth c ls E hw hR hS hl
  have hl : lv_has ls 2 [(0, .ref (ad g a0)), (1, .int x1)] := hl
  generalize ([.ref (ad g a0), .int x1] : List Value).toArray = args at E ⊢
  have E : EN p s m args meth c cX10_count 2 (some .int) RX10 g := E
  have hx := E.1
  have hb := E.2.1
  unfold f_X10_count at hf
  refine lv_iload_n hx hb dX10_count_0 rfl (lv_at hl 1 rfl) ?_
  rcases Decidable.em (x1 = 0) with w1 | w1
  · replace hf := hf.1 w1
    refine lv_tableIn (tgt := 76) hx hb dX10_count_1 (by rw [w1]; decide) (by rw [w1]; decide) (by rw [w1]; rfl) (by decide) ?_
    refine lv_aload_n hx hb dX10_count_76 rfl (lv_at hl 0 rfl) ?_
    obtain ⟨b2, hb2, hf⟩ := hf
    refine hw_getR E hR cI9 hs0 2 (by decide) lfX10_27 rfl hb2 dX10_count_77 ?_
    obtain ⟨h3, hf⟩ := hf
    refine hw_getI E hR cI2 h3 10 (by decide) lfX10_92 rfl dX10_count_80 ?_
    exact hw_iret E hR hS ⟨_, rfl, hf⟩ dX10_count_83
  · replace hf := hf.2 w1
    rcases Decidable.em (x1 = 1) with w4 | w4
    · replace hf := hf.1 w4
      refine lv_tableIn (tgt := 84) hx hb dX10_count_1 (by rw [w4]; decide) (by rw [w4]; decide) (by rw [w4]; rfl) (by decide) ?_
      refine lv_aload_n hx hb dX10_count_84 rfl (lv_at hl 0 rfl) ?_
      obtain ⟨b5, hb5, hf⟩ := hf
      refine hw_getR E hR cI9 hs0 2 (by decide) lfX10_27 rfl hb5 dX10_count_85 ?_
      obtain ⟨h6, hf⟩ := hf
      refine hw_getI E hR cI2 h6 13 (by decide) lfX10_150 rfl dX10_count_88 ?_
      exact hw_iret E hR hS ⟨_, rfl, hf⟩ dX10_count_91
    · replace hf := hf.2 w4
      rcases Decidable.em (x1 = 2) with w7 | w7
      · replace hf := hf.1 w7
        refine lv_tableIn (tgt := 92) hx hb dX10_count_1 (by rw [w7]; decide) (by rw [w7]; decide) (by rw [w7]; rfl) (by decide) ?_
        refine lv_aload_n hx hb dX10_count_92 rfl (lv_at hl 0 rfl) ?_
        obtain ⟨b8, hb8, hf⟩ := hf
        refine hw_getR E hR cI9 hs0 2 (by decide) lfX10_27 rfl hb8 dX10_count_93 ?_
        obtain ⟨h9, hf⟩ := hf
        refine hw_getI E hR cI2 h9 11 (by decide) lfX10_132 rfl dX10_count_96 ?_
        exact hw_iret E hR hS ⟨_, rfl, hf⟩ dX10_count_99
      · replace hf := hf.2 w7
        rcases Decidable.em (x1 = 3) with w10 | w10
        · replace hf := hf.1 w10
          refine lv_tableIn (tgt := 100) hx hb dX10_count_1 (by rw [w10]; decide) (by rw [w10]; decide) (by rw [w10]; rfl) (by decide) ?_
          refine lv_aload_n hx hb dX10_count_100 rfl (lv_at hl 0 rfl) ?_
          obtain ⟨b11, hb11, hf⟩ := hf
          refine hw_getR E hR cI9 hs0 2 (by decide) lfX10_27 rfl hb11 dX10_count_101 ?_
          obtain ⟨h12, hf⟩ := hf
          refine hw_getI E hR cI2 h12 14 (by decide) lfX10_138 rfl dX10_count_104 ?_
          exact hw_iret E hR hS ⟨_, rfl, hf⟩ dX10_count_107
        · replace hf := hf.2 w10
          rcases Decidable.em (x1 = 4) with w13 | w13
          · replace hf := hf.1 w13
            refine lv_tableIn (tgt := 108) hx hb dX10_count_1 (by rw [w13]; decide) (by rw [w13]; decide) (by rw [w13]; rfl) (by decide) ?_
            refine lv_aload_n hx hb dX10_count_108 rfl (lv_at hl 0 rfl) ?_
            obtain ⟨b14, hb14, hf⟩ := hf
            refine hw_getR E hR cI9 hs0 2 (by decide) lfX10_27 rfl hb14 dX10_count_109 ?_
            obtain ⟨h15, hf⟩ := hf
            refine hw_getI E hR cI2 h15 12 (by decide) lfX10_277 rfl dX10_count_112 ?_
            exact hw_iret E hR hS ⟨_, rfl, hf⟩ dX10_count_115
          · replace hf := hf.2 w13
            rcases Decidable.em (x1 = 5) with w16 | w16
            · replace hf := hf.1 w16
              refine lv_tableIn (tgt := 116) hx hb dX10_count_1 (by rw [w16]; decide) (by rw [w16]; decide) (by rw [w16]; rfl) (by decide) ?_
              refine lv_aload_n hx hb dX10_count_116 rfl (lv_at hl 0 rfl) ?_
              obtain ⟨b17, hb17, hf⟩ := hf
              refine hw_getR E hR cI9 hs0 7 (by decide) lfX10_52 rfl hb17 dX10_count_117 ?_
              obtain ⟨h18, hf⟩ := hf
              refine hw_getI E hR cI7 h18 2 (by decide) lfX10_293 rfl dX10_count_120 ?_
              exact hw_iret E hR hS ⟨_, rfl, hf⟩ dX10_count_123
            · replace hf := hf.2 w16
              rcases Decidable.em (x1 = 6) with w19 | w19
              · replace hf := hf.1 w19
                refine lv_tableIn (tgt := 124) hx hb dX10_count_1 (by rw [w19]; decide) (by rw [w19]; decide) (by rw [w19]; rfl) (by decide) ?_
                refine lv_aload_n hx hb dX10_count_124 rfl (lv_at hl 0 rfl) ?_
                obtain ⟨b20, hb20, hf⟩ := hf
                refine hw_getR E hR cI9 hs0 8 (by decide) lfX10_59 rfl hb20 dX10_count_125 ?_
                obtain ⟨h21, hf⟩ := hf
                refine hw_getI E hR cI0 h21 8 (by decide) lfX10_345 rfl dX10_count_128 ?_
                exact hw_iret E hR hS ⟨_, rfl, hf⟩ dX10_count_131
              · replace hf := hf.2 w19
                rcases Decidable.em (x1 = 7) with w22 | w22
                · replace hf := hf.1 w22
                  refine lv_tableIn (tgt := 132) hx hb dX10_count_1 (by rw [w22]; decide) (by rw [w22]; decide) (by rw [w22]; rfl) (by decide) ?_
                  refine lv_aload_n hx hb dX10_count_132 rfl (lv_at hl 0 rfl) ?_
                  obtain ⟨b23, hb23, hf⟩ := hf
                  refine hw_getR E hR cI9 hs0 8 (by decide) lfX10_59 rfl hb23 dX10_count_133 ?_
                  obtain ⟨h24, hf⟩ := hf
                  refine hw_getI E hR cI0 h24 9 (by decide) lfX10_348 rfl dX10_count_136 ?_
                  exact hw_iret E hR hS ⟨_, rfl, hf⟩ dX10_count_139
                · replace hf := hf.2 w22
                  rcases Decidable.em (x1 = 8) with w25 | w25
                  · replace hf := hf.1 w25
                    refine lv_tableIn (tgt := 140) hx hb dX10_count_1 (by rw [w25]; decide) (by rw [w25]; decide) (by rw [w25]; rfl) (by decide) ?_
                    refine lv_aload_n hx hb dX10_count_140 rfl (lv_at hl 0 rfl) ?_
                    obtain ⟨b26, hb26, hf⟩ := hf
                    refine hw_getR E hR cI9 hs0 6 (by decide) lfX10_45 rfl hb26 dX10_count_141 ?_
                    obtain ⟨h27, hf⟩ := hf
                    refine hw_getI E hR cI6 h27 1 (by decide) lfX10_231 rfl dX10_count_144 ?_
                    exact hw_iret E hR hS ⟨_, rfl, hf⟩ dX10_count_147
                  · replace hf := hf.2 w25
                    rcases Decidable.em (x1 = 9) with w28 | w28
                    · replace hf := hf.1 w28
                      refine lv_tableIn (tgt := 148) hx hb dX10_count_1 (by rw [w28]; decide) (by rw [w28]; decide) (by rw [w28]; rfl) (by decide) ?_
                      refine lv_aload_n hx hb dX10_count_148 rfl (lv_at hl 0 rfl) ?_
                      obtain ⟨b29, hb29, hf⟩ := hf
                      refine hw_getR E hR cI9 hs0 0 (by decide) lfX10_10 rfl hb29 dX10_count_149 ?_
                      obtain ⟨h30, hf⟩ := hf
                      refine hw_getI E hR cI5 h30 1 (by decide) lfX10_81 rfl dX10_count_152 ?_
                      exact hw_iret E hR hS ⟨_, rfl, hf⟩ dX10_count_155
                    · replace hf := hf.2 w28
                      rcases Decidable.em (x1 = 10) with w31 | w31
                      · replace hf := hf.1 w31
                        refine lv_tableIn (tgt := 156) hx hb dX10_count_1 (by rw [w31]; decide) (by rw [w31]; decide) (by rw [w31]; rfl) (by decide) ?_
                        refine lv_aload_n hx hb dX10_count_156 rfl (lv_at hl 0 rfl) ?_
                        refine hw_getI E hR cI9 hs0 12 (by decide) lfX10_76 rfl dX10_count_157 ?_
                        exact hw_iret E hR hS ⟨_, rfl, hf⟩ dX10_count_160
                      · replace hf := hf.2 w31
                        rcases Decidable.em (x1 = 11) with w32 | w32
                        · replace hf := hf.1 w32
                          refine lv_tableIn (tgt := 161) hx hb dX10_count_1 (by rw [w32]; decide) (by rw [w32]; decide) (by rw [w32]; rfl) (by decide) ?_
                          refine lv_aload_n hx hb dX10_count_161 rfl (lv_at hl 0 rfl) ?_
                          obtain ⟨b33, hb33, hf⟩ := hf
                          refine hw_getR E hR cI9 hs0 3 (by decide) lfX10_31 rfl hb33 dX10_count_162 ?_
                          obtain ⟨h34, hf⟩ := hf
                          refine hw_getI E hR cI3 h34 2 (by decide) lfX10_156 rfl dX10_count_165 ?_
                          exact hw_iret E hR hS ⟨_, rfl, hf⟩ dX10_count_168
                        · replace hf := hf.2 w32
                          rcases Decidable.em (x1 = 12) with w35 | w35
                          · replace hf := hf.1 w35
                            refine lv_tableIn (tgt := 169) hx hb dX10_count_1 (by rw [w35]; decide) (by rw [w35]; decide) (by rw [w35]; rfl) (by decide) ?_
                            refine lv_aload_n hx hb dX10_count_169 rfl (lv_at hl 0 rfl) ?_
                            obtain ⟨b36, hb36, hf⟩ := hf
                            refine hw_getR E hR cI9 hs0 3 (by decide) lfX10_31 rfl hb36 dX10_count_170 ?_
                            obtain ⟨h37, hf⟩ := hf
                            refine hw_getI E hR cI3 h37 3 (by decide) lfX10_159 rfl dX10_count_173 ?_
                            exact hw_iret E hR hS ⟨_, rfl, hf⟩ dX10_count_176
                          · replace hf := hf.2 w35
                            rcases Decidable.em (x1 = 13) with w38 | w38
                            · replace hf := hf.1 w38
                              refine lv_tableIn (tgt := 177) hx hb dX10_count_1 (by rw [w38]; decide) (by rw [w38]; decide) (by rw [w38]; rfl) (by decide) ?_
                              refine lv_aload_n hx hb dX10_count_177 rfl (lv_at hl 0 rfl) ?_
                              obtain ⟨b39, hb39, hf⟩ := hf
                              refine hw_getR E hR cI9 hs0 3 (by decide) lfX10_31 rfl hb39 dX10_count_178 ?_
                              obtain ⟨h40, hf⟩ := hf
                              refine hw_getI E hR cI3 h40 4 (by decide) lfX10_162 rfl dX10_count_181 ?_
                              exact hw_iret E hR hS ⟨_, rfl, hf⟩ dX10_count_184
                            · replace hf := hf.2 w38
                              rcases Decidable.em (x1 = 14) with w41 | w41
                              · replace hf := hf.1 w41
                                refine lv_tableIn (tgt := 185) hx hb dX10_count_1 (by rw [w41]; decide) (by rw [w41]; decide) (by rw [w41]; rfl) (by decide) ?_
                                refine lv_aload_n hx hb dX10_count_185 rfl (lv_at hl 0 rfl) ?_
                                obtain ⟨b42, hb42, hf⟩ := hf
                                refine hw_getR E hR cI9 hs0 3 (by decide) lfX10_31 rfl hb42 dX10_count_186 ?_
                                obtain ⟨h43, hf⟩ := hf
                                refine hw_getI E hR cI3 h43 5 (by decide) lfX10_351 rfl dX10_count_189 ?_
                                exact hw_iret E hR hS ⟨_, rfl, hf⟩ dX10_count_192
                              · replace hf := hf.2 w41
                                refine lv_tableOut (tgt := 193) hx hb dX10_count_1 (by have := lv_neT w1 (a := 0) (by decide); have := lv_neT w4 (a := 1) (by decide); have := lv_neT w7 (a := 2) (by decide); have := lv_neT w10 (a := 3) (by decide); have := lv_neT w13 (a := 4) (by decide); have := lv_neT w16 (a := 5) (by decide); have := lv_neT w19 (a := 6) (by decide); have := lv_neT w22 (a := 7) (by decide); have := lv_neT w25 (a := 8) (by decide); have := lv_neT w28 (a := 9) (by decide); have := lv_neT w31 (a := 10) (by decide); have := lv_neT w32 (a := 11) (by decide); have := lv_neT w35 (a := 12) (by decide); have := lv_neT w38 (a := 13) (by decide); have := lv_neT w41 (a := 14) (by decide); omega) (by decide) ?_
                                refine lv_iconst (v := -1) hx hb dX10_count_193 (by decide) ?_
                                exact hw_iret E hR hS ⟨_, rfl, hf⟩ dX10_count_194
