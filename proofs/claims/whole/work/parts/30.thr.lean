theorem lfX10_354 : Cond.fieldLink RX10 354 (TX7 0).1 (TX7 0).2.1 (TX7 0).2.2.1 ∈ lwg := (inT2 (List.mem_of_getElem? (i := 63) (by decide +kernel)) (by decide +kernel))
theorem lmX10_171 : Cond.methodLink RX10 171 yX4_placeOf ∈ lwg := (inT5 (List.mem_of_getElem? (i := 96) (by decide +kernel)) (by decide +kernel))
theorem lmX10_174 : Cond.methodLink RX10 174 yX4_targetOf ∈ lwg := (inT5 (List.mem_of_getElem? (i := 100) (by decide +kernel)) (by decide +kernel))
theorem lmX10_177 : Cond.methodLink RX10 177 yX4_tenthsOf ∈ lwg := (inT5 (List.mem_of_getElem? (i := 101) (by decide +kernel)) (by decide +kernel))
theorem lmX10_180 : Cond.methodLink RX10 180 yX4_lineOf ∈ lwg := (inT5 (List.mem_of_getElem? (i := 102) (by decide +kernel)) (by decide +kernel))
theorem mcX4_placeOf : MC yX4_placeOf cX4_placeOf 3 (some .int) 1 := ⟨(inT5 (List.mem_of_getElem? (i := 99) (by decide +kernel)) (by decide +kernel)), (inT1 (List.mem_of_getElem? (i := 6) (by decide +kernel)) (by decide +kernel)), by decide +kernel, by decide⟩
theorem miX4_placeOf : MI yX4_placeOf := ⟨(inT5 (List.mem_of_getElem? (i := 97) (by decide +kernel)) (by decide +kernel)), (inT5 (List.mem_of_getElem? (i := 98) (by decide +kernel)) (by decide +kernel))⟩
def f_X10_at (S : Ss) (a0 : Nat) (x1 : Int32) (M : Mm) (K : Int32 → Mm → Prop) (KX : Mm → Prop) : Prop :=
  ((x1 < 0 →
    KX M) ∧
   (¬ x1 < 0 →
    ((x1 ≤ (23 : Int32) →
      (((8 : Int32) ≤ x1 →
        (((12 : Int32) ≤ x1 →
          (((16 : Int32) ≤ x1 →
            (((20 : Int32) ≤ x1 →
              ∃ b7 : Nat, M.2.2 a0 2 = some b7 ∧
              S[b7]? = some (2, 0) ∧
              (((M.1 b7 10) ≤ (x1 - (20 : Int32)) →
                K (-1 : Int32) M) ∧
               (¬ (M.1 b7 10) ≤ (x1 - (20 : Int32)) →
                ∃ b10 : Nat, M.2.2 a0 3 = some b10 ∧
                S[b10]? = some (3, 0) ∧
                f_X4_lineOf S b10 (x1 - (20 : Int32)) M (fun (r13 : Int32) (m11 : Mm) =>
                  K r13 m11)))) ∧
             (¬ (20 : Int32) ≤ x1 →
              ∃ b14 : Nat, M.2.2 a0 3 = some b14 ∧
              S[b14]? = some (3, 0) ∧
              f_X4_tenthsOf S b14 (x1 - (16 : Int32)) M (fun (r17 : Int32) (m15 : Mm) =>
                K r17 m15)))) ∧
           (¬ (16 : Int32) ≤ x1 →
            ∃ b18 : Nat, M.2.2 a0 3 = some b18 ∧
            S[b18]? = some (3, 0) ∧
            f_X4_targetOf S b18 (x1 - (12 : Int32)) M (fun (r21 : Int32) (m19 : Mm) =>
              K r21 m19)))) ∧
         (¬ (12 : Int32) ≤ x1 →
          ∃ b22 : Nat, M.2.2 a0 3 = some b22 ∧
          S[b22]? = some (3, 0) ∧
          f_X4_placeOf S b22 (x1 - (8 : Int32)) M (fun (r25 : Int32) (m23 : Mm) =>
            K r25 m23)))) ∧
       (¬ (8 : Int32) ≤ x1 →
        ∃ b26 : Nat, M.2.2 a0 3 = some b26 ∧
        S[b26]? = some (3, 0) ∧
        f_X4_slotValue S b26 x1 M (fun (r29 : Int32) (m27 : Mm) =>
          K r29 m27)))) ∧
     (¬ x1 ≤ (23 : Int32) →
      KX M))))
set_option maxHeartbeats 4000000 in
set_option maxRecDepth 100000 in
theorem ok_X10_at {l : Launch} {g : Gg} {S : Ss} {a0 : Nat} {x1 : Int32} {M : Mm} {K : Int32 → Mm → Prop} {KX : Mm → Prop} (hst : l.stackTraces = false) (hs0 : S[a0]? = some (9, 0)) (hf : f_X10_at S a0 x1 M K KX) : XT l g S yX10_at cX10_at 2 (some .int) 8 [.ref (ad g a0), .int x1] M (pI K) KX := by
  refine XT.of (by decide +kernel) (Nat.le_of_ble_eq_true rfl) ?_
  intro p e s m below meth c ls E htab hT hw hR hS hl
  have hl : lv_has ls 2 [(0, .ref (ad g a0)), (1, .int x1)] := hl
  generalize ([.ref (ad g a0), .int x1] : List Value).toArray = args at E ⊢
  have E : EN p s m args meth c cX10_at 2 (some .int) RX10 g := E
  have hx := E.1
  have hb := E.2.1
  unfold f_X10_at at hf
  refine lv_iload_n hx hb dX10_at_0 rfl (lv_at hl 1 rfl) ?_
  refine lv_if_lt (tgt := 10) hx hb dX10_at_1 (by decide) (fun c1 => ?_) (fun c1 => ?_)
  · replace hf := hf.1 c1
    exact hw_throw E hst hT hR hS hl htab (by decide) dX10_at_10 dX10_at_13 dX10_at_14 dX10_at_17 hf
  · replace hf := hf.2 c1
    refine lv_iload_n hx hb dX10_at_4 rfl (lv_at hl 1 rfl) ?_
    refine lv_bipush (v := 23) hx hb dX10_at_5 (by decide) ?_
    refine lv_icmp_le (tgt := 18) hx hb dX10_at_7 (by decide) (fun c2 => ?_) (fun c2 => ?_)
    · replace hf := hf.1 c2
      refine lv_iload_n hx hb dX10_at_18 rfl (lv_at hl 1 rfl) ?_
      refine lv_bipush (v := 8) hx hb dX10_at_19 (by decide) ?_
      refine lv_icmp_ge (tgt := 33) hx hb dX10_at_21 (by decide) (fun c3 => ?_) (fun c3 => ?_)
      · replace hf := hf.1 c3
        refine lv_iload_n hx hb dX10_at_33 rfl (lv_at hl 1 rfl) ?_
        refine lv_bipush (v := 12) hx hb dX10_at_34 (by decide) ?_
        refine lv_icmp_ge (tgt := 51) hx hb dX10_at_36 (by decide) (fun c4 => ?_) (fun c4 => ?_)
        · replace hf := hf.1 c4
          refine lv_iload_n hx hb dX10_at_51 rfl (lv_at hl 1 rfl) ?_
          refine lv_bipush (v := 16) hx hb dX10_at_52 (by decide) ?_
          refine lv_icmp_ge (tgt := 69) hx hb dX10_at_54 (by decide) (fun c5 => ?_) (fun c5 => ?_)
          · replace hf := hf.1 c5
            refine lv_iload_n hx hb dX10_at_69 rfl (lv_at hl 1 rfl) ?_
            refine lv_bipush (v := 20) hx hb dX10_at_70 (by decide) ?_
            refine lv_icmp_ge (tgt := 87) hx hb dX10_at_72 (by decide) (fun c6 => ?_) (fun c6 => ?_)
            · replace hf := hf.1 c6
              refine lv_iload_n hx hb dX10_at_87 rfl (lv_at hl 1 rfl) ?_
              refine lv_bipush (v := 20) hx hb dX10_at_88 (by decide) ?_
              refine lv_isub hx hb dX10_at_90 ?_
              refine lv_aload_n hx hb dX10_at_91 rfl (lv_at hl 0 rfl) ?_
              obtain ⟨b7, hb7, hf⟩ := hf
              refine hw_getR E hR cI9 hs0 2 (by decide) lfX10_27 rfl hb7 dX10_at_92 ?_
              obtain ⟨h8, hf⟩ := hf
              refine hw_getI E hR cI2 h8 10 (by decide) lfX10_92 rfl dX10_at_95 ?_
              refine lv_icmp_ge (tgt := 115) hx hb dX10_at_98 (by decide) (fun c9 => ?_) (fun c9 => ?_)
              · replace hf := hf.1 c9
                refine lv_iconst (v := -1) hx hb dX10_at_115 (by decide) ?_
                exact vx_ret (W.widen (k := 1) (n := 6) (by decide) (by decide) (hw_iretX E hR hS ⟨_, rfl, hf⟩ dX10_at_116))
              · replace hf := hf.2 c9
                refine lv_aload_n hx hb dX10_at_101 rfl (lv_at hl 0 rfl) ?_
                obtain ⟨b10, hb10, hf⟩ := hf
                refine hw_getR E hR cI9 hs0 3 (by decide) lfX10_31 rfl hb10 dX10_at_102 ?_
                refine lv_iload_n hx hb dX10_at_105 rfl (lv_at hl 1 rfl) ?_
                refine lv_bipush (v := 20) hx hb dX10_at_106 (by decide) ?_
                refine lv_isub hx hb dX10_at_108 ?_
                obtain ⟨h12, hf⟩ := hf
                refine hw_callVG E hR hS (As := [.int (x1 - (20 : Int32))]) (rest := []) cI3 h12 rfl mcX4_lineOf miX4_lineOf lmX10_180 (ok_X4_lineOf h12 hf) rfl rfl (Nat.le_of_ble_eq_true rfl) (Nat.le_of_ble_eq_true rfl) (Nat.le_of_ble_eq_true rfl) (Nat.le_of_ble_eq_true rfl) hl.1 (Nat.le_of_ble_eq_true rfl) dX10_at_109 (fun rr m11 H locs hp hR hS => ?_)
                obtain ⟨r13, rfl, hf⟩ := hp
                refine W.eq (g2 := F0 m 112 ls [.int r13]) rfl ?_
                refine lv_goto (tgt := 116) hx hb dX10_at_112 (by decide) ?_
                exact vx_ret (W.widen (k := 1) (n := 6) (by decide) (by decide) (hw_iretX E hR hS ⟨_, rfl, hf⟩ dX10_at_116))
            · replace hf := hf.2 c6
              refine lv_aload_n hx hb dX10_at_75 rfl (lv_at hl 0 rfl) ?_
              obtain ⟨b14, hb14, hf⟩ := hf
              refine hw_getR E hR cI9 hs0 3 (by decide) lfX10_31 rfl hb14 dX10_at_76 ?_
              refine lv_iload_n hx hb dX10_at_79 rfl (lv_at hl 1 rfl) ?_
              refine lv_bipush (v := 16) hx hb dX10_at_80 (by decide) ?_
              refine lv_isub hx hb dX10_at_82 ?_
              obtain ⟨h16, hf⟩ := hf
              refine hw_callVG E hR hS (As := [.int (x1 - (16 : Int32))]) (rest := []) cI3 h16 rfl mcX4_tenthsOf miX4_tenthsOf lmX10_177 (ok_X4_tenthsOf h16 hf) rfl rfl (Nat.le_of_ble_eq_true rfl) (Nat.le_of_ble_eq_true rfl) (Nat.le_of_ble_eq_true rfl) (Nat.le_of_ble_eq_true rfl) hl.1 (Nat.le_of_ble_eq_true rfl) dX10_at_83 (fun rr m15 H locs hp hR hS => ?_)
              obtain ⟨r17, rfl, hf⟩ := hp
              refine W.eq (g2 := F0 m 86 ls [.int r17]) rfl ?_
              exact vx_ret (W.widen (k := 1) (n := 6) (by decide) (by decide) (hw_iretX E hR hS ⟨_, rfl, hf⟩ dX10_at_86))
          · replace hf := hf.2 c5
            refine lv_aload_n hx hb dX10_at_57 rfl (lv_at hl 0 rfl) ?_
            obtain ⟨b18, hb18, hf⟩ := hf
            refine hw_getR E hR cI9 hs0 3 (by decide) lfX10_31 rfl hb18 dX10_at_58 ?_
            refine lv_iload_n hx hb dX10_at_61 rfl (lv_at hl 1 rfl) ?_
            refine lv_bipush (v := 12) hx hb dX10_at_62 (by decide) ?_
            refine lv_isub hx hb dX10_at_64 ?_
            obtain ⟨h20, hf⟩ := hf
            refine hw_callVG E hR hS (As := [.int (x1 - (12 : Int32))]) (rest := []) cI3 h20 rfl mcX4_targetOf miX4_targetOf lmX10_174 (ok_X4_targetOf h20 hf) rfl rfl (Nat.le_of_ble_eq_true rfl) (Nat.le_of_ble_eq_true rfl) (Nat.le_of_ble_eq_true rfl) (Nat.le_of_ble_eq_true rfl) hl.1 (Nat.le_of_ble_eq_true rfl) dX10_at_65 (fun rr m19 H locs hp hR hS => ?_)
            obtain ⟨r21, rfl, hf⟩ := hp
            refine W.eq (g2 := F0 m 68 ls [.int r21]) rfl ?_
            exact vx_ret (W.widen (k := 1) (n := 6) (by decide) (by decide) (hw_iretX E hR hS ⟨_, rfl, hf⟩ dX10_at_68))
        · replace hf := hf.2 c4
          refine lv_aload_n hx hb dX10_at_39 rfl (lv_at hl 0 rfl) ?_
          obtain ⟨b22, hb22, hf⟩ := hf
          refine hw_getR E hR cI9 hs0 3 (by decide) lfX10_31 rfl hb22 dX10_at_40 ?_
          refine lv_iload_n hx hb dX10_at_43 rfl (lv_at hl 1 rfl) ?_
          refine lv_bipush (v := 8) hx hb dX10_at_44 (by decide) ?_
          refine lv_isub hx hb dX10_at_46 ?_
          obtain ⟨h24, hf⟩ := hf
          refine hw_callVG E hR hS (As := [.int (x1 - (8 : Int32))]) (rest := []) cI3 h24 rfl mcX4_placeOf miX4_placeOf lmX10_171 (ok_X4_placeOf h24 hf) rfl rfl (Nat.le_of_ble_eq_true rfl) (Nat.le_of_ble_eq_true rfl) (Nat.le_of_ble_eq_true rfl) (Nat.le_of_ble_eq_true rfl) hl.1 (Nat.le_of_ble_eq_true rfl) dX10_at_47 (fun rr m23 H locs hp hR hS => ?_)
          obtain ⟨r25, rfl, hf⟩ := hp
          refine W.eq (g2 := F0 m 50 ls [.int r25]) rfl ?_
          exact vx_ret (W.widen (k := 1) (n := 6) (by decide) (by decide) (hw_iretX E hR hS ⟨_, rfl, hf⟩ dX10_at_50))
      · replace hf := hf.2 c3
        refine lv_aload_n hx hb dX10_at_24 rfl (lv_at hl 0 rfl) ?_
        obtain ⟨b26, hb26, hf⟩ := hf
        refine hw_getR E hR cI9 hs0 3 (by decide) lfX10_31 rfl hb26 dX10_at_25 ?_
        refine lv_iload_n hx hb dX10_at_28 rfl (lv_at hl 1 rfl) ?_
        obtain ⟨h28, hf⟩ := hf
        refine hw_callVG E hR hS (As := [.int x1]) (rest := []) cI3 h28 rfl mcX4_slotValue miX4_slotValue lmX10_141 (ok_X4_slotValue h28 hf) rfl rfl (Nat.le_of_ble_eq_true rfl) (Nat.le_of_ble_eq_true rfl) (Nat.le_of_ble_eq_true rfl) (Nat.le_of_ble_eq_true rfl) hl.1 (Nat.le_of_ble_eq_true rfl) dX10_at_29 (fun rr m27 H locs hp hR hS => ?_)
        obtain ⟨r29, rfl, hf⟩ := hp
        refine W.eq (g2 := F0 m 32 ls [.int r29]) rfl ?_
        exact vx_ret (W.widen (k := 1) (n := 6) (by decide) (by decide) (hw_iretX E hR hS ⟨_, rfl, hf⟩ dX10_at_32))
    · replace hf := hf.2 c2
      exact hw_throw E hst hT hR hS hl htab (by decide) dX10_at_10 dX10_at_13 dX10_at_14 dX10_at_17 hf
def f_X10_row (S : Ss) (a0 : Nat) (x1 : Int32) (M : Mm) (K : Int64 → Mm → Prop) (KX : Mm → Prop) : Prop :=
  ((x1 < 0 →
    KX M) ∧
   (¬ x1 < 0 →
    ∃ b2 : Nat, M.2.2 a0 6 = some b2 ∧
    S[b2]? = some (6, 0) ∧
    ((x1 < (M.1 b2 1) →
      ∃ b5 : Nat, M.2.2 a0 6 = some b5 ∧
      S[b5]? = some (6, 0) ∧
      ∃ b7 : Nat, M.2.2 b5 0 = some b7 ∧
      ∃ n8 : Nat, S[b7]? = some (53, n8) ∧ vp_in x1 n8 ∧
      K (M.2.1 b7 x1.toNatClampNeg) M) ∧
     (¬ x1 < (M.1 b2 1) →
      KX M))))
set_option maxHeartbeats 4000000 in
set_option maxRecDepth 100000 in
theorem ok_X10_row {l : Launch} {g : Gg} {S : Ss} {a0 : Nat} {x1 : Int32} {M : Mm} {K : Int64 → Mm → Prop} {KX : Mm → Prop} (hst : l.stackTraces = false) (hs0 : S[a0]? = some (9, 0)) (hf : f_X10_row S a0 x1 M K KX) : XT l g S yX10_row cX10_row 2 (some .long) 8 [.ref (ad g a0), .int x1] M (pJ K) KX := by
  refine XT.of (by decide +kernel) (Nat.le_of_ble_eq_true rfl) ?_
  intro p e s m below meth c ls E htab hT hw hR hS hl
  have hl : lv_has ls 2 [(0, .ref (ad g a0)), (1, .int x1)] := hl
  generalize ([.ref (ad g a0), .int x1] : List Value).toArray = args at E ⊢
  have E : EN p s m args meth c cX10_row 2 (some .long) RX10 g := E
  have hx := E.1
  have hb := E.2.1
  unfold f_X10_row at hf
  refine lv_iload_n hx hb dX10_row_0 rfl (lv_at hl 1 rfl) ?_
  refine lv_if_lt (tgt := 15) hx hb dX10_row_1 (by decide) (fun c1 => ?_) (fun c1 => ?_)
  · replace hf := hf.1 c1
    exact hw_throw E hst hT hR hS hl htab (by decide) dX10_row_15 dX10_row_18 dX10_row_19 dX10_row_22 hf
  · replace hf := hf.2 c1
    refine lv_iload_n hx hb dX10_row_4 rfl (lv_at hl 1 rfl) ?_
    refine lv_aload_n hx hb dX10_row_5 rfl (lv_at hl 0 rfl) ?_
    obtain ⟨b2, hb2, hf⟩ := hf
    refine hw_getR E hR cI9 hs0 6 (by decide) lfX10_45 rfl hb2 dX10_row_6 ?_
    obtain ⟨h3, hf⟩ := hf
    refine hw_getI E hR cI6 h3 1 (by decide) lfX10_231 rfl dX10_row_9 ?_
    refine lv_icmp_lt (tgt := 23) hx hb dX10_row_12 (by decide) (fun c4 => ?_) (fun c4 => ?_)
    · replace hf := hf.1 c4
      refine lv_aload_n hx hb dX10_row_23 rfl (lv_at hl 0 rfl) ?_
      obtain ⟨b5, hb5, hf⟩ := hf
      refine hw_getR E hR cI9 hs0 6 (by decide) lfX10_45 rfl hb5 dX10_row_24 ?_
      obtain ⟨h6, hf⟩ := hf
      obtain ⟨b7, hb7, hf⟩ := hf
      refine hw_getR E hR cI6 h6 0 (by decide) lfX10_354 rfl hb7 dX10_row_27 ?_
      refine lv_iload_n hx hb dX10_row_30 rfl (lv_at hl 1 rfl) ?_
      obtain ⟨n8, hn8, in8, hf⟩ := hf
      refine hw_lald E hR hn8 in8 dX10_row_31 ?_
      exact vx_ret (W.widen (k := 1) (n := 6) (by decide) (by decide) (hw_lretX E hR hS ⟨_, rfl, hf⟩ dX10_row_32))
    · replace hf := hf.2 c4
      exact hw_throw E hst hT hR hS hl htab (by decide) dX10_row_15 dX10_row_18 dX10_row_19 dX10_row_22 hf
