def f_X0_ofThing_J42 (S : Ss) (x0 : Int32) (x1 : Int32) (M : Mm) (K : Int32 → Mm → Prop) : Prop :=
  ((x1 = 0 →
    K (-1 : Int32) M) ∧
   (¬ x1 = 0 →
    ((x0 = 70 →
      K (1020 : Int32) M) ∧
     (¬ x0 = 70 →
      ((x0 = 80 →
        K (1021 : Int32) M) ∧
       (¬ x0 = 80 →
        ((x0 = 83 →
          K (1022 : Int32) M) ∧
         (¬ x0 = 83 →
          ((x0 = 87 →
            K (1023 : Int32) M) ∧
           (¬ x0 = 87 →
            K (-1 : Int32) M))))))))))
set_option maxHeartbeats 4000000 in
set_option maxRecDepth 100000 in
theorem w_X0_ofThing_J42 {p : Program} {l : Launch} {e : Env} {s : State} {m : MethodId} {args : Array Value} {below : List Frame} {meth : Method} {c : Code} {g : Gg} {S : Ss} (x0 : Int32) (x1 : Int32) (M : Mm) (K : Int32 → Mm → Prop) (E : EN p s m args meth c cX0_ofThing 2 (some .int) RX0 g) (hw : ad g 100000 < s.heap.size) (hf : f_X0_ofThing_J42 S x0 x1 M K) (H : Heap) (locs : List Loc) (ls : Array Slot) (hR : RP g S M H) (hS : va_S (gA g) s.heap H locs) (hl : lv_has ls 2 [(0, .int x0), (1, .int x1)]) : W p l e (rmD 0) s m args below meth c H locs 0 0 (MQ below (QA g S (pI K)) args s 0 0 (gA g)) (F0 m 42 ls []) := by
  have hx := E.1
  have hb := E.2.1
  unfold f_X0_ofThing_J42 at hf
  refine lv_iload_n hx hb dX0_ofThing_42 rfl (lv_at hl 1 rfl) ?_
  refine lv_if_ne (tgt := 48) hx hb dX0_ofThing_43 (by decide) (fun c3 => ?_) (fun c3 => ?_)
  · replace hf := hf.2 c3
    refine lv_iload_n hx hb dX0_ofThing_48 rfl (lv_at hl 0 rfl) ?_
    rcases Decidable.em (x0 = 70) with w4 | w4
    · replace hf := hf.1 w4
      refine lv_lookup (off := 43) (tgt := 92) hx hb dX0_ofThing_49 (by decide) (by rw [w4]; try rfl) (by decide) ?_
      refine lv_sipush (v := 1020) hx hb dX0_ofThing_92 (by decide) ?_
      exact hw_iret E hR hS ⟨_, rfl, hf⟩ dX0_ofThing_95
    · replace hf := hf.2 w4
      rcases Decidable.em (x0 = 80) with w5 | w5
      · replace hf := hf.1 w5
        refine lv_lookup (off := 47) (tgt := 96) hx hb dX0_ofThing_49 (by decide) (by rw [w5]; try rfl) (by decide) ?_
        refine lv_sipush (v := 1021) hx hb dX0_ofThing_96 (by decide) ?_
        exact hw_iret E hR hS ⟨_, rfl, hf⟩ dX0_ofThing_99
      · replace hf := hf.2 w5
        rcases Decidable.em (x0 = 83) with w6 | w6
        · replace hf := hf.1 w6
          refine lv_lookup (off := 51) (tgt := 100) hx hb dX0_ofThing_49 (by decide) (by rw [w6]; try rfl) (by decide) ?_
          refine lv_sipush (v := 1022) hx hb dX0_ofThing_100 (by decide) ?_
          exact hw_iret E hR hS ⟨_, rfl, hf⟩ dX0_ofThing_103
        · replace hf := hf.2 w6
          rcases Decidable.em (x0 = 87) with w7 | w7
          · replace hf := hf.1 w7
            refine lv_lookup (off := 55) (tgt := 104) hx hb dX0_ofThing_49 (by decide) (by rw [w7]; try rfl) (by decide) ?_
            refine lv_sipush (v := 1023) hx hb dX0_ofThing_104 (by decide) ?_
            exact hw_iret E hR hS ⟨_, rfl, hf⟩ dX0_ofThing_107
          · replace hf := hf.2 w7
            refine lv_lookup (off := 59) (tgt := 108) hx hb dX0_ofThing_49 (by decide) (by rw [lv_osw w4 (by decide)]; rw [lv_osw w5 (by decide)]; rw [lv_osw w6 (by decide)]; rw [lv_osw w7 (by decide)]; try rfl) (by decide) ?_
            refine lv_iconst (v := -1) hx hb dX0_ofThing_108 (by decide) ?_
            exact hw_iret E hR hS ⟨_, rfl, hf⟩ dX0_ofThing_109
  · replace hf := hf.1 c3
    refine lv_iconst (v := -1) hx hb dX0_ofThing_46 (by decide) ?_
    exact hw_iret E hR hS ⟨_, rfl, hf⟩ dX0_ofThing_47
def f_X0_ofThing_J21 (S : Ss) (x0 : Int32) (x1 : Int32) (M : Mm) (K : Int32 → Mm → Prop) : Prop :=
  ((x0 < (65 : Int32) →
    f_X0_ofThing_J42 S x0 x1 M K) ∧
   (¬ x0 < (65 : Int32) →
    (((68 : Int32) < x0 →
      f_X0_ofThing_J42 S x0 x1 M K) ∧
     (¬ (68 : Int32) < x0 →
      K (((1010 : Int32) + x0) - (65 : Int32)) M))))
set_option maxHeartbeats 4000000 in
set_option maxRecDepth 100000 in
theorem w_X0_ofThing_J21 {p : Program} {l : Launch} {e : Env} {s : State} {m : MethodId} {args : Array Value} {below : List Frame} {meth : Method} {c : Code} {g : Gg} {S : Ss} (x0 : Int32) (x1 : Int32) (M : Mm) (K : Int32 → Mm → Prop) (E : EN p s m args meth c cX0_ofThing 2 (some .int) RX0 g) (hw : ad g 100000 < s.heap.size) (hf : f_X0_ofThing_J21 S x0 x1 M K) (H : Heap) (locs : List Loc) (ls : Array Slot) (hR : RP g S M H) (hS : va_S (gA g) s.heap H locs) (hl : lv_has ls 2 [(0, .int x0), (1, .int x1)]) : W p l e (rmD 0) s m args below meth c H locs 0 0 (MQ below (QA g S (pI K)) args s 0 0 (gA g)) (F0 m 21 ls []) := by
  have hx := E.1
  have hb := E.2.1
  unfold f_X0_ofThing_J21 at hf
  refine lv_iload_n hx hb dX0_ofThing_21 rfl (lv_at hl 0 rfl) ?_
  refine lv_bipush (v := 65) hx hb dX0_ofThing_22 (by decide) ?_
  refine lv_icmp_lt (tgt := 42) hx hb dX0_ofThing_24 (by decide) (fun c2 => ?_) (fun c2 => ?_)
  · replace hf := hf.1 c2
    exact w_X0_ofThing_J42 _ _ _ _ E hw hf _ _ _ hR hS (lv_sub hl [0, 1] rfl)
  · replace hf := hf.2 c2
    refine lv_iload_n hx hb dX0_ofThing_27 rfl (lv_at hl 0 rfl) ?_
    refine lv_bipush (v := 68) hx hb dX0_ofThing_28 (by decide) ?_
    refine lv_icmp_gt (tgt := 42) hx hb dX0_ofThing_30 (by decide) (fun c8 => ?_) (fun c8 => ?_)
    · replace hf := hf.1 c8
      exact w_X0_ofThing_J42 _ _ _ _ E hw hf _ _ _ hR hS (lv_sub hl [0, 1] rfl)
    · replace hf := hf.2 c8
      refine lv_sipush (v := 1010) hx hb dX0_ofThing_33 (by decide) ?_
      refine lv_iload_n hx hb dX0_ofThing_36 rfl (lv_at hl 0 rfl) ?_
      refine lv_iadd hx hb dX0_ofThing_37 ?_
      refine lv_bipush (v := 65) hx hb dX0_ofThing_38 (by decide) ?_
      refine lv_isub hx hb dX0_ofThing_40 ?_
      exact hw_iret E hR hS ⟨_, rfl, hf⟩ dX0_ofThing_41
def f_X0_ofThing (S : Ss) (x0 : Int32) (x1 : Int32) (M : Mm) (K : Int32 → Mm → Prop) : Prop :=
  ((x0 < (97 : Int32) →
    f_X0_ofThing_J21 S x0 x1 M K) ∧
   (¬ x0 < (97 : Int32) →
    (((104 : Int32) < x0 →
      f_X0_ofThing_J21 S x0 x1 M K) ∧
     (¬ (104 : Int32) < x0 →
      K (((1000 : Int32) + x0) - (97 : Int32)) M))))
set_option maxHeartbeats 4000000 in
set_option maxRecDepth 100000 in
theorem ok_X0_ofThing {l : Launch} {g : Gg} {S : Ss} {x0 : Int32} {x1 : Int32} {M : Mm} {K : Int32 → Mm → Prop} (hf : f_X0_ofThing S x0 x1 M K) : MT l g S yX0_ofThing cX0_ofThing 2 (some .int) 0 [.int x0, .int x1] M (pI K) := by
  refine MT.of (by decide +kernel) (Nat.le_of_ble_eq_true rfl) ?_
  intro p e s m below meth c ls E hw hR hS hl
  have hl : lv_has ls 2 [(0, .int x0), (1, .int x1)] := hl
  generalize ([.int x0, .int x1] : List Value).toArray = args at E ⊢
  have E : EN p s m args meth c cX0_ofThing 2 (some .int) RX0 g := E
  have hx := E.1
  have hb := E.2.1
  unfold f_X0_ofThing at hf
  refine lv_iload_n hx hb dX0_ofThing_0 rfl (lv_at hl 0 rfl) ?_
  refine lv_bipush (v := 97) hx hb dX0_ofThing_1 (by decide) ?_
  refine lv_icmp_lt (tgt := 21) hx hb dX0_ofThing_3 (by decide) (fun c1 => ?_) (fun c1 => ?_)
  · replace hf := hf.1 c1
    exact w_X0_ofThing_J21 _ _ _ _ E hw hf _ _ _ hR hS (lv_sub hl [0, 1] rfl)
  · replace hf := hf.2 c1
    refine lv_iload_n hx hb dX0_ofThing_6 rfl (lv_at hl 0 rfl) ?_
    refine lv_bipush (v := 104) hx hb dX0_ofThing_7 (by decide) ?_
    refine lv_icmp_gt (tgt := 21) hx hb dX0_ofThing_9 (by decide) (fun c9 => ?_) (fun c9 => ?_)
    · replace hf := hf.1 c9
      exact w_X0_ofThing_J21 _ _ _ _ E hw hf _ _ _ hR hS (lv_sub hl [0, 1] rfl)
    · replace hf := hf.2 c9
      refine lv_sipush (v := 1000) hx hb dX0_ofThing_12 (by decide) ?_
      refine lv_iload_n hx hb dX0_ofThing_15 rfl (lv_at hl 0 rfl) ?_
      refine lv_iadd hx hb dX0_ofThing_16 ?_
      refine lv_bipush (v := 97) hx hb dX0_ofThing_17 (by decide) ?_
      refine lv_isub hx hb dX0_ofThing_19 ?_
      exact hw_iret E hR hS ⟨_, rfl, hf⟩ dX0_ofThing_20
def f_X0_ofJoint (S : Ss) (x0 : Int32) (M : Mm) (K : Int32 → Mm → Prop) : Prop :=
  ((x0 = 38 →
    K (1031 : Int32) M) ∧
   (¬ x0 = 38 →
    ((x0 = 43 →
      K (1035 : Int32) M) ∧
     (¬ x0 = 43 →
      ((x0 = 45 →
        K (1036 : Int32) M) ∧
       (¬ x0 = 45 →
        ((x0 = 60 →
          K (1032 : Int32) M) ∧
         (¬ x0 = 60 →
          ((x0 = 61 →
            K (1034 : Int32) M) ∧
           (¬ x0 = 61 →
            ((x0 = 62 →
              K (1033 : Int32) M) ∧
             (¬ x0 = 62 →
              ((x0 = 124 →
                K (1030 : Int32) M) ∧
               (¬ x0 = 124 →
                K (-1 : Int32) M))))))))))))))
set_option maxHeartbeats 4000000 in
set_option maxRecDepth 100000 in
theorem ok_X0_ofJoint {l : Launch} {g : Gg} {S : Ss} {x0 : Int32} {M : Mm} {K : Int32 → Mm → Prop} (hf : f_X0_ofJoint S x0 M K) : MT l g S yX0_ofJoint cX0_ofJoint 1 (some .int) 0 [.int x0] M (pI K) := by
  refine MT.of (by decide +kernel) (Nat.le_of_ble_eq_true rfl) ?_
  intro p e s m below meth c ls E hw hR hS hl
  have hl : lv_has ls 1 [(0, .int x0)] := hl
  generalize ([.int x0] : List Value).toArray = args at E ⊢
  have E : EN p s m args meth c cX0_ofJoint 1 (some .int) RX0 g := E
  have hx := E.1
  have hb := E.2.1
  unfold f_X0_ofJoint at hf
  refine lv_iload_n hx hb dX0_ofJoint_0 rfl (lv_at hl 0 rfl) ?_
  rcases Decidable.em (x0 = 38) with w1 | w1
  · replace hf := hf.1 w1
    refine lv_lookup (off := 71) (tgt := 72) hx hb dX0_ofJoint_1 (by decide) (by rw [w1]; try rfl) (by decide) ?_
    refine lv_sipush (v := 1031) hx hb dX0_ofJoint_72 (by decide) ?_
    exact hw_iret E hR hS ⟨_, rfl, hf⟩ dX0_ofJoint_75
  · replace hf := hf.2 w1
    rcases Decidable.em (x0 = 43) with w2 | w2
    · replace hf := hf.1 w2
      refine lv_lookup (off := 87) (tgt := 88) hx hb dX0_ofJoint_1 (by decide) (by rw [w2]; try rfl) (by decide) ?_
      refine lv_sipush (v := 1035) hx hb dX0_ofJoint_88 (by decide) ?_
      exact hw_iret E hR hS ⟨_, rfl, hf⟩ dX0_ofJoint_91
    · replace hf := hf.2 w2
      rcases Decidable.em (x0 = 45) with w3 | w3
      · replace hf := hf.1 w3
        refine lv_lookup (off := 91) (tgt := 92) hx hb dX0_ofJoint_1 (by decide) (by rw [w3]; try rfl) (by decide) ?_
        refine lv_sipush (v := 1036) hx hb dX0_ofJoint_92 (by decide) ?_
        exact hw_iret E hR hS ⟨_, rfl, hf⟩ dX0_ofJoint_95
      · replace hf := hf.2 w3
        rcases Decidable.em (x0 = 60) with w4 | w4
        · replace hf := hf.1 w4
          refine lv_lookup (off := 75) (tgt := 76) hx hb dX0_ofJoint_1 (by decide) (by rw [w4]; try rfl) (by decide) ?_
          refine lv_sipush (v := 1032) hx hb dX0_ofJoint_76 (by decide) ?_
          exact hw_iret E hR hS ⟨_, rfl, hf⟩ dX0_ofJoint_79
        · replace hf := hf.2 w4
          rcases Decidable.em (x0 = 61) with w5 | w5
          · replace hf := hf.1 w5
            refine lv_lookup (off := 83) (tgt := 84) hx hb dX0_ofJoint_1 (by decide) (by rw [w5]; try rfl) (by decide) ?_
            refine lv_sipush (v := 1034) hx hb dX0_ofJoint_84 (by decide) ?_
            exact hw_iret E hR hS ⟨_, rfl, hf⟩ dX0_ofJoint_87
          · replace hf := hf.2 w5
            rcases Decidable.em (x0 = 62) with w6 | w6
            · replace hf := hf.1 w6
              refine lv_lookup (off := 79) (tgt := 80) hx hb dX0_ofJoint_1 (by decide) (by rw [w6]; try rfl) (by decide) ?_
              refine lv_sipush (v := 1033) hx hb dX0_ofJoint_80 (by decide) ?_
              exact hw_iret E hR hS ⟨_, rfl, hf⟩ dX0_ofJoint_83
            · replace hf := hf.2 w6
              rcases Decidable.em (x0 = 124) with w7 | w7
              · replace hf := hf.1 w7
                refine lv_lookup (off := 67) (tgt := 68) hx hb dX0_ofJoint_1 (by decide) (by rw [w7]; try rfl) (by decide) ?_
                refine lv_sipush (v := 1030) hx hb dX0_ofJoint_68 (by decide) ?_
                exact hw_iret E hR hS ⟨_, rfl, hf⟩ dX0_ofJoint_71
              · replace hf := hf.2 w7
                refine lv_lookup (off := 95) (tgt := 96) hx hb dX0_ofJoint_1 (by decide) (by rw [lv_osw w1 (by decide)]; rw [lv_osw w2 (by decide)]; rw [lv_osw w3 (by decide)]; rw [lv_osw w4 (by decide)]; rw [lv_osw w5 (by decide)]; rw [lv_osw w6 (by decide)]; rw [lv_osw w7 (by decide)]; try rfl) (by decide) ?_
                refine lv_iconst (v := -1) hx hb dX0_ofJoint_96 (by decide) ?_
                exact hw_iret E hR hS ⟨_, rfl, hf⟩ dX0_ofJoint_97
def f_X0_rank (S : Ss) (x0 : Int32) (M : Mm) (K : Int32 → Mm → Prop) : Prop :=
  ((x0 = 1030 →
    K (1 : Int32) M) ∧
   (¬ x0 = 1030 →
    ((x0 = 1031 →
      K (2 : Int32) M) ∧
     (¬ x0 = 1031 →
      ((x0 = 1032 →
        K (3 : Int32) M) ∧
       (¬ x0 = 1032 →
        ((x0 = 1033 →
          K (3 : Int32) M) ∧
         (¬ x0 = 1033 →
          ((x0 = 1034 →
            K (3 : Int32) M) ∧
           (¬ x0 = 1034 →
            ((x0 = 1035 →
              K (4 : Int32) M) ∧
             (¬ x0 = 1035 →
              ((x0 = 1036 →
                K (4 : Int32) M) ∧
               (¬ x0 = 1036 →
                ((x0 = 1037 →
                  K (5 : Int32) M) ∧
                 (¬ x0 = 1037 →
                  ((x0 = 1038 →
                    K (5 : Int32) M) ∧
                   (¬ x0 = 1038 →
                    ((x0 = 1039 →
                      K (0 : Int32) M) ∧
                     (¬ x0 = 1039 →
                      K (5 : Int32) M))))))))))))))))))))
set_option maxHeartbeats 4000000 in
set_option maxRecDepth 100000 in
theorem ok_X0_rank {l : Launch} {g : Gg} {S : Ss} {x0 : Int32} {M : Mm} {K : Int32 → Mm → Prop} (hf : f_X0_rank S x0 M K) : MT l g S yX0_rank cX0_rank 1 (some .int) 0 [.int x0] M (pI K) := by
  refine MT.of (by decide +kernel) (Nat.le_of_ble_eq_true rfl) ?_
  intro p e s m below meth c ls E hw hR hS hl
  have hl : lv_has ls 1 [(0, .int x0)] := hl
  generalize ([.int x0] : List Value).toArray = args at E ⊢
  have E : EN p s m args meth c cX0_rank 1 (some .int) RX0 g := E
  have hx := E.1
  have hb := E.2.1
  unfold f_X0_rank at hf
  refine lv_iload_n hx hb dX0_rank_0 rfl (lv_at hl 0 rfl) ?_
  rcases Decidable.em (x0 = 1030) with w1 | w1
  · replace hf := hf.1 w1
    refine lv_tableIn (tgt := 58) hx hb dX0_rank_1 (by rw [w1]; decide) (by rw [w1]; decide) (by rw [w1]; rfl) (by decide) ?_
    refine lv_iconst (v := 1) hx hb dX0_rank_58 (by decide) ?_
    exact hw_iret E hR hS ⟨_, rfl, hf⟩ dX0_rank_59
  · replace hf := hf.2 w1
    rcases Decidable.em (x0 = 1031) with w2 | w2
    · replace hf := hf.1 w2
      refine lv_tableIn (tgt := 60) hx hb dX0_rank_1 (by rw [w2]; decide) (by rw [w2]; decide) (by rw [w2]; rfl) (by decide) ?_
      refine lv_iconst (v := 2) hx hb dX0_rank_60 (by decide) ?_
      exact hw_iret E hR hS ⟨_, rfl, hf⟩ dX0_rank_61
    · replace hf := hf.2 w2
      rcases Decidable.em (x0 = 1032) with w3 | w3
      · replace hf := hf.1 w3
        refine lv_tableIn (tgt := 62) hx hb dX0_rank_1 (by rw [w3]; decide) (by rw [w3]; decide) (by rw [w3]; rfl) (by decide) ?_
        refine lv_iconst (v := 3) hx hb dX0_rank_62 (by decide) ?_
        exact hw_iret E hR hS ⟨_, rfl, hf⟩ dX0_rank_63
      · replace hf := hf.2 w3
        rcases Decidable.em (x0 = 1033) with w4 | w4
        · replace hf := hf.1 w4
          refine lv_tableIn (tgt := 62) hx hb dX0_rank_1 (by rw [w4]; decide) (by rw [w4]; decide) (by rw [w4]; rfl) (by decide) ?_
          refine lv_iconst (v := 3) hx hb dX0_rank_62 (by decide) ?_
          exact hw_iret E hR hS ⟨_, rfl, hf⟩ dX0_rank_63
        · replace hf := hf.2 w4
          rcases Decidable.em (x0 = 1034) with w5 | w5
          · replace hf := hf.1 w5
            refine lv_tableIn (tgt := 62) hx hb dX0_rank_1 (by rw [w5]; decide) (by rw [w5]; decide) (by rw [w5]; rfl) (by decide) ?_
            refine lv_iconst (v := 3) hx hb dX0_rank_62 (by decide) ?_
            exact hw_iret E hR hS ⟨_, rfl, hf⟩ dX0_rank_63
          · replace hf := hf.2 w5
            rcases Decidable.em (x0 = 1035) with w6 | w6
            · replace hf := hf.1 w6
              refine lv_tableIn (tgt := 64) hx hb dX0_rank_1 (by rw [w6]; decide) (by rw [w6]; decide) (by rw [w6]; rfl) (by decide) ?_
              refine lv_iconst (v := 4) hx hb dX0_rank_64 (by decide) ?_
              exact hw_iret E hR hS ⟨_, rfl, hf⟩ dX0_rank_65
            · replace hf := hf.2 w6
              rcases Decidable.em (x0 = 1036) with w7 | w7
              · replace hf := hf.1 w7
                refine lv_tableIn (tgt := 64) hx hb dX0_rank_1 (by rw [w7]; decide) (by rw [w7]; decide) (by rw [w7]; rfl) (by decide) ?_
                refine lv_iconst (v := 4) hx hb dX0_rank_64 (by decide) ?_
                exact hw_iret E hR hS ⟨_, rfl, hf⟩ dX0_rank_65
              · replace hf := hf.2 w7
                rcases Decidable.em (x0 = 1037) with w8 | w8
                · replace hf := hf.1 w8
                  refine lv_tableIn (tgt := 66) hx hb dX0_rank_1 (by rw [w8]; decide) (by rw [w8]; decide) (by rw [w8]; rfl) (by decide) ?_
                  refine lv_iconst (v := 5) hx hb dX0_rank_66 (by decide) ?_
                  exact hw_iret E hR hS ⟨_, rfl, hf⟩ dX0_rank_67
                · replace hf := hf.2 w8
                  rcases Decidable.em (x0 = 1038) with w9 | w9
                  · replace hf := hf.1 w9
                    refine lv_tableIn (tgt := 66) hx hb dX0_rank_1 (by rw [w9]; decide) (by rw [w9]; decide) (by rw [w9]; rfl) (by decide) ?_
                    refine lv_iconst (v := 5) hx hb dX0_rank_66 (by decide) ?_
                    exact hw_iret E hR hS ⟨_, rfl, hf⟩ dX0_rank_67
                  · replace hf := hf.2 w9
                    rcases Decidable.em (x0 = 1039) with w10 | w10
                    · replace hf := hf.1 w10
                      refine lv_tableIn (tgt := 56) hx hb dX0_rank_1 (by rw [w10]; decide) (by rw [w10]; decide) (by rw [w10]; rfl) (by decide) ?_
                      refine lv_iconst (v := 0) hx hb dX0_rank_56 (by decide) ?_
                      exact hw_iret E hR hS ⟨_, rfl, hf⟩ dX0_rank_57
                    · replace hf := hf.2 w10
                      refine lv_tableOut (tgt := 66) hx hb dX0_rank_1 (by have := lv_neT w1 (a := 1030) (by decide); have := lv_neT w2 (a := 1031) (by decide); have := lv_neT w3 (a := 1032) (by decide); have := lv_neT w4 (a := 1033) (by decide); have := lv_neT w5 (a := 1034) (by decide); have := lv_neT w6 (a := 1035) (by decide); have := lv_neT w7 (a := 1036) (by decide); have := lv_neT w8 (a := 1037) (by decide); have := lv_neT w9 (a := 1038) (by decide); have := lv_neT w10 (a := 1039) (by decide); omega) (by decide) ?_
                      refine lv_iconst (v := 5) hx hb dX0_rank_66 (by decide) ?_
                      exact hw_iret E hR hS ⟨_, rfl, hf⟩ dX0_rank_67
def f_X1_isHouse (S : Ss) (x0 : Int32) (M : Mm) (K : Int32 → Mm → Prop) : Prop :=
  ((x0 < 0 →
    K (0 : Int32) M) ∧
   (¬ x0 < 0 →
    (((6 : Int32) ≤ x0 →
      K (0 : Int32) M) ∧
     (¬ (6 : Int32) ≤ x0 →
      K (1 : Int32) M))))
set_option maxHeartbeats 4000000 in
set_option maxRecDepth 100000 in
theorem ok_X1_isHouse {l : Launch} {g : Gg} {S : Ss} {x0 : Int32} {M : Mm} {K : Int32 → Mm → Prop} (hf : f_X1_isHouse S x0 M K) : MT l g S yX1_isHouse cX1_isHouse 1 (some .boolean) 0 [.int x0] M (pI K) := by
  refine MT.of (by decide +kernel) (Nat.le_of_ble_eq_true rfl) ?_
  intro p e s m below meth c ls E hw hR hS hl
  have hl : lv_has ls 1 [(0, .int x0)] := hl
  generalize ([.int x0] : List Value).toArray = args at E ⊢
  have E : EN p s m args meth c cX1_isHouse 1 (some .boolean) RX1 g := E
  have hx := E.1
  have hb := E.2.1
  unfold f_X1_isHouse at hf
  refine lv_iload_n hx hb dX1_isHouse_0 rfl (lv_at hl 0 rfl) ?_
  refine lv_if_lt (tgt := 14) hx hb dX1_isHouse_1 (by decide) (fun c1 => ?_) (fun c1 => ?_)
  · replace hf := hf.1 c1
    refine lv_iconst (v := 0) hx hb dX1_isHouse_14 (by decide) ?_
    exact hw_zret E hR hS (by decide) ⟨_, rfl, hf⟩ dX1_isHouse_15
  · replace hf := hf.2 c1
    refine lv_iload_n hx hb dX1_isHouse_4 rfl (lv_at hl 0 rfl) ?_
    refine lv_bipush (v := 6) hx hb dX1_isHouse_5 (by decide) ?_
    refine lv_icmp_ge (tgt := 14) hx hb dX1_isHouse_7 (by decide) (fun c2 => ?_) (fun c2 => ?_)
    · replace hf := hf.1 c2
      refine lv_iconst (v := 0) hx hb dX1_isHouse_14 (by decide) ?_
      exact hw_zret E hR hS (by decide) ⟨_, rfl, hf⟩ dX1_isHouse_15
    · replace hf := hf.2 c2
      refine lv_iconst (v := 1) hx hb dX1_isHouse_10 (by decide) ?_
      refine lv_goto (tgt := 15) hx hb dX1_isHouse_11 (by decide) ?_
      exact hw_zret E hR hS (by decide) ⟨_, rfl, hf⟩ dX1_isHouse_15
def f_X1_known_B5 (S : Ss) (a0 : Nat) (x1 : Int32) (x2 : Int32) (x3 : Int32) (x4 : Int32) (M : Mm) (BK5 : Int32 → Int32 → Mm → Prop) (EK5 : Int32 → Mm → Prop) (K : Int32 → Mm → Prop) : Prop :=
  (((M.1 a0 8) ≤ x4 →
    EK5 x3 M) ∧
   (¬ (M.1 a0 8) ≤ x4 →
    ∃ b2 : Nat, M.2.2 a0 0 = some b2 ∧
    ∃ n3 : Nat, shp S b2 = some (50, n3) ∧ vp_in x4 n3 ∧
    (((M.1 b2 x4.toNatClampNeg) = x1 →
      ∃ b6 : Nat, M.2.2 a0 1 = some b6 ∧
      ∃ n7 : Nat, shp S b6 = some (50, n7) ∧ vp_in x4 n7 ∧
      ((x2 < (M.1 b6 x4.toNatClampNeg) →
        ∀ v9 : Int32, v9 = x4 + (1 : Int32) →
        BK5 x3 v9 M) ∧
       (¬ x2 < (M.1 b6 x4.toNatClampNeg) →
        ∀ v10 : Int32, v10 = (x3 ||| ((1 : Int32) <<< (x4 &&& 31))) →
        ∀ v11 : Int32, v11 = x4 + (1 : Int32) →
        BK5 v10 v11 M))) ∧
     (¬ (M.1 b2 x4.toNatClampNeg) = x1 →
      ∀ v5 : Int32, v5 = x4 + (1 : Int32) →
      BK5 x3 v5 M))))
set_option maxHeartbeats 4000000 in
set_option maxRecDepth 100000 in
theorem w_X1_known_B5 {p : Program} {l : Launch} {e : Env} {s : State} {m : MethodId} {args : Array Value} {below : List Frame} {meth : Method} {c : Code} {g : Gg} {S : Ss} (a0 : Nat) (x1 : Int32) (x2 : Int32) (x3 : Int32) (x4 : Int32) (M : Mm) (BK5 : Int32 → Int32 → Mm → Prop) (EK5 : Int32 → Mm → Prop) (K : Int32 → Mm → Prop) (E : EN p s m args meth c cX1_known 5 (some .int) RX1 g) (hw : ad g 100000 < s.heap.size) (hs0 : S[a0]? = some (0, 0)) (hBK5 : ∀ (x3' : Int32) (x4' : Int32) (M' : Mm) (H : Heap) (locs : List Loc) (ls : Array Slot), BK5 x3' x4' M' → RP g S M' H → va_S (gA g) s.heap H locs → lv_has ls 5 [(0, .ref (ad g a0)), (1, .int x1), (2, .int x2), (3, .int x3'), (4, .int x4')] → W p l e (rmD 0) s m args below meth c H locs 0 0 (MQ below (QA g S (pI K)) args s 0 0 (gA g)) (F0 m 5 ls [])) (hEK5 : ∀ (x3' : Int32) (M' : Mm) (H : Heap) (locs : List Loc) (ls : Array Slot), EK5 x3' M' → RP g S M' H → va_S (gA g) s.heap H locs → lv_has ls 5 [(0, .ref (ad g a0)), (1, .int x1), (2, .int x2), (3, .int x3')] → W p l e (rmD 0) s m args below meth c H locs 0 0 (MQ below (QA g S (pI K)) args s 0 0 (gA g)) (F0 m 49 ls [])) (hf : f_X1_known_B5 S a0 x1 x2 x3 x4 M BK5 EK5 K) (H : Heap) (locs : List Loc) (ls : Array Slot) (hR : RP g S M H) (hS : va_S (gA g) s.heap H locs) (hl : lv_has ls 5 [(0, .ref (ad g a0)), (1, .int x1), (2, .int x2), (3, .int x3), (4, .int x4)]) : W p l e (rmD 0) s m args below meth c H locs 0 0 (MQ below (QA g S (pI K)) args s 0 0 (gA g)) (F0 m 5 ls []) := by
  have hx := E.1
  have hb := E.2.1
  unfold f_X1_known_B5 at hf
  refine lv_iload hx hb dX1_known_5 (lv_at hl 4 rfl) ?_
  refine lv_aload_n hx hb dX1_known_7 rfl (lv_at hl 0 rfl) ?_
  refine hw_getI E hR cI0 hs0 8 (by decide) lfX1_36 rfl dX1_known_8 ?_
  refine lv_icmp_ge (tgt := 49) hx hb dX1_known_11 (by decide) (fun c1 => ?_) (fun c1 => ?_)
  · replace hf := hf.1 c1
    exact hEK5 _ _ _ _ _ hf hR hS (lv_sub hl [0, 1, 2, 3] rfl)
  · replace hf := hf.2 c1
    refine lv_aload_n hx hb dX1_known_14 rfl (lv_at hl 0 rfl) ?_
    obtain ⟨b2, hb2, hf⟩ := hf
    refine hw_getR E hR cI0 hs0 0 (by decide) lfX1_11 rfl hb2 dX1_known_15 ?_
    refine lv_iload hx hb dX1_known_18 (lv_at hl 4 rfl) ?_
    obtain ⟨n3, hn3, in3, hf⟩ := hf
    refine hw_iald E hR hS hn3 in3 dX1_known_20 ?_
    refine lv_iload_n hx hb dX1_known_21 rfl (lv_at hl 1 rfl) ?_
    refine lv_icmp_ne (tgt := 43) hx hb dX1_known_22 (by decide) (fun c4 => ?_) (fun c4 => ?_)
    · replace hf := hf.2 c4
      obtain ⟨v5, ev5⟩ : ∃ y : Int32, y = x4 + (1 : Int32) := ⟨_, rfl⟩
      replace hf := hf v5 ev5
      refine lv_iinc (v := v5) (lv' := [(4, .int v5), (0, .ref (ad g a0)), (1, .int x1), (2, .int x2), (3, .int x3)]) hx hb dX1_known_43 hl (k := 4) rfl (by rw [ev5]; rfl) (by decide) rfl (fun ls hl => ?_)
      refine lv_goto (tgt := 5) hx hb dX1_known_46 (by decide) ?_
      exact hBK5 _ _ _ _ _ _ hf hR hS (lv_sub hl [1, 2, 3, 4, 0] rfl)
    · replace hf := hf.1 c4
      refine lv_aload_n hx hb dX1_known_25 rfl (lv_at hl 0 rfl) ?_
      obtain ⟨b6, hb6, hf⟩ := hf
      refine hw_getR E hR cI0 hs0 1 (by decide) lfX1_15 rfl hb6 dX1_known_26 ?_
      refine lv_iload hx hb dX1_known_29 (lv_at hl 4 rfl) ?_
      obtain ⟨n7, hn7, in7, hf⟩ := hf
      refine hw_iald E hR hS hn7 in7 dX1_known_31 ?_
      refine lv_iload_n hx hb dX1_known_32 rfl (lv_at hl 2 rfl) ?_
      refine lv_icmp_gt (tgt := 43) hx hb dX1_known_33 (by decide) (fun c8 => ?_) (fun c8 => ?_)
      · replace hf := hf.1 c8
        obtain ⟨v9, ev9⟩ : ∃ y : Int32, y = x4 + (1 : Int32) := ⟨_, rfl⟩
        replace hf := hf v9 ev9
        refine lv_iinc (v := v9) (lv' := [(4, .int v9), (0, .ref (ad g a0)), (1, .int x1), (2, .int x2), (3, .int x3)]) hx hb dX1_known_43 hl (k := 4) rfl (by rw [ev9]; rfl) (by decide) rfl (fun ls hl => ?_)
        refine lv_goto (tgt := 5) hx hb dX1_known_46 (by decide) ?_
        exact hBK5 _ _ _ _ _ _ hf hR hS (lv_sub hl [1, 2, 3, 4, 0] rfl)
      · replace hf := hf.2 c8
        refine lv_iload_n hx hb dX1_known_36 rfl (lv_at hl 3 rfl) ?_
        refine lv_iconst (v := 1) hx hb dX1_known_37 (by decide) ?_
        refine lv_iload hx hb dX1_known_38 (lv_at hl 4 rfl) ?_
        refine lv_ishl hx hb dX1_known_40 ?_
        refine lv_ior hx hb dX1_known_41 ?_
        refine lv_topi (fun v10 ev10 => ?_)
        replace hf := hf v10 ev10
        refine lv_istore_n (lv' := [(3, .int v10), (0, .ref (ad g a0)), (1, .int x1), (2, .int x2), (4, .int x4)]) hx hb dX1_known_42 rfl hl (by decide) rfl (fun ls hl => ?_)
        obtain ⟨v11, ev11⟩ : ∃ y : Int32, y = x4 + (1 : Int32) := ⟨_, rfl⟩
        replace hf := hf v11 ev11
        refine lv_iinc (v := v11) (lv' := [(4, .int v11), (3, .int v10), (0, .ref (ad g a0)), (1, .int x1), (2, .int x2)]) hx hb dX1_known_43 hl (k := 4) rfl (by rw [ev11]; rfl) (by decide) rfl (fun ls hl => ?_)
        refine lv_goto (tgt := 5) hx hb dX1_known_46 (by decide) ?_
        exact hBK5 _ _ _ _ _ _ hf hR hS (lv_sub hl [2, 3, 4, 1, 0] rfl)
def f_X1_known_L5 (S : Ss) (a0 : Nat) (x1 : Int32) (x2 : Int32) (EK5 : Int32 → Mm → Prop) (K : Int32 → Mm → Prop) : Nat → Int32 → Int32 → Mm → Prop
  | 0, _, _, _ => False
  | n + 1, x3, x4, M => f_X1_known_B5 S a0 x1 x2 x3 x4 M (fun (x3 : Int32) (x4 : Int32) (M : Mm) => f_X1_known_L5 S a0 x1 x2 EK5 K n x3 x4 M) EK5 K
set_option maxHeartbeats 4000000 in
set_option maxRecDepth 100000 in
theorem w_X1_known_L5 {p : Program} {l : Launch} {e : Env} {s : State} {m : MethodId} {args : Array Value} {below : List Frame} {meth : Method} {c : Code} {g : Gg} {S : Ss} (a0 : Nat) (x1 : Int32) (x2 : Int32) (EK5 : Int32 → Mm → Prop) (K : Int32 → Mm → Prop) (E : EN p s m args meth c cX1_known 5 (some .int) RX1 g) (hw : ad g 100000 < s.heap.size) (hs0 : S[a0]? = some (0, 0)) (hEK5 : ∀ (x3' : Int32) (M' : Mm) (H : Heap) (locs : List Loc) (ls : Array Slot), EK5 x3' M' → RP g S M' H → va_S (gA g) s.heap H locs → lv_has ls 5 [(0, .ref (ad g a0)), (1, .int x1), (2, .int x2), (3, .int x3')] → W p l e (rmD 0) s m args below meth c H locs 0 0 (MQ below (QA g S (pI K)) args s 0 0 (gA g)) (F0 m 49 ls [])) : ∀ (n : Nat) (x3 : Int32) (x4 : Int32) (M : Mm), f_X1_known_L5 S a0 x1 x2 EK5 K n x3 x4 M → ∀ (H : Heap) (locs : List Loc) (ls : Array Slot), RP g S M H → va_S (gA g) s.heap H locs → lv_has ls 5 [(0, .ref (ad g a0)), (1, .int x1), (2, .int x2), (3, .int x3), (4, .int x4)] → W p l e (rmD 0) s m args below meth c H locs 0 0 (MQ below (QA g S (pI K)) args s 0 0 (gA g)) (F0 m 5 ls []) := by
  intro n
  induction n with
  | zero => intro x3 x4 M hf; exact hf.elim
  | succ n ih =>
    intro x3 x4 M hf H locs ls hR hS hl
    exact w_X1_known_B5 _ _ _ _ _ _ _ _ _ E hw hs0 (fun _ _ M H locs ls h hR hS hl => ih _ _ M h H locs ls hR hS hl) hEK5 hf H locs ls hR hS hl
def f_X1_known_B52 (S : Ss) (a0 : Nat) (x1 : Int32) (x2 : Int32) (x3 : Int32) (x4 : Int32) (M : Mm) (BK52 : Int32 → Int32 → Mm → Prop) (EK52 : Int32 → Mm → Prop) (K : Int32 → Mm → Prop) : Prop :=
  (((M.1 a0 9) ≤ x4 →
    EK52 x3 M) ∧
   (¬ (M.1 a0 9) ≤ x4 →
    ∃ b15 : Nat, M.2.2 a0 4 = some b15 ∧
    ∃ n16 : Nat, shp S b15 = some (50, n16) ∧ vp_in x4 n16 ∧
    (((M.1 b15 x4.toNatClampNeg) = x1 →
      ∃ b19 : Nat, M.2.2 a0 6 = some b19 ∧
      ∃ n20 : Nat, shp S b19 = some (50, n20) ∧ vp_in x4 n20 ∧
      ((x2 < (M.1 b19 x4.toNatClampNeg) →
        ∀ v22 : Int32, v22 = x4 + (1 : Int32) →
        BK52 x3 v22 M) ∧
       (¬ x2 < (M.1 b19 x4.toNatClampNeg) →
        ∃ b23 : Nat, M.2.2 a0 7 = some b23 ∧
        ∃ n24 : Nat, shp S b23 = some (50, n24) ∧ vp_in x4 n24 ∧
        ∀ v25 : Int32, v25 = (x3 ||| (M.1 b23 x4.toNatClampNeg)) →
        ∀ v26 : Int32, v26 = x4 + (1 : Int32) →
        BK52 v25 v26 M))) ∧
     (¬ (M.1 b15 x4.toNatClampNeg) = x1 →
      ∀ v18 : Int32, v18 = x4 + (1 : Int32) →
      BK52 x3 v18 M))))
set_option maxHeartbeats 4000000 in
set_option maxRecDepth 100000 in
theorem w_X1_known_B52 {p : Program} {l : Launch} {e : Env} {s : State} {m : MethodId} {args : Array Value} {below : List Frame} {meth : Method} {c : Code} {g : Gg} {S : Ss} (a0 : Nat) (x1 : Int32) (x2 : Int32) (x3 : Int32) (x4 : Int32) (M : Mm) (BK52 : Int32 → Int32 → Mm → Prop) (EK52 : Int32 → Mm → Prop) (K : Int32 → Mm → Prop) (E : EN p s m args meth c cX1_known 5 (some .int) RX1 g) (hw : ad g 100000 < s.heap.size) (hs0 : S[a0]? = some (0, 0)) (hBK52 : ∀ (x3' : Int32) (x4' : Int32) (M' : Mm) (H : Heap) (locs : List Loc) (ls : Array Slot), BK52 x3' x4' M' → RP g S M' H → va_S (gA g) s.heap H locs → lv_has ls 5 [(0, .ref (ad g a0)), (1, .int x1), (2, .int x2), (3, .int x3'), (4, .int x4')] → W p l e (rmD 0) s m args below meth c H locs 0 0 (MQ below (QA g S (pI K)) args s 0 0 (gA g)) (F0 m 52 ls [])) (hEK52 : ∀ (x3' : Int32) (M' : Mm) (H : Heap) (locs : List Loc) (ls : Array Slot), EK52 x3' M' → RP g S M' H → va_S (gA g) s.heap H locs → lv_has ls 5 [(3, .int x3')] → W p l e (rmD 0) s m args below meth c H locs 0 0 (MQ below (QA g S (pI K)) args s 0 0 (gA g)) (F0 m 99 ls [])) (hf : f_X1_known_B52 S a0 x1 x2 x3 x4 M BK52 EK52 K) (H : Heap) (locs : List Loc) (ls : Array Slot) (hR : RP g S M H) (hS : va_S (gA g) s.heap H locs) (hl : lv_has ls 5 [(0, .ref (ad g a0)), (1, .int x1), (2, .int x2), (3, .int x3), (4, .int x4)]) : W p l e (rmD 0) s m args below meth c H locs 0 0 (MQ below (QA g S (pI K)) args s 0 0 (gA g)) (F0 m 52 ls []) := by
  have hx := E.1
  have hb := E.2.1
  unfold f_X1_known_B52 at hf
  refine lv_iload hx hb dX1_known_52 (lv_at hl 4 rfl) ?_
  refine lv_aload_n hx hb dX1_known_54 rfl (lv_at hl 0 rfl) ?_
  refine hw_getI E hR cI0 hs0 9 (by decide) lfX1_40 rfl dX1_known_55 ?_
  refine lv_icmp_ge (tgt := 99) hx hb dX1_known_58 (by decide) (fun c14 => ?_) (fun c14 => ?_)
  · replace hf := hf.1 c14
    exact hEK52 _ _ _ _ _ hf hR hS (lv_sub hl [3] rfl)
  · replace hf := hf.2 c14
    refine lv_aload_n hx hb dX1_known_61 rfl (lv_at hl 0 rfl) ?_
    obtain ⟨b15, hb15, hf⟩ := hf
    refine hw_getR E hR cI0 hs0 4 (by decide) lfX1_24 rfl hb15 dX1_known_62 ?_
    refine lv_iload hx hb dX1_known_65 (lv_at hl 4 rfl) ?_
    obtain ⟨n16, hn16, in16, hf⟩ := hf
    refine hw_iald E hR hS hn16 in16 dX1_known_67 ?_
    refine lv_iload_n hx hb dX1_known_68 rfl (lv_at hl 1 rfl) ?_
    refine lv_icmp_ne (tgt := 93) hx hb dX1_known_69 (by decide) (fun c17 => ?_) (fun c17 => ?_)
    · replace hf := hf.2 c17
      obtain ⟨v18, ev18⟩ : ∃ y : Int32, y = x4 + (1 : Int32) := ⟨_, rfl⟩
      replace hf := hf v18 ev18
      refine lv_iinc (v := v18) (lv' := [(4, .int v18), (0, .ref (ad g a0)), (1, .int x1), (2, .int x2), (3, .int x3)]) hx hb dX1_known_93 hl (k := 4) rfl (by rw [ev18]; rfl) (by decide) rfl (fun ls hl => ?_)
      refine lv_goto (tgt := 52) hx hb dX1_known_96 (by decide) ?_
      exact hBK52 _ _ _ _ _ _ hf hR hS (lv_sub hl [1, 2, 3, 4, 0] rfl)
    · replace hf := hf.1 c17
      refine lv_aload_n hx hb dX1_known_72 rfl (lv_at hl 0 rfl) ?_
      obtain ⟨b19, hb19, hf⟩ := hf
      refine hw_getR E hR cI0 hs0 6 (by decide) lfX1_30 rfl hb19 dX1_known_73 ?_
      refine lv_iload hx hb dX1_known_76 (lv_at hl 4 rfl) ?_
      obtain ⟨n20, hn20, in20, hf⟩ := hf
      refine hw_iald E hR hS hn20 in20 dX1_known_78 ?_
      refine lv_iload_n hx hb dX1_known_79 rfl (lv_at hl 2 rfl) ?_
      refine lv_icmp_gt (tgt := 93) hx hb dX1_known_80 (by decide) (fun c21 => ?_) (fun c21 => ?_)
      · replace hf := hf.1 c21
        obtain ⟨v22, ev22⟩ : ∃ y : Int32, y = x4 + (1 : Int32) := ⟨_, rfl⟩
        replace hf := hf v22 ev22
        refine lv_iinc (v := v22) (lv' := [(4, .int v22), (0, .ref (ad g a0)), (1, .int x1), (2, .int x2), (3, .int x3)]) hx hb dX1_known_93 hl (k := 4) rfl (by rw [ev22]; rfl) (by decide) rfl (fun ls hl => ?_)
        refine lv_goto (tgt := 52) hx hb dX1_known_96 (by decide) ?_
        exact hBK52 _ _ _ _ _ _ hf hR hS (lv_sub hl [1, 2, 3, 4, 0] rfl)
      · replace hf := hf.2 c21
        refine lv_iload_n hx hb dX1_known_83 rfl (lv_at hl 3 rfl) ?_
        refine lv_aload_n hx hb dX1_known_84 rfl (lv_at hl 0 rfl) ?_
        obtain ⟨b23, hb23, hf⟩ := hf
        refine hw_getR E hR cI0 hs0 7 (by decide) lfX1_33 rfl hb23 dX1_known_85 ?_
        refine lv_iload hx hb dX1_known_88 (lv_at hl 4 rfl) ?_
        obtain ⟨n24, hn24, in24, hf⟩ := hf
        refine hw_iald E hR hS hn24 in24 dX1_known_90 ?_
        refine lv_ior hx hb dX1_known_91 ?_
        refine lv_topi (fun v25 ev25 => ?_)
        replace hf := hf v25 ev25
        refine lv_istore_n (lv' := [(3, .int v25), (0, .ref (ad g a0)), (1, .int x1), (2, .int x2), (4, .int x4)]) hx hb dX1_known_92 rfl hl (by decide) rfl (fun ls hl => ?_)
        obtain ⟨v26, ev26⟩ : ∃ y : Int32, y = x4 + (1 : Int32) := ⟨_, rfl⟩
        replace hf := hf v26 ev26
        refine lv_iinc (v := v26) (lv' := [(4, .int v26), (3, .int v25), (0, .ref (ad g a0)), (1, .int x1), (2, .int x2)]) hx hb dX1_known_93 hl (k := 4) rfl (by rw [ev26]; rfl) (by decide) rfl (fun ls hl => ?_)
        refine lv_goto (tgt := 52) hx hb dX1_known_96 (by decide) ?_
        exact hBK52 _ _ _ _ _ _ hf hR hS (lv_sub hl [2, 3, 4, 1, 0] rfl)
def f_X1_known_L52 (S : Ss) (a0 : Nat) (x1 : Int32) (x2 : Int32) (EK52 : Int32 → Mm → Prop) (K : Int32 → Mm → Prop) : Nat → Int32 → Int32 → Mm → Prop
  | 0, _, _, _ => False
  | n + 1, x3, x4, M => f_X1_known_B52 S a0 x1 x2 x3 x4 M (fun (x3 : Int32) (x4 : Int32) (M : Mm) => f_X1_known_L52 S a0 x1 x2 EK52 K n x3 x4 M) EK52 K
set_option maxHeartbeats 4000000 in
set_option maxRecDepth 100000 in
theorem w_X1_known_L52 {p : Program} {l : Launch} {e : Env} {s : State} {m : MethodId} {args : Array Value} {below : List Frame} {meth : Method} {c : Code} {g : Gg} {S : Ss} (a0 : Nat) (x1 : Int32) (x2 : Int32) (EK52 : Int32 → Mm → Prop) (K : Int32 → Mm → Prop) (E : EN p s m args meth c cX1_known 5 (some .int) RX1 g) (hw : ad g 100000 < s.heap.size) (hs0 : S[a0]? = some (0, 0)) (hEK52 : ∀ (x3' : Int32) (M' : Mm) (H : Heap) (locs : List Loc) (ls : Array Slot), EK52 x3' M' → RP g S M' H → va_S (gA g) s.heap H locs → lv_has ls 5 [(3, .int x3')] → W p l e (rmD 0) s m args below meth c H locs 0 0 (MQ below (QA g S (pI K)) args s 0 0 (gA g)) (F0 m 99 ls [])) : ∀ (n : Nat) (x3 : Int32) (x4 : Int32) (M : Mm), f_X1_known_L52 S a0 x1 x2 EK52 K n x3 x4 M → ∀ (H : Heap) (locs : List Loc) (ls : Array Slot), RP g S M H → va_S (gA g) s.heap H locs → lv_has ls 5 [(0, .ref (ad g a0)), (1, .int x1), (2, .int x2), (3, .int x3), (4, .int x4)] → W p l e (rmD 0) s m args below meth c H locs 0 0 (MQ below (QA g S (pI K)) args s 0 0 (gA g)) (F0 m 52 ls []) := by
  intro n
  induction n with
  | zero => intro x3 x4 M hf; exact hf.elim
  | succ n ih =>
    intro x3 x4 M hf H locs ls hR hS hl
    exact w_X1_known_B52 _ _ _ _ _ _ _ _ _ E hw hs0 (fun _ _ M H locs ls h hR hS hl => ih _ _ M h H locs ls hR hS hl) hEK52 hf H locs ls hR hS hl
def f_X1_known (S : Ss) (a0 : Nat) (x1 : Int32) (x2 : Int32) (M : Mm) (K : Int32 → Mm → Prop) : Prop :=
  ∃ n30 : Nat, f_X1_known_L5 S a0 x1 x2 (fun (v12 : Int32) (m13 : Mm) =>
    ∃ n29 : Nat, f_X1_known_L52 S a0 x1 x2 (fun (v27 : Int32) (m28 : Mm) =>
      K v27 m28) K n29 v12 (0 : Int32) m13) K n30 (0 : Int32) (0 : Int32) M
set_option maxHeartbeats 4000000 in
set_option maxRecDepth 100000 in
theorem ok_X1_known {l : Launch} {g : Gg} {S : Ss} {a0 : Nat} {x1 : Int32} {x2 : Int32} {M : Mm} {K : Int32 → Mm → Prop} (hs0 : S[a0]? = some (0, 0)) (hf : f_X1_known S a0 x1 x2 M K) : MT l g S yX1_known cX1_known 5 (some .int) 0 [.ref (ad g a0), .int x1, .int x2] M (pI K) := by
  refine MT.of (by decide +kernel) (Nat.le_of_ble_eq_true rfl) ?_
  intro p e s m below meth c ls E hw hR hS hl
  have hl : lv_has ls 5 [(0, .ref (ad g a0)), (1, .int x1), (2, .int x2)] := hl
  generalize ([.ref (ad g a0), .int x1, .int x2] : List Value).toArray = args at E ⊢
  have E : EN p s m args meth c cX1_known 5 (some .int) RX1 g := E
  have hx := E.1
  have hb := E.2.1
  unfold f_X1_known at hf
  refine lv_iconst (v := 0) hx hb dX1_known_0 (by decide) ?_
  refine lv_istore_n (lv' := [(3, .int (0 : Int32)), (0, .ref (ad g a0)), (1, .int x1), (2, .int x2)]) hx hb dX1_known_1 rfl hl (by decide) rfl (fun ls hl => ?_)
  refine lv_iconst (v := 0) hx hb dX1_known_2 (by decide) ?_
  refine lv_istore (lv' := [(4, .int (0 : Int32)), (3, .int (0 : Int32)), (0, .ref (ad g a0)), (1, .int x1), (2, .int x2)]) hx hb dX1_known_3 hl (by decide) rfl (fun ls hl => ?_)
  obtain ⟨n30, hf⟩ := hf
  refine w_X1_known_L5 _ _ _ _ _ E hw hs0 ?_ n30 _ _ _ hf _ _ _ hR hS (lv_sub hl [2, 3, 4, 1, 0] rfl)
  intro v12 m13 H locs ls hf hR hS hl
  refine lv_iconst (v := 0) hx hb dX1_known_49 (by decide) ?_
  refine lv_istore (lv' := [(4, .int (0 : Int32)), (0, .ref (ad g a0)), (1, .int x1), (2, .int x2), (3, .int v12)]) hx hb dX1_known_50 hl (by decide) rfl (fun ls hl => ?_)
  obtain ⟨n29, hf⟩ := hf
  refine w_X1_known_L52 _ _ _ _ _ E hw hs0 ?_ n29 _ _ _ hf _ _ _ hR hS (lv_sub hl [1, 2, 3, 4, 0] rfl)
  intro v27 m28 H locs ls hf hR hS hl
  refine lv_iload_n hx hb dX1_known_99 rfl (lv_at hl 0 rfl) ?_
  exact hw_iret E hR hS ⟨_, rfl, hf⟩ dX1_known_100
def f_X1_settle_B12 (S : Ss) (a0 : Nat) (x1 : Int32) (x2 : Int32) (M : Mm) (BK12 : Int32 → Mm → Prop) (EK12 : Mm → Prop) (K : Mm → Prop) : Prop :=
  (((M.1 a0 9) ≤ x2 →
    EK12 M) ∧
   (¬ (M.1 a0 9) ≤ x2 →
    ∃ b3 : Nat, M.2.2 a0 7 = some b3 ∧
    ∃ b4 : Nat, M.2.2 a0 3 = some b4 ∧
    ∃ n5 : Nat, shp S b4 = some (50, n5) ∧ vp_in x2 n5 ∧
    ∃ b6 : Nat, M.2.2 a0 5 = some b6 ∧
    ∃ n7 : Nat, shp S b6 = some (50, n7) ∧ vp_in x2 n7 ∧
    f_X1_known S a0 (M.1 b4 x2.toNatClampNeg) (M.1 b6 x2.toNatClampNeg) M (fun (r9 : Int32) (m8 : Mm) =>
      ∃ n10 : Nat, S[b3]? = some (50, n10) ∧ vp_in x2 n10 ∧
    ∀ m11 : Mm, m11 = stI m8 b3 x2.toNatClampNeg r9 →
    ∀ v12 : Int32, v12 = x2 + (1 : Int32) →
    BK12 v12 m11)))
set_option maxHeartbeats 4000000 in
set_option maxRecDepth 100000 in
theorem w_X1_settle_B12 {p : Program} {l : Launch} {e : Env} {s : State} {m : MethodId} {args : Array Value} {below : List Frame} {meth : Method} {c : Code} {g : Gg} {S : Ss} (a0 : Nat) (x1 : Int32) (x2 : Int32) (M : Mm) (BK12 : Int32 → Mm → Prop) (EK12 : Mm → Prop) (K : Mm → Prop) (E : EN p s m args meth c cX1_settle 3 none RX1 g) (hw : ad g 100000 < s.heap.size) (hs0 : S[a0]? = some (0, 0)) (hBK12 : ∀ (x2' : Int32) (M' : Mm) (H : Heap) (locs : List Loc) (ls : Array Slot), BK12 x2' M' → RP g S M' H → va_S (gA g) s.heap H locs → lv_has ls 3 [(0, .ref (ad g a0)), (1, .int x1), (2, .int x2')] → W p l e (rmD 1) s m args below meth c H locs 0 0 (MQ below (QA g S (pV K)) args s 0 0 (gA g)) (F0 m 12 ls [])) (hEK12 : ∀ (M' : Mm) (H : Heap) (locs : List Loc) (ls : Array Slot), EK12 M' → RP g S M' H → va_S (gA g) s.heap H locs → lv_has ls 3 [(0, .ref (ad g a0)), (1, .int x1)] → W p l e (rmD 1) s m args below meth c H locs 0 0 (MQ below (QA g S (pV K)) args s 0 0 (gA g)) (F0 m 48 ls [])) (hf : f_X1_settle_B12 S a0 x1 x2 M BK12 EK12 K) (H : Heap) (locs : List Loc) (ls : Array Slot) (hR : RP g S M H) (hS : va_S (gA g) s.heap H locs) (hl : lv_has ls 3 [(0, .ref (ad g a0)), (1, .int x1), (2, .int x2)]) : W p l e (rmD 1) s m args below meth c H locs 0 0 (MQ below (QA g S (pV K)) args s 0 0 (gA g)) (F0 m 12 ls []) := by
  have hx := E.1
  have hb := E.2.1
  unfold f_X1_settle_B12 at hf
  refine lv_iload_n hx hb dX1_settle_12 rfl (lv_at hl 2 rfl) ?_
  refine lv_aload_n hx hb dX1_settle_13 rfl (lv_at hl 0 rfl) ?_
  refine hw_getI E hR cI0 hs0 9 (by decide) lfX1_40 rfl dX1_settle_14 ?_
  refine lv_icmp_ge (tgt := 48) hx hb dX1_settle_17 (by decide) (fun c2 => ?_) (fun c2 => ?_)
  · replace hf := hf.1 c2
    exact hEK12  _ _ _ _ hf hR hS (lv_sub hl [0, 1] rfl)
  · replace hf := hf.2 c2
    refine lv_aload_n hx hb dX1_settle_20 rfl (lv_at hl 0 rfl) ?_
    obtain ⟨b3, hb3, hf⟩ := hf
    refine hw_getR E hR cI0 hs0 7 (by decide) lfX1_33 rfl hb3 dX1_settle_21 ?_
    refine lv_iload_n hx hb dX1_settle_24 rfl (lv_at hl 2 rfl) ?_
    refine lv_aload_n hx hb dX1_settle_25 rfl (lv_at hl 0 rfl) ?_
    refine lv_aload_n hx hb dX1_settle_26 rfl (lv_at hl 0 rfl) ?_
    obtain ⟨b4, hb4, hf⟩ := hf
    refine hw_getR E hR cI0 hs0 3 (by decide) lfX1_21 rfl hb4 dX1_settle_27 ?_
    refine lv_iload_n hx hb dX1_settle_30 rfl (lv_at hl 2 rfl) ?_
    obtain ⟨n5, hn5, in5, hf⟩ := hf
    refine hw_iald E hR hS hn5 in5 dX1_settle_31 ?_
    refine lv_aload_n hx hb dX1_settle_32 rfl (lv_at hl 0 rfl) ?_
    obtain ⟨b6, hb6, hf⟩ := hf
    refine hw_getR E hR cI0 hs0 5 (by decide) lfX1_27 rfl hb6 dX1_settle_33 ?_
    refine lv_iload_n hx hb dX1_settle_36 rfl (lv_at hl 2 rfl) ?_
    obtain ⟨n7, hn7, in7, hf⟩ := hf
    refine hw_iald E hR hS hn7 in7 dX1_settle_37 ?_
    refine hw_callV (d := 1) E hR hS (As := [.int (M.1 b4 x2.toNatClampNeg), .int (M.1 b6 x2.toNatClampNeg)]) (rest := [.int x2, .ref (ad g b3)]) cI0 hs0 rfl mcX1_known miX1_known lmX1_46 (ok_X1_known hs0 hf) rfl rfl (by decide) hl.1 (Nat.le_of_ble_eq_true rfl) dX1_settle_38 (fun rr m8 H locs hp hR hS => ?_)
    obtain ⟨r9, rfl, hf⟩ := hp
    refine W.eq (g2 := F0 m 41 ls [.int r9, .int x2, .ref (ad g b3)]) rfl ?_
    obtain ⟨n10, hn10, in10, hf⟩ := hf
    refine hw_iast E hR hS hw hn10 in10 dX1_settle_41 (fun m11 H locs em11 hR hS => ?_)
    replace hf := hf m11 em11
    obtain ⟨v12, ev12⟩ : ∃ y : Int32, y = x2 + (1 : Int32) := ⟨_, rfl⟩
    replace hf := hf v12 ev12
    refine lv_iinc (v := v12) (lv' := [(2, .int v12), (0, .ref (ad g a0)), (1, .int x1)]) hx hb dX1_settle_42 hl (k := 2) rfl (by rw [ev12]; rfl) (by decide) rfl (fun ls hl => ?_)
    refine lv_goto (tgt := 12) hx hb dX1_settle_45 (by decide) ?_
    exact hBK12 _ _ _ _ _ hf hR hS (lv_sub hl [1, 2, 0] rfl)
def f_X1_settle_L12 (S : Ss) (a0 : Nat) (x1 : Int32) (EK12 : Mm → Prop) (K : Mm → Prop) : Nat → Int32 → Mm → Prop
  | 0, _, _ => False
  | n + 1, x2, M => f_X1_settle_B12 S a0 x1 x2 M (fun (x2 : Int32) (M : Mm) => f_X1_settle_L12 S a0 x1 EK12 K n x2 M) EK12 K
set_option maxHeartbeats 4000000 in
set_option maxRecDepth 100000 in
theorem w_X1_settle_L12 {p : Program} {l : Launch} {e : Env} {s : State} {m : MethodId} {args : Array Value} {below : List Frame} {meth : Method} {c : Code} {g : Gg} {S : Ss} (a0 : Nat) (x1 : Int32) (EK12 : Mm → Prop) (K : Mm → Prop) (E : EN p s m args meth c cX1_settle 3 none RX1 g) (hw : ad g 100000 < s.heap.size) (hs0 : S[a0]? = some (0, 0)) (hEK12 : ∀ (M' : Mm) (H : Heap) (locs : List Loc) (ls : Array Slot), EK12 M' → RP g S M' H → va_S (gA g) s.heap H locs → lv_has ls 3 [(0, .ref (ad g a0)), (1, .int x1)] → W p l e (rmD 1) s m args below meth c H locs 0 0 (MQ below (QA g S (pV K)) args s 0 0 (gA g)) (F0 m 48 ls [])) : ∀ (n : Nat) (x2 : Int32) (M : Mm), f_X1_settle_L12 S a0 x1 EK12 K n x2 M → ∀ (H : Heap) (locs : List Loc) (ls : Array Slot), RP g S M H → va_S (gA g) s.heap H locs → lv_has ls 3 [(0, .ref (ad g a0)), (1, .int x1), (2, .int x2)] → W p l e (rmD 1) s m args below meth c H locs 0 0 (MQ below (QA g S (pV K)) args s 0 0 (gA g)) (F0 m 12 ls []) := by
  intro n
  induction n with
  | zero => intro x2 M hf; exact hf.elim
  | succ n ih =>
    intro x2 M hf H locs ls hR hS hl
    exact w_X1_settle_B12 _ _ _ _ _ _ _ E hw hs0 (fun _ M H locs ls h hR hS hl => ih _ M h H locs ls hR hS hl) hEK12 hf H locs ls hR hS hl
def f_X1_settle_B2 (S : Ss) (a0 : Nat) (x1 : Int32) (M : Mm) (BK2 : Int32 → Mm → Prop) (EK2 : Mm → Prop) (K : Mm → Prop) : Prop :=
  (((M.1 a0 9) ≤ x1 →
    EK2 M) ∧
   (¬ (M.1 a0 9) ≤ x1 →
    ∃ n15 : Nat, f_X1_settle_L12 S a0 x1 (fun (m13 : Mm) =>
      ∀ v14 : Int32, v14 = x1 + (1 : Int32) →
      BK2 v14 m13) K n15 (0 : Int32) M))
set_option maxHeartbeats 4000000 in
set_option maxRecDepth 100000 in
theorem w_X1_settle_B2 {p : Program} {l : Launch} {e : Env} {s : State} {m : MethodId} {args : Array Value} {below : List Frame} {meth : Method} {c : Code} {g : Gg} {S : Ss} (a0 : Nat) (x1 : Int32) (M : Mm) (BK2 : Int32 → Mm → Prop) (EK2 : Mm → Prop) (K : Mm → Prop) (E : EN p s m args meth c cX1_settle 3 none RX1 g) (hw : ad g 100000 < s.heap.size) (hs0 : S[a0]? = some (0, 0)) (hBK2 : ∀ (x1' : Int32) (M' : Mm) (H : Heap) (locs : List Loc) (ls : Array Slot), BK2 x1' M' → RP g S M' H → va_S (gA g) s.heap H locs → lv_has ls 3 [(0, .ref (ad g a0)), (1, .int x1')] → W p l e (rmD 1) s m args below meth c H locs 0 0 (MQ below (QA g S (pV K)) args s 0 0 (gA g)) (F0 m 2 ls [])) (hEK2 : ∀ (M' : Mm) (H : Heap) (locs : List Loc) (ls : Array Slot), EK2 M' → RP g S M' H → va_S (gA g) s.heap H locs → lv_has ls 3 [] → W p l e (rmD 1) s m args below meth c H locs 0 0 (MQ below (QA g S (pV K)) args s 0 0 (gA g)) (F0 m 54 ls [])) (hf : f_X1_settle_B2 S a0 x1 M BK2 EK2 K) (H : Heap) (locs : List Loc) (ls : Array Slot) (hR : RP g S M H) (hS : va_S (gA g) s.heap H locs) (hl : lv_has ls 3 [(0, .ref (ad g a0)), (1, .int x1)]) : W p l e (rmD 1) s m args below meth c H locs 0 0 (MQ below (QA g S (pV K)) args s 0 0 (gA g)) (F0 m 2 ls []) := by
  have hx := E.1
  have hb := E.2.1
  unfold f_X1_settle_B2 at hf
  refine lv_iload_n hx hb dX1_settle_2 rfl (lv_at hl 1 rfl) ?_
  refine lv_aload_n hx hb dX1_settle_3 rfl (lv_at hl 0 rfl) ?_
  refine hw_getI E hR cI0 hs0 9 (by decide) lfX1_40 rfl dX1_settle_4 ?_
  refine lv_icmp_ge (tgt := 54) hx hb dX1_settle_7 (by decide) (fun c1 => ?_) (fun c1 => ?_)
  · replace hf := hf.1 c1
    exact hEK2  _ _ _ _ hf hR hS (lv_sub hl [] rfl)
  · replace hf := hf.2 c1
    refine lv_iconst (v := 0) hx hb dX1_settle_10 (by decide) ?_
    refine lv_istore_n (lv' := [(2, .int (0 : Int32)), (0, .ref (ad g a0)), (1, .int x1)]) hx hb dX1_settle_11 rfl hl (by decide) rfl (fun ls hl => ?_)
    obtain ⟨n15, hf⟩ := hf
    refine w_X1_settle_L12 _ _ _ _ E hw hs0 ?_ n15 _ _ hf _ _ _ hR hS (lv_sub hl [1, 2, 0] rfl)
    intro m13 H locs ls hf hR hS hl
    obtain ⟨v14, ev14⟩ : ∃ y : Int32, y = x1 + (1 : Int32) := ⟨_, rfl⟩
    replace hf := hf v14 ev14
    refine lv_iinc (v := v14) (lv' := [(1, .int v14), (0, .ref (ad g a0))]) hx hb dX1_settle_48 hl (k := 1) rfl (by rw [ev14]; rfl) (by decide) rfl (fun ls hl => ?_)
    refine lv_goto (tgt := 2) hx hb dX1_settle_51 (by decide) ?_
    exact hBK2 _ _ _ _ _ hf hR hS (lv_sub hl [1, 0] rfl)
def f_X1_settle_L2 (S : Ss) (a0 : Nat) (EK2 : Mm → Prop) (K : Mm → Prop) : Nat → Int32 → Mm → Prop
  | 0, _, _ => False
  | n + 1, x1, M => f_X1_settle_B2 S a0 x1 M (fun (x1 : Int32) (M : Mm) => f_X1_settle_L2 S a0 EK2 K n x1 M) EK2 K
set_option maxHeartbeats 4000000 in
set_option maxRecDepth 100000 in
theorem w_X1_settle_L2 {p : Program} {l : Launch} {e : Env} {s : State} {m : MethodId} {args : Array Value} {below : List Frame} {meth : Method} {c : Code} {g : Gg} {S : Ss} (a0 : Nat) (EK2 : Mm → Prop) (K : Mm → Prop) (E : EN p s m args meth c cX1_settle 3 none RX1 g) (hw : ad g 100000 < s.heap.size) (hs0 : S[a0]? = some (0, 0)) (hEK2 : ∀ (M' : Mm) (H : Heap) (locs : List Loc) (ls : Array Slot), EK2 M' → RP g S M' H → va_S (gA g) s.heap H locs → lv_has ls 3 [] → W p l e (rmD 1) s m args below meth c H locs 0 0 (MQ below (QA g S (pV K)) args s 0 0 (gA g)) (F0 m 54 ls [])) : ∀ (n : Nat) (x1 : Int32) (M : Mm), f_X1_settle_L2 S a0 EK2 K n x1 M → ∀ (H : Heap) (locs : List Loc) (ls : Array Slot), RP g S M H → va_S (gA g) s.heap H locs → lv_has ls 3 [(0, .ref (ad g a0)), (1, .int x1)] → W p l e (rmD 1) s m args below meth c H locs 0 0 (MQ below (QA g S (pV K)) args s 0 0 (gA g)) (F0 m 2 ls []) := by
  intro n
  induction n with
  | zero => intro x1 M hf; exact hf.elim
  | succ n ih =>
    intro x1 M hf H locs ls hR hS hl
    exact w_X1_settle_B2 _ _ _ _ _ _ E hw hs0 (fun _ M H locs ls h hR hS hl => ih _ M h H locs ls hR hS hl) hEK2 hf H locs ls hR hS hl
def f_X1_settle (S : Ss) (a0 : Nat) (M : Mm) (K : Mm → Prop) : Prop :=
  ∃ n17 : Nat, f_X1_settle_L2 S a0 (fun (m16 : Mm) =>
    K m16) K n17 (0 : Int32) M
set_option maxHeartbeats 4000000 in
set_option maxRecDepth 100000 in
theorem ok_X1_settle {l : Launch} {g : Gg} {S : Ss} {a0 : Nat} {M : Mm} {K : Mm → Prop} (hs0 : S[a0]? = some (0, 0)) (hf : f_X1_settle S a0 M K) : MT l g S yX1_settle cX1_settle 3 none 1 [.ref (ad g a0)] M (pV K) := by
  refine MT.of (by decide +kernel) (Nat.le_of_ble_eq_true rfl) ?_
  intro p e s m below meth c ls E hw hR hS hl
  have hl : lv_has ls 3 [(0, .ref (ad g a0))] := hl
  generalize ([.ref (ad g a0)] : List Value).toArray = args at E ⊢
  have E : EN p s m args meth c cX1_settle 3 none RX1 g := E
  have hx := E.1
  have hb := E.2.1
  unfold f_X1_settle at hf
  refine lv_iconst (v := 0) hx hb dX1_settle_0 (by decide) ?_
  refine lv_istore_n (lv' := [(1, .int (0 : Int32)), (0, .ref (ad g a0))]) hx hb dX1_settle_1 rfl hl (by decide) rfl (fun ls hl => ?_)
  obtain ⟨n17, hf⟩ := hf
  refine w_X1_settle_L2 _ _ _ E hw hs0 ?_ n17 _ _ hf _ _ _ hR hS (lv_sub hl [1, 0] rfl)
  intro m16 H locs ls hf hR hS hl
  exact hw_vret E hR hS ⟨rfl, hf⟩ dX1_settle_54
def f_X1_addCase (S : Ss) (a0 : Nat) (x1 : Int32) (x2 : Int32) (x3 : Int32) (M : Mm) (K : Int32 → Mm → Prop) : Prop :=
  (((M.1 a0 8) < (12 : Int32) →
    ∃ b2 : Nat, M.2.2 a0 0 = some b2 ∧
    ∃ n3 : Nat, S[b2]? = some (50, n3) ∧ vp_in (M.1 a0 8) n3 ∧
    ∀ m4 : Mm, m4 = stI M b2 (M.1 a0 8).toNatClampNeg x1 →
    ∃ b5 : Nat, m4.2.2 a0 1 = some b5 ∧
    ∃ n6 : Nat, S[b5]? = some (50, n6) ∧ vp_in (m4.1 a0 8) n6 ∧
    ∀ m7 : Mm, m7 = stI m4 b5 (m4.1 a0 8).toNatClampNeg x2 →
    ∃ b8 : Nat, m7.2.2 a0 2 = some b8 ∧
    ∃ n9 : Nat, S[b8]? = some (50, n9) ∧ vp_in (m7.1 a0 8) n9 ∧
    ∀ m10 : Mm, m10 = stI m7 b8 (m7.1 a0 8).toNatClampNeg x3 →
    ∀ m11 : Mm, m11 = stI m10 a0 8 ((m10.1 a0 8) + (1 : Int32)) →
    f_X1_settle S a0  m11 (fun (m12 : Mm) =>
      K ((m12.1 a0 8) - (1 : Int32)) m12)) ∧
   (¬ (M.1 a0 8) < (12 : Int32) →
    K (-1 : Int32) M))
set_option maxHeartbeats 4000000 in
set_option maxRecDepth 100000 in
theorem ok_X1_addCase {l : Launch} {g : Gg} {S : Ss} {a0 : Nat} {x1 : Int32} {x2 : Int32} {x3 : Int32} {M : Mm} {K : Int32 → Mm → Prop} (hs0 : S[a0]? = some (0, 0)) (hf : f_X1_addCase S a0 x1 x2 x3 M K) : MT l g S yX1_addCase cX1_addCase 4 (some .int) 2 [.ref (ad g a0), .int x1, .int x2, .int x3] M (pI K) := by
  refine MT.of (by decide +kernel) (Nat.le_of_ble_eq_true rfl) ?_
  intro p e s m below meth c ls E hw hR hS hl
  have hl : lv_has ls 4 [(0, .ref (ad g a0)), (1, .int x1), (2, .int x2), (3, .int x3)] := hl
  generalize ([.ref (ad g a0), .int x1, .int x2, .int x3] : List Value).toArray = args at E ⊢
  have E : EN p s m args meth c cX1_addCase 4 (some .int) RX1 g := E
  have hx := E.1
  have hb := E.2.1
  unfold f_X1_addCase at hf
  refine lv_aload_n hx hb dX1_addCase_0 rfl (lv_at hl 0 rfl) ?_
  refine hw_getI E hR cI0 hs0 8 (by decide) lfX1_36 rfl dX1_addCase_1 ?_
  refine lv_bipush (v := 12) hx hb dX1_addCase_4 (by decide) ?_
  refine lv_icmp_lt (tgt := 11) hx hb dX1_addCase_6 (by decide) (fun c1 => ?_) (fun c1 => ?_)
  · replace hf := hf.1 c1
    refine lv_aload_n hx hb dX1_addCase_11 rfl (lv_at hl 0 rfl) ?_
    obtain ⟨b2, hb2, hf⟩ := hf
    refine hw_getR E hR cI0 hs0 0 (by decide) lfX1_11 rfl hb2 dX1_addCase_12 ?_
    refine lv_aload_n hx hb dX1_addCase_15 rfl (lv_at hl 0 rfl) ?_
    refine hw_getI E hR cI0 hs0 8 (by decide) lfX1_36 rfl dX1_addCase_16 ?_
    refine lv_iload_n hx hb dX1_addCase_19 rfl (lv_at hl 1 rfl) ?_
    obtain ⟨n3, hn3, in3, hf⟩ := hf
    refine hw_iast E hR hS hw hn3 in3 dX1_addCase_20 (fun m4 H locs em4 hR hS => ?_)
    replace hf := hf m4 em4
    refine lv_aload_n hx hb dX1_addCase_21 rfl (lv_at hl 0 rfl) ?_
    obtain ⟨b5, hb5, hf⟩ := hf
    refine hw_getR E hR cI0 hs0 1 (by decide) lfX1_15 rfl hb5 dX1_addCase_22 ?_
    refine lv_aload_n hx hb dX1_addCase_25 rfl (lv_at hl 0 rfl) ?_
    refine hw_getI E hR cI0 hs0 8 (by decide) lfX1_36 rfl dX1_addCase_26 ?_
    refine lv_iload_n hx hb dX1_addCase_29 rfl (lv_at hl 2 rfl) ?_
    obtain ⟨n6, hn6, in6, hf⟩ := hf
    refine hw_iast E hR hS hw hn6 in6 dX1_addCase_30 (fun m7 H locs em7 hR hS => ?_)
    replace hf := hf m7 em7
    refine lv_aload_n hx hb dX1_addCase_31 rfl (lv_at hl 0 rfl) ?_
    obtain ⟨b8, hb8, hf⟩ := hf
    refine hw_getR E hR cI0 hs0 2 (by decide) lfX1_18 rfl hb8 dX1_addCase_32 ?_
    refine lv_aload_n hx hb dX1_addCase_35 rfl (lv_at hl 0 rfl) ?_
    refine hw_getI E hR cI0 hs0 8 (by decide) lfX1_36 rfl dX1_addCase_36 ?_
    refine lv_iload_n hx hb dX1_addCase_39 rfl (lv_at hl 3 rfl) ?_
    obtain ⟨n9, hn9, in9, hf⟩ := hf
    refine hw_iast E hR hS hw hn9 in9 dX1_addCase_40 (fun m10 H locs em10 hR hS => ?_)
    replace hf := hf m10 em10
    refine lv_aload_n hx hb dX1_addCase_41 rfl (lv_at hl 0 rfl) ?_
    refine lv_dup hx hb dX1_addCase_42 rfl ?_
    refine hw_getI E hR cI0 hs0 8 (by decide) lfX1_36 rfl dX1_addCase_43 ?_
    refine lv_iconst (v := 1) hx hb dX1_addCase_46 (by decide) ?_
    refine lv_iadd hx hb dX1_addCase_47 ?_
    refine hw_putI E hR hS hw cI0 hs0 8 (by decide) lfX1_36 rfl (Or.inl rfl) dX1_addCase_48 (fun m11 H locs em11 hR hS => ?_)
    replace hf := hf m11 em11
    refine lv_aload_n hx hb dX1_addCase_51 rfl (lv_at hl 0 rfl) ?_
    refine hw_callV (d := 2) E hR hS (As := []) (rest := []) cI0 hs0 rfl mcX1_settle miX1_settle lmX1_43 (ok_X1_settle hs0 hf) rfl rfl (by decide) hl.1 (Nat.le_of_ble_eq_true rfl) dX1_addCase_52 (fun rr m12 H locs hp hR hS => ?_)
    obtain ⟨rfl, hf⟩ := hp
    refine W.eq (g2 := F0 m 55 ls []) rfl ?_
    refine lv_aload_n hx hb dX1_addCase_55 rfl (lv_at hl 0 rfl) ?_
    refine hw_getI E hR cI0 hs0 8 (by decide) lfX1_36 rfl dX1_addCase_56 ?_
    refine lv_iconst (v := 1) hx hb dX1_addCase_59 (by decide) ?_
    refine lv_isub hx hb dX1_addCase_60 ?_
    exact hw_iret E hR hS ⟨_, rfl, hf⟩ dX1_addCase_61
  · replace hf := hf.2 c1
    refine lv_iconst (v := -1) hx hb dX1_addCase_9 (by decide) ?_
    exact hw_iret E hR hS ⟨_, rfl, hf⟩ dX1_addCase_10
def f_X1_addLetter (S : Ss) (a0 : Nat) (x1 : Int32) (x2 : Int32) (x3 : Int32) (x4 : Int32) (M : Mm) (K : Int32 → Mm → Prop) : Prop :=
  (((M.1 a0 9) < (12 : Int32) →
    ∃ b2 : Nat, M.2.2 a0 3 = some b2 ∧
    ∃ n3 : Nat, S[b2]? = some (50, n3) ∧ vp_in (M.1 a0 9) n3 ∧
    ∀ m4 : Mm, m4 = stI M b2 (M.1 a0 9).toNatClampNeg x1 →
    ∃ b5 : Nat, m4.2.2 a0 4 = some b5 ∧
    ∃ n6 : Nat, S[b5]? = some (50, n6) ∧ vp_in (m4.1 a0 9) n6 ∧
    ∀ m7 : Mm, m7 = stI m4 b5 (m4.1 a0 9).toNatClampNeg x2 →
    ∃ b8 : Nat, m7.2.2 a0 5 = some b8 ∧
    ∃ n9 : Nat, S[b8]? = some (50, n9) ∧ vp_in (m7.1 a0 9) n9 ∧
    ∀ m10 : Mm, m10 = stI m7 b8 (m7.1 a0 9).toNatClampNeg x3 →
    ∃ b11 : Nat, m10.2.2 a0 6 = some b11 ∧
    ∃ n12 : Nat, S[b11]? = some (50, n12) ∧ vp_in (m10.1 a0 9) n12 ∧
    ∀ m13 : Mm, m13 = stI m10 b11 (m10.1 a0 9).toNatClampNeg (x3 + x4) →
    ∃ b14 : Nat, m13.2.2 a0 7 = some b14 ∧
    ∃ n15 : Nat, S[b14]? = some (50, n15) ∧ vp_in (m13.1 a0 9) n15 ∧
    ∀ m16 : Mm, m16 = stI m13 b14 (m13.1 a0 9).toNatClampNeg (0 : Int32) →
    ∀ m17 : Mm, m17 = stI m16 a0 9 ((m16.1 a0 9) + (1 : Int32)) →
    f_X1_settle S a0  m17 (fun (m18 : Mm) =>
      K (m18.1 a0 9) m18)) ∧
   (¬ (M.1 a0 9) < (12 : Int32) →
    K (-1 : Int32) M))
set_option maxHeartbeats 4000000 in
set_option maxRecDepth 100000 in
theorem ok_X1_addLetter {l : Launch} {g : Gg} {S : Ss} {a0 : Nat} {x1 : Int32} {x2 : Int32} {x3 : Int32} {x4 : Int32} {M : Mm} {K : Int32 → Mm → Prop} (hs0 : S[a0]? = some (0, 0)) (hf : f_X1_addLetter S a0 x1 x2 x3 x4 M K) : MT l g S yX1_addLetter cX1_addLetter 5 (some .int) 2 [.ref (ad g a0), .int x1, .int x2, .int x3, .int x4] M (pI K) := by
  refine MT.of (by decide +kernel) (Nat.le_of_ble_eq_true rfl) ?_
  intro p e s m below meth c ls E hw hR hS hl
  have hl : lv_has ls 5 [(0, .ref (ad g a0)), (1, .int x1), (2, .int x2), (3, .int x3), (4, .int x4)] := hl
  generalize ([.ref (ad g a0), .int x1, .int x2, .int x3, .int x4] : List Value).toArray = args at E ⊢
  have E : EN p s m args meth c cX1_addLetter 5 (some .int) RX1 g := E
  have hx := E.1
  have hb := E.2.1
  unfold f_X1_addLetter at hf
  refine lv_aload_n hx hb dX1_addLetter_0 rfl (lv_at hl 0 rfl) ?_
  refine hw_getI E hR cI0 hs0 9 (by decide) lfX1_40 rfl dX1_addLetter_1 ?_
  refine lv_bipush (v := 12) hx hb dX1_addLetter_4 (by decide) ?_
  refine lv_icmp_lt (tgt := 11) hx hb dX1_addLetter_6 (by decide) (fun c1 => ?_) (fun c1 => ?_)
  · replace hf := hf.1 c1
    refine lv_aload_n hx hb dX1_addLetter_11 rfl (lv_at hl 0 rfl) ?_
    obtain ⟨b2, hb2, hf⟩ := hf
    refine hw_getR E hR cI0 hs0 3 (by decide) lfX1_21 rfl hb2 dX1_addLetter_12 ?_
    refine lv_aload_n hx hb dX1_addLetter_15 rfl (lv_at hl 0 rfl) ?_
    refine hw_getI E hR cI0 hs0 9 (by decide) lfX1_40 rfl dX1_addLetter_16 ?_
    refine lv_iload_n hx hb dX1_addLetter_19 rfl (lv_at hl 1 rfl) ?_
    obtain ⟨n3, hn3, in3, hf⟩ := hf
    refine hw_iast E hR hS hw hn3 in3 dX1_addLetter_20 (fun m4 H locs em4 hR hS => ?_)
    replace hf := hf m4 em4
    refine lv_aload_n hx hb dX1_addLetter_21 rfl (lv_at hl 0 rfl) ?_
    obtain ⟨b5, hb5, hf⟩ := hf
    refine hw_getR E hR cI0 hs0 4 (by decide) lfX1_24 rfl hb5 dX1_addLetter_22 ?_
    refine lv_aload_n hx hb dX1_addLetter_25 rfl (lv_at hl 0 rfl) ?_
    refine hw_getI E hR cI0 hs0 9 (by decide) lfX1_40 rfl dX1_addLetter_26 ?_
    refine lv_iload_n hx hb dX1_addLetter_29 rfl (lv_at hl 2 rfl) ?_
    obtain ⟨n6, hn6, in6, hf⟩ := hf
    refine hw_iast E hR hS hw hn6 in6 dX1_addLetter_30 (fun m7 H locs em7 hR hS => ?_)
    replace hf := hf m7 em7
    refine lv_aload_n hx hb dX1_addLetter_31 rfl (lv_at hl 0 rfl) ?_
    obtain ⟨b8, hb8, hf⟩ := hf
    refine hw_getR E hR cI0 hs0 5 (by decide) lfX1_27 rfl hb8 dX1_addLetter_32 ?_
    refine lv_aload_n hx hb dX1_addLetter_35 rfl (lv_at hl 0 rfl) ?_
    refine hw_getI E hR cI0 hs0 9 (by decide) lfX1_40 rfl dX1_addLetter_36 ?_
    refine lv_iload_n hx hb dX1_addLetter_39 rfl (lv_at hl 3 rfl) ?_
    obtain ⟨n9, hn9, in9, hf⟩ := hf
    refine hw_iast E hR hS hw hn9 in9 dX1_addLetter_40 (fun m10 H locs em10 hR hS => ?_)
    replace hf := hf m10 em10
    refine lv_aload_n hx hb dX1_addLetter_41 rfl (lv_at hl 0 rfl) ?_
    obtain ⟨b11, hb11, hf⟩ := hf
    refine hw_getR E hR cI0 hs0 6 (by decide) lfX1_30 rfl hb11 dX1_addLetter_42 ?_
    refine lv_aload_n hx hb dX1_addLetter_45 rfl (lv_at hl 0 rfl) ?_
    refine hw_getI E hR cI0 hs0 9 (by decide) lfX1_40 rfl dX1_addLetter_46 ?_
    refine lv_iload_n hx hb dX1_addLetter_49 rfl (lv_at hl 3 rfl) ?_
    refine lv_iload hx hb dX1_addLetter_50 (lv_at hl 4 rfl) ?_
    refine lv_iadd hx hb dX1_addLetter_52 ?_
    obtain ⟨n12, hn12, in12, hf⟩ := hf
    refine hw_iast E hR hS hw hn12 in12 dX1_addLetter_53 (fun m13 H locs em13 hR hS => ?_)
    replace hf := hf m13 em13
    refine lv_aload_n hx hb dX1_addLetter_54 rfl (lv_at hl 0 rfl) ?_
    obtain ⟨b14, hb14, hf⟩ := hf
    refine hw_getR E hR cI0 hs0 7 (by decide) lfX1_33 rfl hb14 dX1_addLetter_55 ?_
    refine lv_aload_n hx hb dX1_addLetter_58 rfl (lv_at hl 0 rfl) ?_
    refine hw_getI E hR cI0 hs0 9 (by decide) lfX1_40 rfl dX1_addLetter_59 ?_
    refine lv_iconst (v := 0) hx hb dX1_addLetter_62 (by decide) ?_
    obtain ⟨n15, hn15, in15, hf⟩ := hf
    refine hw_iast E hR hS hw hn15 in15 dX1_addLetter_63 (fun m16 H locs em16 hR hS => ?_)
    replace hf := hf m16 em16
    refine lv_aload_n hx hb dX1_addLetter_64 rfl (lv_at hl 0 rfl) ?_
    refine lv_dup hx hb dX1_addLetter_65 rfl ?_
    refine hw_getI E hR cI0 hs0 9 (by decide) lfX1_40 rfl dX1_addLetter_66 ?_
    refine lv_iconst (v := 1) hx hb dX1_addLetter_69 (by decide) ?_
    refine lv_iadd hx hb dX1_addLetter_70 ?_
    refine hw_putI E hR hS hw cI0 hs0 9 (by decide) lfX1_40 rfl (Or.inl rfl) dX1_addLetter_71 (fun m17 H locs em17 hR hS => ?_)
    replace hf := hf m17 em17
    refine lv_aload_n hx hb dX1_addLetter_74 rfl (lv_at hl 0 rfl) ?_
    refine hw_callV (d := 2) E hR hS (As := []) (rest := []) cI0 hs0 rfl mcX1_settle miX1_settle lmX1_43 (ok_X1_settle hs0 hf) rfl rfl (by decide) hl.1 (Nat.le_of_ble_eq_true rfl) dX1_addLetter_75 (fun rr m18 H locs hp hR hS => ?_)
    obtain ⟨rfl, hf⟩ := hp
    refine W.eq (g2 := F0 m 78 ls []) rfl ?_
    refine lv_aload_n hx hb dX1_addLetter_78 rfl (lv_at hl 0 rfl) ?_
    refine hw_getI E hR cI0 hs0 9 (by decide) lfX1_40 rfl dX1_addLetter_79 ?_
    exact hw_iret E hR hS ⟨_, rfl, hf⟩ dX1_addLetter_82
  · replace hf := hf.2 c1
    refine lv_iconst (v := -1) hx hb dX1_addLetter_9 (by decide) ?_
    exact hw_iret E hR hS ⟨_, rfl, hf⟩ dX1_addLetter_10
def f_X1_hasEnough_J40 (S : Ss) (a0 : Nat) (x1 : Int32) (x2 : Int32) (x3 : Int32) (x4 : Int32) (x5 : Int32) (x6 : Int32) (t0 : Int32) (M : Mm) (BK9 : Int32 → Int32 → Int32 → Mm → Prop) (K : Int32 → Mm → Prop) : Prop :=
  ∀ v3 : Int32, v3 = (x4 ||| t0) →
  ((t0 = 0 →
    ∀ v5 : Int32, v5 = (x5 + (0 : Int32)) →
    ∀ v6 : Int32, v6 = x6 + (1 : Int32) →
    BK9 v3 v5 v6 M) ∧
   (¬ t0 = 0 →
    ∀ v7 : Int32, v7 = (x5 + (1 : Int32)) →
    ∀ v8 : Int32, v8 = x6 + (1 : Int32) →
    BK9 v3 v7 v8 M))
set_option maxHeartbeats 4000000 in
set_option maxRecDepth 100000 in
theorem w_X1_hasEnough_J40 {p : Program} {l : Launch} {e : Env} {s : State} {m : MethodId} {args : Array Value} {below : List Frame} {meth : Method} {c : Code} {g : Gg} {S : Ss} (a0 : Nat) (x1 : Int32) (x2 : Int32) (x3 : Int32) (x4 : Int32) (x5 : Int32) (x6 : Int32) (t0 : Int32) (M : Mm) (BK9 : Int32 → Int32 → Int32 → Mm → Prop) (K : Int32 → Mm → Prop) (E : EN p s m args meth c cX1_hasEnough 8 (some .boolean) RX1 g) (hw : ad g 100000 < s.heap.size) (hs0 : S[a0]? = some (0, 0)) (hBK9 : ∀ (x4' : Int32) (x5' : Int32) (x6' : Int32) (M' : Mm) (H : Heap) (locs : List Loc) (ls : Array Slot), BK9 x4' x5' x6' M' → RP g S M' H → va_S (gA g) s.heap H locs → lv_has ls 8 [(0, .ref (ad g a0)), (1, .int x1), (2, .int x2), (3, .int x3), (4, .int x4'), (5, .int x5'), (6, .int x6')] → W p l e (rmD 0) s m args below meth c H locs 0 0 (MQ below (QA g S (pI K)) args s 0 0 (gA g)) (F0 m 9 ls [])) (hf : f_X1_hasEnough_J40 S a0 x1 x2 x3 x4 x5 x6 t0 M BK9 K) (H : Heap) (locs : List Loc) (ls : Array Slot) (hR : RP g S M H) (hS : va_S (gA g) s.heap H locs) (hl : lv_has ls 8 [(0, .ref (ad g a0)), (1, .int x1), (2, .int x2), (3, .int x3), (4, .int x4), (5, .int x5), (6, .int x6)]) : W p l e (rmD 0) s m args below meth c H locs 0 0 (MQ below (QA g S (pI K)) args s 0 0 (gA g)) (F0 m 40 ls [.int t0]) := by
  have hx := E.1
  have hb := E.2.1
  unfold f_X1_hasEnough_J40 at hf
  refine lv_istore (lv' := [(7, .int t0), (0, .ref (ad g a0)), (1, .int x1), (2, .int x2), (3, .int x3), (4, .int x4), (5, .int x5), (6, .int x6)]) hx hb dX1_hasEnough_40 hl (by decide) rfl (fun ls hl => ?_)
  refine lv_iload hx hb dX1_hasEnough_42 (lv_at hl 5 rfl) ?_
  refine lv_iload hx hb dX1_hasEnough_44 (lv_at hl 0 rfl) ?_
  refine lv_ior hx hb dX1_hasEnough_46 ?_
  refine lv_topi (fun v3 ev3 => ?_)
  replace hf := hf v3 ev3
  refine lv_istore (lv' := [(4, .int v3), (7, .int t0), (0, .ref (ad g a0)), (1, .int x1), (2, .int x2), (3, .int x3), (5, .int x5), (6, .int x6)]) hx hb dX1_hasEnough_47 hl (by decide) rfl (fun ls hl => ?_)
  refine lv_iload hx hb dX1_hasEnough_49 (lv_at hl 6 rfl) ?_
  refine lv_iload hx hb dX1_hasEnough_51 (lv_at hl 1 rfl) ?_
  refine lv_if_eq (tgt := 60) hx hb dX1_hasEnough_53 (by decide) (fun c4 => ?_) (fun c4 => ?_)
  · replace hf := hf.1 c4
    refine lv_iconst (v := 0) hx hb dX1_hasEnough_60 (by decide) ?_
    refine lv_iadd hx hb dX1_hasEnough_61 ?_
    refine lv_topi (fun v5 ev5 => ?_)
    replace hf := hf v5 ev5
    refine lv_istore (lv' := [(5, .int v5), (4, .int v3), (7, .int t0), (0, .ref (ad g a0)), (1, .int x1), (2, .int x2), (3, .int x3), (6, .int x6)]) hx hb dX1_hasEnough_62 hl (by decide) rfl (fun ls hl => ?_)
    obtain ⟨v6, ev6⟩ : ∃ y : Int32, y = x6 + (1 : Int32) := ⟨_, rfl⟩
    replace hf := hf v6 ev6
    refine lv_iinc (v := v6) (lv' := [(6, .int v6), (5, .int v5), (4, .int v3), (7, .int t0), (0, .ref (ad g a0)), (1, .int x1), (2, .int x2), (3, .int x3)]) hx hb dX1_hasEnough_64 hl (k := 7) rfl (by rw [ev6]; rfl) (by decide) rfl (fun ls hl => ?_)
    refine lv_goto (tgt := 9) hx hb dX1_hasEnough_67 (by decide) ?_
    exact hBK9 _ _ _ _ _ _ _ hf hR hS (lv_sub hl [4, 5, 6, 7, 2, 1, 0] rfl)
  · replace hf := hf.2 c4
    refine lv_iconst (v := 1) hx hb dX1_hasEnough_56 (by decide) ?_
    refine lv_goto (tgt := 61) hx hb dX1_hasEnough_57 (by decide) ?_
    refine lv_iadd hx hb dX1_hasEnough_61 ?_
    refine lv_topi (fun v7 ev7 => ?_)
    replace hf := hf v7 ev7
    refine lv_istore (lv' := [(5, .int v7), (4, .int v3), (7, .int t0), (0, .ref (ad g a0)), (1, .int x1), (2, .int x2), (3, .int x3), (6, .int x6)]) hx hb dX1_hasEnough_62 hl (by decide) rfl (fun ls hl => ?_)
    obtain ⟨v8, ev8⟩ : ∃ y : Int32, y = x6 + (1 : Int32) := ⟨_, rfl⟩
    replace hf := hf v8 ev8
    refine lv_iinc (v := v8) (lv' := [(6, .int v8), (5, .int v7), (4, .int v3), (7, .int t0), (0, .ref (ad g a0)), (1, .int x1), (2, .int x2), (3, .int x3)]) hx hb dX1_hasEnough_64 hl (k := 7) rfl (by rw [ev8]; rfl) (by decide) rfl (fun ls hl => ?_)
    refine lv_goto (tgt := 9) hx hb dX1_hasEnough_67 (by decide) ?_
    exact hBK9 _ _ _ _ _ _ _ hf hR hS (lv_sub hl [4, 5, 6, 7, 2, 1, 0] rfl)
def f_X1_hasEnough_B9 (S : Ss) (a0 : Nat) (x1 : Int32) (x2 : Int32) (x3 : Int32) (x4 : Int32) (x5 : Int32) (x6 : Int32) (M : Mm) (BK9 : Int32 → Int32 → Int32 → Mm → Prop) (EK9 : Int32 → Int32 → Mm → Prop) (K : Int32 → Mm → Prop) : Prop :=
  (((M.1 a0 8) ≤ x6 →
    EK9 x4 x5 M) ∧
   (¬ (M.1 a0 8) ≤ x6 →
    (((x1 &&& ((1 : Int32) <<< (x6 &&& 31))) = 0 →
      f_X1_hasEnough_J40 S a0 x1 x2 x3 x4 x5 x6 (0 : Int32) M BK9 K) ∧
     (¬ (x1 &&& ((1 : Int32) <<< (x6 &&& 31))) = 0 →
      ∃ b9 : Nat, M.2.2 a0 2 = some b9 ∧
      ∃ n10 : Nat, shp S b9 = some (50, n10) ∧ vp_in x6 n10 ∧
      f_X1_hasEnough_J40 S a0 x1 x2 x3 x4 x5 x6 ((M.1 b9 x6.toNatClampNeg) &&& x2) M BK9 K))))
set_option maxHeartbeats 4000000 in
set_option maxRecDepth 100000 in
theorem w_X1_hasEnough_B9 {p : Program} {l : Launch} {e : Env} {s : State} {m : MethodId} {args : Array Value} {below : List Frame} {meth : Method} {c : Code} {g : Gg} {S : Ss} (a0 : Nat) (x1 : Int32) (x2 : Int32) (x3 : Int32) (x4 : Int32) (x5 : Int32) (x6 : Int32) (M : Mm) (BK9 : Int32 → Int32 → Int32 → Mm → Prop) (EK9 : Int32 → Int32 → Mm → Prop) (K : Int32 → Mm → Prop) (E : EN p s m args meth c cX1_hasEnough 8 (some .boolean) RX1 g) (hw : ad g 100000 < s.heap.size) (hs0 : S[a0]? = some (0, 0)) (hBK9 : ∀ (x4' : Int32) (x5' : Int32) (x6' : Int32) (M' : Mm) (H : Heap) (locs : List Loc) (ls : Array Slot), BK9 x4' x5' x6' M' → RP g S M' H → va_S (gA g) s.heap H locs → lv_has ls 8 [(0, .ref (ad g a0)), (1, .int x1), (2, .int x2), (3, .int x3), (4, .int x4'), (5, .int x5'), (6, .int x6')] → W p l e (rmD 0) s m args below meth c H locs 0 0 (MQ below (QA g S (pI K)) args s 0 0 (gA g)) (F0 m 9 ls [])) (hEK9 : ∀ (x4' : Int32) (x5' : Int32) (M' : Mm) (H : Heap) (locs : List Loc) (ls : Array Slot), EK9 x4' x5' M' → RP g S M' H → va_S (gA g) s.heap H locs → lv_has ls 8 [(2, .int x2), (3, .int x3), (4, .int x4'), (5, .int x5')] → W p l e (rmD 0) s m args below meth c H locs 0 0 (MQ below (QA g S (pI K)) args s 0 0 (gA g)) (F0 m 70 ls [])) (hf : f_X1_hasEnough_B9 S a0 x1 x2 x3 x4 x5 x6 M BK9 EK9 K) (H : Heap) (locs : List Loc) (ls : Array Slot) (hR : RP g S M H) (hS : va_S (gA g) s.heap H locs) (hl : lv_has ls 8 [(0, .ref (ad g a0)), (1, .int x1), (2, .int x2), (3, .int x3), (4, .int x4), (5, .int x5), (6, .int x6)]) : W p l e (rmD 0) s m args below meth c H locs 0 0 (MQ below (QA g S (pI K)) args s 0 0 (gA g)) (F0 m 9 ls []) := by
  have hx := E.1
  have hb := E.2.1
  unfold f_X1_hasEnough_B9 at hf
  refine lv_iload hx hb dX1_hasEnough_9 (lv_at hl 6 rfl) ?_
  refine lv_aload_n hx hb dX1_hasEnough_11 rfl (lv_at hl 0 rfl) ?_
  refine hw_getI E hR cI0 hs0 8 (by decide) lfX1_36 rfl dX1_hasEnough_12 ?_
  refine lv_icmp_ge (tgt := 70) hx hb dX1_hasEnough_15 (by decide) (fun c1 => ?_) (fun c1 => ?_)
  · replace hf := hf.1 c1
    exact hEK9 _ _ _ _ _ _ hf hR hS (lv_sub hl [2, 3, 4, 5] rfl)
  · replace hf := hf.2 c1
    refine lv_iload_n hx hb dX1_hasEnough_18 rfl (lv_at hl 1 rfl) ?_
    refine lv_iconst (v := 1) hx hb dX1_hasEnough_19 (by decide) ?_
    refine lv_iload hx hb dX1_hasEnough_20 (lv_at hl 6 rfl) ?_
    refine lv_ishl hx hb dX1_hasEnough_22 ?_
    refine lv_iand hx hb dX1_hasEnough_23 ?_
    refine lv_if_eq (tgt := 39) hx hb dX1_hasEnough_24 (by decide) (fun c2 => ?_) (fun c2 => ?_)
    · replace hf := hf.1 c2
      refine lv_iconst (v := 0) hx hb dX1_hasEnough_39 (by decide) ?_
      exact w_X1_hasEnough_J40 _ _ _ _ _ _ _ _ _ _ _ E hw hs0 hBK9 hf _ _ _ hR hS (lv_sub hl [0, 1, 2, 3, 4, 5, 6] rfl)
    · replace hf := hf.2 c2
      refine lv_aload_n hx hb dX1_hasEnough_27 rfl (lv_at hl 0 rfl) ?_
      obtain ⟨b9, hb9, hf⟩ := hf
      refine hw_getR E hR cI0 hs0 2 (by decide) lfX1_18 rfl hb9 dX1_hasEnough_28 ?_
      refine lv_iload hx hb dX1_hasEnough_31 (lv_at hl 6 rfl) ?_
      obtain ⟨n10, hn10, in10, hf⟩ := hf
      refine hw_iald E hR hS hn10 in10 dX1_hasEnough_33 ?_
      refine lv_iload_n hx hb dX1_hasEnough_34 rfl (lv_at hl 2 rfl) ?_
      refine lv_iand hx hb dX1_hasEnough_35 ?_
      refine lv_goto (tgt := 40) hx hb dX1_hasEnough_36 (by decide) ?_
      exact w_X1_hasEnough_J40 _ _ _ _ _ _ _ _ _ _ _ E hw hs0 hBK9 hf _ _ _ hR hS (lv_sub hl [0, 1, 2, 3, 4, 5, 6] rfl)
def f_X1_hasEnough_L9 (S : Ss) (a0 : Nat) (x1 : Int32) (x2 : Int32) (x3 : Int32) (EK9 : Int32 → Int32 → Mm → Prop) (K : Int32 → Mm → Prop) : Nat → Int32 → Int32 → Int32 → Mm → Prop
  | 0, _, _, _, _ => False
  | n + 1, x4, x5, x6, M => f_X1_hasEnough_B9 S a0 x1 x2 x3 x4 x5 x6 M (fun (x4 : Int32) (x5 : Int32) (x6 : Int32) (M : Mm) => f_X1_hasEnough_L9 S a0 x1 x2 x3 EK9 K n x4 x5 x6 M) EK9 K
set_option maxHeartbeats 4000000 in
set_option maxRecDepth 100000 in
theorem w_X1_hasEnough_L9 {p : Program} {l : Launch} {e : Env} {s : State} {m : MethodId} {args : Array Value} {below : List Frame} {meth : Method} {c : Code} {g : Gg} {S : Ss} (a0 : Nat) (x1 : Int32) (x2 : Int32) (x3 : Int32) (EK9 : Int32 → Int32 → Mm → Prop) (K : Int32 → Mm → Prop) (E : EN p s m args meth c cX1_hasEnough 8 (some .boolean) RX1 g) (hw : ad g 100000 < s.heap.size) (hs0 : S[a0]? = some (0, 0)) (hEK9 : ∀ (x4' : Int32) (x5' : Int32) (M' : Mm) (H : Heap) (locs : List Loc) (ls : Array Slot), EK9 x4' x5' M' → RP g S M' H → va_S (gA g) s.heap H locs → lv_has ls 8 [(2, .int x2), (3, .int x3), (4, .int x4'), (5, .int x5')] → W p l e (rmD 0) s m args below meth c H locs 0 0 (MQ below (QA g S (pI K)) args s 0 0 (gA g)) (F0 m 70 ls [])) : ∀ (n : Nat) (x4 : Int32) (x5 : Int32) (x6 : Int32) (M : Mm), f_X1_hasEnough_L9 S a0 x1 x2 x3 EK9 K n x4 x5 x6 M → ∀ (H : Heap) (locs : List Loc) (ls : Array Slot), RP g S M H → va_S (gA g) s.heap H locs → lv_has ls 8 [(0, .ref (ad g a0)), (1, .int x1), (2, .int x2), (3, .int x3), (4, .int x4), (5, .int x5), (6, .int x6)] → W p l e (rmD 0) s m args below meth c H locs 0 0 (MQ below (QA g S (pI K)) args s 0 0 (gA g)) (F0 m 9 ls []) := by
  intro n
  induction n with
  | zero => intro x4 x5 x6 M hf; exact hf.elim
  | succ n ih =>
    intro x4 x5 x6 M hf H locs ls hR hS hl
    exact w_X1_hasEnough_B9 _ _ _ _ _ _ _ _ _ _ _ E hw hs0 (fun _ _ _ M H locs ls h hR hS hl => ih _ _ _ M h H locs ls hR hS hl) hEK9 hf H locs ls hR hS hl
def f_X1_hasEnough (S : Ss) (a0 : Nat) (x1 : Int32) (x2 : Int32) (x3 : Int32) (M : Mm) (K : Int32 → Mm → Prop) : Prop :=
  ∃ n16 : Nat, f_X1_hasEnough_L9 S a0 x1 x2 x3 (fun (v11 : Int32) (v12 : Int32) (m13 : Mm) =>
    ((v11 = x2 →
      ((v12 < x3 →
        K (0 : Int32) m13) ∧
       (¬ v12 < x3 →
        K (1 : Int32) m13))) ∧
     (¬ v11 = x2 →
      K (0 : Int32) m13))) K n16 (0 : Int32) (0 : Int32) (0 : Int32) M
set_option maxHeartbeats 4000000 in
set_option maxRecDepth 100000 in
theorem ok_X1_hasEnough {l : Launch} {g : Gg} {S : Ss} {a0 : Nat} {x1 : Int32} {x2 : Int32} {x3 : Int32} {M : Mm} {K : Int32 → Mm → Prop} (hs0 : S[a0]? = some (0, 0)) (hf : f_X1_hasEnough S a0 x1 x2 x3 M K) : MT l g S yX1_hasEnough cX1_hasEnough 8 (some .boolean) 0 [.ref (ad g a0), .int x1, .int x2, .int x3] M (pI K) := by
  refine MT.of (by decide +kernel) (Nat.le_of_ble_eq_true rfl) ?_
  intro p e s m below meth c ls E hw hR hS hl
  have hl : lv_has ls 8 [(0, .ref (ad g a0)), (1, .int x1), (2, .int x2), (3, .int x3)] := hl
  generalize ([.ref (ad g a0), .int x1, .int x2, .int x3] : List Value).toArray = args at E ⊢
  have E : EN p s m args meth c cX1_hasEnough 8 (some .boolean) RX1 g := E
  have hx := E.1
  have hb := E.2.1
  unfold f_X1_hasEnough at hf
  refine lv_iconst (v := 0) hx hb dX1_hasEnough_0 (by decide) ?_
  refine lv_istore (lv' := [(4, .int (0 : Int32)), (0, .ref (ad g a0)), (1, .int x1), (2, .int x2), (3, .int x3)]) hx hb dX1_hasEnough_1 hl (by decide) rfl (fun ls hl => ?_)
  refine lv_iconst (v := 0) hx hb dX1_hasEnough_3 (by decide) ?_
  refine lv_istore (lv' := [(5, .int (0 : Int32)), (4, .int (0 : Int32)), (0, .ref (ad g a0)), (1, .int x1), (2, .int x2), (3, .int x3)]) hx hb dX1_hasEnough_4 hl (by decide) rfl (fun ls hl => ?_)
  refine lv_iconst (v := 0) hx hb dX1_hasEnough_6 (by decide) ?_
  refine lv_istore (lv' := [(6, .int (0 : Int32)), (5, .int (0 : Int32)), (4, .int (0 : Int32)), (0, .ref (ad g a0)), (1, .int x1), (2, .int x2), (3, .int x3)]) hx hb dX1_hasEnough_7 hl (by decide) rfl (fun ls hl => ?_)
  obtain ⟨n16, hf⟩ := hf
  refine w_X1_hasEnough_L9 _ _ _ _ _ _ E hw hs0 ?_ n16 _ _ _ _ hf _ _ _ hR hS (lv_sub hl [3, 4, 5, 6, 2, 1, 0] rfl)
  intro v11 v12 m13 H locs ls hf hR hS hl
  refine lv_iload hx hb dX1_hasEnough_70 (lv_at hl 2 rfl) ?_
  refine lv_iload_n hx hb dX1_hasEnough_72 rfl (lv_at hl 0 rfl) ?_
  refine lv_icmp_ne (tgt := 86) hx hb dX1_hasEnough_73 (by decide) (fun c14 => ?_) (fun c14 => ?_)
  · replace hf := hf.2 c14
    refine lv_iconst (v := 0) hx hb dX1_hasEnough_86 (by decide) ?_
    exact hw_zret E hR hS (by decide) ⟨_, rfl, hf⟩ dX1_hasEnough_87
  · replace hf := hf.1 c14
    refine lv_iload hx hb dX1_hasEnough_76 (lv_at hl 3 rfl) ?_
    refine lv_iload_n hx hb dX1_hasEnough_78 rfl (lv_at hl 1 rfl) ?_
    refine lv_icmp_lt (tgt := 86) hx hb dX1_hasEnough_79 (by decide) (fun c15 => ?_) (fun c15 => ?_)
    · replace hf := hf.1 c15
      refine lv_iconst (v := 0) hx hb dX1_hasEnough_86 (by decide) ?_
      exact hw_zret E hR hS (by decide) ⟨_, rfl, hf⟩ dX1_hasEnough_87
    · replace hf := hf.2 c15
      refine lv_iconst (v := 1) hx hb dX1_hasEnough_82 (by decide) ?_
      refine lv_goto (tgt := 87) hx hb dX1_hasEnough_83 (by decide) ?_
      exact hw_zret E hR hS (by decide) ⟨_, rfl, hf⟩ dX1_hasEnough_87
def f_X4_copy (S : Ss) (a0 : Nat) (a1 : Nat) (M : Mm) (K : Mm → Prop) : Prop :=
  ∀ m1 : Mm, m1 = stJ M a0 0 (M.2.1 a1 0) →
  ∀ m2 : Mm, m2 = stJ m1 a0 1 (m1.2.1 a1 1) →
  K m2
set_option maxHeartbeats 4000000 in
set_option maxRecDepth 100000 in
theorem ok_X4_copy {l : Launch} {g : Gg} {S : Ss} {a0 : Nat} {a1 : Nat} {M : Mm} {K : Mm → Prop} (hs0 : S[a0]? = some (3, 0)) (hs1 : S[a1]? = some (3, 0)) (hf : f_X4_copy S a0 a1 M K) : MT l g S yX4_copy cX4_copy 2 none 0 [.ref (ad g a0), .ref (ad g a1)] M (pV K) := by
  refine MT.of (by decide +kernel) (Nat.le_of_ble_eq_true rfl) ?_
  intro p e s m below meth c ls E hw hR hS hl
  have hl : lv_has ls 2 [(0, .ref (ad g a0)), (1, .ref (ad g a1))] := hl
  generalize ([.ref (ad g a0), .ref (ad g a1)] : List Value).toArray = args at E ⊢
  have E : EN p s m args meth c cX4_copy 2 none RX4 g := E
  have hx := E.1
  have hb := E.2.1
  unfold f_X4_copy at hf
  refine lv_aload_n hx hb dX4_copy_0 rfl (lv_at hl 0 rfl) ?_
  refine lv_aload_n hx hb dX4_copy_1 rfl (lv_at hl 1 rfl) ?_
  refine hw_getJ E hR cI3 hs1 0 (by decide) lfX4_9 rfl dX4_copy_2 ?_
  refine hw_putJ E hR hS hw cI3 hs0 0 (by decide) lfX4_9 rfl rfl dX4_copy_5 (fun m1 H locs em1 hR hS => ?_)
  replace hf := hf m1 em1
  refine lv_aload_n hx hb dX4_copy_8 rfl (lv_at hl 0 rfl) ?_
  refine lv_aload_n hx hb dX4_copy_9 rfl (lv_at hl 1 rfl) ?_
  refine hw_getJ E hR cI3 hs1 1 (by decide) lfX4_15 rfl dX4_copy_10 ?_
  refine hw_putJ E hR hS hw cI3 hs0 1 (by decide) lfX4_15 rfl rfl dX4_copy_13 (fun m2 H locs em2 hR hS => ?_)
  replace hf := hf m2 em2
  exact hw_vret E hR hS ⟨rfl, hf⟩ dX4_copy_16
def f_X2_take (S : Ss) (a0 : Nat) (a1 : Nat) (a2 : Nat) (M : Mm) (K : Mm → Prop) : Prop :=
  ∃ b1 : Nat, M.2.2 a0 0 = some b1 ∧
  S[b1]? = some (3, 0) ∧
  f_X4_copy S b1 a1 M (fun (m2 : Mm) =>
    ∃ b4 : Nat, m2.2.2 a2 6 = some b4 ∧
  ∃ b5 : Nat, m2.2.2 a0 1 = some b5 ∧
  ∃ n7 n8 : Nat, S[b4]? = some (50, n7) ∧ S[b5]? = some (50, n8) ∧ ¬ (0 : Int32) < 0 ∧ ¬ (0 : Int32) < 0 ∧ ¬ (4 : Int32) < 0 ∧ (0 : Int32).toNatClampNeg + (4 : Int32).toNatClampNeg ≤ n7 ∧ (0 : Int32).toNatClampNeg + (4 : Int32).toNatClampNeg ≤ n8 ∧
  ∀ m6 : Mm, m6 = cpI m2 b4 b5 (0 : Int32).toNatClampNeg (0 : Int32).toNatClampNeg (4 : Int32).toNatClampNeg →
  ∀ m9 : Mm, m9 = stI m6 a0 2 (m6.1 a2 13) →
  ∀ m10 : Mm, m10 = stI m9 a0 3 (m9.1 a2 14) →
  ∀ m11 : Mm, m11 = stI m10 a0 4 (1 : Int32) →
  K m11)
set_option maxHeartbeats 4000000 in
set_option maxRecDepth 100000 in
theorem ok_X2_take {l : Launch} {g : Gg} {S : Ss} {a0 : Nat} {a1 : Nat} {a2 : Nat} {M : Mm} {K : Mm → Prop} (hs0 : S[a0]? = some (1, 0)) (hs1 : S[a1]? = some (3, 0)) (hs2 : S[a2]? = some (2, 0)) (hf : f_X2_take S a0 a1 a2 M K) : MT l g S yX2_take cX2_take 3 none 1 [.ref (ad g a0), .ref (ad g a1), .ref (ad g a2)] M (pV K) := by
  refine MT.of (by decide +kernel) (Nat.le_of_ble_eq_true rfl) ?_
  intro p e s m below meth c ls E hw hR hS hl
  have hl : lv_has ls 3 [(0, .ref (ad g a0)), (1, .ref (ad g a1)), (2, .ref (ad g a2))] := hl
  generalize ([.ref (ad g a0), .ref (ad g a1), .ref (ad g a2)] : List Value).toArray = args at E ⊢
  have E : EN p s m args meth c cX2_take 3 none RX2 g := E
  have hx := E.1
  have hb := E.2.1
  unfold f_X2_take at hf
  refine lv_aload_n hx hb dX2_take_0 rfl (lv_at hl 0 rfl) ?_
  obtain ⟨b1, hb1, hf⟩ := hf
  refine hw_getR E hR cI1 hs0 0 (by decide) lfX2_12 rfl hb1 dX2_take_1 ?_
  refine lv_aload_n hx hb dX2_take_4 rfl (lv_at hl 1 rfl) ?_
  obtain ⟨h3, hf⟩ := hf
  refine hw_callV (d := 1) E hR hS (As := [.ref (ad g a1)]) (rest := []) cI3 h3 rfl mcX4_copy miX4_copy lmX2_33 (ok_X4_copy h3 hs1 hf) rfl rfl (by decide) hl.1 (Nat.le_of_ble_eq_true rfl) dX2_take_5 (fun rr m2 H locs hp hR hS => ?_)
  obtain ⟨rfl, hf⟩ := hp
  refine W.eq (g2 := F0 m 8 ls []) rfl ?_
  refine lv_aload_n hx hb dX2_take_8 rfl (lv_at hl 2 rfl) ?_
  obtain ⟨b4, hb4, hf⟩ := hf
  refine hw_getR E hR cI2 hs2 6 (by decide) lfX2_37 rfl hb4 dX2_take_9 ?_
  refine lv_iconst (v := 0) hx hb dX2_take_12 (by decide) ?_
  refine lv_aload_n hx hb dX2_take_13 rfl (lv_at hl 0 rfl) ?_
  obtain ⟨b5, hb5, hf⟩ := hf
  refine hw_getR E hR cI1 hs0 1 (by decide) lfX2_18 rfl hb5 dX2_take_14 ?_
  refine lv_iconst (v := 0) hx hb dX2_take_17 (by decide) ?_
  refine lv_iconst (v := 4) hx hb dX2_take_18 (by decide) ?_
  obtain ⟨n7, n8, hn7, hn8, z1, z2, z3, z4, z5, hf⟩ := hf
  refine hw_copy50 (d := 1) (rest := []) E hR hS hw hl laX2_40 hn7 hn8 z1 z2 z3 z4 z5 (by decide) (Nat.le_of_ble_eq_true rfl) dX2_take_19 (fun m6 H locs em6 hR hS => ?_)
  replace hf := hf m6 em6
  refine lv_aload_n hx hb dX2_take_22 rfl (lv_at hl 0 rfl) ?_
  refine lv_aload_n hx hb dX2_take_23 rfl (lv_at hl 2 rfl) ?_
  refine hw_getI E hR cI2 hs2 13 (by decide) lfX2_46 rfl dX2_take_24 ?_
  refine hw_putI E hR hS hw cI1 hs0 2 (by decide) lfX2_22 rfl (Or.inl rfl) dX2_take_27 (fun m9 H locs em9 hR hS => ?_)
  replace hf := hf m9 em9
  refine lv_aload_n hx hb dX2_take_30 rfl (lv_at hl 0 rfl) ?_
  refine lv_aload_n hx hb dX2_take_31 rfl (lv_at hl 2 rfl) ?_
  refine hw_getI E hR cI2 hs2 14 (by decide) lfX2_47 rfl dX2_take_32 ?_
  refine hw_putI E hR hS hw cI1 hs0 3 (by decide) lfX2_26 rfl (Or.inl rfl) dX2_take_35 (fun m10 H locs em10 hR hS => ?_)
  replace hf := hf m10 em10
  refine lv_aload_n hx hb dX2_take_38 rfl (lv_at hl 0 rfl) ?_
  refine lv_iconst (v := 1) hx hb dX2_take_39 (by decide) ?_
  refine hw_putI E hR hS hw cI1 hs0 4 (by decide) lfX2_29 rfl (Or.inr ⟨rfl, by decide⟩) dX2_take_40 (fun m11 H locs em11 hR hS => ?_)
  replace hf := hf m11 em11
  exact hw_vret E hR hS ⟨rfl, hf⟩ dX2_take_43
def f_X2_giveBack (S : Ss) (a0 : Nat) (a1 : Nat) (a2 : Nat) (M : Mm) (K : Mm → Prop) : Prop :=
  ∃ b1 : Nat, M.2.2 a0 0 = some b1 ∧
  S[b1]? = some (3, 0) ∧
  f_X4_copy S a1 b1 M (fun (m2 : Mm) =>
    ∃ b4 : Nat, m2.2.2 a0 1 = some b4 ∧
  ∃ b5 : Nat, m2.2.2 a2 6 = some b5 ∧
  ∃ n7 n8 : Nat, S[b4]? = some (50, n7) ∧ S[b5]? = some (50, n8) ∧ ¬ (0 : Int32) < 0 ∧ ¬ (0 : Int32) < 0 ∧ ¬ (4 : Int32) < 0 ∧ (0 : Int32).toNatClampNeg + (4 : Int32).toNatClampNeg ≤ n7 ∧ (0 : Int32).toNatClampNeg + (4 : Int32).toNatClampNeg ≤ n8 ∧
  ∀ m6 : Mm, m6 = cpI m2 b4 b5 (0 : Int32).toNatClampNeg (0 : Int32).toNatClampNeg (4 : Int32).toNatClampNeg →
  ∀ m9 : Mm, m9 = stI m6 a2 13 (m6.1 a0 2) →
  ∀ m10 : Mm, m10 = stI m9 a2 14 (m9.1 a0 3) →
  K m10)
set_option maxHeartbeats 4000000 in
set_option maxRecDepth 100000 in
theorem ok_X2_giveBack {l : Launch} {g : Gg} {S : Ss} {a0 : Nat} {a1 : Nat} {a2 : Nat} {M : Mm} {K : Mm → Prop} (hs0 : S[a0]? = some (1, 0)) (hs1 : S[a1]? = some (3, 0)) (hs2 : S[a2]? = some (2, 0)) (hf : f_X2_giveBack S a0 a1 a2 M K) : MT l g S yX2_giveBack cX2_giveBack 3 none 1 [.ref (ad g a0), .ref (ad g a1), .ref (ad g a2)] M (pV K) := by
  refine MT.of (by decide +kernel) (Nat.le_of_ble_eq_true rfl) ?_
  intro p e s m below meth c ls E hw hR hS hl
  have hl : lv_has ls 3 [(0, .ref (ad g a0)), (1, .ref (ad g a1)), (2, .ref (ad g a2))] := hl
  generalize ([.ref (ad g a0), .ref (ad g a1), .ref (ad g a2)] : List Value).toArray = args at E ⊢
  have E : EN p s m args meth c cX2_giveBack 3 none RX2 g := E
  have hx := E.1
  have hb := E.2.1
  unfold f_X2_giveBack at hf
  refine lv_aload_n hx hb dX2_giveBack_0 rfl (lv_at hl 1 rfl) ?_
  refine lv_aload_n hx hb dX2_giveBack_1 rfl (lv_at hl 0 rfl) ?_
  obtain ⟨b1, hb1, hf⟩ := hf
  refine hw_getR E hR cI1 hs0 0 (by decide) lfX2_12 rfl hb1 dX2_giveBack_2 ?_
  obtain ⟨h3, hf⟩ := hf
  refine hw_callV (d := 1) E hR hS (As := [.ref (ad g b1)]) (rest := []) cI3 hs1 rfl mcX4_copy miX4_copy lmX2_33 (ok_X4_copy hs1 h3 hf) rfl rfl (by decide) hl.1 (Nat.le_of_ble_eq_true rfl) dX2_giveBack_5 (fun rr m2 H locs hp hR hS => ?_)
  obtain ⟨rfl, hf⟩ := hp
  refine W.eq (g2 := F0 m 8 ls []) rfl ?_
  refine lv_aload_n hx hb dX2_giveBack_8 rfl (lv_at hl 0 rfl) ?_
  obtain ⟨b4, hb4, hf⟩ := hf
  refine hw_getR E hR cI1 hs0 1 (by decide) lfX2_18 rfl hb4 dX2_giveBack_9 ?_
  refine lv_iconst (v := 0) hx hb dX2_giveBack_12 (by decide) ?_
  refine lv_aload_n hx hb dX2_giveBack_13 rfl (lv_at hl 2 rfl) ?_
  obtain ⟨b5, hb5, hf⟩ := hf
  refine hw_getR E hR cI2 hs2 6 (by decide) lfX2_37 rfl hb5 dX2_giveBack_14 ?_
  refine lv_iconst (v := 0) hx hb dX2_giveBack_17 (by decide) ?_
  refine lv_iconst (v := 4) hx hb dX2_giveBack_18 (by decide) ?_
  obtain ⟨n7, n8, hn7, hn8, z1, z2, z3, z4, z5, hf⟩ := hf
  refine hw_copy50 (d := 1) (rest := []) E hR hS hw hl laX2_40 hn7 hn8 z1 z2 z3 z4 z5 (by decide) (Nat.le_of_ble_eq_true rfl) dX2_giveBack_19 (fun m6 H locs em6 hR hS => ?_)
  replace hf := hf m6 em6
  refine lv_aload_n hx hb dX2_giveBack_22 rfl (lv_at hl 2 rfl) ?_
  refine lv_aload_n hx hb dX2_giveBack_23 rfl (lv_at hl 0 rfl) ?_
  refine hw_getI E hR cI1 hs0 2 (by decide) lfX2_22 rfl dX2_giveBack_24 ?_
  refine hw_putI E hR hS hw cI2 hs2 13 (by decide) lfX2_46 rfl (Or.inl rfl) dX2_giveBack_27 (fun m9 H locs em9 hR hS => ?_)
  replace hf := hf m9 em9
  refine lv_aload_n hx hb dX2_giveBack_30 rfl (lv_at hl 2 rfl) ?_
  refine lv_aload_n hx hb dX2_giveBack_31 rfl (lv_at hl 0 rfl) ?_
  refine hw_getI E hR cI1 hs0 3 (by decide) lfX2_26 rfl dX2_giveBack_32 ?_
  refine hw_putI E hR hS hw cI2 hs2 14 (by decide) lfX2_47 rfl (Or.inl rfl) dX2_giveBack_35 (fun m10 H locs em10 hR hS => ?_)
  replace hf := hf m10 em10
  exact hw_vret E hR hS ⟨rfl, hf⟩ dX2_giveBack_38
def f_X4_putPart (S : Ss) (a0 : Nat) (x1 : Int32) (x2 : Int32) (x3 : Int32) (M : Mm) (K : Mm → Prop) : Prop :=
  ∀ v1 : Int32, v1 = (x1 * (6 : Int32)) →
  ∀ v2 : Int64, v2 = (((x3 &&& (15 : Int32)) <<< ((2 : Int32) &&& 31)) ||| (x2 &&& (3 : Int32))).toInt64 →
  ∀ m3 : Mm, m3 = stJ M a0 1 (((M.2.1 a0 1) &&& (((63 : Int64) <<< (v1.toInt64 &&& 63)) ^^^ (-1 : Int64))) ||| (v2 <<< (v1.toInt64 &&& 63))) →
  K m3
set_option maxHeartbeats 4000000 in
set_option maxRecDepth 100000 in
theorem ok_X4_putPart {l : Launch} {g : Gg} {S : Ss} {a0 : Nat} {x1 : Int32} {x2 : Int32} {x3 : Int32} {M : Mm} {K : Mm → Prop} (hs0 : S[a0]? = some (3, 0)) (hf : f_X4_putPart S a0 x1 x2 x3 M K) : MT l g S yX4_putPart cX4_putPart 7 none 0 [.ref (ad g a0), .int x1, .int x2, .int x3] M (pV K) := by
  refine MT.of (by decide +kernel) (Nat.le_of_ble_eq_true rfl) ?_
  intro p e s m below meth c ls E hw hR hS hl
  have hl : lv_has ls 7 [(0, .ref (ad g a0)), (1, .int x1), (2, .int x2), (3, .int x3)] := hl
  generalize ([.ref (ad g a0), .int x1, .int x2, .int x3] : List Value).toArray = args at E ⊢
  have E : EN p s m args meth c cX4_putPart 7 none RX4 g := E
  have hx := E.1
  have hb := E.2.1
  unfold f_X4_putPart at hf
  refine lv_iload_n hx hb dX4_putPart_0 rfl (lv_at hl 1 rfl) ?_
  refine lv_bipush (v := 6) hx hb dX4_putPart_1 (by decide) ?_
  refine lv_imul hx hb dX4_putPart_3 ?_
  refine lv_topi (fun v1 ev1 => ?_)
  replace hf := hf v1 ev1
  refine lv_istore (lv' := [(4, .int v1), (0, .ref (ad g a0)), (1, .int x1), (2, .int x2), (3, .int x3)]) hx hb dX4_putPart_4 hl (by decide) rfl (fun ls hl => ?_)
  refine lv_iload_n hx hb dX4_putPart_6 rfl (lv_at hl 4 rfl) ?_
  refine lv_bipush (v := 15) hx hb dX4_putPart_7 (by decide) ?_
  refine lv_iand hx hb dX4_putPart_9 ?_
  refine lv_iconst (v := 2) hx hb dX4_putPart_10 (by decide) ?_
  refine lv_ishl hx hb dX4_putPart_11 ?_
  refine lv_iload_n hx hb dX4_putPart_12 rfl (lv_at hl 3 rfl) ?_
  refine lv_iconst (v := 3) hx hb dX4_putPart_13 (by decide) ?_
  refine lv_iand hx hb dX4_putPart_14 ?_
  refine lv_ior hx hb dX4_putPart_15 ?_
  refine lv_i2l hx hb dX4_putPart_16 rfl ?_
  refine lv_topl (fun v2 ev2 => ?_)
  replace hf := hf v2 ev2
  refine lv_lstore (lv' := [(5, .long v2), (4, .int v1), (0, .ref (ad g a0)), (1, .int x1), (2, .int x2), (3, .int x3)]) hx hb dX4_putPart_17 hl (by decide) rfl (fun ls hl => ?_)
  refine lv_aload_n hx hb dX4_putPart_19 rfl (lv_at hl 2 rfl) ?_
  refine lv_aload_n hx hb dX4_putPart_20 rfl (lv_at hl 2 rfl) ?_
  refine hw_getJ E hR cI3 hs0 1 (by decide) lfX4_15 rfl dX4_putPart_21 ?_
  refine lv_ldc2 (v := 63) hx hb E.2.2.2.2.1 (E.2.2.2.2.2.1 _ ljX4_42) dX4_putPart_24 ?_
  refine lv_iload hx hb dX4_putPart_27 (lv_at hl 1 rfl) ?_
  refine lv_lshl hx hb dX4_putPart_29 rfl ?_
  refine lv_ldc2 (v := -1) hx hb E.2.2.2.2.1 (E.2.2.2.2.2.1 _ ljX4_36) dX4_putPart_30 ?_
  refine lv_lxor hx hb dX4_putPart_33 ?_
  refine lv_land hx hb dX4_putPart_34 ?_
  refine lv_lload hx hb dX4_putPart_35 (lv_at hl 0 rfl) ?_
  refine lv_iload hx hb dX4_putPart_37 (lv_at hl 1 rfl) ?_
  refine lv_lshl hx hb dX4_putPart_39 rfl ?_
  refine lv_lor hx hb dX4_putPart_40 ?_
  refine hw_putJ E hR hS hw cI3 hs0 1 (by decide) lfX4_15 rfl rfl dX4_putPart_41 (fun m3 H locs em3 hR hS => ?_)
  replace hf := hf m3 em3
  exact hw_vret E hR hS ⟨rfl, hf⟩ dX4_putPart_44
def f_X4_targetOf (S : Ss) (a0 : Nat) (x1 : Int32) (M : Mm) (K : Int32 → Mm → Prop) : Prop :=
  K (((M.2.1 a0 1).toUInt64 >>> ((x1 * (6 : Int32)).toInt64.toUInt64 &&& Int64.toUInt64 63)).toInt64.toInt32 &&& (3 : Int32)) M
set_option maxHeartbeats 4000000 in
set_option maxRecDepth 100000 in
theorem ok_X4_targetOf {l : Launch} {g : Gg} {S : Ss} {a0 : Nat} {x1 : Int32} {M : Mm} {K : Int32 → Mm → Prop} (hs0 : S[a0]? = some (3, 0)) (hf : f_X4_targetOf S a0 x1 M K) : MT l g S yX4_targetOf cX4_targetOf 2 (some .int) 0 [.ref (ad g a0), .int x1] M (pI K) := by
  refine MT.of (by decide +kernel) (Nat.le_of_ble_eq_true rfl) ?_
  intro p e s m below meth c ls E hw hR hS hl
  have hl : lv_has ls 2 [(0, .ref (ad g a0)), (1, .int x1)] := hl
  generalize ([.ref (ad g a0), .int x1] : List Value).toArray = args at E ⊢
  have E : EN p s m args meth c cX4_targetOf 2 (some .int) RX4 g := E
  have hx := E.1
  have hb := E.2.1
  unfold f_X4_targetOf at hf
  refine lv_aload_n hx hb dX4_targetOf_0 rfl (lv_at hl 0 rfl) ?_
  refine hw_getJ E hR cI3 hs0 1 (by decide) lfX4_15 rfl dX4_targetOf_1 ?_
  refine lv_iload_n hx hb dX4_targetOf_4 rfl (lv_at hl 1 rfl) ?_
  refine lv_bipush (v := 6) hx hb dX4_targetOf_5 (by decide) ?_
  refine lv_imul hx hb dX4_targetOf_7 ?_
  refine lv_lushr hx hb dX4_targetOf_8 rfl ?_
  refine lv_l2i hx hb dX4_targetOf_9 rfl ?_
  refine lv_iconst (v := 3) hx hb dX4_targetOf_10 (by decide) ?_
  refine lv_iand hx hb dX4_targetOf_11 ?_
  exact hw_iret E hR hS ⟨_, rfl, hf⟩ dX4_targetOf_12
def f_X4_tenthsIn (S : Ss) (x0 : Int64) (x2 : Int32) (M : Mm) (K : Int32 → Mm → Prop) : Prop :=
  K ((x0.toUInt64 >>> (((x2 * (6 : Int32)) + (2 : Int32)).toInt64.toUInt64 &&& Int64.toUInt64 63)).toInt64.toInt32 &&& (15 : Int32)) M
set_option maxHeartbeats 4000000 in
set_option maxRecDepth 100000 in
theorem ok_X4_tenthsIn {l : Launch} {g : Gg} {S : Ss} {x0 : Int64} {x2 : Int32} {M : Mm} {K : Int32 → Mm → Prop} (hf : f_X4_tenthsIn S x0 x2 M K) : MT l g S yX4_tenthsIn cX4_tenthsIn 3 (some .int) 0 [.long x0, .int x2] M (pI K) := by
  refine MT.of (by decide +kernel) (Nat.le_of_ble_eq_true rfl) ?_
  intro p e s m below meth c ls E hw hR hS hl
  have hl : lv_has ls 3 [(0, .long x0), (2, .int x2)] := hl
  generalize ([.long x0, .int x2] : List Value).toArray = args at E ⊢
  have E : EN p s m args meth c cX4_tenthsIn 3 (some .int) RX4 g := E
  have hx := E.1
  have hb := E.2.1
  unfold f_X4_tenthsIn at hf
  refine lv_lload_n hx hb dX4_tenthsIn_0 rfl (lv_at hl 0 rfl) ?_
  refine lv_iload_n hx hb dX4_tenthsIn_1 rfl (lv_at hl 1 rfl) ?_
  refine lv_bipush (v := 6) hx hb dX4_tenthsIn_2 (by decide) ?_
  refine lv_imul hx hb dX4_tenthsIn_4 ?_
  refine lv_iconst (v := 2) hx hb dX4_tenthsIn_5 (by decide) ?_
  refine lv_iadd hx hb dX4_tenthsIn_6 ?_
  refine lv_lushr hx hb dX4_tenthsIn_7 rfl ?_
  refine lv_l2i hx hb dX4_tenthsIn_8 rfl ?_
  refine lv_bipush (v := 15) hx hb dX4_tenthsIn_9 (by decide) ?_
  refine lv_iand hx hb dX4_tenthsIn_11 ?_
  exact hw_iret E hR hS ⟨_, rfl, hf⟩ dX4_tenthsIn_12
def f_X4_tenthsOf (S : Ss) (a0 : Nat) (x1 : Int32) (M : Mm) (K : Int32 → Mm → Prop) : Prop :=
  f_X4_tenthsIn S  (M.2.1 a0 1) x1 M (fun (r2 : Int32) (m1 : Mm) =>
    K r2 m1)
set_option maxHeartbeats 4000000 in
set_option maxRecDepth 100000 in
theorem ok_X4_tenthsOf {l : Launch} {g : Gg} {S : Ss} {a0 : Nat} {x1 : Int32} {M : Mm} {K : Int32 → Mm → Prop} (hs0 : S[a0]? = some (3, 0)) (hf : f_X4_tenthsOf S a0 x1 M K) : MT l g S yX4_tenthsOf cX4_tenthsOf 2 (some .int) 1 [.ref (ad g a0), .int x1] M (pI K) := by
  refine MT.of (by decide +kernel) (Nat.le_of_ble_eq_true rfl) ?_
  intro p e s m below meth c ls E hw hR hS hl
  have hl : lv_has ls 2 [(0, .ref (ad g a0)), (1, .int x1)] := hl
  generalize ([.ref (ad g a0), .int x1] : List Value).toArray = args at E ⊢
  have E : EN p s m args meth c cX4_tenthsOf 2 (some .int) RX4 g := E
  have hx := E.1
  have hb := E.2.1
  unfold f_X4_tenthsOf at hf
  refine lv_aload_n hx hb dX4_tenthsOf_0 rfl (lv_at hl 0 rfl) ?_
  refine hw_getJ E hR cI3 hs0 1 (by decide) lfX4_15 rfl dX4_tenthsOf_1 ?_
  refine lv_iload_n hx hb dX4_tenthsOf_4 rfl (lv_at hl 1 rfl) ?_
  refine hw_callS (d := 1) E hR hS (As := [.long (M.2.1 a0 1), .int x1]) (rest := []) mcX4_tenthsIn msX4_tenthsIn lmX4_38 (ok_X4_tenthsIn  hf) rfl rfl (by decide) hl.1 (Nat.le_of_ble_eq_true rfl) dX4_tenthsOf_5 (fun rr m1 H locs hp hR hS => ?_)
  obtain ⟨r2, rfl, hf⟩ := hp
  refine W.eq (g2 := F0 m 8 ls [.int r2]) rfl ?_
  exact hw_iret E hR hS ⟨_, rfl, hf⟩ dX4_tenthsOf_8
def f_X4_putSlot (S : Ss) (a0 : Nat) (x1 : Int32) (x2 : Int32) (M : Mm) (K : Mm → Prop) : Prop :=
  ∀ v1 : Int32, v1 = (x1 * (8 : Int32)) →
  ∀ m2 : Mm, m2 = stJ M a0 0 (((M.2.1 a0 0) &&& (((255 : Int64) <<< (v1.toInt64 &&& 63)) ^^^ (-1 : Int64))) ||| ((x2 &&& (255 : Int32)).toInt64 <<< (v1.toInt64 &&& 63))) →
  K m2
set_option maxHeartbeats 4000000 in
set_option maxRecDepth 100000 in
theorem ok_X4_putSlot {l : Launch} {g : Gg} {S : Ss} {a0 : Nat} {x1 : Int32} {x2 : Int32} {M : Mm} {K : Mm → Prop} (hs0 : S[a0]? = some (3, 0)) (hf : f_X4_putSlot S a0 x1 x2 M K) : MT l g S yX4_putSlot cX4_putSlot 4 none 0 [.ref (ad g a0), .int x1, .int x2] M (pV K) := by
  refine MT.of (by decide +kernel) (Nat.le_of_ble_eq_true rfl) ?_
  intro p e s m below meth c ls E hw hR hS hl
  have hl : lv_has ls 4 [(0, .ref (ad g a0)), (1, .int x1), (2, .int x2)] := hl
  generalize ([.ref (ad g a0), .int x1, .int x2] : List Value).toArray = args at E ⊢
  have E : EN p s m args meth c cX4_putSlot 4 none RX4 g := E
  have hx := E.1
  have hb := E.2.1
  unfold f_X4_putSlot at hf
  refine lv_iload_n hx hb dX4_putSlot_0 rfl (lv_at hl 1 rfl) ?_
  refine lv_bipush (v := 8) hx hb dX4_putSlot_1 (by decide) ?_
  refine lv_imul hx hb dX4_putSlot_3 ?_
  refine lv_topi (fun v1 ev1 => ?_)
  replace hf := hf v1 ev1
  refine lv_istore_n (lv' := [(3, .int v1), (0, .ref (ad g a0)), (1, .int x1), (2, .int x2)]) hx hb dX4_putSlot_4 rfl hl (by decide) rfl (fun ls hl => ?_)
  refine lv_aload_n hx hb dX4_putSlot_5 rfl (lv_at hl 1 rfl) ?_
  refine lv_aload_n hx hb dX4_putSlot_6 rfl (lv_at hl 1 rfl) ?_
  refine hw_getJ E hR cI3 hs0 0 (by decide) lfX4_9 rfl dX4_putSlot_7 ?_
  refine lv_ldc2 (v := 255) hx hb E.2.2.2.2.1 (E.2.2.2.2.2.1 _ ljX4_34) dX4_putSlot_10 ?_
  refine lv_iload_n hx hb dX4_putSlot_13 rfl (lv_at hl 0 rfl) ?_
  refine lv_lshl hx hb dX4_putSlot_14 rfl ?_
  refine lv_ldc2 (v := -1) hx hb E.2.2.2.2.1 (E.2.2.2.2.2.1 _ ljX4_36) dX4_putSlot_15 ?_
  refine lv_lxor hx hb dX4_putSlot_18 ?_
  refine lv_land hx hb dX4_putSlot_19 ?_
  refine lv_iload_n hx hb dX4_putSlot_20 rfl (lv_at hl 3 rfl) ?_
  refine lv_sipush (v := 255) hx hb dX4_putSlot_21 (by decide) ?_
  refine lv_iand hx hb dX4_putSlot_24 ?_
  refine lv_i2l hx hb dX4_putSlot_25 rfl ?_
  refine lv_iload_n hx hb dX4_putSlot_26 rfl (lv_at hl 0 rfl) ?_
  refine lv_lshl hx hb dX4_putSlot_27 rfl ?_
  refine lv_lor hx hb dX4_putSlot_28 ?_
  refine hw_putJ E hR hS hw cI3 hs0 0 (by decide) lfX4_9 rfl rfl dX4_putSlot_29 (fun m2 H locs em2 hR hS => ?_)
  replace hf := hf m2 em2
  exact hw_vret E hR hS ⟨rfl, hf⟩ dX4_putSlot_32
def f_X4_beginStep (S : Ss) (a0 : Nat) (x1 : Int32) (x2 : Int32) (M : Mm) (K : Mm → Prop) : Prop :=
  ∀ m1 : Mm, m1 = stI M a0 2 (0 : Int32) →
  ∀ m2 : Mm, m2 = stI m1 a0 3 (0 : Int32) →
  ∀ m3 : Mm, m3 = stI m2 a0 4 (0 : Int32) →
  ∀ m4 : Mm, m4 = stI m3 a0 6 (0 : Int32) →
  ∀ m5 : Mm, m5 = stI m4 a0 5 x1 →
  ((x2 ≤ 0 →
    K m5) ∧
   (¬ x2 ≤ 0 →
    f_X4_putSlot S a0 (7 : Int32) x2 m5 (fun (m7 : Mm) =>
      K m7)))
set_option maxHeartbeats 4000000 in
set_option maxRecDepth 100000 in
theorem ok_X4_beginStep {l : Launch} {g : Gg} {S : Ss} {a0 : Nat} {x1 : Int32} {x2 : Int32} {M : Mm} {K : Mm → Prop} (hs0 : S[a0]? = some (3, 0)) (hf : f_X4_beginStep S a0 x1 x2 M K) : MT l g S yX4_beginStep cX4_beginStep 3 none 1 [.ref (ad g a0), .int x1, .int x2] M (pV K) := by
  refine MT.of (by decide +kernel) (Nat.le_of_ble_eq_true rfl) ?_
  intro p e s m below meth c ls E hw hR hS hl
  have hl : lv_has ls 3 [(0, .ref (ad g a0)), (1, .int x1), (2, .int x2)] := hl
  generalize ([.ref (ad g a0), .int x1, .int x2] : List Value).toArray = args at E ⊢
  have E : EN p s m args meth c cX4_beginStep 3 none RX4 g := E
  have hx := E.1
  have hb := E.2.1
  unfold f_X4_beginStep at hf
  refine lv_aload_n hx hb dX4_beginStep_0 rfl (lv_at hl 0 rfl) ?_
  refine lv_iconst (v := 0) hx hb dX4_beginStep_1 (by decide) ?_
  refine hw_putI E hR hS hw cI3 hs0 2 (by decide) lfX4_18 rfl (Or.inl rfl) dX4_beginStep_2 (fun m1 H locs em1 hR hS => ?_)
  replace hf := hf m1 em1
  refine lv_aload_n hx hb dX4_beginStep_5 rfl (lv_at hl 0 rfl) ?_
  refine lv_iconst (v := 0) hx hb dX4_beginStep_6 (by decide) ?_
  refine hw_putI E hR hS hw cI3 hs0 3 (by decide) lfX4_22 rfl (Or.inl rfl) dX4_beginStep_7 (fun m2 H locs em2 hR hS => ?_)
  replace hf := hf m2 em2
  refine lv_aload_n hx hb dX4_beginStep_10 rfl (lv_at hl 0 rfl) ?_
  refine lv_iconst (v := 0) hx hb dX4_beginStep_11 (by decide) ?_
  refine hw_putI E hR hS hw cI3 hs0 4 (by decide) lfX4_25 rfl (Or.inl rfl) dX4_beginStep_12 (fun m3 H locs em3 hR hS => ?_)
  replace hf := hf m3 em3
  refine lv_aload_n hx hb dX4_beginStep_15 rfl (lv_at hl 0 rfl) ?_
  refine lv_iconst (v := 0) hx hb dX4_beginStep_16 (by decide) ?_
  refine hw_putI E hR hS hw cI3 hs0 6 (by decide) lfX4_31 rfl (Or.inl rfl) dX4_beginStep_17 (fun m4 H locs em4 hR hS => ?_)
  replace hf := hf m4 em4
  refine lv_aload_n hx hb dX4_beginStep_20 rfl (lv_at hl 0 rfl) ?_
  refine lv_iload_n hx hb dX4_beginStep_21 rfl (lv_at hl 1 rfl) ?_
  refine hw_putI E hR hS hw cI3 hs0 5 (by decide) lfX4_28 rfl (Or.inl rfl) dX4_beginStep_22 (fun m5 H locs em5 hR hS => ?_)
  replace hf := hf m5 em5
  refine lv_iload_n hx hb dX4_beginStep_25 rfl (lv_at hl 2 rfl) ?_
  refine lv_if_le (tgt := 36) hx hb dX4_beginStep_26 (by decide) (fun c6 => ?_) (fun c6 => ?_)
  · replace hf := hf.1 c6
    exact hw_vret E hR hS ⟨rfl, hf⟩ dX4_beginStep_36
  · replace hf := hf.2 c6
    refine lv_aload_n hx hb dX4_beginStep_29 rfl (lv_at hl 0 rfl) ?_
    refine lv_bipush (v := 7) hx hb dX4_beginStep_30 (by decide) ?_
    refine lv_iload_n hx hb dX4_beginStep_32 rfl (lv_at hl 2 rfl) ?_
    refine hw_callV (d := 1) E hR hS (As := [.int (7 : Int32), .int x2]) (rest := []) cI3 hs0 rfl mcX4_putSlot miX4_putSlot lmX4_46 (ok_X4_putSlot hs0 hf) rfl rfl (by decide) hl.1 (Nat.le_of_ble_eq_true rfl) dX4_beginStep_33 (fun rr m7 H locs hp hR hS => ?_)
    obtain ⟨rfl, hf⟩ := hp
    refine W.eq (g2 := F0 m 36 ls []) rfl ?_
    exact hw_vret E hR hS ⟨rfl, hf⟩ dX4_beginStep_36
def f_X4_endStep_B2 (S : Ss) (a0 : Nat) (x1 : Int64) (x3 : Int32) (M : Mm) (BK2 : Int32 → Mm → Prop) (EK2 : Mm → Prop) (K : Mm → Prop) : Prop :=
  (((4 : Int32) ≤ x3 →
    EK2 M) ∧
   (¬ (4 : Int32) ≤ x3 →
    f_X4_tenthsIn S  x1 x3 M (fun (r3 : Int32) (m2 : Mm) =>
      ((r3 ≤ 0 →
      ∀ v5 : Int32, v5 = x3 + (1 : Int32) →
      BK2 v5 m2) ∧
     (¬ r3 ≤ 0 →
      ∀ m6 : Mm, m6 = stJ m2 a0 1 ((m2.2.1 a0 1) - ((4 : Int64) <<< ((x3 * (6 : Int32)).toInt64 &&& 63))) →
      ∀ v7 : Int32, v7 = x3 + (1 : Int32) →
      BK2 v7 m6)))))
set_option maxHeartbeats 4000000 in
set_option maxRecDepth 100000 in
theorem w_X4_endStep_B2 {p : Program} {l : Launch} {e : Env} {s : State} {m : MethodId} {args : Array Value} {below : List Frame} {meth : Method} {c : Code} {g : Gg} {S : Ss} (a0 : Nat) (x1 : Int64) (x3 : Int32) (M : Mm) (BK2 : Int32 → Mm → Prop) (EK2 : Mm → Prop) (K : Mm → Prop) (E : EN p s m args meth c cX4_endStep 4 none RX4 g) (hw : ad g 100000 < s.heap.size) (hs0 : S[a0]? = some (3, 0)) (hBK2 : ∀ (x3' : Int32) (M' : Mm) (H : Heap) (locs : List Loc) (ls : Array Slot), BK2 x3' M' → RP g S M' H → va_S (gA g) s.heap H locs → lv_has ls 4 [(0, .ref (ad g a0)), (1, .long x1), (3, .int x3')] → W p l e (rmD 1) s m args below meth c H locs 0 0 (MQ below (QA g S (pV K)) args s 0 0 (gA g)) (F0 m 2 ls [])) (hEK2 : ∀ (M' : Mm) (H : Heap) (locs : List Loc) (ls : Array Slot), EK2 M' → RP g S M' H → va_S (gA g) s.heap H locs → lv_has ls 4 [] → W p l e (rmD 1) s m args below meth c H locs 0 0 (MQ below (QA g S (pV K)) args s 0 0 (gA g)) (F0 m 38 ls [])) (hf : f_X4_endStep_B2 S a0 x1 x3 M BK2 EK2 K) (H : Heap) (locs : List Loc) (ls : Array Slot) (hR : RP g S M H) (hS : va_S (gA g) s.heap H locs) (hl : lv_has ls 4 [(0, .ref (ad g a0)), (1, .long x1), (3, .int x3)]) : W p l e (rmD 1) s m args below meth c H locs 0 0 (MQ below (QA g S (pV K)) args s 0 0 (gA g)) (F0 m 2 ls []) := by
  have hx := E.1
  have hb := E.2.1
  unfold f_X4_endStep_B2 at hf
  refine lv_iload_n hx hb dX4_endStep_2 rfl (lv_at hl 2 rfl) ?_
  refine lv_iconst (v := 4) hx hb dX4_endStep_3 (by decide) ?_
  refine lv_icmp_ge (tgt := 38) hx hb dX4_endStep_4 (by decide) (fun c1 => ?_) (fun c1 => ?_)
  · replace hf := hf.1 c1
    exact hEK2  _ _ _ _ hf hR hS (lv_sub hl [] rfl)
  · replace hf := hf.2 c1
    refine lv_lload_n hx hb dX4_endStep_7 rfl (lv_at hl 1 rfl) ?_
    refine lv_iload_n hx hb dX4_endStep_8 rfl (lv_at hl 2 rfl) ?_
    refine hw_callS (d := 1) E hR hS (As := [.long x1, .int x3]) (rest := []) mcX4_tenthsIn msX4_tenthsIn lmX4_38 (ok_X4_tenthsIn  hf) rfl rfl (by decide) hl.1 (Nat.le_of_ble_eq_true rfl) dX4_endStep_9 (fun rr m2 H locs hp hR hS => ?_)
    obtain ⟨r3, rfl, hf⟩ := hp
    refine W.eq (g2 := F0 m 12 ls [.int r3]) rfl ?_
    refine lv_if_le (tgt := 32) hx hb dX4_endStep_12 (by decide) (fun c4 => ?_) (fun c4 => ?_)
    · replace hf := hf.1 c4
      obtain ⟨v5, ev5⟩ : ∃ y : Int32, y = x3 + (1 : Int32) := ⟨_, rfl⟩
      replace hf := hf v5 ev5
      refine lv_iinc (v := v5) (lv' := [(3, .int v5), (0, .ref (ad g a0)), (1, .long x1)]) hx hb dX4_endStep_32 hl (k := 2) rfl (by rw [ev5]; rfl) (by decide) rfl (fun ls hl => ?_)
      refine lv_goto (tgt := 2) hx hb dX4_endStep_35 (by decide) ?_
      exact hBK2 _ _ _ _ _ hf hR hS (lv_sub hl [1, 2, 0] rfl)
    · replace hf := hf.2 c4
      refine lv_aload_n hx hb dX4_endStep_15 rfl (lv_at hl 0 rfl) ?_
      refine lv_dup hx hb dX4_endStep_16 rfl ?_
      refine hw_getJ E hR cI3 hs0 1 (by decide) lfX4_15 rfl dX4_endStep_17 ?_
      refine lv_ldc2 (v := 4) hx hb E.2.2.2.2.1 (E.2.2.2.2.2.1 _ ljX4_50) dX4_endStep_20 ?_
      refine lv_iload_n hx hb dX4_endStep_23 rfl (lv_at hl 2 rfl) ?_
      refine lv_bipush (v := 6) hx hb dX4_endStep_24 (by decide) ?_
      refine lv_imul hx hb dX4_endStep_26 ?_
      refine lv_lshl hx hb dX4_endStep_27 rfl ?_
      refine lv_lsub hx hb dX4_endStep_28 ?_
      refine hw_putJ E hR hS hw cI3 hs0 1 (by decide) lfX4_15 rfl rfl dX4_endStep_29 (fun m6 H locs em6 hR hS => ?_)
      replace hf := hf m6 em6
      obtain ⟨v7, ev7⟩ : ∃ y : Int32, y = x3 + (1 : Int32) := ⟨_, rfl⟩
      replace hf := hf v7 ev7
      refine lv_iinc (v := v7) (lv' := [(3, .int v7), (0, .ref (ad g a0)), (1, .long x1)]) hx hb dX4_endStep_32 hl (k := 2) rfl (by rw [ev7]; rfl) (by decide) rfl (fun ls hl => ?_)
      refine lv_goto (tgt := 2) hx hb dX4_endStep_35 (by decide) ?_
      exact hBK2 _ _ _ _ _ hf hR hS (lv_sub hl [1, 2, 0] rfl)
def f_X4_endStep_L2 (S : Ss) (a0 : Nat) (x1 : Int64) (EK2 : Mm → Prop) (K : Mm → Prop) : Nat → Int32 → Mm → Prop
  | 0, _, _ => False
  | n + 1, x3, M => f_X4_endStep_B2 S a0 x1 x3 M (fun (x3 : Int32) (M : Mm) => f_X4_endStep_L2 S a0 x1 EK2 K n x3 M) EK2 K
set_option maxHeartbeats 4000000 in
set_option maxRecDepth 100000 in
theorem w_X4_endStep_L2 {p : Program} {l : Launch} {e : Env} {s : State} {m : MethodId} {args : Array Value} {below : List Frame} {meth : Method} {c : Code} {g : Gg} {S : Ss} (a0 : Nat) (x1 : Int64) (EK2 : Mm → Prop) (K : Mm → Prop) (E : EN p s m args meth c cX4_endStep 4 none RX4 g) (hw : ad g 100000 < s.heap.size) (hs0 : S[a0]? = some (3, 0)) (hEK2 : ∀ (M' : Mm) (H : Heap) (locs : List Loc) (ls : Array Slot), EK2 M' → RP g S M' H → va_S (gA g) s.heap H locs → lv_has ls 4 [] → W p l e (rmD 1) s m args below meth c H locs 0 0 (MQ below (QA g S (pV K)) args s 0 0 (gA g)) (F0 m 38 ls [])) : ∀ (n : Nat) (x3 : Int32) (M : Mm), f_X4_endStep_L2 S a0 x1 EK2 K n x3 M → ∀ (H : Heap) (locs : List Loc) (ls : Array Slot), RP g S M H → va_S (gA g) s.heap H locs → lv_has ls 4 [(0, .ref (ad g a0)), (1, .long x1), (3, .int x3)] → W p l e (rmD 1) s m args below meth c H locs 0 0 (MQ below (QA g S (pV K)) args s 0 0 (gA g)) (F0 m 2 ls []) := by
  intro n
  induction n with
  | zero => intro x3 M hf; exact hf.elim
  | succ n ih =>
    intro x3 M hf H locs ls hR hS hl
    exact w_X4_endStep_B2 _ _ _ _ _ _ _ E hw hs0 (fun _ M H locs ls h hR hS hl => ih _ M h H locs ls hR hS hl) hEK2 hf H locs ls hR hS hl
def f_X4_endStep (S : Ss) (a0 : Nat) (x1 : Int64) (M : Mm) (K : Mm → Prop) : Prop :=
  ∃ n9 : Nat, f_X4_endStep_L2 S a0 x1 (fun (m8 : Mm) =>
    K m8) K n9 (0 : Int32) M
set_option maxHeartbeats 4000000 in
set_option maxRecDepth 100000 in
theorem ok_X4_endStep {l : Launch} {g : Gg} {S : Ss} {a0 : Nat} {x1 : Int64} {M : Mm} {K : Mm → Prop} (hs0 : S[a0]? = some (3, 0)) (hf : f_X4_endStep S a0 x1 M K) : MT l g S yX4_endStep cX4_endStep 4 none 1 [.ref (ad g a0), .long x1] M (pV K) := by
  refine MT.of (by decide +kernel) (Nat.le_of_ble_eq_true rfl) ?_
  intro p e s m below meth c ls E hw hR hS hl
  have hl : lv_has ls 4 [(0, .ref (ad g a0)), (1, .long x1)] := hl
  generalize ([.ref (ad g a0), .long x1] : List Value).toArray = args at E ⊢
  have E : EN p s m args meth c cX4_endStep 4 none RX4 g := E
  have hx := E.1
  have hb := E.2.1
  unfold f_X4_endStep at hf
  refine lv_iconst (v := 0) hx hb dX4_endStep_0 (by decide) ?_
  refine lv_istore_n (lv' := [(3, .int (0 : Int32)), (0, .ref (ad g a0)), (1, .long x1)]) hx hb dX4_endStep_1 rfl hl (by decide) rfl (fun ls hl => ?_)
  obtain ⟨n9, hf⟩ := hf
  refine w_X4_endStep_L2 _ _ _ _ E hw hs0 ?_ n9 _ _ hf _ _ _ hR hS (lv_sub hl [1, 2, 0] rfl)
  intro m8 H locs ls hf hR hS hl
  exact hw_vret E hR hS ⟨rfl, hf⟩ dX4_endStep_38
def f_X4_lineOf (S : Ss) (a0 : Nat) (x1 : Int32) (M : Mm) (K : Int32 → Mm → Prop) : Prop :=
  K (((M.2.1 a0 1).toUInt64 >>> (((24 : Int32) + (x1 * (4 : Int32))).toInt64.toUInt64 &&& Int64.toUInt64 63)).toInt64.toInt32 &&& (15 : Int32)) M
set_option maxHeartbeats 4000000 in
set_option maxRecDepth 100000 in
theorem ok_X4_lineOf {l : Launch} {g : Gg} {S : Ss} {a0 : Nat} {x1 : Int32} {M : Mm} {K : Int32 → Mm → Prop} (hs0 : S[a0]? = some (3, 0)) (hf : f_X4_lineOf S a0 x1 M K) : MT l g S yX4_lineOf cX4_lineOf 2 (some .int) 0 [.ref (ad g a0), .int x1] M (pI K) := by
  refine MT.of (by decide +kernel) (Nat.le_of_ble_eq_true rfl) ?_
  intro p e s m below meth c ls E hw hR hS hl
  have hl : lv_has ls 2 [(0, .ref (ad g a0)), (1, .int x1)] := hl
  generalize ([.ref (ad g a0), .int x1] : List Value).toArray = args at E ⊢
  have E : EN p s m args meth c cX4_lineOf 2 (some .int) RX4 g := E
  have hx := E.1
  have hb := E.2.1
  unfold f_X4_lineOf at hf
  refine lv_aload_n hx hb dX4_lineOf_0 rfl (lv_at hl 0 rfl) ?_
  refine hw_getJ E hR cI3 hs0 1 (by decide) lfX4_15 rfl dX4_lineOf_1 ?_
  refine lv_bipush (v := 24) hx hb dX4_lineOf_4 (by decide) ?_
  refine lv_iload_n hx hb dX4_lineOf_6 rfl (lv_at hl 1 rfl) ?_
  refine lv_iconst (v := 4) hx hb dX4_lineOf_7 (by decide) ?_
  refine lv_imul hx hb dX4_lineOf_8 ?_
  refine lv_iadd hx hb dX4_lineOf_9 ?_
  refine lv_lushr hx hb dX4_lineOf_10 rfl ?_
  refine lv_l2i hx hb dX4_lineOf_11 rfl ?_
  refine lv_bipush (v := 15) hx hb dX4_lineOf_12 (by decide) ?_
  refine lv_iand hx hb dX4_lineOf_14 ?_
  exact hw_iret E hR hS ⟨_, rfl, hf⟩ dX4_lineOf_15
def f_X4_putLine (S : Ss) (a0 : Nat) (x1 : Int32) (x2 : Int32) (M : Mm) (K : Mm → Prop) : Prop :=
  ∀ v1 : Int32, v1 = ((24 : Int32) + (x1 * (4 : Int32))) →
  ∀ m2 : Mm, m2 = stJ M a0 1 (((M.2.1 a0 1) &&& (((15 : Int64) <<< (v1.toInt64 &&& 63)) ^^^ (-1 : Int64))) ||| ((x2 &&& (15 : Int32)).toInt64 <<< (v1.toInt64 &&& 63))) →
  K m2
set_option maxHeartbeats 4000000 in
set_option maxRecDepth 100000 in
theorem ok_X4_putLine {l : Launch} {g : Gg} {S : Ss} {a0 : Nat} {x1 : Int32} {x2 : Int32} {M : Mm} {K : Mm → Prop} (hs0 : S[a0]? = some (3, 0)) (hf : f_X4_putLine S a0 x1 x2 M K) : MT l g S yX4_putLine cX4_putLine 4 none 0 [.ref (ad g a0), .int x1, .int x2] M (pV K) := by
  refine MT.of (by decide +kernel) (Nat.le_of_ble_eq_true rfl) ?_
  intro p e s m below meth c ls E hw hR hS hl
  have hl : lv_has ls 4 [(0, .ref (ad g a0)), (1, .int x1), (2, .int x2)] := hl
  generalize ([.ref (ad g a0), .int x1, .int x2] : List Value).toArray = args at E ⊢
  have E : EN p s m args meth c cX4_putLine 4 none RX4 g := E
  have hx := E.1
  have hb := E.2.1
  unfold f_X4_putLine at hf
  refine lv_bipush (v := 24) hx hb dX4_putLine_0 (by decide) ?_
  refine lv_iload_n hx hb dX4_putLine_2 rfl (lv_at hl 1 rfl) ?_
  refine lv_iconst (v := 4) hx hb dX4_putLine_3 (by decide) ?_
  refine lv_imul hx hb dX4_putLine_4 ?_
  refine lv_iadd hx hb dX4_putLine_5 ?_
  refine lv_topi (fun v1 ev1 => ?_)
  replace hf := hf v1 ev1
  refine lv_istore_n (lv' := [(3, .int v1), (0, .ref (ad g a0)), (1, .int x1), (2, .int x2)]) hx hb dX4_putLine_6 rfl hl (by decide) rfl (fun ls hl => ?_)
  refine lv_aload_n hx hb dX4_putLine_7 rfl (lv_at hl 1 rfl) ?_
  refine lv_aload_n hx hb dX4_putLine_8 rfl (lv_at hl 1 rfl) ?_
  refine hw_getJ E hR cI3 hs0 1 (by decide) lfX4_15 rfl dX4_putLine_9 ?_
  refine lv_ldc2 (v := 15) hx hb E.2.2.2.2.1 (E.2.2.2.2.2.1 _ ljX4_44) dX4_putLine_12 ?_
  refine lv_iload_n hx hb dX4_putLine_15 rfl (lv_at hl 0 rfl) ?_
  refine lv_lshl hx hb dX4_putLine_16 rfl ?_
  refine lv_ldc2 (v := -1) hx hb E.2.2.2.2.1 (E.2.2.2.2.2.1 _ ljX4_36) dX4_putLine_17 ?_
  refine lv_lxor hx hb dX4_putLine_20 ?_
  refine lv_land hx hb dX4_putLine_21 ?_
  refine lv_iload_n hx hb dX4_putLine_22 rfl (lv_at hl 3 rfl) ?_
  refine lv_bipush (v := 15) hx hb dX4_putLine_23 (by decide) ?_
  refine lv_iand hx hb dX4_putLine_25 ?_
  refine lv_i2l hx hb dX4_putLine_26 rfl ?_
  refine lv_iload_n hx hb dX4_putLine_27 rfl (lv_at hl 0 rfl) ?_
  refine lv_lshl hx hb dX4_putLine_28 rfl ?_
  refine lv_lor hx hb dX4_putLine_29 ?_
  refine hw_putJ E hR hS hw cI3 hs0 1 (by decide) lfX4_15 rfl rfl dX4_putLine_30 (fun m2 H locs em2 hR hS => ?_)
  replace hf := hf m2 em2
  exact hw_vret E hR hS ⟨rfl, hf⟩ dX4_putLine_33
def f_X4_isSlot (S : Ss) (x0 : Int32) (M : Mm) (K : Int32 → Mm → Prop) : Prop :=
  ((x0 < 0 →
    K (0 : Int32) M) ∧
   (¬ x0 < 0 →
    (((8 : Int32) ≤ x0 →
      K (0 : Int32) M) ∧
     (¬ (8 : Int32) ≤ x0 →
      K (1 : Int32) M))))
set_option maxHeartbeats 4000000 in
set_option maxRecDepth 100000 in
theorem ok_X4_isSlot {l : Launch} {g : Gg} {S : Ss} {x0 : Int32} {M : Mm} {K : Int32 → Mm → Prop} (hf : f_X4_isSlot S x0 M K) : MT l g S yX4_isSlot cX4_isSlot 1 (some .boolean) 0 [.int x0] M (pI K) := by
  refine MT.of (by decide +kernel) (Nat.le_of_ble_eq_true rfl) ?_
  intro p e s m below meth c ls E hw hR hS hl
  have hl : lv_has ls 1 [(0, .int x0)] := hl
  generalize ([.int x0] : List Value).toArray = args at E ⊢
  have E : EN p s m args meth c cX4_isSlot 1 (some .boolean) RX4 g := E
  have hx := E.1
  have hb := E.2.1
  unfold f_X4_isSlot at hf
  refine lv_iload_n hx hb dX4_isSlot_0 rfl (lv_at hl 0 rfl) ?_
  refine lv_if_lt (tgt := 14) hx hb dX4_isSlot_1 (by decide) (fun c1 => ?_) (fun c1 => ?_)
  · replace hf := hf.1 c1
    refine lv_iconst (v := 0) hx hb dX4_isSlot_14 (by decide) ?_
    exact hw_zret E hR hS (by decide) ⟨_, rfl, hf⟩ dX4_isSlot_15
  · replace hf := hf.2 c1
    refine lv_iload_n hx hb dX4_isSlot_4 rfl (lv_at hl 0 rfl) ?_
    refine lv_bipush (v := 8) hx hb dX4_isSlot_5 (by decide) ?_
    refine lv_icmp_ge (tgt := 14) hx hb dX4_isSlot_7 (by decide) (fun c2 => ?_) (fun c2 => ?_)
    · replace hf := hf.1 c2
      refine lv_iconst (v := 0) hx hb dX4_isSlot_14 (by decide) ?_
      exact hw_zret E hR hS (by decide) ⟨_, rfl, hf⟩ dX4_isSlot_15
    · replace hf := hf.2 c2
      refine lv_iconst (v := 1) hx hb dX4_isSlot_10 (by decide) ?_
      refine lv_goto (tgt := 15) hx hb dX4_isSlot_11 (by decide) ?_
      exact hw_zret E hR hS (by decide) ⟨_, rfl, hf⟩ dX4_isSlot_15
def f_X4_slotValue (S : Ss) (a0 : Nat) (x1 : Int32) (M : Mm) (K : Int32 → Mm → Prop) : Prop :=
  K (((M.2.1 a0 0).toUInt64 >>> ((x1 * (8 : Int32)).toInt64.toUInt64 &&& Int64.toUInt64 63)).toInt64.toInt32 &&& (255 : Int32)) M
set_option maxHeartbeats 4000000 in
set_option maxRecDepth 100000 in
theorem ok_X4_slotValue {l : Launch} {g : Gg} {S : Ss} {a0 : Nat} {x1 : Int32} {M : Mm} {K : Int32 → Mm → Prop} (hs0 : S[a0]? = some (3, 0)) (hf : f_X4_slotValue S a0 x1 M K) : MT l g S yX4_slotValue cX4_slotValue 2 (some .int) 0 [.ref (ad g a0), .int x1] M (pI K) := by
  refine MT.of (by decide +kernel) (Nat.le_of_ble_eq_true rfl) ?_
  intro p e s m below meth c ls E hw hR hS hl
  have hl : lv_has ls 2 [(0, .ref (ad g a0)), (1, .int x1)] := hl
  generalize ([.ref (ad g a0), .int x1] : List Value).toArray = args at E ⊢
  have E : EN p s m args meth c cX4_slotValue 2 (some .int) RX4 g := E
  have hx := E.1
  have hb := E.2.1
  unfold f_X4_slotValue at hf
  refine lv_aload_n hx hb dX4_slotValue_0 rfl (lv_at hl 0 rfl) ?_
  refine hw_getJ E hR cI3 hs0 0 (by decide) lfX4_9 rfl dX4_slotValue_1 ?_
  refine lv_iload_n hx hb dX4_slotValue_4 rfl (lv_at hl 1 rfl) ?_
  refine lv_bipush (v := 8) hx hb dX4_slotValue_5 (by decide) ?_
  refine lv_imul hx hb dX4_slotValue_7 ?_
  refine lv_lushr hx hb dX4_slotValue_8 rfl ?_
  refine lv_l2i hx hb dX4_slotValue_9 rfl ?_
  refine lv_sipush (v := 255) hx hb dX4_slotValue_10 (by decide) ?_
  refine lv_iand hx hb dX4_slotValue_13 ?_
  exact hw_iret E hR hS ⟨_, rfl, hf⟩ dX4_slotValue_14
def f_X4_placeOf (S : Ss) (a0 : Nat) (x1 : Int32) (M : Mm) (K : Int32 → Mm → Prop) : Prop :=
  ∀ v1 : Int32, v1 = (((M.2.1 a0 1).toUInt64 >>> ((x1 * (6 : Int32)).toInt64.toUInt64 &&& Int64.toUInt64 63)).toInt64.toInt32 &&& (63 : Int32)) →
  (((4 : Int32) ≤ v1 →
    K (4 : Int32) M) ∧
   (¬ (4 : Int32) ≤ v1 →
    K v1 M))
set_option maxHeartbeats 4000000 in
set_option maxRecDepth 100000 in
theorem ok_X4_placeOf {l : Launch} {g : Gg} {S : Ss} {a0 : Nat} {x1 : Int32} {M : Mm} {K : Int32 → Mm → Prop} (hs0 : S[a0]? = some (3, 0)) (hf : f_X4_placeOf S a0 x1 M K) : MT l g S yX4_placeOf cX4_placeOf 3 (some .int) 0 [.ref (ad g a0), .int x1] M (pI K) := by
  refine MT.of (by decide +kernel) (Nat.le_of_ble_eq_true rfl) ?_
  intro p e s m below meth c ls E hw hR hS hl
  have hl : lv_has ls 3 [(0, .ref (ad g a0)), (1, .int x1)] := hl
  generalize ([.ref (ad g a0), .int x1] : List Value).toArray = args at E ⊢
  have E : EN p s m args meth c cX4_placeOf 3 (some .int) RX4 g := E
  have hx := E.1
  have hb := E.2.1
  unfold f_X4_placeOf at hf
  refine lv_aload_n hx hb dX4_placeOf_0 rfl (lv_at hl 0 rfl) ?_
  refine hw_getJ E hR cI3 hs0 1 (by decide) lfX4_15 rfl dX4_placeOf_1 ?_
  refine lv_iload_n hx hb dX4_placeOf_4 rfl (lv_at hl 1 rfl) ?_
  refine lv_bipush (v := 6) hx hb dX4_placeOf_5 (by decide) ?_
  refine lv_imul hx hb dX4_placeOf_7 ?_
  refine lv_lushr hx hb dX4_placeOf_8 rfl ?_
  refine lv_l2i hx hb dX4_placeOf_9 rfl ?_
  refine lv_bipush (v := 63) hx hb dX4_placeOf_10 (by decide) ?_
  refine lv_iand hx hb dX4_placeOf_12 ?_
  refine lv_topi (fun v1 ev1 => ?_)
  replace hf := hf v1 ev1
  refine lv_istore_n (lv' := [(2, .int v1), (0, .ref (ad g a0)), (1, .int x1)]) hx hb dX4_placeOf_13 rfl hl (by decide) rfl (fun ls hl => ?_)
  refine lv_iload_n hx hb dX4_placeOf_14 rfl (lv_at hl 0 rfl) ?_
  refine lv_iconst (v := 4) hx hb dX4_placeOf_15 (by decide) ?_
  refine lv_icmp_ge (tgt := 23) hx hb dX4_placeOf_16 (by decide) (fun c2 => ?_) (fun c2 => ?_)
  · replace hf := hf.1 c2
    refine lv_iconst (v := 4) hx hb dX4_placeOf_23 (by decide) ?_
    exact hw_iret E hR hS ⟨_, rfl, hf⟩ dX4_placeOf_24
  · replace hf := hf.2 c2
    refine lv_iload_n hx hb dX4_placeOf_19 rfl (lv_at hl 0 rfl) ?_
    refine lv_goto (tgt := 24) hx hb dX4_placeOf_20 (by decide) ?_
    exact hw_iret E hR hS ⟨_, rfl, hf⟩ dX4_placeOf_24
def f_X5_clear (S : Ss) (a0 : Nat) (M : Mm) (K : Mm → Prop) : Prop :=
  ∀ m1 : Mm, m1 = stI M a0 5 (0 : Int32) →
  ∀ m2 : Mm, m2 = stI m1 a0 6 (0 : Int32) →
  ∀ m3 : Mm, m3 = stI m2 a0 7 (0 : Int32) →
  K m3
set_option maxHeartbeats 4000000 in
set_option maxRecDepth 100000 in
theorem ok_X5_clear {l : Launch} {g : Gg} {S : Ss} {a0 : Nat} {M : Mm} {K : Mm → Prop} (hs0 : S[a0]? = some (4, 0)) (hf : f_X5_clear S a0 M K) : MT l g S yX5_clear cX5_clear 1 none 0 [.ref (ad g a0)] M (pV K) := by
  refine MT.of (by decide +kernel) (Nat.le_of_ble_eq_true rfl) ?_
  intro p e s m below meth c ls E hw hR hS hl
  have hl : lv_has ls 1 [(0, .ref (ad g a0))] := hl
  generalize ([.ref (ad g a0)] : List Value).toArray = args at E ⊢
  have E : EN p s m args meth c cX5_clear 1 none RX5 g := E
  have hx := E.1
  have hb := E.2.1
  unfold f_X5_clear at hf
  refine lv_aload_n hx hb dX5_clear_0 rfl (lv_at hl 0 rfl) ?_
  refine lv_iconst (v := 0) hx hb dX5_clear_1 (by decide) ?_
  refine hw_putI E hR hS hw cI4 hs0 5 (by decide) lfX5_28 rfl (Or.inl rfl) dX5_clear_2 (fun m1 H locs em1 hR hS => ?_)
  replace hf := hf m1 em1
  refine lv_aload_n hx hb dX5_clear_5 rfl (lv_at hl 0 rfl) ?_
  refine lv_iconst (v := 0) hx hb dX5_clear_6 (by decide) ?_
  refine hw_putI E hR hS hw cI4 hs0 6 (by decide) lfX5_32 rfl (Or.inl rfl) dX5_clear_7 (fun m2 H locs em2 hR hS => ?_)
  replace hf := hf m2 em2
  refine lv_aload_n hx hb dX5_clear_10 rfl (lv_at hl 0 rfl) ?_
  refine lv_iconst (v := 0) hx hb dX5_clear_11 (by decide) ?_
  refine hw_putI E hR hS hw cI4 hs0 7 (by decide) lfX5_35 rfl (Or.inl rfl) dX5_clear_12 (fun m3 H locs em3 hR hS => ?_)
  replace hf := hf m3 em3
  exact hw_vret E hR hS ⟨rfl, hf⟩ dX5_clear_15
def f_X5_copyText (S : Ss) (a0 : Nat) (a1 : Nat) (x2 : Int32) (M : Mm) (K : Mm → Prop) : Prop :=
  ∀ m1 : Mm, m1 = stI M a0 5 (if (60 : Int32) < x2 then (60 : Int32) else x2) →
  ∃ b2 : Nat, m1.2.2 a0 0 = some b2 ∧
  ∃ n4 n5 : Nat, S[a1]? = some (51, n4) ∧ S[b2]? = some (51, n5) ∧ ¬ (0 : Int32) < 0 ∧ ¬ (0 : Int32) < 0 ∧ ¬ (m1.1 a0 5) < 0 ∧ (0 : Int32).toNatClampNeg + (m1.1 a0 5).toNatClampNeg ≤ n4 ∧ (0 : Int32).toNatClampNeg + (m1.1 a0 5).toNatClampNeg ≤ n5 ∧
  (∀ i, i < (m1.1 a0 5).toNatClampNeg → fits .char (.int (m1.1 a1 ((0 : Int32).toNatClampNeg + i))) = true) ∧
  ∀ m3 : Mm, m3 = cpI m1 a1 b2 (0 : Int32).toNatClampNeg (0 : Int32).toNatClampNeg (m1.1 a0 5).toNatClampNeg →
  K m3
set_option maxHeartbeats 4000000 in
set_option maxRecDepth 100000 in
theorem ok_X5_copyText {l : Launch} {g : Gg} {S : Ss} {a0 : Nat} {a1 : Nat} {x2 : Int32} {M : Mm} {K : Mm → Prop} (hs0 : S[a0]? = some (4, 0)) (hf : f_X5_copyText S a0 a1 x2 M K) : MT l g S yX5_copyText cX5_copyText 3 none 1 [.ref (ad g a0), .ref (ad g a1), .int x2] M (pV K) := by
  refine MT.of (by decide +kernel) (Nat.le_of_ble_eq_true rfl) ?_
  intro p e s m below meth c ls E hw hR hS hl
  have hl : lv_has ls 3 [(0, .ref (ad g a0)), (1, .ref (ad g a1)), (2, .int x2)] := hl
  generalize ([.ref (ad g a0), .ref (ad g a1), .int x2] : List Value).toArray = args at E ⊢
  have E : EN p s m args meth c cX5_copyText 3 none RX5 g := E
  have hx := E.1
  have hb := E.2.1
  unfold f_X5_copyText at hf
  refine lv_aload_n hx hb dX5_copyText_0 rfl (lv_at hl 0 rfl) ?_
  refine lv_iload_n hx hb dX5_copyText_1 rfl (lv_at hl 2 rfl) ?_
  refine lv_bipush (v := 60) hx hb dX5_copyText_2 (by decide) ?_
  refine hw_min (d := 1) (rest := [.ref (ad g a0)]) E hl lxX5_38 (by decide) (Nat.le_of_ble_eq_true rfl) dX5_copyText_4 ?_
  refine hw_putI E hR hS hw cI4 hs0 5 (by decide) lfX5_28 rfl (Or.inl rfl) dX5_copyText_7 (fun m1 H locs em1 hR hS => ?_)
  replace hf := hf m1 em1
  refine lv_aload_n hx hb dX5_copyText_10 rfl (lv_at hl 1 rfl) ?_
  refine lv_iconst (v := 0) hx hb dX5_copyText_11 (by decide) ?_
  refine lv_aload_n hx hb dX5_copyText_12 rfl (lv_at hl 0 rfl) ?_
  obtain ⟨b2, hb2, hf⟩ := hf
  refine hw_getR E hR cI4 hs0 0 (by decide) lfX5_9 rfl hb2 dX5_copyText_13 ?_
  refine lv_iconst (v := 0) hx hb dX5_copyText_16 (by decide) ?_
  refine lv_aload_n hx hb dX5_copyText_17 rfl (lv_at hl 0 rfl) ?_
  refine hw_getI E hR cI4 hs0 5 (by decide) lfX5_28 rfl dX5_copyText_18 ?_
  obtain ⟨n4, n5, hn4, hn5, z1, z2, z3, z4, z5, z6, hf⟩ := hf
  refine hw_copy51 (d := 1) (rest := []) E hR hS hw hl laX5_44 hn4 hn5 z1 z2 z3 z4 z5 z6 (by decide) (Nat.le_of_ble_eq_true rfl) dX5_copyText_21 (fun m3 H locs em3 hR hS => ?_)
  replace hf := hf m3 em3
  exact hw_vret E hR hS ⟨rfl, hf⟩ dX5_copyText_24
def f_X5_beginLine (S : Ss) (a0 : Nat) (x1 : Int32) (x2 : Int32) (M : Mm) (K : Mm → Prop) : Prop :=
  (((16 : Int32) ≤ (M.1 a0 6) →
    K M) ∧
   (¬ (16 : Int32) ≤ (M.1 a0 6) →
    ∃ b2 : Nat, M.2.2 a0 1 = some b2 ∧
    ∃ n3 : Nat, S[b2]? = some (50, n3) ∧ vp_in (M.1 a0 6) n3 ∧
    ∀ m4 : Mm, m4 = stI M b2 (M.1 a0 6).toNatClampNeg x1 →
    ∃ b5 : Nat, m4.2.2 a0 2 = some b5 ∧
    ∃ n6 : Nat, S[b5]? = some (50, n6) ∧ vp_in (m4.1 a0 6) n6 ∧
    ∀ m7 : Mm, m7 = stI m4 b5 (m4.1 a0 6).toNatClampNeg x2 →
    ∃ b8 : Nat, m7.2.2 a0 3 = some b8 ∧
    ∃ n9 : Nat, S[b8]? = some (50, n9) ∧ vp_in (m7.1 a0 6) n9 ∧
    ∀ m10 : Mm, m10 = stI m7 b8 (m7.1 a0 6).toNatClampNeg (m7.1 a0 7) →
    K m10))
set_option maxHeartbeats 4000000 in
set_option maxRecDepth 100000 in
theorem ok_X5_beginLine {l : Launch} {g : Gg} {S : Ss} {a0 : Nat} {x1 : Int32} {x2 : Int32} {M : Mm} {K : Mm → Prop} (hs0 : S[a0]? = some (4, 0)) (hf : f_X5_beginLine S a0 x1 x2 M K) : MT l g S yX5_beginLine cX5_beginLine 3 none 0 [.ref (ad g a0), .int x1, .int x2] M (pV K) := by
  refine MT.of (by decide +kernel) (Nat.le_of_ble_eq_true rfl) ?_
  intro p e s m below meth c ls E hw hR hS hl
  have hl : lv_has ls 3 [(0, .ref (ad g a0)), (1, .int x1), (2, .int x2)] := hl
  generalize ([.ref (ad g a0), .int x1, .int x2] : List Value).toArray = args at E ⊢
  have E : EN p s m args meth c cX5_beginLine 3 none RX5 g := E
  have hx := E.1
  have hb := E.2.1
  unfold f_X5_beginLine at hf
  refine lv_aload_n hx hb dX5_beginLine_0 rfl (lv_at hl 0 rfl) ?_
  refine hw_getI E hR cI4 hs0 6 (by decide) lfX5_32 rfl dX5_beginLine_1 ?_
  refine lv_bipush (v := 16) hx hb dX5_beginLine_4 (by decide) ?_
  refine lv_icmp_ge (tgt := 42) hx hb dX5_beginLine_6 (by decide) (fun c1 => ?_) (fun c1 => ?_)
  · replace hf := hf.1 c1
    exact hw_vret E hR hS ⟨rfl, hf⟩ dX5_beginLine_42
  · replace hf := hf.2 c1
    refine lv_aload_n hx hb dX5_beginLine_9 rfl (lv_at hl 0 rfl) ?_
    obtain ⟨b2, hb2, hf⟩ := hf
    refine hw_getR E hR cI4 hs0 1 (by decide) lfX5_15 rfl hb2 dX5_beginLine_10 ?_
    refine lv_aload_n hx hb dX5_beginLine_13 rfl (lv_at hl 0 rfl) ?_
    refine hw_getI E hR cI4 hs0 6 (by decide) lfX5_32 rfl dX5_beginLine_14 ?_
    refine lv_iload_n hx hb dX5_beginLine_17 rfl (lv_at hl 1 rfl) ?_
    obtain ⟨n3, hn3, in3, hf⟩ := hf
    refine hw_iast E hR hS hw hn3 in3 dX5_beginLine_18 (fun m4 H locs em4 hR hS => ?_)
    replace hf := hf m4 em4
    refine lv_aload_n hx hb dX5_beginLine_19 rfl (lv_at hl 0 rfl) ?_
    obtain ⟨b5, hb5, hf⟩ := hf
    refine hw_getR E hR cI4 hs0 2 (by decide) lfX5_19 rfl hb5 dX5_beginLine_20 ?_
    refine lv_aload_n hx hb dX5_beginLine_23 rfl (lv_at hl 0 rfl) ?_
    refine hw_getI E hR cI4 hs0 6 (by decide) lfX5_32 rfl dX5_beginLine_24 ?_
    refine lv_iload_n hx hb dX5_beginLine_27 rfl (lv_at hl 2 rfl) ?_
    obtain ⟨n6, hn6, in6, hf⟩ := hf
    refine hw_iast E hR hS hw hn6 in6 dX5_beginLine_28 (fun m7 H locs em7 hR hS => ?_)
    replace hf := hf m7 em7
    refine lv_aload_n hx hb dX5_beginLine_29 rfl (lv_at hl 0 rfl) ?_
    obtain ⟨b8, hb8, hf⟩ := hf
    refine hw_getR E hR cI4 hs0 3 (by decide) lfX5_22 rfl hb8 dX5_beginLine_30 ?_
    refine lv_aload_n hx hb dX5_beginLine_33 rfl (lv_at hl 0 rfl) ?_
    refine hw_getI E hR cI4 hs0 6 (by decide) lfX5_32 rfl dX5_beginLine_34 ?_
    refine lv_aload_n hx hb dX5_beginLine_37 rfl (lv_at hl 0 rfl) ?_
    refine hw_getI E hR cI4 hs0 7 (by decide) lfX5_35 rfl dX5_beginLine_38 ?_
    obtain ⟨n9, hn9, in9, hf⟩ := hf
    refine hw_iast E hR hS hw hn9 in9 dX5_beginLine_41 (fun m10 H locs em10 hR hS => ?_)
    replace hf := hf m10 em10
    exact hw_vret E hR hS ⟨rfl, hf⟩ dX5_beginLine_42
def f_X5_endLine (S : Ss) (a0 : Nat) (M : Mm) (K : Mm → Prop) : Prop :=
  (((16 : Int32) ≤ (M.1 a0 6) →
    K M) ∧
   (¬ (16 : Int32) ≤ (M.1 a0 6) →
    ∀ m2 : Mm, m2 = stI M a0 6 ((M.1 a0 6) + (1 : Int32)) →
    ∃ b3 : Nat, m2.2.2 a0 3 = some b3 ∧
    ∃ n4 : Nat, S[b3]? = some (50, n4) ∧ vp_in (m2.1 a0 6) n4 ∧
    ∀ m5 : Mm, m5 = stI m2 b3 (m2.1 a0 6).toNatClampNeg (m2.1 a0 7) →
    K m5))
set_option maxHeartbeats 4000000 in
set_option maxRecDepth 100000 in
theorem ok_X5_endLine {l : Launch} {g : Gg} {S : Ss} {a0 : Nat} {M : Mm} {K : Mm → Prop} (hs0 : S[a0]? = some (4, 0)) (hf : f_X5_endLine S a0 M K) : MT l g S yX5_endLine cX5_endLine 1 none 0 [.ref (ad g a0)] M (pV K) := by
  refine MT.of (by decide +kernel) (Nat.le_of_ble_eq_true rfl) ?_
  intro p e s m below meth c ls E hw hR hS hl
  have hl : lv_has ls 1 [(0, .ref (ad g a0))] := hl
  generalize ([.ref (ad g a0)] : List Value).toArray = args at E ⊢
  have E : EN p s m args meth c cX5_endLine 1 none RX5 g := E
  have hx := E.1
  have hb := E.2.1
  unfold f_X5_endLine at hf
  refine lv_aload_n hx hb dX5_endLine_0 rfl (lv_at hl 0 rfl) ?_
  refine hw_getI E hR cI4 hs0 6 (by decide) lfX5_32 rfl dX5_endLine_1 ?_
  refine lv_bipush (v := 16) hx hb dX5_endLine_4 (by decide) ?_
  refine lv_icmp_ge (tgt := 32) hx hb dX5_endLine_6 (by decide) (fun c1 => ?_) (fun c1 => ?_)
  · replace hf := hf.1 c1
    exact hw_vret E hR hS ⟨rfl, hf⟩ dX5_endLine_32
  · replace hf := hf.2 c1
    refine lv_aload_n hx hb dX5_endLine_9 rfl (lv_at hl 0 rfl) ?_
    refine lv_dup hx hb dX5_endLine_10 rfl ?_
    refine hw_getI E hR cI4 hs0 6 (by decide) lfX5_32 rfl dX5_endLine_11 ?_
    refine lv_iconst (v := 1) hx hb dX5_endLine_14 (by decide) ?_
    refine lv_iadd hx hb dX5_endLine_15 ?_
    refine hw_putI E hR hS hw cI4 hs0 6 (by decide) lfX5_32 rfl (Or.inl rfl) dX5_endLine_16 (fun m2 H locs em2 hR hS => ?_)
    replace hf := hf m2 em2
    refine lv_aload_n hx hb dX5_endLine_19 rfl (lv_at hl 0 rfl) ?_
    obtain ⟨b3, hb3, hf⟩ := hf
    refine hw_getR E hR cI4 hs0 3 (by decide) lfX5_22 rfl hb3 dX5_endLine_20 ?_
    refine lv_aload_n hx hb dX5_endLine_23 rfl (lv_at hl 0 rfl) ?_
    refine hw_getI E hR cI4 hs0 6 (by decide) lfX5_32 rfl dX5_endLine_24 ?_
    refine lv_aload_n hx hb dX5_endLine_27 rfl (lv_at hl 0 rfl) ?_
    refine hw_getI E hR cI4 hs0 7 (by decide) lfX5_35 rfl dX5_endLine_28 ?_
    obtain ⟨n4, hn4, in4, hf⟩ := hf
    refine hw_iast E hR hS hw hn4 in4 dX5_endLine_31 (fun m5 H locs em5 hR hS => ?_)
    replace hf := hf m5 em5
    exact hw_vret E hR hS ⟨rfl, hf⟩ dX5_endLine_32
def f_X5_emit (S : Ss) (a0 : Nat) (x1 : Int32) (M : Mm) (K : Mm → Prop) : Prop :=
  (((60 : Int32) ≤ (M.1 a0 7) →
    K M) ∧
   (¬ (60 : Int32) ≤ (M.1 a0 7) →
    ∃ b2 : Nat, M.2.2 a0 4 = some b2 ∧
    ∃ n3 : Nat, S[b2]? = some (50, n3) ∧ vp_in (M.1 a0 7) n3 ∧
    ∀ m4 : Mm, m4 = stI M b2 (M.1 a0 7).toNatClampNeg x1 →
    ∀ m5 : Mm, m5 = stI m4 a0 7 ((m4.1 a0 7) + (1 : Int32)) →
    K m5))
set_option maxHeartbeats 4000000 in
set_option maxRecDepth 100000 in
theorem ok_X5_emit {l : Launch} {g : Gg} {S : Ss} {a0 : Nat} {x1 : Int32} {M : Mm} {K : Mm → Prop} (hs0 : S[a0]? = some (4, 0)) (hf : f_X5_emit S a0 x1 M K) : MT l g S yX5_emit cX5_emit 2 none 0 [.ref (ad g a0), .int x1] M (pV K) := by
  refine MT.of (by decide +kernel) (Nat.le_of_ble_eq_true rfl) ?_
  intro p e s m below meth c ls E hw hR hS hl
  have hl : lv_has ls 2 [(0, .ref (ad g a0)), (1, .int x1)] := hl
  generalize ([.ref (ad g a0), .int x1] : List Value).toArray = args at E ⊢
  have E : EN p s m args meth c cX5_emit 2 none RX5 g := E
  have hx := E.1
  have hb := E.2.1
  unfold f_X5_emit at hf
  refine lv_aload_n hx hb dX5_emit_0 rfl (lv_at hl 0 rfl) ?_
  refine hw_getI E hR cI4 hs0 7 (by decide) lfX5_35 rfl dX5_emit_1 ?_
  refine lv_bipush (v := 60) hx hb dX5_emit_4 (by decide) ?_
  refine lv_icmp_ge (tgt := 29) hx hb dX5_emit_6 (by decide) (fun c1 => ?_) (fun c1 => ?_)
  · replace hf := hf.1 c1
    exact hw_vret E hR hS ⟨rfl, hf⟩ dX5_emit_29
  · replace hf := hf.2 c1
    refine lv_aload_n hx hb dX5_emit_9 rfl (lv_at hl 0 rfl) ?_
    obtain ⟨b2, hb2, hf⟩ := hf
    refine hw_getR E hR cI4 hs0 4 (by decide) lfX5_25 rfl hb2 dX5_emit_10 ?_
    refine lv_aload_n hx hb dX5_emit_13 rfl (lv_at hl 0 rfl) ?_
    refine hw_getI E hR cI4 hs0 7 (by decide) lfX5_35 rfl dX5_emit_14 ?_
    refine lv_iload_n hx hb dX5_emit_17 rfl (lv_at hl 1 rfl) ?_
    obtain ⟨n3, hn3, in3, hf⟩ := hf
    refine hw_iast E hR hS hw hn3 in3 dX5_emit_18 (fun m4 H locs em4 hR hS => ?_)
    replace hf := hf m4 em4
    refine lv_aload_n hx hb dX5_emit_19 rfl (lv_at hl 0 rfl) ?_
    refine lv_dup hx hb dX5_emit_20 rfl ?_
    refine hw_getI E hR cI4 hs0 7 (by decide) lfX5_35 rfl dX5_emit_21 ?_
    refine lv_iconst (v := 1) hx hb dX5_emit_24 (by decide) ?_
    refine lv_iadd hx hb dX5_emit_25 ?_
    refine hw_putI E hR hS hw cI4 hs0 7 (by decide) lfX5_35 rfl (Or.inl rfl) dX5_emit_26 (fun m5 H locs em5 hR hS => ?_)
    replace hf := hf m5 em5
    exact hw_vret E hR hS ⟨rfl, hf⟩ dX5_emit_29
def f_X7_clear (S : Ss) (a0 : Nat) (M : Mm) (K : Mm → Prop) : Prop :=
  ∀ m1 : Mm, m1 = stI M a0 1 (0 : Int32) →
  K m1
set_option maxHeartbeats 4000000 in
set_option maxRecDepth 100000 in
theorem ok_X7_clear {l : Launch} {g : Gg} {S : Ss} {a0 : Nat} {M : Mm} {K : Mm → Prop} (hs0 : S[a0]? = some (6, 0)) (hf : f_X7_clear S a0 M K) : MT l g S yX7_clear cX7_clear 1 none 0 [.ref (ad g a0)] M (pV K) := by
  refine MT.of (by decide +kernel) (Nat.le_of_ble_eq_true rfl) ?_
  intro p e s m below meth c ls E hw hR hS hl
  have hl : lv_has ls 1 [(0, .ref (ad g a0))] := hl
  generalize ([.ref (ad g a0)] : List Value).toArray = args at E ⊢
  have E : EN p s m args meth c cX7_clear 1 none RX7 g := E
  have hx := E.1
  have hb := E.2.1
  unfold f_X7_clear at hf
  refine lv_aload_n hx hb dX7_clear_0 rfl (lv_at hl 0 rfl) ?_
  refine lv_iconst (v := 0) hx hb dX7_clear_1 (by decide) ?_
  refine hw_putI E hR hS hw cI6 hs0 1 (by decide) lfX7_15 rfl (Or.inl rfl) dX7_clear_2 (fun m1 H locs em1 hR hS => ?_)
  replace hf := hf m1 em1
  exact hw_vret E hR hS ⟨rfl, hf⟩ dX7_clear_5
def f_X7_tellNext (S : Ss) (a0 : Nat) (x1 : Int64) (M : Mm) (K : Mm → Prop) : Prop :=
  (((20 : Int32) ≤ (M.1 a0 1) →
    K M) ∧
   (¬ (20 : Int32) ≤ (M.1 a0 1) →
    ∃ b2 : Nat, M.2.2 a0 0 = some b2 ∧
    ∃ n3 : Nat, S[b2]? = some (53, n3) ∧ vp_in (M.1 a0 1) n3 ∧
    ∀ m4 : Mm, m4 = stJ M b2 (M.1 a0 1).toNatClampNeg x1 →
    ∀ m5 : Mm, m5 = stI m4 a0 1 ((m4.1 a0 1) + (1 : Int32)) →
    K m5))
set_option maxHeartbeats 4000000 in
set_option maxRecDepth 100000 in
theorem ok_X7_tellNext {l : Launch} {g : Gg} {S : Ss} {a0 : Nat} {x1 : Int64} {M : Mm} {K : Mm → Prop} (hs0 : S[a0]? = some (6, 0)) (hf : f_X7_tellNext S a0 x1 M K) : MT l g S yX7_tellNext cX7_tellNext 3 none 0 [.ref (ad g a0), .long x1] M (pV K) := by
  refine MT.of (by decide +kernel) (Nat.le_of_ble_eq_true rfl) ?_
  intro p e s m below meth c ls E hw hR hS hl
  have hl : lv_has ls 3 [(0, .ref (ad g a0)), (1, .long x1)] := hl
  generalize ([.ref (ad g a0), .long x1] : List Value).toArray = args at E ⊢
  have E : EN p s m args meth c cX7_tellNext 3 none RX7 g := E
  have hx := E.1
  have hb := E.2.1
  unfold f_X7_tellNext at hf
  refine lv_aload_n hx hb dX7_tellNext_0 rfl (lv_at hl 0 rfl) ?_
  refine hw_getI E hR cI6 hs0 1 (by decide) lfX7_15 rfl dX7_tellNext_1 ?_
  refine lv_bipush (v := 20) hx hb dX7_tellNext_4 (by decide) ?_
  refine lv_icmp_ge (tgt := 29) hx hb dX7_tellNext_6 (by decide) (fun c1 => ?_) (fun c1 => ?_)
  · replace hf := hf.1 c1
    exact hw_vret E hR hS ⟨rfl, hf⟩ dX7_tellNext_29
  · replace hf := hf.2 c1
    refine lv_aload_n hx hb dX7_tellNext_9 rfl (lv_at hl 0 rfl) ?_
    obtain ⟨b2, hb2, hf⟩ := hf
    refine hw_getR E hR cI6 hs0 0 (by decide) lfX7_9 rfl hb2 dX7_tellNext_10 ?_
    refine lv_aload_n hx hb dX7_tellNext_13 rfl (lv_at hl 0 rfl) ?_
    refine hw_getI E hR cI6 hs0 1 (by decide) lfX7_15 rfl dX7_tellNext_14 ?_
    refine lv_lload_n hx hb dX7_tellNext_17 rfl (lv_at hl 1 rfl) ?_
    obtain ⟨n3, hn3, in3, hf⟩ := hf
    refine hw_last E hR hS hw hn3 in3 dX7_tellNext_18 (fun m4 H locs em4 hR hS => ?_)
    replace hf := hf m4 em4
    refine lv_aload_n hx hb dX7_tellNext_19 rfl (lv_at hl 0 rfl) ?_
    refine lv_dup hx hb dX7_tellNext_20 rfl ?_
    refine hw_getI E hR cI6 hs0 1 (by decide) lfX7_15 rfl dX7_tellNext_21 ?_
    refine lv_iconst (v := 1) hx hb dX7_tellNext_24 (by decide) ?_
    refine lv_iadd hx hb dX7_tellNext_25 ?_
    refine hw_putI E hR hS hw cI6 hs0 1 (by decide) lfX7_15 rfl (Or.inl rfl) dX7_tellNext_26 (fun m5 H locs em5 hR hS => ?_)
    replace hf := hf m5 em5
    exact hw_vret E hR hS ⟨rfl, hf⟩ dX7_tellNext_29
def f_X7_tellOne (S : Ss) (a0 : Nat) (x1 : Int64) (M : Mm) (K : Mm → Prop) : Prop :=
  ∀ m1 : Mm, m1 = stI M a0 1 (0 : Int32) →
  f_X7_tellNext S a0 x1 m1 (fun (m2 : Mm) =>
    K m2)
set_option maxHeartbeats 4000000 in
set_option maxRecDepth 100000 in
theorem ok_X7_tellOne {l : Launch} {g : Gg} {S : Ss} {a0 : Nat} {x1 : Int64} {M : Mm} {K : Mm → Prop} (hs0 : S[a0]? = some (6, 0)) (hf : f_X7_tellOne S a0 x1 M K) : MT l g S yX7_tellOne cX7_tellOne 3 none 1 [.ref (ad g a0), .long x1] M (pV K) := by
  refine MT.of (by decide +kernel) (Nat.le_of_ble_eq_true rfl) ?_
  intro p e s m below meth c ls E hw hR hS hl
  have hl : lv_has ls 3 [(0, .ref (ad g a0)), (1, .long x1)] := hl
  generalize ([.ref (ad g a0), .long x1] : List Value).toArray = args at E ⊢
  have E : EN p s m args meth c cX7_tellOne 3 none RX7 g := E
  have hx := E.1
  have hb := E.2.1
  unfold f_X7_tellOne at hf
  refine lv_aload_n hx hb dX7_tellOne_0 rfl (lv_at hl 0 rfl) ?_
  refine lv_iconst (v := 0) hx hb dX7_tellOne_1 (by decide) ?_
  refine hw_putI E hR hS hw cI6 hs0 1 (by decide) lfX7_15 rfl (Or.inl rfl) dX7_tellOne_2 (fun m1 H locs em1 hR hS => ?_)
  replace hf := hf m1 em1
  refine lv_aload_n hx hb dX7_tellOne_5 rfl (lv_at hl 0 rfl) ?_
  refine lv_lload_n hx hb dX7_tellOne_6 rfl (lv_at hl 1 rfl) ?_
  refine hw_callV (d := 1) E hR hS (As := [.long x1]) (rest := []) cI6 hs0 rfl mcX7_tellNext miX7_tellNext lmX7_19 (ok_X7_tellNext hs0 hf) rfl rfl (by decide) hl.1 (Nat.le_of_ble_eq_true rfl) dX7_tellOne_7 (fun rr m2 H locs hp hR hS => ?_)
  obtain ⟨rfl, hf⟩ := hp
  refine W.eq (g2 := F0 m 10 ls []) rfl ?_
  exact hw_vret E hR hS ⟨rfl, hf⟩ dX7_tellOne_10
def f_X7_tellTwo (S : Ss) (a0 : Nat) (x1 : Int64) (x3 : Int64) (M : Mm) (K : Mm → Prop) : Prop :=
  ∀ m1 : Mm, m1 = stI M a0 1 (0 : Int32) →
  f_X7_tellNext S a0 x1 m1 (fun (m2 : Mm) =>
    f_X7_tellNext S a0 x3 m2 (fun (m3 : Mm) =>
    K m3))
set_option maxHeartbeats 4000000 in
set_option maxRecDepth 100000 in
theorem ok_X7_tellTwo {l : Launch} {g : Gg} {S : Ss} {a0 : Nat} {x1 : Int64} {x3 : Int64} {M : Mm} {K : Mm → Prop} (hs0 : S[a0]? = some (6, 0)) (hf : f_X7_tellTwo S a0 x1 x3 M K) : MT l g S yX7_tellTwo cX7_tellTwo 5 none 1 [.ref (ad g a0), .long x1, .long x3] M (pV K) := by
  refine MT.of (by decide +kernel) (Nat.le_of_ble_eq_true rfl) ?_
  intro p e s m below meth c ls E hw hR hS hl
  have hl : lv_has ls 5 [(0, .ref (ad g a0)), (1, .long x1), (3, .long x3)] := hl
  generalize ([.ref (ad g a0), .long x1, .long x3] : List Value).toArray = args at E ⊢
  have E : EN p s m args meth c cX7_tellTwo 5 none RX7 g := E
  have hx := E.1
  have hb := E.2.1
  unfold f_X7_tellTwo at hf
  refine lv_aload_n hx hb dX7_tellTwo_0 rfl (lv_at hl 0 rfl) ?_
  refine lv_iconst (v := 0) hx hb dX7_tellTwo_1 (by decide) ?_
  refine hw_putI E hR hS hw cI6 hs0 1 (by decide) lfX7_15 rfl (Or.inl rfl) dX7_tellTwo_2 (fun m1 H locs em1 hR hS => ?_)
  replace hf := hf m1 em1
  refine lv_aload_n hx hb dX7_tellTwo_5 rfl (lv_at hl 0 rfl) ?_
  refine lv_lload_n hx hb dX7_tellTwo_6 rfl (lv_at hl 1 rfl) ?_
  refine hw_callV (d := 1) E hR hS (As := [.long x1]) (rest := []) cI6 hs0 rfl mcX7_tellNext miX7_tellNext lmX7_19 (ok_X7_tellNext hs0 hf) rfl rfl (by decide) hl.1 (Nat.le_of_ble_eq_true rfl) dX7_tellTwo_7 (fun rr m2 H locs hp hR hS => ?_)
  obtain ⟨rfl, hf⟩ := hp
  refine W.eq (g2 := F0 m 10 ls []) rfl ?_
  refine lv_aload_n hx hb dX7_tellTwo_10 rfl (lv_at hl 0 rfl) ?_
  refine lv_lload_n hx hb dX7_tellTwo_11 rfl (lv_at hl 2 rfl) ?_
  refine hw_callV (d := 1) E hR hS (As := [.long x3]) (rest := []) cI6 hs0 rfl mcX7_tellNext miX7_tellNext lmX7_19 (ok_X7_tellNext hs0 hf) rfl rfl (by decide) hl.1 (Nat.le_of_ble_eq_true rfl) dX7_tellTwo_12 (fun rr m3 H locs hp hR hS => ?_)
  obtain ⟨rfl, hf⟩ := hp
  refine W.eq (g2 := F0 m 15 ls []) rfl ?_
  exact hw_vret E hR hS ⟨rfl, hf⟩ dX7_tellTwo_15
def f_X8_prepare_J33 (S : Ss) (a0 : Nat) (x1 : Int32) (x2 : Int32) (x3 : Int32) (t0 : Int32) (M : Mm) (BK2 : Int32 → Mm → Prop) (K : Mm → Prop) : Prop :=
  ∃ b5 : Nat, M.2.2 a0 1 = some b5 ∧
  ((t0 = 0 →
    ∃ n7 : Nat, S[b5]? = some (50, n7) ∧ vp_in x3 n7 ∧
    ∀ m8 : Mm, m8 = stI M b5 x3.toNatClampNeg (0 : Int32) →
    ∀ v9 : Int32, v9 = x3 + (1 : Int32) →
    BK2 v9 m8) ∧
   (¬ t0 = 0 →
    ∃ b10 : Nat, M.2.2 a0 0 = some b10 ∧
    ∃ n11 : Nat, shp S b10 = some (50, n11) ∧ vp_in x3 n11 ∧
    ∃ n12 : Nat, S[b5]? = some (50, n12) ∧ vp_in x3 n12 ∧
    ∀ m13 : Mm, m13 = stI M b5 x3.toNatClampNeg (M.1 b10 x3.toNatClampNeg) →
    ∀ v14 : Int32, v14 = x3 + (1 : Int32) →
    BK2 v14 m13))
set_option maxHeartbeats 4000000 in
set_option maxRecDepth 100000 in
theorem w_X8_prepare_J33 {p : Program} {l : Launch} {e : Env} {s : State} {m : MethodId} {args : Array Value} {below : List Frame} {meth : Method} {c : Code} {g : Gg} {S : Ss} (a0 : Nat) (x1 : Int32) (x2 : Int32) (x3 : Int32) (t0 : Int32) (M : Mm) (BK2 : Int32 → Mm → Prop) (K : Mm → Prop) (E : EN p s m args meth c cX8_prepare 5 none RX8 g) (hw : ad g 100000 < s.heap.size) (hs0 : S[a0]? = some (7, 0)) (hBK2 : ∀ (x3' : Int32) (M' : Mm) (H : Heap) (locs : List Loc) (ls : Array Slot), BK2 x3' M' → RP g S M' H → va_S (gA g) s.heap H locs → lv_has ls 5 [(0, .ref (ad g a0)), (1, .int x1), (2, .int x2), (3, .int x3')] → W p l e (rmD 0) s m args below meth c H locs 0 0 (MQ below (QA g S (pV K)) args s 0 0 (gA g)) (F0 m 2 ls [])) (hf : f_X8_prepare_J33 S a0 x1 x2 x3 t0 M BK2 K) (H : Heap) (locs : List Loc) (ls : Array Slot) (hR : RP g S M H) (hS : va_S (gA g) s.heap H locs) (hl : lv_has ls 5 [(0, .ref (ad g a0)), (1, .int x1), (2, .int x2), (3, .int x3)]) : W p l e (rmD 0) s m args below meth c H locs 0 0 (MQ below (QA g S (pV K)) args s 0 0 (gA g)) (F0 m 33 ls [.int t0]) := by
  have hx := E.1
  have hb := E.2.1
  unfold f_X8_prepare_J33 at hf
  refine lv_istore (lv' := [(4, .int t0), (0, .ref (ad g a0)), (1, .int x1), (2, .int x2), (3, .int x3)]) hx hb dX8_prepare_33 hl (by decide) rfl (fun ls hl => ?_)
  refine lv_aload_n hx hb dX8_prepare_35 rfl (lv_at hl 1 rfl) ?_
  obtain ⟨b5, hb5, hf⟩ := hf
  refine hw_getR E hR cI7 hs0 1 (by decide) lfX8_15 rfl hb5 dX8_prepare_36 ?_
  refine lv_iload_n hx hb dX8_prepare_39 rfl (lv_at hl 4 rfl) ?_
  refine lv_iload hx hb dX8_prepare_40 (lv_at hl 0 rfl) ?_
  refine lv_if_eq (tgt := 54) hx hb dX8_prepare_42 (by decide) (fun c6 => ?_) (fun c6 => ?_)
  · replace hf := hf.1 c6
    refine lv_iconst (v := 0) hx hb dX8_prepare_54 (by decide) ?_
    obtain ⟨n7, hn7, in7, hf⟩ := hf
    refine hw_iast E hR hS hw hn7 in7 dX8_prepare_55 (fun m8 H locs em8 hR hS => ?_)
    replace hf := hf m8 em8
    obtain ⟨v9, ev9⟩ : ∃ y : Int32, y = x3 + (1 : Int32) := ⟨_, rfl⟩
    replace hf := hf v9 ev9
    refine lv_iinc (v := v9) (lv' := [(3, .int v9), (4, .int t0), (0, .ref (ad g a0)), (1, .int x1), (2, .int x2)]) hx hb dX8_prepare_56 hl (k := 4) rfl (by rw [ev9]; rfl) (by decide) rfl (fun ls hl => ?_)
    refine lv_goto (tgt := 2) hx hb dX8_prepare_59 (by decide) ?_
    exact hBK2 _ _ _ _ _ hf hR hS (lv_sub hl [2, 3, 4, 0] rfl)
  · replace hf := hf.2 c6
    refine lv_aload_n hx hb dX8_prepare_45 rfl (lv_at hl 1 rfl) ?_
    obtain ⟨b10, hb10, hf⟩ := hf
    refine hw_getR E hR cI7 hs0 0 (by decide) lfX8_9 rfl hb10 dX8_prepare_46 ?_
    refine lv_iload_n hx hb dX8_prepare_49 rfl (lv_at hl 4 rfl) ?_
    obtain ⟨n11, hn11, in11, hf⟩ := hf
    refine hw_iald E hR hS hn11 in11 dX8_prepare_50 ?_
    refine lv_goto (tgt := 55) hx hb dX8_prepare_51 (by decide) ?_
    obtain ⟨n12, hn12, in12, hf⟩ := hf
    refine hw_iast E hR hS hw hn12 in12 dX8_prepare_55 (fun m13 H locs em13 hR hS => ?_)
    replace hf := hf m13 em13
    obtain ⟨v14, ev14⟩ : ∃ y : Int32, y = x3 + (1 : Int32) := ⟨_, rfl⟩
    replace hf := hf v14 ev14
    refine lv_iinc (v := v14) (lv' := [(3, .int v14), (4, .int t0), (0, .ref (ad g a0)), (1, .int x1), (2, .int x2)]) hx hb dX8_prepare_56 hl (k := 4) rfl (by rw [ev14]; rfl) (by decide) rfl (fun ls hl => ?_)
    refine lv_goto (tgt := 2) hx hb dX8_prepare_59 (by decide) ?_
    exact hBK2 _ _ _ _ _ hf hR hS (lv_sub hl [2, 3, 4, 0] rfl)
def f_X8_prepare_J32 (S : Ss) (a0 : Nat) (x1 : Int32) (x2 : Int32) (x3 : Int32) (M : Mm) (BK2 : Int32 → Mm → Prop) (K : Mm → Prop) : Prop :=
  f_X8_prepare_J33 S a0 x1 x2 x3 (0 : Int32) M BK2 K
set_option maxHeartbeats 4000000 in
set_option maxRecDepth 100000 in
theorem w_X8_prepare_J32 {p : Program} {l : Launch} {e : Env} {s : State} {m : MethodId} {args : Array Value} {below : List Frame} {meth : Method} {c : Code} {g : Gg} {S : Ss} (a0 : Nat) (x1 : Int32) (x2 : Int32) (x3 : Int32) (M : Mm) (BK2 : Int32 → Mm → Prop) (K : Mm → Prop) (E : EN p s m args meth c cX8_prepare 5 none RX8 g) (hw : ad g 100000 < s.heap.size) (hs0 : S[a0]? = some (7, 0)) (hBK2 : ∀ (x3' : Int32) (M' : Mm) (H : Heap) (locs : List Loc) (ls : Array Slot), BK2 x3' M' → RP g S M' H → va_S (gA g) s.heap H locs → lv_has ls 5 [(0, .ref (ad g a0)), (1, .int x1), (2, .int x2), (3, .int x3')] → W p l e (rmD 0) s m args below meth c H locs 0 0 (MQ below (QA g S (pV K)) args s 0 0 (gA g)) (F0 m 2 ls [])) (hf : f_X8_prepare_J32 S a0 x1 x2 x3 M BK2 K) (H : Heap) (locs : List Loc) (ls : Array Slot) (hR : RP g S M H) (hS : va_S (gA g) s.heap H locs) (hl : lv_has ls 5 [(0, .ref (ad g a0)), (1, .int x1), (2, .int x2), (3, .int x3)]) : W p l e (rmD 0) s m args below meth c H locs 0 0 (MQ below (QA g S (pV K)) args s 0 0 (gA g)) (F0 m 32 ls []) := by
  have hx := E.1
  have hb := E.2.1
  unfold f_X8_prepare_J32 at hf
  refine lv_iconst (v := 0) hx hb dX8_prepare_32 (by decide) ?_
  exact w_X8_prepare_J33 _ _ _ _ _ _ _ _ E hw hs0 hBK2 hf _ _ _ hR hS (lv_sub hl [0, 1, 2, 3] rfl)
def f_X8_prepare_B2 (S : Ss) (a0 : Nat) (x1 : Int32) (x2 : Int32) (x3 : Int32) (M : Mm) (BK2 : Int32 → Mm → Prop) (EK2 : Mm → Prop) (K : Mm → Prop) : Prop :=
  (((M.1 a0 2) ≤ x3 →
    EK2 M) ∧
   (¬ (M.1 a0 2) ≤ x3 →
    ∃ b2 : Nat, M.2.2 a0 0 = some b2 ∧
    ∃ n3 : Nat, shp S b2 = some (50, n3) ∧ vp_in x3 n3 ∧
    ((x2 < (M.1 b2 x3.toNatClampNeg) →
      f_X8_prepare_J32 S a0 x1 x2 x3 M BK2 K) ∧
     (¬ x2 < (M.1 b2 x3.toNatClampNeg) →
      (((x1 &&& ((1 : Int32) <<< (x3 &&& 31))) = 0 →
        f_X8_prepare_J33 S a0 x1 x2 x3 (1 : Int32) M BK2 K) ∧
       (¬ (x1 &&& ((1 : Int32) <<< (x3 &&& 31))) = 0 →
        f_X8_prepare_J32 S a0 x1 x2 x3 M BK2 K))))))
set_option maxHeartbeats 4000000 in
set_option maxRecDepth 100000 in
theorem w_X8_prepare_B2 {p : Program} {l : Launch} {e : Env} {s : State} {m : MethodId} {args : Array Value} {below : List Frame} {meth : Method} {c : Code} {g : Gg} {S : Ss} (a0 : Nat) (x1 : Int32) (x2 : Int32) (x3 : Int32) (M : Mm) (BK2 : Int32 → Mm → Prop) (EK2 : Mm → Prop) (K : Mm → Prop) (E : EN p s m args meth c cX8_prepare 5 none RX8 g) (hw : ad g 100000 < s.heap.size) (hs0 : S[a0]? = some (7, 0)) (hBK2 : ∀ (x3' : Int32) (M' : Mm) (H : Heap) (locs : List Loc) (ls : Array Slot), BK2 x3' M' → RP g S M' H → va_S (gA g) s.heap H locs → lv_has ls 5 [(0, .ref (ad g a0)), (1, .int x1), (2, .int x2), (3, .int x3')] → W p l e (rmD 0) s m args below meth c H locs 0 0 (MQ below (QA g S (pV K)) args s 0 0 (gA g)) (F0 m 2 ls [])) (hEK2 : ∀ (M' : Mm) (H : Heap) (locs : List Loc) (ls : Array Slot), EK2 M' → RP g S M' H → va_S (gA g) s.heap H locs → lv_has ls 5 [] → W p l e (rmD 0) s m args below meth c H locs 0 0 (MQ below (QA g S (pV K)) args s 0 0 (gA g)) (F0 m 62 ls [])) (hf : f_X8_prepare_B2 S a0 x1 x2 x3 M BK2 EK2 K) (H : Heap) (locs : List Loc) (ls : Array Slot) (hR : RP g S M H) (hS : va_S (gA g) s.heap H locs) (hl : lv_has ls 5 [(0, .ref (ad g a0)), (1, .int x1), (2, .int x2), (3, .int x3)]) : W p l e (rmD 0) s m args below meth c H locs 0 0 (MQ below (QA g S (pV K)) args s 0 0 (gA g)) (F0 m 2 ls []) := by
  have hx := E.1
  have hb := E.2.1
  unfold f_X8_prepare_B2 at hf
  refine lv_iload_n hx hb dX8_prepare_2 rfl (lv_at hl 3 rfl) ?_
  refine lv_aload_n hx hb dX8_prepare_3 rfl (lv_at hl 0 rfl) ?_
  refine hw_getI E hR cI7 hs0 2 (by decide) lfX8_18 rfl dX8_prepare_4 ?_
  refine lv_icmp_ge (tgt := 62) hx hb dX8_prepare_7 (by decide) (fun c1 => ?_) (fun c1 => ?_)
  · replace hf := hf.1 c1
    exact hEK2  _ _ _ _ hf hR hS (lv_sub hl [] rfl)
  · replace hf := hf.2 c1
    refine lv_aload_n hx hb dX8_prepare_10 rfl (lv_at hl 0 rfl) ?_
    obtain ⟨b2, hb2, hf⟩ := hf
    refine hw_getR E hR cI7 hs0 0 (by decide) lfX8_9 rfl hb2 dX8_prepare_11 ?_
    refine lv_iload_n hx hb dX8_prepare_14 rfl (lv_at hl 3 rfl) ?_
    obtain ⟨n3, hn3, in3, hf⟩ := hf
    refine hw_iald E hR hS hn3 in3 dX8_prepare_15 ?_
    refine lv_iload_n hx hb dX8_prepare_16 rfl (lv_at hl 2 rfl) ?_
    refine lv_icmp_gt (tgt := 32) hx hb dX8_prepare_17 (by decide) (fun c4 => ?_) (fun c4 => ?_)
    · replace hf := hf.1 c4
      exact w_X8_prepare_J32 _ _ _ _ _ _ _ E hw hs0 hBK2 hf _ _ _ hR hS (lv_sub hl [0, 1, 2, 3] rfl)
    · replace hf := hf.2 c4
      refine lv_iload_n hx hb dX8_prepare_20 rfl (lv_at hl 1 rfl) ?_
      refine lv_iconst (v := 1) hx hb dX8_prepare_21 (by decide) ?_
      refine lv_iload_n hx hb dX8_prepare_22 rfl (lv_at hl 3 rfl) ?_
      refine lv_ishl hx hb dX8_prepare_23 ?_
      refine lv_iand hx hb dX8_prepare_24 ?_
      refine lv_if_ne (tgt := 32) hx hb dX8_prepare_25 (by decide) (fun c15 => ?_) (fun c15 => ?_)
      · replace hf := hf.2 c15
        exact w_X8_prepare_J32 _ _ _ _ _ _ _ E hw hs0 hBK2 hf _ _ _ hR hS (lv_sub hl [0, 1, 2, 3] rfl)
      · replace hf := hf.1 c15
        refine lv_iconst (v := 1) hx hb dX8_prepare_28 (by decide) ?_
        refine lv_goto (tgt := 33) hx hb dX8_prepare_29 (by decide) ?_
        exact w_X8_prepare_J33 _ _ _ _ _ _ _ _ E hw hs0 hBK2 hf _ _ _ hR hS (lv_sub hl [0, 1, 2, 3] rfl)
def f_X8_prepare_L2 (S : Ss) (a0 : Nat) (x1 : Int32) (x2 : Int32) (EK2 : Mm → Prop) (K : Mm → Prop) : Nat → Int32 → Mm → Prop
  | 0, _, _ => False
  | n + 1, x3, M => f_X8_prepare_B2 S a0 x1 x2 x3 M (fun (x3 : Int32) (M : Mm) => f_X8_prepare_L2 S a0 x1 x2 EK2 K n x3 M) EK2 K
set_option maxHeartbeats 4000000 in
set_option maxRecDepth 100000 in
theorem w_X8_prepare_L2 {p : Program} {l : Launch} {e : Env} {s : State} {m : MethodId} {args : Array Value} {below : List Frame} {meth : Method} {c : Code} {g : Gg} {S : Ss} (a0 : Nat) (x1 : Int32) (x2 : Int32) (EK2 : Mm → Prop) (K : Mm → Prop) (E : EN p s m args meth c cX8_prepare 5 none RX8 g) (hw : ad g 100000 < s.heap.size) (hs0 : S[a0]? = some (7, 0)) (hEK2 : ∀ (M' : Mm) (H : Heap) (locs : List Loc) (ls : Array Slot), EK2 M' → RP g S M' H → va_S (gA g) s.heap H locs → lv_has ls 5 [] → W p l e (rmD 0) s m args below meth c H locs 0 0 (MQ below (QA g S (pV K)) args s 0 0 (gA g)) (F0 m 62 ls [])) : ∀ (n : Nat) (x3 : Int32) (M : Mm), f_X8_prepare_L2 S a0 x1 x2 EK2 K n x3 M → ∀ (H : Heap) (locs : List Loc) (ls : Array Slot), RP g S M H → va_S (gA g) s.heap H locs → lv_has ls 5 [(0, .ref (ad g a0)), (1, .int x1), (2, .int x2), (3, .int x3)] → W p l e (rmD 0) s m args below meth c H locs 0 0 (MQ below (QA g S (pV K)) args s 0 0 (gA g)) (F0 m 2 ls []) := by
  intro n
  induction n with
  | zero => intro x3 M hf; exact hf.elim
  | succ n ih =>
    intro x3 M hf H locs ls hR hS hl
    exact w_X8_prepare_B2 _ _ _ _ _ _ _ _ E hw hs0 (fun _ M H locs ls h hR hS hl => ih _ M h H locs ls hR hS hl) hEK2 hf H locs ls hR hS hl
def f_X8_prepare (S : Ss) (a0 : Nat) (x1 : Int32) (x2 : Int32) (M : Mm) (K : Mm → Prop) : Prop :=
  ∃ n17 : Nat, f_X8_prepare_L2 S a0 x1 x2 (fun (m16 : Mm) =>
    K m16) K n17 (0 : Int32) M
set_option maxHeartbeats 4000000 in
set_option maxRecDepth 100000 in
theorem ok_X8_prepare {l : Launch} {g : Gg} {S : Ss} {a0 : Nat} {x1 : Int32} {x2 : Int32} {M : Mm} {K : Mm → Prop} (hs0 : S[a0]? = some (7, 0)) (hf : f_X8_prepare S a0 x1 x2 M K) : MT l g S yX8_prepare cX8_prepare 5 none 0 [.ref (ad g a0), .int x1, .int x2] M (pV K) := by
  refine MT.of (by decide +kernel) (Nat.le_of_ble_eq_true rfl) ?_
  intro p e s m below meth c ls E hw hR hS hl
  have hl : lv_has ls 5 [(0, .ref (ad g a0)), (1, .int x1), (2, .int x2)] := hl
  generalize ([.ref (ad g a0), .int x1, .int x2] : List Value).toArray = args at E ⊢
  have E : EN p s m args meth c cX8_prepare 5 none RX8 g := E
  have hx := E.1
  have hb := E.2.1
  unfold f_X8_prepare at hf
  refine lv_iconst (v := 0) hx hb dX8_prepare_0 (by decide) ?_
  refine lv_istore_n (lv' := [(3, .int (0 : Int32)), (0, .ref (ad g a0)), (1, .int x1), (2, .int x2)]) hx hb dX8_prepare_1 rfl hl (by decide) rfl (fun ls hl => ?_)
  obtain ⟨n17, hf⟩ := hf
  refine w_X8_prepare_L2 _ _ _ _ _ E hw hs0 ?_ n17 _ _ hf _ _ _ hR hS (lv_sub hl [1, 2, 3, 0] rfl)
  intro m16 H locs ls hf hR hS hl
  exact hw_vret E hR hS ⟨rfl, hf⟩ dX8_prepare_62
def f_X8_typedBits_B4 (S : Ss) (a0 : Nat) (x1 : Int32) (x2 : Int32) (M : Mm) (BK4 : Int32 → Int32 → Mm → Prop) (EK4 : Int32 → Mm → Prop) (K : Int32 → Mm → Prop) : Prop :=
  (((M.1 a0 2) ≤ x2 →
    EK4 x1 M) ∧
   (¬ (M.1 a0 2) ≤ x2 →
    ∃ b2 : Nat, M.2.2 a0 0 = some b2 ∧
    ∃ n3 : Nat, shp S b2 = some (50, n3) ∧ vp_in x2 n3 ∧
    (((M.1 b2 x2.toNatClampNeg) = 0 →
      ∀ v7 : Int32, v7 = (x1 ||| (0 : Int32)) →
      ∀ v8 : Int32, v8 = x2 + (1 : Int32) →
      BK4 v7 v8 M) ∧
     (¬ (M.1 b2 x2.toNatClampNeg) = 0 →
      ∀ v5 : Int32, v5 = (x1 ||| ((1 : Int32) <<< (x2 &&& 31))) →
      ∀ v6 : Int32, v6 = x2 + (1 : Int32) →
      BK4 v5 v6 M))))
set_option maxHeartbeats 4000000 in
set_option maxRecDepth 100000 in
theorem w_X8_typedBits_B4 {p : Program} {l : Launch} {e : Env} {s : State} {m : MethodId} {args : Array Value} {below : List Frame} {meth : Method} {c : Code} {g : Gg} {S : Ss} (a0 : Nat) (x1 : Int32) (x2 : Int32) (M : Mm) (BK4 : Int32 → Int32 → Mm → Prop) (EK4 : Int32 → Mm → Prop) (K : Int32 → Mm → Prop) (E : EN p s m args meth c cX8_typedBits 3 (some .int) RX8 g) (hw : ad g 100000 < s.heap.size) (hs0 : S[a0]? = some (7, 0)) (hBK4 : ∀ (x1' : Int32) (x2' : Int32) (M' : Mm) (H : Heap) (locs : List Loc) (ls : Array Slot), BK4 x1' x2' M' → RP g S M' H → va_S (gA g) s.heap H locs → lv_has ls 3 [(0, .ref (ad g a0)), (1, .int x1'), (2, .int x2')] → W p l e (rmD 0) s m args below meth c H locs 0 0 (MQ below (QA g S (pI K)) args s 0 0 (gA g)) (F0 m 4 ls [])) (hEK4 : ∀ (x1' : Int32) (M' : Mm) (H : Heap) (locs : List Loc) (ls : Array Slot), EK4 x1' M' → RP g S M' H → va_S (gA g) s.heap H locs → lv_has ls 3 [(1, .int x1')] → W p l e (rmD 0) s m args below meth c H locs 0 0 (MQ below (QA g S (pI K)) args s 0 0 (gA g)) (F0 m 37 ls [])) (hf : f_X8_typedBits_B4 S a0 x1 x2 M BK4 EK4 K) (H : Heap) (locs : List Loc) (ls : Array Slot) (hR : RP g S M H) (hS : va_S (gA g) s.heap H locs) (hl : lv_has ls 3 [(0, .ref (ad g a0)), (1, .int x1), (2, .int x2)]) : W p l e (rmD 0) s m args below meth c H locs 0 0 (MQ below (QA g S (pI K)) args s 0 0 (gA g)) (F0 m 4 ls []) := by
  have hx := E.1
  have hb := E.2.1
  unfold f_X8_typedBits_B4 at hf
  refine lv_iload_n hx hb dX8_typedBits_4 rfl (lv_at hl 2 rfl) ?_
  refine lv_aload_n hx hb dX8_typedBits_5 rfl (lv_at hl 0 rfl) ?_
  refine hw_getI E hR cI7 hs0 2 (by decide) lfX8_18 rfl dX8_typedBits_6 ?_
  refine lv_icmp_ge (tgt := 37) hx hb dX8_typedBits_9 (by decide) (fun c1 => ?_) (fun c1 => ?_)
  · replace hf := hf.1 c1
    exact hEK4 _ _ _ _ _ hf hR hS (lv_sub hl [1] rfl)
  · replace hf := hf.2 c1
    refine lv_iload_n hx hb dX8_typedBits_12 rfl (lv_at hl 1 rfl) ?_
    refine lv_aload_n hx hb dX8_typedBits_13 rfl (lv_at hl 0 rfl) ?_
    obtain ⟨b2, hb2, hf⟩ := hf
    refine hw_getR E hR cI7 hs0 0 (by decide) lfX8_9 rfl hb2 dX8_typedBits_14 ?_
    refine lv_iload_n hx hb dX8_typedBits_17 rfl (lv_at hl 2 rfl) ?_
    obtain ⟨n3, hn3, in3, hf⟩ := hf
    refine hw_iald E hR hS hn3 in3 dX8_typedBits_18 ?_
    refine lv_if_ne (tgt := 26) hx hb dX8_typedBits_19 (by decide) (fun c4 => ?_) (fun c4 => ?_)
    · replace hf := hf.2 c4
      refine lv_iconst (v := 1) hx hb dX8_typedBits_26 (by decide) ?_
      refine lv_iload_n hx hb dX8_typedBits_27 rfl (lv_at hl 2 rfl) ?_
      refine lv_ishl hx hb dX8_typedBits_28 ?_
      refine lv_ior hx hb dX8_typedBits_29 ?_
      refine lv_topi (fun v5 ev5 => ?_)
      replace hf := hf v5 ev5
      refine lv_istore_n (lv' := [(1, .int v5), (0, .ref (ad g a0)), (2, .int x2)]) hx hb dX8_typedBits_30 rfl hl (by decide) rfl (fun ls hl => ?_)
      obtain ⟨v6, ev6⟩ : ∃ y : Int32, y = x2 + (1 : Int32) := ⟨_, rfl⟩
      replace hf := hf v6 ev6
      refine lv_iinc (v := v6) (lv' := [(2, .int v6), (1, .int v5), (0, .ref (ad g a0))]) hx hb dX8_typedBits_31 hl (k := 2) rfl (by rw [ev6]; rfl) (by decide) rfl (fun ls hl => ?_)
      refine lv_goto (tgt := 4) hx hb dX8_typedBits_34 (by decide) ?_
      exact hBK4 _ _ _ _ _ _ hf hR hS (lv_sub hl [2, 1, 0] rfl)
    · replace hf := hf.1 c4
      refine lv_iconst (v := 0) hx hb dX8_typedBits_22 (by decide) ?_
      refine lv_goto (tgt := 29) hx hb dX8_typedBits_23 (by decide) ?_
      refine lv_ior hx hb dX8_typedBits_29 ?_
      refine lv_topi (fun v7 ev7 => ?_)
      replace hf := hf v7 ev7
      refine lv_istore_n (lv' := [(1, .int v7), (0, .ref (ad g a0)), (2, .int x2)]) hx hb dX8_typedBits_30 rfl hl (by decide) rfl (fun ls hl => ?_)
      obtain ⟨v8, ev8⟩ : ∃ y : Int32, y = x2 + (1 : Int32) := ⟨_, rfl⟩
      replace hf := hf v8 ev8
      refine lv_iinc (v := v8) (lv' := [(2, .int v8), (1, .int v7), (0, .ref (ad g a0))]) hx hb dX8_typedBits_31 hl (k := 2) rfl (by rw [ev8]; rfl) (by decide) rfl (fun ls hl => ?_)
      refine lv_goto (tgt := 4) hx hb dX8_typedBits_34 (by decide) ?_
      exact hBK4 _ _ _ _ _ _ hf hR hS (lv_sub hl [2, 1, 0] rfl)
def f_X8_typedBits_L4 (S : Ss) (a0 : Nat) (EK4 : Int32 → Mm → Prop) (K : Int32 → Mm → Prop) : Nat → Int32 → Int32 → Mm → Prop
  | 0, _, _, _ => False
  | n + 1, x1, x2, M => f_X8_typedBits_B4 S a0 x1 x2 M (fun (x1 : Int32) (x2 : Int32) (M : Mm) => f_X8_typedBits_L4 S a0 EK4 K n x1 x2 M) EK4 K
set_option maxHeartbeats 4000000 in
set_option maxRecDepth 100000 in
theorem w_X8_typedBits_L4 {p : Program} {l : Launch} {e : Env} {s : State} {m : MethodId} {args : Array Value} {below : List Frame} {meth : Method} {c : Code} {g : Gg} {S : Ss} (a0 : Nat) (EK4 : Int32 → Mm → Prop) (K : Int32 → Mm → Prop) (E : EN p s m args meth c cX8_typedBits 3 (some .int) RX8 g) (hw : ad g 100000 < s.heap.size) (hs0 : S[a0]? = some (7, 0)) (hEK4 : ∀ (x1' : Int32) (M' : Mm) (H : Heap) (locs : List Loc) (ls : Array Slot), EK4 x1' M' → RP g S M' H → va_S (gA g) s.heap H locs → lv_has ls 3 [(1, .int x1')] → W p l e (rmD 0) s m args below meth c H locs 0 0 (MQ below (QA g S (pI K)) args s 0 0 (gA g)) (F0 m 37 ls [])) : ∀ (n : Nat) (x1 : Int32) (x2 : Int32) (M : Mm), f_X8_typedBits_L4 S a0 EK4 K n x1 x2 M → ∀ (H : Heap) (locs : List Loc) (ls : Array Slot), RP g S M H → va_S (gA g) s.heap H locs → lv_has ls 3 [(0, .ref (ad g a0)), (1, .int x1), (2, .int x2)] → W p l e (rmD 0) s m args below meth c H locs 0 0 (MQ below (QA g S (pI K)) args s 0 0 (gA g)) (F0 m 4 ls []) := by
  intro n
  induction n with
  | zero => intro x1 x2 M hf; exact hf.elim
  | succ n ih =>
    intro x1 x2 M hf H locs ls hR hS hl
    exact w_X8_typedBits_B4 _ _ _ _ _ _ _ E hw hs0 (fun _ _ M H locs ls h hR hS hl => ih _ _ M h H locs ls hR hS hl) hEK4 hf H locs ls hR hS hl
def f_X8_typedBits (S : Ss) (a0 : Nat) (M : Mm) (K : Int32 → Mm → Prop) : Prop :=
  ∃ n11 : Nat, f_X8_typedBits_L4 S a0 (fun (v9 : Int32) (m10 : Mm) =>
    K v9 m10) K n11 (0 : Int32) (0 : Int32) M
set_option maxHeartbeats 4000000 in
set_option maxRecDepth 100000 in
theorem ok_X8_typedBits {l : Launch} {g : Gg} {S : Ss} {a0 : Nat} {M : Mm} {K : Int32 → Mm → Prop} (hs0 : S[a0]? = some (7, 0)) (hf : f_X8_typedBits S a0 M K) : MT l g S yX8_typedBits cX8_typedBits 3 (some .int) 0 [.ref (ad g a0)] M (pI K) := by
  refine MT.of (by decide +kernel) (Nat.le_of_ble_eq_true rfl) ?_
  intro p e s m below meth c ls E hw hR hS hl
  have hl : lv_has ls 3 [(0, .ref (ad g a0))] := hl
  generalize ([.ref (ad g a0)] : List Value).toArray = args at E ⊢
  have E : EN p s m args meth c cX8_typedBits 3 (some .int) RX8 g := E
  have hx := E.1
  have hb := E.2.1
  unfold f_X8_typedBits at hf
  refine lv_iconst (v := 0) hx hb dX8_typedBits_0 (by decide) ?_
  refine lv_istore_n (lv' := [(1, .int (0 : Int32)), (0, .ref (ad g a0))]) hx hb dX8_typedBits_1 rfl hl (by decide) rfl (fun ls hl => ?_)
  refine lv_iconst (v := 0) hx hb dX8_typedBits_2 (by decide) ?_
  refine lv_istore_n (lv' := [(2, .int (0 : Int32)), (1, .int (0 : Int32)), (0, .ref (ad g a0))]) hx hb dX8_typedBits_3 rfl hl (by decide) rfl (fun ls hl => ?_)
  obtain ⟨n11, hf⟩ := hf
  refine w_X8_typedBits_L4 _ _ _ E hw hs0 ?_ n11 _ _ _ hf _ _ _ hR hS (lv_sub hl [2, 1, 0] rfl)
  intro v9 m10 H locs ls hf hR hS hl
  refine lv_iload_n hx hb dX8_typedBits_37 rfl (lv_at hl 0 rfl) ?_
  exact hw_iret E hR hS ⟨_, rfl, hf⟩ dX8_typedBits_38
def f_J6_bitCount_0f7a4 (S : Ss) (x0 : Int32) (M : Mm) (K : Int32 → Mm → Prop) : Prop :=
  ∀ v1 : Int32, v1 = (x0 - ((x0.toUInt32 >>> ((1 : Int32).toUInt32 &&& Int32.toUInt32 31)).toInt32 &&& (1431655765 : Int32))) →
  ∀ v2 : Int32, v2 = ((v1 &&& (858993459 : Int32)) + ((v1.toUInt32 >>> ((2 : Int32).toUInt32 &&& Int32.toUInt32 31)).toInt32 &&& (858993459 : Int32))) →
  ∀ v3 : Int32, v3 = ((v2 + (v2.toUInt32 >>> ((4 : Int32).toUInt32 &&& Int32.toUInt32 31)).toInt32) &&& (252645135 : Int32)) →
  ∀ v4 : Int32, v4 = (v3 + (v3.toUInt32 >>> ((8 : Int32).toUInt32 &&& Int32.toUInt32 31)).toInt32) →
  ∀ v5 : Int32, v5 = (v4 + (v4.toUInt32 >>> ((16 : Int32).toUInt32 &&& Int32.toUInt32 31)).toInt32) →
  K (v5 &&& (63 : Int32)) M
set_option maxHeartbeats 4000000 in
set_option maxRecDepth 100000 in
theorem ok_J6_bitCount_0f7a4 {l : Launch} {g : Gg} {S : Ss} {x0 : Int32} {M : Mm} {K : Int32 → Mm → Prop} (hf : f_J6_bitCount_0f7a4 S x0 M K) : MT l g S yJ6_bitCount_0f7a4 cJ6_bitCount_0f7a4 1 (some .int) 0 [.int x0] M (pI K) := by
  refine MT.of (by decide +kernel) (Nat.le_of_ble_eq_true rfl) ?_
  intro p e s m below meth c ls E hw hR hS hl
  have hl : lv_has ls 1 [(0, .int x0)] := hl
  generalize ([.int x0] : List Value).toArray = args at E ⊢
  have E : EN p s m args meth c cJ6_bitCount_0f7a4 1 (some .int) RJ6 g := E
  have hx := E.1
  have hb := E.2.1
  unfold f_J6_bitCount_0f7a4 at hf
  refine lv_iload_n hx hb dJ6_bitCount_0f7a4_0 rfl (lv_at hl 0 rfl) ?_
  refine lv_iload_n hx hb dJ6_bitCount_0f7a4_1 rfl (lv_at hl 0 rfl) ?_
  refine lv_iconst (v := 1) hx hb dJ6_bitCount_0f7a4_2 (by decide) ?_
  refine lv_iushr hx hb dJ6_bitCount_0f7a4_3 rfl ?_
  refine lv_ldcw (v := 1431655765) hx hb E.2.2.2.2.1 (E.2.2.2.2.2.1 _ lcJ6_265) dJ6_bitCount_0f7a4_4 ?_
  refine lv_iand hx hb dJ6_bitCount_0f7a4_7 ?_
  refine lv_isub hx hb dJ6_bitCount_0f7a4_8 ?_
  refine lv_topi (fun v1 ev1 => ?_)
  replace hf := hf v1 ev1
  refine lv_istore_n (lv' := [(0, .int v1)]) hx hb dJ6_bitCount_0f7a4_9 rfl hl (by decide) rfl (fun ls hl => ?_)
  refine lv_iload_n hx hb dJ6_bitCount_0f7a4_10 rfl (lv_at hl 0 rfl) ?_
  refine lv_ldcw (v := 858993459) hx hb E.2.2.2.2.1 (E.2.2.2.2.2.1 _ lcJ6_266) dJ6_bitCount_0f7a4_11 ?_
  refine lv_iand hx hb dJ6_bitCount_0f7a4_14 ?_
  refine lv_iload_n hx hb dJ6_bitCount_0f7a4_15 rfl (lv_at hl 0 rfl) ?_
  refine lv_iconst (v := 2) hx hb dJ6_bitCount_0f7a4_16 (by decide) ?_
  refine lv_iushr hx hb dJ6_bitCount_0f7a4_17 rfl ?_
  refine lv_ldcw (v := 858993459) hx hb E.2.2.2.2.1 (E.2.2.2.2.2.1 _ lcJ6_266) dJ6_bitCount_0f7a4_18 ?_
  refine lv_iand hx hb dJ6_bitCount_0f7a4_21 ?_
  refine lv_iadd hx hb dJ6_bitCount_0f7a4_22 ?_
  refine lv_topi (fun v2 ev2 => ?_)
  replace hf := hf v2 ev2
  refine lv_istore_n (lv' := [(0, .int v2)]) hx hb dJ6_bitCount_0f7a4_23 rfl hl (by decide) rfl (fun ls hl => ?_)
  refine lv_iload_n hx hb dJ6_bitCount_0f7a4_24 rfl (lv_at hl 0 rfl) ?_
  refine lv_iload_n hx hb dJ6_bitCount_0f7a4_25 rfl (lv_at hl 0 rfl) ?_
  refine lv_iconst (v := 4) hx hb dJ6_bitCount_0f7a4_26 (by decide) ?_
  refine lv_iushr hx hb dJ6_bitCount_0f7a4_27 rfl ?_
  refine lv_iadd hx hb dJ6_bitCount_0f7a4_28 ?_
  refine lv_ldcw (v := 252645135) hx hb E.2.2.2.2.1 (E.2.2.2.2.2.1 _ lcJ6_267) dJ6_bitCount_0f7a4_29 ?_
  refine lv_iand hx hb dJ6_bitCount_0f7a4_32 ?_
  refine lv_topi (fun v3 ev3 => ?_)
  replace hf := hf v3 ev3
  refine lv_istore_n (lv' := [(0, .int v3)]) hx hb dJ6_bitCount_0f7a4_33 rfl hl (by decide) rfl (fun ls hl => ?_)
  refine lv_iload_n hx hb dJ6_bitCount_0f7a4_34 rfl (lv_at hl 0 rfl) ?_
  refine lv_iload_n hx hb dJ6_bitCount_0f7a4_35 rfl (lv_at hl 0 rfl) ?_
  refine lv_bipush (v := 8) hx hb dJ6_bitCount_0f7a4_36 (by decide) ?_
  refine lv_iushr hx hb dJ6_bitCount_0f7a4_38 rfl ?_
  refine lv_iadd hx hb dJ6_bitCount_0f7a4_39 ?_
  refine lv_topi (fun v4 ev4 => ?_)
  replace hf := hf v4 ev4
  refine lv_istore_n (lv' := [(0, .int v4)]) hx hb dJ6_bitCount_0f7a4_40 rfl hl (by decide) rfl (fun ls hl => ?_)
  refine lv_iload_n hx hb dJ6_bitCount_0f7a4_41 rfl (lv_at hl 0 rfl) ?_
  refine lv_iload_n hx hb dJ6_bitCount_0f7a4_42 rfl (lv_at hl 0 rfl) ?_
  refine lv_bipush (v := 16) hx hb dJ6_bitCount_0f7a4_43 (by decide) ?_
  refine lv_iushr hx hb dJ6_bitCount_0f7a4_45 rfl ?_
  refine lv_iadd hx hb dJ6_bitCount_0f7a4_46 ?_
  refine lv_topi (fun v5 ev5 => ?_)
  replace hf := hf v5 ev5
  refine lv_istore_n (lv' := [(0, .int v5)]) hx hb dJ6_bitCount_0f7a4_47 rfl hl (by decide) rfl (fun ls hl => ?_)
  refine lv_iload_n hx hb dJ6_bitCount_0f7a4_48 rfl (lv_at hl 0 rfl) ?_
  refine lv_bipush (v := 63) hx hb dJ6_bitCount_0f7a4_49 (by decide) ?_
  refine lv_iand hx hb dJ6_bitCount_0f7a4_51 ?_
  exact hw_iret E hR hS ⟨_, rfl, hf⟩ dJ6_bitCount_0f7a4_52
