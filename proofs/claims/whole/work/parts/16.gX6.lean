def f_X6_exchange (S : Ss) (a0 : Nat) (a1 : Nat) (M : Mm) (K : Nat → Mm → Prop) : Prop :=
  ∃ b1 : Nat, M.2.2 a0 6 = some b1 ∧
  ∀ m2 : Mm, m2 = stR M a0 6 (some a1) →
  K b1 m2
set_option maxHeartbeats 4000000 in
set_option maxRecDepth 100000 in
theorem ok_X6_exchange {l : Launch} {g : Gg} {S : Ss} {a0 : Nat} {a1 : Nat} {M : Mm} {K : Nat → Mm → Prop} (hs0 : S[a0]? = some (5, 0)) (hs1 : S[a1]? = some (4, 0)) (hf : f_X6_exchange S a0 a1 M K) : MT l g S yX6_exchange cX6_exchange 3 (some (.object "TwoKeys$Program")) 0 [.ref (ad g a0), .ref (ad g a1)] M (pR g K) := by
  refine MT.of (by decide +kernel) (Nat.le_of_ble_eq_true rfl) ?_
  intro p e s m below meth c ls E hw hR hS hl
  have hl : lv_has ls 3 [(0, .ref (ad g a0)), (1, .ref (ad g a1))] := hl
  generalize ([.ref (ad g a0), .ref (ad g a1)] : List Value).toArray = args at E ⊢
  have E : EN p s m args meth c cX6_exchange 3 (some (.object "TwoKeys$Program")) RX6 g := E
  have hx := E.1
  have hb := E.2.1
  unfold f_X6_exchange at hf
  refine lv_aload_n hx hb dX6_exchange_0 rfl (lv_at hl 0 rfl) ?_
  obtain ⟨b1, hb1, hf⟩ := hf
  refine hw_getR E hR cI5 hs0 6 (by decide) lfX6_35 rfl hb1 dX6_exchange_1 ?_
  refine lv_astore_n (lv' := [(2, .ref (ad g b1)), (0, .ref (ad g a0)), (1, .ref (ad g a1))]) hx hb dX6_exchange_4 rfl hl (by decide) rfl (fun ls hl => ?_)
  refine lv_aload_n hx hb dX6_exchange_5 rfl (lv_at hl 1 rfl) ?_
  refine lv_aload_n hx hb dX6_exchange_6 rfl (lv_at hl 2 rfl) ?_
  refine hw_putR (o := (some a1)) E hR hS hw cI5 hs0 6 (by decide) lfX6_35 rfl rfl dX6_exchange_7 (fun m2 H locs em2 hR hS => ?_)
  replace hf := hf m2 em2
  refine lv_aload_n hx hb dX6_exchange_10 rfl (lv_at hl 0 rfl) ?_
  exact hw_aret (o := some b1) E (by first | exact Or.inl ⟨_, rfl⟩ | exact Or.inr ⟨_, rfl⟩) hR hS ⟨_, rfl, hf⟩ dX6_exchange_11
def f_X6_begin (S : Ss) (a0 : Nat) (x1 : Int32) (M : Mm) (K : Mm → Prop) : Prop :=
  ∀ m1 : Mm, m1 = stI M a0 2 (if (60 : Int32) < x1 then (60 : Int32) else x1) →
  ∀ m2 : Mm, m2 = stI m1 a0 3 (0 : Int32) →
  ∃ b3 : Nat, m2.2.2 a0 6 = some b3 ∧
  S[b3]? = some (4, 0) ∧
  f_X5_clear S b3  m2 (fun (m4 : Mm) =>
    ∃ b6 : Nat, m4.2.2 a0 6 = some b6 ∧
  ∃ b7 : Nat, m4.2.2 a0 0 = some b7 ∧
  S[b6]? = some (4, 0) ∧
  f_X5_copyText S b6 b7 (m4.1 a0 2) m4 (fun (m8 : Mm) =>
    K m8))
set_option maxHeartbeats 4000000 in
set_option maxRecDepth 100000 in
theorem ok_X6_begin {l : Launch} {g : Gg} {S : Ss} {a0 : Nat} {x1 : Int32} {M : Mm} {K : Mm → Prop} (hs0 : S[a0]? = some (5, 0)) (hf : f_X6_begin S a0 x1 M K) : MT l g S yX6_begin cX6_begin 2 none 2 [.ref (ad g a0), .int x1] M (pV K) := by
  refine MT.of (by decide +kernel) (Nat.le_of_ble_eq_true rfl) ?_
  intro p e s m below meth c ls E hw hR hS hl
  have hl : lv_has ls 2 [(0, .ref (ad g a0)), (1, .int x1)] := hl
  generalize ([.ref (ad g a0), .int x1] : List Value).toArray = args at E ⊢
  have E : EN p s m args meth c cX6_begin 2 none RX6 g := E
  have hx := E.1
  have hb := E.2.1
  unfold f_X6_begin at hf
  refine lv_aload_n hx hb dX6_begin_0 rfl (lv_at hl 0 rfl) ?_
  refine lv_iload_n hx hb dX6_begin_1 rfl (lv_at hl 1 rfl) ?_
  refine lv_bipush (v := 60) hx hb dX6_begin_2 (by decide) ?_
  refine hw_min (d := 2) (rest := [.ref (ad g a0)]) E hl lxX6_62 (by decide) (Nat.le_of_ble_eq_true rfl) dX6_begin_4 ?_
  refine hw_putI E hR hS hw cI5 hs0 2 (by decide) lfX6_19 rfl (Or.inl rfl) dX6_begin_7 (fun m1 H locs em1 hR hS => ?_)
  replace hf := hf m1 em1
  refine lv_aload_n hx hb dX6_begin_10 rfl (lv_at hl 0 rfl) ?_
  refine lv_iconst (v := 0) hx hb dX6_begin_11 (by decide) ?_
  refine hw_putI E hR hS hw cI5 hs0 3 (by decide) lfX6_22 rfl (Or.inl rfl) dX6_begin_12 (fun m2 H locs em2 hR hS => ?_)
  replace hf := hf m2 em2
  refine lv_aload_n hx hb dX6_begin_15 rfl (lv_at hl 0 rfl) ?_
  obtain ⟨b3, hb3, hf⟩ := hf
  refine hw_getR E hR cI5 hs0 6 (by decide) lfX6_35 rfl hb3 dX6_begin_16 ?_
  obtain ⟨h5, hf⟩ := hf
  refine hw_callV (d := 2) E hR hS (As := []) (rest := []) cI4 h5 rfl mcX5_clear miX5_clear lmX6_68 (ok_X5_clear h5 hf) rfl rfl (by decide) hl.1 (Nat.le_of_ble_eq_true rfl) dX6_begin_19 (fun rr m4 H locs hp hR hS => ?_)
  obtain ⟨rfl, hf⟩ := hp
  refine W.eq (g2 := F0 m 22 ls []) rfl ?_
  refine lv_aload_n hx hb dX6_begin_22 rfl (lv_at hl 0 rfl) ?_
  obtain ⟨b6, hb6, hf⟩ := hf
  refine hw_getR E hR cI5 hs0 6 (by decide) lfX6_35 rfl hb6 dX6_begin_23 ?_
  refine lv_aload_n hx hb dX6_begin_26 rfl (lv_at hl 0 rfl) ?_
  obtain ⟨b7, hb7, hf⟩ := hf
  refine hw_getR E hR cI5 hs0 0 (by decide) lfX6_9 rfl hb7 dX6_begin_27 ?_
  refine lv_aload_n hx hb dX6_begin_30 rfl (lv_at hl 0 rfl) ?_
  refine hw_getI E hR cI5 hs0 2 (by decide) lfX6_19 rfl dX6_begin_31 ?_
  obtain ⟨h9, hf⟩ := hf
  refine hw_callV (d := 2) E hR hS (As := [.ref (ad g b7), .int (m4.1 a0 2)]) (rest := []) cI4 h9 rfl mcX5_copyText miX5_copyText lmX6_71 (ok_X5_copyText h9 hf) rfl rfl (by decide) hl.1 (Nat.le_of_ble_eq_true rfl) dX6_begin_34 (fun rr m8 H locs hp hR hS => ?_)
  obtain ⟨rfl, hf⟩ := hp
  refine W.eq (g2 := F0 m 37 ls []) rfl ?_
  exact hw_vret E hR hS ⟨rfl, hf⟩ dX6_begin_37
def f_X6_heldRank (S : Ss) (a0 : Nat) (M : Mm) (K : Int32 → Mm → Prop) : Prop :=
  (((M.1 a0 5) ≤ 0 →
    K (0 : Int32) M) ∧
   (¬ (M.1 a0 5) ≤ 0 →
    ∃ b2 : Nat, M.2.2 a0 4 = some b2 ∧
    ∃ n3 : Nat, shp S b2 = some (50, n3) ∧ vp_in ((M.1 a0 5) - (1 : Int32)) n3 ∧
    f_X0_rank S  (M.1 b2 ((M.1 a0 5) - (1 : Int32)).toNatClampNeg) M (fun (r5 : Int32) (m4 : Mm) =>
      K r5 m4)))
set_option maxHeartbeats 4000000 in
set_option maxRecDepth 100000 in
theorem ok_X6_heldRank {l : Launch} {g : Gg} {S : Ss} {a0 : Nat} {M : Mm} {K : Int32 → Mm → Prop} (hs0 : S[a0]? = some (5, 0)) (hf : f_X6_heldRank S a0 M K) : MT l g S yX6_heldRank cX6_heldRank 1 (some .int) 1 [.ref (ad g a0)] M (pI K) := by
  refine MT.of (by decide +kernel) (Nat.le_of_ble_eq_true rfl) ?_
  intro p e s m below meth c ls E hw hR hS hl
  have hl : lv_has ls 1 [(0, .ref (ad g a0))] := hl
  generalize ([.ref (ad g a0)] : List Value).toArray = args at E ⊢
  have E : EN p s m args meth c cX6_heldRank 1 (some .int) RX6 g := E
  have hx := E.1
  have hb := E.2.1
  unfold f_X6_heldRank at hf
  refine lv_aload_n hx hb dX6_heldRank_0 rfl (lv_at hl 0 rfl) ?_
  refine hw_getI E hR cI5 hs0 5 (by decide) lfX6_29 rfl dX6_heldRank_1 ?_
  refine lv_if_le (tgt := 24) hx hb dX6_heldRank_4 (by decide) (fun c1 => ?_) (fun c1 => ?_)
  · replace hf := hf.1 c1
    refine lv_iconst (v := 0) hx hb dX6_heldRank_24 (by decide) ?_
    exact hw_iret E hR hS ⟨_, rfl, hf⟩ dX6_heldRank_25
  · replace hf := hf.2 c1
    refine lv_aload_n hx hb dX6_heldRank_7 rfl (lv_at hl 0 rfl) ?_
    obtain ⟨b2, hb2, hf⟩ := hf
    refine hw_getR E hR cI5 hs0 4 (by decide) lfX6_25 rfl hb2 dX6_heldRank_8 ?_
    refine lv_aload_n hx hb dX6_heldRank_11 rfl (lv_at hl 0 rfl) ?_
    refine hw_getI E hR cI5 hs0 5 (by decide) lfX6_29 rfl dX6_heldRank_12 ?_
    refine lv_iconst (v := 1) hx hb dX6_heldRank_15 (by decide) ?_
    refine lv_isub hx hb dX6_heldRank_16 ?_
    obtain ⟨n3, hn3, in3, hf⟩ := hf
    refine hw_iald E hR hS hn3 in3 dX6_heldRank_17 ?_
    refine hw_callS (d := 1) E hR hS (As := [.int (M.1 b2 ((M.1 a0 5) - (1 : Int32)).toNatClampNeg)]) (rest := []) mcX0_rank msX0_rank lmX6_122 (ok_X0_rank  hf) rfl rfl (by decide) hl.1 (Nat.le_of_ble_eq_true rfl) dX6_heldRank_18 (fun rr m4 H locs hp hR hS => ?_)
    obtain ⟨r5, rfl, hf⟩ := hp
    refine W.eq (g2 := F0 m 21 ls [.int r5]) rfl ?_
    refine lv_goto (tgt := 25) hx hb dX6_heldRank_21 (by decide) ?_
    exact hw_iret E hR hS ⟨_, rfl, hf⟩ dX6_heldRank_25
def f_X6_hold (S : Ss) (a0 : Nat) (x1 : Int32) (M : Mm) (K : Mm → Prop) : Prop :=
  (((60 : Int32) ≤ (M.1 a0 5) →
    K M) ∧
   (¬ (60 : Int32) ≤ (M.1 a0 5) →
    ∃ b2 : Nat, M.2.2 a0 4 = some b2 ∧
    ∃ n3 : Nat, S[b2]? = some (50, n3) ∧ vp_in (M.1 a0 5) n3 ∧
    ∀ m4 : Mm, m4 = stI M b2 (M.1 a0 5).toNatClampNeg x1 →
    ∀ m5 : Mm, m5 = stI m4 a0 5 ((m4.1 a0 5) + (1 : Int32)) →
    K m5))
set_option maxHeartbeats 4000000 in
set_option maxRecDepth 100000 in
theorem ok_X6_hold {l : Launch} {g : Gg} {S : Ss} {a0 : Nat} {x1 : Int32} {M : Mm} {K : Mm → Prop} (hs0 : S[a0]? = some (5, 0)) (hf : f_X6_hold S a0 x1 M K) : MT l g S yX6_hold cX6_hold 2 none 0 [.ref (ad g a0), .int x1] M (pV K) := by
  refine MT.of (by decide +kernel) (Nat.le_of_ble_eq_true rfl) ?_
  intro p e s m below meth c ls E hw hR hS hl
  have hl : lv_has ls 2 [(0, .ref (ad g a0)), (1, .int x1)] := hl
  generalize ([.ref (ad g a0), .int x1] : List Value).toArray = args at E ⊢
  have E : EN p s m args meth c cX6_hold 2 none RX6 g := E
  have hx := E.1
  have hb := E.2.1
  unfold f_X6_hold at hf
  refine lv_aload_n hx hb dX6_hold_0 rfl (lv_at hl 0 rfl) ?_
  refine hw_getI E hR cI5 hs0 5 (by decide) lfX6_29 rfl dX6_hold_1 ?_
  refine lv_bipush (v := 60) hx hb dX6_hold_4 (by decide) ?_
  refine lv_icmp_ge (tgt := 29) hx hb dX6_hold_6 (by decide) (fun c1 => ?_) (fun c1 => ?_)
  · replace hf := hf.1 c1
    exact hw_vret E hR hS ⟨rfl, hf⟩ dX6_hold_29
  · replace hf := hf.2 c1
    refine lv_aload_n hx hb dX6_hold_9 rfl (lv_at hl 0 rfl) ?_
    obtain ⟨b2, hb2, hf⟩ := hf
    refine hw_getR E hR cI5 hs0 4 (by decide) lfX6_25 rfl hb2 dX6_hold_10 ?_
    refine lv_aload_n hx hb dX6_hold_13 rfl (lv_at hl 0 rfl) ?_
    refine hw_getI E hR cI5 hs0 5 (by decide) lfX6_29 rfl dX6_hold_14 ?_
    refine lv_iload_n hx hb dX6_hold_17 rfl (lv_at hl 1 rfl) ?_
    obtain ⟨n3, hn3, in3, hf⟩ := hf
    refine hw_iast E hR hS hw hn3 in3 dX6_hold_18 (fun m4 H locs em4 hR hS => ?_)
    replace hf := hf m4 em4
    refine lv_aload_n hx hb dX6_hold_19 rfl (lv_at hl 0 rfl) ?_
    refine lv_dup hx hb dX6_hold_20 rfl ?_
    refine hw_getI E hR cI5 hs0 5 (by decide) lfX6_29 rfl dX6_hold_21 ?_
    refine lv_iconst (v := 1) hx hb dX6_hold_24 (by decide) ?_
    refine lv_iadd hx hb dX6_hold_25 ?_
    refine hw_putI E hR hS hw cI5 hs0 5 (by decide) lfX6_29 rfl (Or.inl rfl) dX6_hold_26 (fun m5 H locs em5 hR hS => ?_)
    replace hf := hf m5 em5
    exact hw_vret E hR hS ⟨rfl, hf⟩ dX6_hold_29
def f_X6_release_B0 (S : Ss) (a0 : Nat) (x1 : Int32) (M : Mm) (BK0 : Mm → Prop) (EK0 : Mm → Prop) (K : Mm → Prop) : Prop :=
  (((M.1 a0 5) ≤ 0 →
    EK0 M) ∧
   (¬ (M.1 a0 5) ≤ 0 →
    f_X6_heldRank S a0  M (fun (r3 : Int32) (m2 : Mm) =>
      ((r3 < x1 →
      EK0 m2) ∧
     (¬ r3 < x1 →
      ∀ m5 : Mm, m5 = stI m2 a0 5 ((m2.1 a0 5) - (1 : Int32)) →
      ∃ b6 : Nat, m5.2.2 a0 6 = some b6 ∧
      ∃ b7 : Nat, m5.2.2 a0 4 = some b7 ∧
      ∃ n8 : Nat, shp S b7 = some (50, n8) ∧ vp_in (m5.1 a0 5) n8 ∧
      S[b6]? = some (4, 0) ∧
      f_X5_emit S b6 (m5.1 b7 (m5.1 a0 5).toNatClampNeg) m5 (fun (m9 : Mm) =>
        BK0 m9))))))
set_option maxHeartbeats 4000000 in
set_option maxRecDepth 100000 in
theorem w_X6_release_B0 {p : Program} {l : Launch} {e : Env} {s : State} {m : MethodId} {args : Array Value} {below : List Frame} {meth : Method} {c : Code} {g : Gg} {S : Ss} (a0 : Nat) (x1 : Int32) (M : Mm) (BK0 : Mm → Prop) (EK0 : Mm → Prop) (K : Mm → Prop) (E : EN p s m args meth c cX6_release 2 none RX6 g) (hw : ad g 100000 < s.heap.size) (hs0 : S[a0]? = some (5, 0)) (hBK0 : ∀ (M' : Mm) (H : Heap) (locs : List Loc) (ls : Array Slot), BK0 M' → RP g S M' H → va_S (gA g) s.heap H locs → lv_has ls 2 [(0, .ref (ad g a0)), (1, .int x1)] → W p l e (rmD 2) s m args below meth c H locs 0 0 (MQ below (QA g S (pV K)) args s 0 0 (gA g)) (F0 m 0 ls [])) (hEK0 : ∀ (M' : Mm) (H : Heap) (locs : List Loc) (ls : Array Slot), EK0 M' → RP g S M' H → va_S (gA g) s.heap H locs → lv_has ls 2 [] → W p l e (rmD 2) s m args below meth c H locs 0 0 (MQ below (QA g S (pV K)) args s 0 0 (gA g)) (F0 m 44 ls [])) (hf : f_X6_release_B0 S a0 x1 M BK0 EK0 K) (H : Heap) (locs : List Loc) (ls : Array Slot) (hR : RP g S M H) (hS : va_S (gA g) s.heap H locs) (hl : lv_has ls 2 [(0, .ref (ad g a0)), (1, .int x1)]) : W p l e (rmD 2) s m args below meth c H locs 0 0 (MQ below (QA g S (pV K)) args s 0 0 (gA g)) (F0 m 0 ls []) := by
  have hx := E.1
  have hb := E.2.1
  unfold f_X6_release_B0 at hf
  refine lv_aload_n hx hb dX6_release_0 rfl (lv_at hl 0 rfl) ?_
  refine hw_getI E hR cI5 hs0 5 (by decide) lfX6_29 rfl dX6_release_1 ?_
  refine lv_if_le (tgt := 44) hx hb dX6_release_4 (by decide) (fun c1 => ?_) (fun c1 => ?_)
  · replace hf := hf.1 c1
    exact hEK0  _ _ _ _ hf hR hS (lv_sub hl [] rfl)
  · replace hf := hf.2 c1
    refine lv_aload_n hx hb dX6_release_7 rfl (lv_at hl 0 rfl) ?_
    refine hw_callV (d := 2) E hR hS (As := []) (rest := []) cI5 hs0 rfl mcX6_heldRank miX6_heldRank lmX6_125 (ok_X6_heldRank hs0 hf) rfl rfl (by decide) hl.1 (Nat.le_of_ble_eq_true rfl) dX6_release_8 (fun rr m2 H locs hp hR hS => ?_)
    obtain ⟨r3, rfl, hf⟩ := hp
    refine W.eq (g2 := F0 m 11 ls [.int r3]) rfl ?_
    refine lv_iload_n hx hb dX6_release_11 rfl (lv_at hl 1 rfl) ?_
    refine lv_icmp_lt (tgt := 44) hx hb dX6_release_12 (by decide) (fun c4 => ?_) (fun c4 => ?_)
    · replace hf := hf.1 c4
      exact hEK0  _ _ _ _ hf hR hS (lv_sub hl [] rfl)
    · replace hf := hf.2 c4
      refine lv_aload_n hx hb dX6_release_15 rfl (lv_at hl 0 rfl) ?_
      refine lv_dup hx hb dX6_release_16 rfl ?_
      refine hw_getI E hR cI5 hs0 5 (by decide) lfX6_29 rfl dX6_release_17 ?_
      refine lv_iconst (v := 1) hx hb dX6_release_20 (by decide) ?_
      refine lv_isub hx hb dX6_release_21 ?_
      refine hw_putI E hR hS hw cI5 hs0 5 (by decide) lfX6_29 rfl (Or.inl rfl) dX6_release_22 (fun m5 H locs em5 hR hS => ?_)
      replace hf := hf m5 em5
      refine lv_aload_n hx hb dX6_release_25 rfl (lv_at hl 0 rfl) ?_
      obtain ⟨b6, hb6, hf⟩ := hf
      refine hw_getR E hR cI5 hs0 6 (by decide) lfX6_35 rfl hb6 dX6_release_26 ?_
      refine lv_aload_n hx hb dX6_release_29 rfl (lv_at hl 0 rfl) ?_
      obtain ⟨b7, hb7, hf⟩ := hf
      refine hw_getR E hR cI5 hs0 4 (by decide) lfX6_25 rfl hb7 dX6_release_30 ?_
      refine lv_aload_n hx hb dX6_release_33 rfl (lv_at hl 0 rfl) ?_
      refine hw_getI E hR cI5 hs0 5 (by decide) lfX6_29 rfl dX6_release_34 ?_
      obtain ⟨n8, hn8, in8, hf⟩ := hf
      refine hw_iald E hR hS hn8 in8 dX6_release_37 ?_
      obtain ⟨h10, hf⟩ := hf
      refine hw_callV (d := 2) E hR hS (As := [.int (m5.1 b7 (m5.1 a0 5).toNatClampNeg)]) (rest := []) cI4 h10 rfl mcX5_emit miX5_emit lmX6_115 (ok_X5_emit h10 hf) rfl rfl (by decide) hl.1 (Nat.le_of_ble_eq_true rfl) dX6_release_38 (fun rr m9 H locs hp hR hS => ?_)
      obtain ⟨rfl, hf⟩ := hp
      refine W.eq (g2 := F0 m 41 ls []) rfl ?_
      refine lv_goto (tgt := 0) hx hb dX6_release_41 (by decide) ?_
      exact hBK0  _ _ _ _ hf hR hS (lv_sub hl [0, 1] rfl)
def f_X6_release_L0 (S : Ss) (a0 : Nat) (x1 : Int32) (EK0 : Mm → Prop) (K : Mm → Prop) : Nat → Mm → Prop
  | 0, _ => False
  | n + 1, M => f_X6_release_B0 S a0 x1 M (fun (M : Mm) => f_X6_release_L0 S a0 x1 EK0 K n M) EK0 K
set_option maxHeartbeats 4000000 in
set_option maxRecDepth 100000 in
theorem w_X6_release_L0 {p : Program} {l : Launch} {e : Env} {s : State} {m : MethodId} {args : Array Value} {below : List Frame} {meth : Method} {c : Code} {g : Gg} {S : Ss} (a0 : Nat) (x1 : Int32) (EK0 : Mm → Prop) (K : Mm → Prop) (E : EN p s m args meth c cX6_release 2 none RX6 g) (hw : ad g 100000 < s.heap.size) (hs0 : S[a0]? = some (5, 0)) (hEK0 : ∀ (M' : Mm) (H : Heap) (locs : List Loc) (ls : Array Slot), EK0 M' → RP g S M' H → va_S (gA g) s.heap H locs → lv_has ls 2 [] → W p l e (rmD 2) s m args below meth c H locs 0 0 (MQ below (QA g S (pV K)) args s 0 0 (gA g)) (F0 m 44 ls [])) : ∀ (n : Nat) (M : Mm), f_X6_release_L0 S a0 x1 EK0 K n M → ∀ (H : Heap) (locs : List Loc) (ls : Array Slot), RP g S M H → va_S (gA g) s.heap H locs → lv_has ls 2 [(0, .ref (ad g a0)), (1, .int x1)] → W p l e (rmD 2) s m args below meth c H locs 0 0 (MQ below (QA g S (pV K)) args s 0 0 (gA g)) (F0 m 0 ls []) := by
  intro n
  induction n with
  | zero => intro M hf; exact hf.elim
  | succ n ih =>
    intro M hf H locs ls hR hS hl
    exact w_X6_release_B0 _ _ _ _ _ _ E hw hs0 (fun M H locs ls h hR hS hl => ih M h H locs ls hR hS hl) hEK0 hf H locs ls hR hS hl
def f_X6_release (S : Ss) (a0 : Nat) (x1 : Int32) (M : Mm) (K : Mm → Prop) : Prop :=
  ∃ n12 : Nat, f_X6_release_L0 S a0 x1 (fun (m11 : Mm) =>
    K m11) K n12 M
set_option maxHeartbeats 4000000 in
set_option maxRecDepth 100000 in
theorem ok_X6_release {l : Launch} {g : Gg} {S : Ss} {a0 : Nat} {x1 : Int32} {M : Mm} {K : Mm → Prop} (hs0 : S[a0]? = some (5, 0)) (hf : f_X6_release S a0 x1 M K) : MT l g S yX6_release cX6_release 2 none 2 [.ref (ad g a0), .int x1] M (pV K) := by
  refine MT.of (by decide +kernel) (Nat.le_of_ble_eq_true rfl) ?_
  intro p e s m below meth c ls E hw hR hS hl
  have hl : lv_has ls 2 [(0, .ref (ad g a0)), (1, .int x1)] := hl
  generalize ([.ref (ad g a0), .int x1] : List Value).toArray = args at E ⊢
  have E : EN p s m args meth c cX6_release 2 none RX6 g := E
  have hx := E.1
  have hb := E.2.1
  unfold f_X6_release at hf
  obtain ⟨n12, hf⟩ := hf
  refine w_X6_release_L0 _ _ _ _ E hw hs0 ?_ n12 _ hf _ _ _ hR hS (lv_sub hl [0, 1] rfl)
  intro m11 H locs ls hf hR hS hl
  exact hw_vret E hR hS ⟨rfl, hf⟩ dX6_release_44
def f_X6_holdJoint_J32 (S : Ss) (a0 : Nat) (x1 : Int32) (M : Mm) (K : Int32 → Mm → Prop) : Prop :=
  f_X6_hold S a0 x1 M (fun (m5 : Mm) =>
    ∀ m6 : Mm, m6 = stI m5 a0 3 ((m5.1 a0 3) + (1 : Int32)) →
  K (1 : Int32) m6)
set_option maxHeartbeats 4000000 in
set_option maxRecDepth 100000 in
theorem w_X6_holdJoint_J32 {p : Program} {l : Launch} {e : Env} {s : State} {m : MethodId} {args : Array Value} {below : List Frame} {meth : Method} {c : Code} {g : Gg} {S : Ss} (a0 : Nat) (x1 : Int32) (M : Mm) (K : Int32 → Mm → Prop) (E : EN p s m args meth c cX6_holdJoint 3 (some .boolean) RX6 g) (hw : ad g 100000 < s.heap.size) (hs0 : S[a0]? = some (5, 0)) (hf : f_X6_holdJoint_J32 S a0 x1 M K) (H : Heap) (locs : List Loc) (ls : Array Slot) (hR : RP g S M H) (hS : va_S (gA g) s.heap H locs) (hl : lv_has ls 3 [(0, .ref (ad g a0)), (1, .int x1)]) : W p l e (rmD 3) s m args below meth c H locs 0 0 (MQ below (QA g S (pI K)) args s 0 0 (gA g)) (F0 m 32 ls []) := by
  have hx := E.1
  have hb := E.2.1
  unfold f_X6_holdJoint_J32 at hf
  refine lv_aload_n hx hb dX6_holdJoint_32 rfl (lv_at hl 0 rfl) ?_
  refine lv_iload_n hx hb dX6_holdJoint_33 rfl (lv_at hl 1 rfl) ?_
  refine hw_callV (d := 3) E hR hS (As := [.int x1]) (rest := []) cI5 hs0 rfl mcX6_hold miX6_hold lmX6_112 (ok_X6_hold hs0 hf) rfl rfl (by decide) hl.1 (Nat.le_of_ble_eq_true rfl) dX6_holdJoint_34 (fun rr m5 H locs hp hR hS => ?_)
  obtain ⟨rfl, hf⟩ := hp
  refine W.eq (g2 := F0 m 37 ls []) rfl ?_
  refine lv_aload_n hx hb dX6_holdJoint_37 rfl (lv_at hl 0 rfl) ?_
  refine lv_dup hx hb dX6_holdJoint_38 rfl ?_
  refine hw_getI E hR cI5 hs0 3 (by decide) lfX6_22 rfl dX6_holdJoint_39 ?_
  refine lv_iconst (v := 1) hx hb dX6_holdJoint_42 (by decide) ?_
  refine lv_iadd hx hb dX6_holdJoint_43 ?_
  refine hw_putI E hR hS hw cI5 hs0 3 (by decide) lfX6_22 rfl (Or.inl rfl) dX6_holdJoint_44 (fun m6 H locs em6 hR hS => ?_)
  replace hf := hf m6 em6
  refine lv_iconst (v := 1) hx hb dX6_holdJoint_47 (by decide) ?_
  exact hw_zret E hR hS (by decide) ⟨_, rfl, hf⟩ dX6_holdJoint_48
def f_X6_holdJoint (S : Ss) (a0 : Nat) (x1 : Int32) (M : Mm) (K : Int32 → Mm → Prop) : Prop :=
  f_X0_rank S  x1 M (fun (r2 : Int32) (m1 : Mm) =>
    ((r2 = (3 : Int32) →
    f_X6_release S a0 (r2 + (1 : Int32)) m1 (fun (m7 : Mm) =>
      f_X6_heldRank S a0  m7 (fun (r9 : Int32) (m8 : Mm) =>
      ((r9 = (3 : Int32) →
      K (0 : Int32) m8) ∧
     (¬ r9 = (3 : Int32) →
      f_X6_holdJoint_J32 S a0 x1 m8 K))))) ∧
   (¬ r2 = (3 : Int32) →
    f_X6_release S a0 r2 m1 (fun (m4 : Mm) =>
      f_X6_holdJoint_J32 S a0 x1 m4 K))))
set_option maxHeartbeats 4000000 in
set_option maxRecDepth 100000 in
theorem ok_X6_holdJoint {l : Launch} {g : Gg} {S : Ss} {a0 : Nat} {x1 : Int32} {M : Mm} {K : Int32 → Mm → Prop} (hs0 : S[a0]? = some (5, 0)) (hf : f_X6_holdJoint S a0 x1 M K) : MT l g S yX6_holdJoint cX6_holdJoint 3 (some .boolean) 3 [.ref (ad g a0), .int x1] M (pI K) := by
  refine MT.of (by decide +kernel) (Nat.le_of_ble_eq_true rfl) ?_
  intro p e s m below meth c ls E hw hR hS hl
  have hl : lv_has ls 3 [(0, .ref (ad g a0)), (1, .int x1)] := hl
  generalize ([.ref (ad g a0), .int x1] : List Value).toArray = args at E ⊢
  have E : EN p s m args meth c cX6_holdJoint 3 (some .boolean) RX6 g := E
  have hx := E.1
  have hb := E.2.1
  unfold f_X6_holdJoint at hf
  refine lv_iload_n hx hb dX6_holdJoint_0 rfl (lv_at hl 1 rfl) ?_
  refine hw_callS (d := 3) E hR hS (As := [.int x1]) (rest := []) mcX0_rank msX0_rank lmX6_122 (ok_X0_rank  hf) rfl rfl (by decide) hl.1 (Nat.le_of_ble_eq_true rfl) dX6_holdJoint_1 (fun rr m1 H locs hp hR hS => ?_)
  obtain ⟨r2, rfl, hf⟩ := hp
  refine W.eq (g2 := F0 m 4 ls [.int r2]) rfl ?_
  refine lv_istore_n (lv' := [(2, .int r2), (0, .ref (ad g a0)), (1, .int x1)]) hx hb dX6_holdJoint_4 rfl hl (by decide) rfl (fun ls hl => ?_)
  refine lv_iload_n hx hb dX6_holdJoint_5 rfl (lv_at hl 0 rfl) ?_
  refine lv_iconst (v := 3) hx hb dX6_holdJoint_6 (by decide) ?_
  refine lv_icmp_ne (tgt := 27) hx hb dX6_holdJoint_7 (by decide) (fun c3 => ?_) (fun c3 => ?_)
  · replace hf := hf.2 c3
    refine lv_aload_n hx hb dX6_holdJoint_27 rfl (lv_at hl 1 rfl) ?_
    refine lv_iload_n hx hb dX6_holdJoint_28 rfl (lv_at hl 0 rfl) ?_
    refine hw_callV (d := 3) E hR hS (As := [.int r2]) (rest := []) cI5 hs0 rfl mcX6_release miX6_release lmX6_101 (ok_X6_release hs0 hf) rfl rfl (by decide) hl.1 (Nat.le_of_ble_eq_true rfl) dX6_holdJoint_29 (fun rr m4 H locs hp hR hS => ?_)
    obtain ⟨rfl, hf⟩ := hp
    refine W.eq (g2 := F0 m 32 ls []) rfl ?_
    exact w_X6_holdJoint_J32 _ _ _ _ E hw hs0 hf _ _ _ hR hS (lv_sub hl [1, 2] rfl)
  · replace hf := hf.1 c3
    refine lv_aload_n hx hb dX6_holdJoint_10 rfl (lv_at hl 1 rfl) ?_
    refine lv_iload_n hx hb dX6_holdJoint_11 rfl (lv_at hl 0 rfl) ?_
    refine lv_iconst (v := 1) hx hb dX6_holdJoint_12 (by decide) ?_
    refine lv_iadd hx hb dX6_holdJoint_13 ?_
    refine hw_callV (d := 3) E hR hS (As := [.int (r2 + (1 : Int32))]) (rest := []) cI5 hs0 rfl mcX6_release miX6_release lmX6_101 (ok_X6_release hs0 hf) rfl rfl (by decide) hl.1 (Nat.le_of_ble_eq_true rfl) dX6_holdJoint_14 (fun rr m7 H locs hp hR hS => ?_)
    obtain ⟨rfl, hf⟩ := hp
    refine W.eq (g2 := F0 m 17 ls []) rfl ?_
    refine lv_aload_n hx hb dX6_holdJoint_17 rfl (lv_at hl 1 rfl) ?_
    refine hw_callV (d := 3) E hR hS (As := []) (rest := []) cI5 hs0 rfl mcX6_heldRank miX6_heldRank lmX6_125 (ok_X6_heldRank hs0 hf) rfl rfl (by decide) hl.1 (Nat.le_of_ble_eq_true rfl) dX6_holdJoint_18 (fun rr m8 H locs hp hR hS => ?_)
    obtain ⟨r9, rfl, hf⟩ := hp
    refine W.eq (g2 := F0 m 21 ls [.int r9]) rfl ?_
    refine lv_iconst (v := 3) hx hb dX6_holdJoint_21 (by decide) ?_
    refine lv_icmp_ne (tgt := 32) hx hb dX6_holdJoint_22 (by decide) (fun c10 => ?_) (fun c10 => ?_)
    · replace hf := hf.2 c10
      exact w_X6_holdJoint_J32 _ _ _ _ E hw hs0 hf _ _ _ hR hS (lv_sub hl [1, 2] rfl)
    · replace hf := hf.1 c10
      refine lv_iconst (v := 0) hx hb dX6_holdJoint_25 (by decide) ?_
      exact hw_zret E hR hS (by decide) ⟨_, rfl, hf⟩ dX6_holdJoint_26
def f_X6_look (S : Ss) (a0 : Nat) (M : Mm) (K : Int32 → Mm → Prop) : Prop :=
  (((M.1 a0 2) ≤ (M.1 a0 3) →
    K (-1 : Int32) M) ∧
   (¬ (M.1 a0 2) ≤ (M.1 a0 3) →
    ∃ b2 : Nat, M.2.2 a0 0 = some b2 ∧
    ∃ n3 : Nat, S[b2]? = some (51, n3) ∧ vp_in (M.1 a0 3) n3 ∧
    K (M.1 b2 (M.1 a0 3).toNatClampNeg) M))
set_option maxHeartbeats 4000000 in
set_option maxRecDepth 100000 in
theorem ok_X6_look {l : Launch} {g : Gg} {S : Ss} {a0 : Nat} {M : Mm} {K : Int32 → Mm → Prop} (hs0 : S[a0]? = some (5, 0)) (hf : f_X6_look S a0 M K) : MT l g S yX6_look cX6_look 1 (some .int) 0 [.ref (ad g a0)] M (pI K) := by
  refine MT.of (by decide +kernel) (Nat.le_of_ble_eq_true rfl) ?_
  intro p e s m below meth c ls E hw hR hS hl
  have hl : lv_has ls 1 [(0, .ref (ad g a0))] := hl
  generalize ([.ref (ad g a0)] : List Value).toArray = args at E ⊢
  have E : EN p s m args meth c cX6_look 1 (some .int) RX6 g := E
  have hx := E.1
  have hb := E.2.1
  unfold f_X6_look at hf
  refine lv_aload_n hx hb dX6_look_0 rfl (lv_at hl 0 rfl) ?_
  refine hw_getI E hR cI5 hs0 3 (by decide) lfX6_22 rfl dX6_look_1 ?_
  refine lv_aload_n hx hb dX6_look_4 rfl (lv_at hl 0 rfl) ?_
  refine hw_getI E hR cI5 hs0 2 (by decide) lfX6_19 rfl dX6_look_5 ?_
  refine lv_icmp_ge (tgt := 23) hx hb dX6_look_8 (by decide) (fun c1 => ?_) (fun c1 => ?_)
  · replace hf := hf.1 c1
    refine lv_iconst (v := -1) hx hb dX6_look_23 (by decide) ?_
    exact hw_iret E hR hS ⟨_, rfl, hf⟩ dX6_look_24
  · replace hf := hf.2 c1
    refine lv_aload_n hx hb dX6_look_11 rfl (lv_at hl 0 rfl) ?_
    obtain ⟨b2, hb2, hf⟩ := hf
    refine hw_getR E hR cI5 hs0 0 (by decide) lfX6_9 rfl hb2 dX6_look_12 ?_
    refine lv_aload_n hx hb dX6_look_15 rfl (lv_at hl 0 rfl) ?_
    refine hw_getI E hR cI5 hs0 3 (by decide) lfX6_22 rfl dX6_look_16 ?_
    obtain ⟨n3, hn3, in3, hf⟩ := hf
    refine hw_cald E hR hn3 in3 dX6_look_19 ?_
    refine lv_goto (tgt := 24) hx hb dX6_look_20 (by decide) ?_
    exact hw_iret E hR hS ⟨_, rfl, hf⟩ dX6_look_24
def f_X6_readAhead_J72 (S : Ss) (a0 : Nat) (M : Mm) (K : Int32 → Mm → Prop) : Prop :=
  ∀ m5 : Mm, m5 = stI M a0 3 ((M.1 a0 3) + (1 : Int32)) →
  K (1 : Int32) m5
set_option maxHeartbeats 4000000 in
set_option maxRecDepth 100000 in
theorem w_X6_readAhead_J72 {p : Program} {l : Launch} {e : Env} {s : State} {m : MethodId} {args : Array Value} {below : List Frame} {meth : Method} {c : Code} {g : Gg} {S : Ss} (a0 : Nat) (M : Mm) (K : Int32 → Mm → Prop) (E : EN p s m args meth c cX6_readAhead 1 (some .boolean) RX6 g) (hw : ad g 100000 < s.heap.size) (hs0 : S[a0]? = some (5, 0)) (hf : f_X6_readAhead_J72 S a0 M K) (H : Heap) (locs : List Loc) (ls : Array Slot) (hR : RP g S M H) (hS : va_S (gA g) s.heap H locs) (hl : lv_has ls 1 [(0, .ref (ad g a0))]) : W p l e (rmD 1) s m args below meth c H locs 0 0 (MQ below (QA g S (pI K)) args s 0 0 (gA g)) (F0 m 72 ls []) := by
  have hx := E.1
  have hb := E.2.1
  unfold f_X6_readAhead_J72 at hf
  refine lv_aload_n hx hb dX6_readAhead_72 rfl (lv_at hl 0 rfl) ?_
  refine lv_dup hx hb dX6_readAhead_73 rfl ?_
  refine hw_getI E hR cI5 hs0 3 (by decide) lfX6_22 rfl dX6_readAhead_74 ?_
  refine lv_iconst (v := 1) hx hb dX6_readAhead_77 (by decide) ?_
  refine lv_iadd hx hb dX6_readAhead_78 ?_
  refine hw_putI E hR hS hw cI5 hs0 3 (by decide) lfX6_22 rfl (Or.inl rfl) dX6_readAhead_79 (fun m5 H locs em5 hR hS => ?_)
  replace hf := hf m5 em5
  refine lv_iconst (v := 1) hx hb dX6_readAhead_82 (by decide) ?_
  exact hw_zret E hR hS (by decide) ⟨_, rfl, hf⟩ dX6_readAhead_83
def f_X6_readAhead (S : Ss) (a0 : Nat) (M : Mm) (K : Int32 → Mm → Prop) : Prop :=
  f_X6_look S a0  M (fun (r2 : Int32) (m1 : Mm) =>
    ((r2 = 33 →
    f_X6_hold S a0 (1037 : Int32) m1 (fun (m4 : Mm) =>
      f_X6_readAhead_J72 S a0 m4 K)) ∧
   (¬ r2 = 33 →
    ((r2 = 40 →
      f_X6_hold S a0 (1039 : Int32) m1 (fun (m7 : Mm) =>
        f_X6_readAhead_J72 S a0 m7 K)) ∧
     (¬ r2 = 40 →
      ((r2 = 45 →
        f_X6_hold S a0 (1038 : Int32) m1 (fun (m9 : Mm) =>
          f_X6_readAhead_J72 S a0 m9 K)) ∧
       (¬ r2 = 45 →
        K (0 : Int32) m1)))))))
set_option maxHeartbeats 4000000 in
set_option maxRecDepth 100000 in
theorem ok_X6_readAhead {l : Launch} {g : Gg} {S : Ss} {a0 : Nat} {M : Mm} {K : Int32 → Mm → Prop} (hs0 : S[a0]? = some (5, 0)) (hf : f_X6_readAhead S a0 M K) : MT l g S yX6_readAhead cX6_readAhead 1 (some .boolean) 1 [.ref (ad g a0)] M (pI K) := by
  refine MT.of (by decide +kernel) (Nat.le_of_ble_eq_true rfl) ?_
  intro p e s m below meth c ls E hw hR hS hl
  have hl : lv_has ls 1 [(0, .ref (ad g a0))] := hl
  generalize ([.ref (ad g a0)] : List Value).toArray = args at E ⊢
  have E : EN p s m args meth c cX6_readAhead 1 (some .boolean) RX6 g := E
  have hx := E.1
  have hb := E.2.1
  unfold f_X6_readAhead at hf
  refine lv_aload_n hx hb dX6_readAhead_0 rfl (lv_at hl 0 rfl) ?_
  refine hw_callV (d := 1) E hR hS (As := []) (rest := []) cI5 hs0 rfl mcX6_look miX6_look lmX6_75 (ok_X6_look hs0 hf) rfl rfl (by decide) hl.1 (Nat.le_of_ble_eq_true rfl) dX6_readAhead_1 (fun rr m1 H locs hp hR hS => ?_)
  obtain ⟨r2, rfl, hf⟩ := hp
  refine W.eq (g2 := F0 m 4 ls [.int r2]) rfl ?_
  rcases Decidable.em (r2 = 33) with w3 | w3
  · replace hf := hf.1 w3
    refine lv_lookup (off := 36) (tgt := 40) hx hb dX6_readAhead_4 (by decide) (by rw [w3]; try rfl) (by decide) ?_
    refine lv_aload_n hx hb dX6_readAhead_40 rfl (lv_at hl 0 rfl) ?_
    refine lv_sipush (v := 1037) hx hb dX6_readAhead_41 (by decide) ?_
    refine hw_callV (d := 1) E hR hS (As := [.int (1037 : Int32)]) (rest := []) cI5 hs0 rfl mcX6_hold miX6_hold lmX6_112 (ok_X6_hold hs0 hf) rfl rfl (by decide) hl.1 (Nat.le_of_ble_eq_true rfl) dX6_readAhead_44 (fun rr m4 H locs hp hR hS => ?_)
    obtain ⟨rfl, hf⟩ := hp
    refine W.eq (g2 := F0 m 47 ls []) rfl ?_
    refine lv_goto (tgt := 72) hx hb dX6_readAhead_47 (by decide) ?_
    exact w_X6_readAhead_J72 _ _ _ E hw hs0 hf _ _ _ hR hS (lv_sub hl [0] rfl)
  · replace hf := hf.2 w3
    rcases Decidable.em (r2 = 40) with w6 | w6
    · replace hf := hf.1 w6
      refine lv_lookup (off := 56) (tgt := 60) hx hb dX6_readAhead_4 (by decide) (by rw [w6]; try rfl) (by decide) ?_
      refine lv_aload_n hx hb dX6_readAhead_60 rfl (lv_at hl 0 rfl) ?_
      refine lv_sipush (v := 1039) hx hb dX6_readAhead_61 (by decide) ?_
      refine hw_callV (d := 1) E hR hS (As := [.int (1039 : Int32)]) (rest := []) cI5 hs0 rfl mcX6_hold miX6_hold lmX6_112 (ok_X6_hold hs0 hf) rfl rfl (by decide) hl.1 (Nat.le_of_ble_eq_true rfl) dX6_readAhead_64 (fun rr m7 H locs hp hR hS => ?_)
      obtain ⟨rfl, hf⟩ := hp
      refine W.eq (g2 := F0 m 67 ls []) rfl ?_
      refine lv_goto (tgt := 72) hx hb dX6_readAhead_67 (by decide) ?_
      exact w_X6_readAhead_J72 _ _ _ E hw hs0 hf _ _ _ hR hS (lv_sub hl [0] rfl)
    · replace hf := hf.2 w6
      rcases Decidable.em (r2 = 45) with w8 | w8
      · replace hf := hf.1 w8
        refine lv_lookup (off := 46) (tgt := 50) hx hb dX6_readAhead_4 (by decide) (by rw [w8]; try rfl) (by decide) ?_
        refine lv_aload_n hx hb dX6_readAhead_50 rfl (lv_at hl 0 rfl) ?_
        refine lv_sipush (v := 1038) hx hb dX6_readAhead_51 (by decide) ?_
        refine hw_callV (d := 1) E hR hS (As := [.int (1038 : Int32)]) (rest := []) cI5 hs0 rfl mcX6_hold miX6_hold lmX6_112 (ok_X6_hold hs0 hf) rfl rfl (by decide) hl.1 (Nat.le_of_ble_eq_true rfl) dX6_readAhead_54 (fun rr m9 H locs hp hR hS => ?_)
        obtain ⟨rfl, hf⟩ := hp
        refine W.eq (g2 := F0 m 57 ls []) rfl ?_
        refine lv_goto (tgt := 72) hx hb dX6_readAhead_57 (by decide) ?_
        exact w_X6_readAhead_J72 _ _ _ E hw hs0 hf _ _ _ hR hS (lv_sub hl [0] rfl)
      · replace hf := hf.2 w8
        refine lv_lookup (off := 66) (tgt := 70) hx hb dX6_readAhead_4 (by decide) (by rw [lv_osw w3 (by decide)]; rw [lv_osw w6 (by decide)]; rw [lv_osw w8 (by decide)]; try rfl) (by decide) ?_
        refine lv_iconst (v := 0) hx hb dX6_readAhead_70 (by decide) ?_
        exact hw_zret E hR hS (by decide) ⟨_, rfl, hf⟩ dX6_readAhead_71
def f_X6_isDigit (S : Ss) (x0 : Int32) (M : Mm) (K : Int32 → Mm → Prop) : Prop :=
  ((x0 < (48 : Int32) →
    K (0 : Int32) M) ∧
   (¬ x0 < (48 : Int32) →
    (((57 : Int32) < x0 →
      K (0 : Int32) M) ∧
     (¬ (57 : Int32) < x0 →
      K (1 : Int32) M))))
set_option maxHeartbeats 4000000 in
set_option maxRecDepth 100000 in
theorem ok_X6_isDigit {l : Launch} {g : Gg} {S : Ss} {x0 : Int32} {M : Mm} {K : Int32 → Mm → Prop} (hf : f_X6_isDigit S x0 M K) : MT l g S yX6_isDigit cX6_isDigit 1 (some .boolean) 0 [.int x0] M (pI K) := by
  refine MT.of (by decide +kernel) (Nat.le_of_ble_eq_true rfl) ?_
  intro p e s m below meth c ls E hw hR hS hl
  have hl : lv_has ls 1 [(0, .int x0)] := hl
  generalize ([.int x0] : List Value).toArray = args at E ⊢
  have E : EN p s m args meth c cX6_isDigit 1 (some .boolean) RX6 g := E
  have hx := E.1
  have hb := E.2.1
  unfold f_X6_isDigit at hf
  refine lv_iload_n hx hb dX6_isDigit_0 rfl (lv_at hl 0 rfl) ?_
  refine lv_bipush (v := 48) hx hb dX6_isDigit_1 (by decide) ?_
  refine lv_icmp_lt (tgt := 16) hx hb dX6_isDigit_3 (by decide) (fun c1 => ?_) (fun c1 => ?_)
  · replace hf := hf.1 c1
    refine lv_iconst (v := 0) hx hb dX6_isDigit_16 (by decide) ?_
    exact hw_zret E hR hS (by decide) ⟨_, rfl, hf⟩ dX6_isDigit_17
  · replace hf := hf.2 c1
    refine lv_iload_n hx hb dX6_isDigit_6 rfl (lv_at hl 0 rfl) ?_
    refine lv_bipush (v := 57) hx hb dX6_isDigit_7 (by decide) ?_
    refine lv_icmp_gt (tgt := 16) hx hb dX6_isDigit_9 (by decide) (fun c2 => ?_) (fun c2 => ?_)
    · replace hf := hf.1 c2
      refine lv_iconst (v := 0) hx hb dX6_isDigit_16 (by decide) ?_
      exact hw_zret E hR hS (by decide) ⟨_, rfl, hf⟩ dX6_isDigit_17
    · replace hf := hf.2 c2
      refine lv_iconst (v := 1) hx hb dX6_isDigit_12 (by decide) ?_
      refine lv_goto (tgt := 17) hx hb dX6_isDigit_13 (by decide) ?_
      exact hw_zret E hR hS (by decide) ⟨_, rfl, hf⟩ dX6_isDigit_17
def f_X6_readNumber_B4 (S : Ss) (a0 : Nat) (x1 : Int32) (x2 : Int32) (x3 : Int32) (M : Mm) (BK4 : Int32 → Int32 → Mm → Prop) (EK4 : Int32 → Mm → Prop) (K : Int32 → Mm → Prop) : Prop :=
  ((x1 ≤ x3 →
    EK4 x2 M) ∧
   (¬ x1 ≤ x3 →
    f_X6_look S a0  M (fun (r3 : Int32) (m2 : Mm) =>
      f_X6_isDigit S  r3 m2 (fun (r5 : Int32) (m4 : Mm) =>
      ((r5 = 0 →
      EK4 x2 m4) ∧
     (¬ r5 = 0 →
      f_X6_look S a0  m4 (fun (r8 : Int32) (m7 : Mm) =>
        ∀ v9 : Int32, v9 = (((x2 * (10 : Int32)) + r8) - (48 : Int32)) →
      ∀ m10 : Mm, m10 = stI m7 a0 3 ((m7.1 a0 3) + (1 : Int32)) →
      ∀ v11 : Int32, v11 = x3 + (1 : Int32) →
      BK4 v9 v11 m10)))))))
set_option maxHeartbeats 4000000 in
set_option maxRecDepth 100000 in
theorem w_X6_readNumber_B4 {p : Program} {l : Launch} {e : Env} {s : State} {m : MethodId} {args : Array Value} {below : List Frame} {meth : Method} {c : Code} {g : Gg} {S : Ss} (a0 : Nat) (x1 : Int32) (x2 : Int32) (x3 : Int32) (M : Mm) (BK4 : Int32 → Int32 → Mm → Prop) (EK4 : Int32 → Mm → Prop) (K : Int32 → Mm → Prop) (E : EN p s m args meth c cX6_readNumber 4 (some .int) RX6 g) (hw : ad g 100000 < s.heap.size) (hs0 : S[a0]? = some (5, 0)) (hBK4 : ∀ (x2' : Int32) (x3' : Int32) (M' : Mm) (H : Heap) (locs : List Loc) (ls : Array Slot), BK4 x2' x3' M' → RP g S M' H → va_S (gA g) s.heap H locs → lv_has ls 4 [(0, .ref (ad g a0)), (1, .int x1), (2, .int x2'), (3, .int x3')] → W p l e (rmD 1) s m args below meth c H locs 0 0 (MQ below (QA g S (pI K)) args s 0 0 (gA g)) (F0 m 4 ls [])) (hEK4 : ∀ (x2' : Int32) (M' : Mm) (H : Heap) (locs : List Loc) (ls : Array Slot), EK4 x2' M' → RP g S M' H → va_S (gA g) s.heap H locs → lv_has ls 4 [(2, .int x2')] → W p l e (rmD 1) s m args below meth c H locs 0 0 (MQ below (QA g S (pI K)) args s 0 0 (gA g)) (F0 m 48 ls [])) (hf : f_X6_readNumber_B4 S a0 x1 x2 x3 M BK4 EK4 K) (H : Heap) (locs : List Loc) (ls : Array Slot) (hR : RP g S M H) (hS : va_S (gA g) s.heap H locs) (hl : lv_has ls 4 [(0, .ref (ad g a0)), (1, .int x1), (2, .int x2), (3, .int x3)]) : W p l e (rmD 1) s m args below meth c H locs 0 0 (MQ below (QA g S (pI K)) args s 0 0 (gA g)) (F0 m 4 ls []) := by
  have hx := E.1
  have hb := E.2.1
  unfold f_X6_readNumber_B4 at hf
  refine lv_iload_n hx hb dX6_readNumber_4 rfl (lv_at hl 3 rfl) ?_
  refine lv_iload_n hx hb dX6_readNumber_5 rfl (lv_at hl 1 rfl) ?_
  refine lv_icmp_ge (tgt := 48) hx hb dX6_readNumber_6 (by decide) (fun c1 => ?_) (fun c1 => ?_)
  · replace hf := hf.1 c1
    exact hEK4 _ _ _ _ _ hf hR hS (lv_sub hl [2] rfl)
  · replace hf := hf.2 c1
    refine lv_aload_n hx hb dX6_readNumber_9 rfl (lv_at hl 0 rfl) ?_
    refine hw_callV (d := 1) E hR hS (As := []) (rest := []) cI5 hs0 rfl mcX6_look miX6_look lmX6_75 (ok_X6_look hs0 hf) rfl rfl (by decide) hl.1 (Nat.le_of_ble_eq_true rfl) dX6_readNumber_10 (fun rr m2 H locs hp hR hS => ?_)
    obtain ⟨r3, rfl, hf⟩ := hp
    refine W.eq (g2 := F0 m 13 ls [.int r3]) rfl ?_
    refine hw_callS (d := 1) E hR hS (As := [.int r3]) (rest := []) mcX6_isDigit msX6_isDigit lmX6_88 (ok_X6_isDigit  hf) rfl rfl (by decide) hl.1 (Nat.le_of_ble_eq_true rfl) dX6_readNumber_13 (fun rr m4 H locs hp hR hS => ?_)
    obtain ⟨r5, rfl, hf⟩ := hp
    refine W.eq (g2 := F0 m 16 ls [.int r5]) rfl ?_
    refine lv_if_eq (tgt := 48) hx hb dX6_readNumber_16 (by decide) (fun c6 => ?_) (fun c6 => ?_)
    · replace hf := hf.1 c6
      exact hEK4 _ _ _ _ _ hf hR hS (lv_sub hl [2] rfl)
    · replace hf := hf.2 c6
      refine lv_iload_n hx hb dX6_readNumber_19 rfl (lv_at hl 2 rfl) ?_
      refine lv_bipush (v := 10) hx hb dX6_readNumber_20 (by decide) ?_
      refine lv_imul hx hb dX6_readNumber_22 ?_
      refine lv_aload_n hx hb dX6_readNumber_23 rfl (lv_at hl 0 rfl) ?_
      refine hw_callV (d := 1) E hR hS (As := []) (rest := [.int (x2 * (10 : Int32))]) cI5 hs0 rfl mcX6_look miX6_look lmX6_75 (ok_X6_look hs0 hf) rfl rfl (by decide) hl.1 (Nat.le_of_ble_eq_true rfl) dX6_readNumber_24 (fun rr m7 H locs hp hR hS => ?_)
      obtain ⟨r8, rfl, hf⟩ := hp
      refine W.eq (g2 := F0 m 27 ls [.int r8, .int (x2 * (10 : Int32))]) rfl ?_
      refine lv_iadd hx hb dX6_readNumber_27 ?_
      refine lv_bipush (v := 48) hx hb dX6_readNumber_28 (by decide) ?_
      refine lv_isub hx hb dX6_readNumber_30 ?_
      refine lv_topi (fun v9 ev9 => ?_)
      replace hf := hf v9 ev9
      refine lv_istore_n (lv' := [(2, .int v9), (0, .ref (ad g a0)), (1, .int x1), (3, .int x3)]) hx hb dX6_readNumber_31 rfl hl (by decide) rfl (fun ls hl => ?_)
      refine lv_aload_n hx hb dX6_readNumber_32 rfl (lv_at hl 1 rfl) ?_
      refine lv_dup hx hb dX6_readNumber_33 rfl ?_
      refine hw_getI E hR cI5 hs0 3 (by decide) lfX6_22 rfl dX6_readNumber_34 ?_
      refine lv_iconst (v := 1) hx hb dX6_readNumber_37 (by decide) ?_
      refine lv_iadd hx hb dX6_readNumber_38 ?_
      refine hw_putI E hR hS hw cI5 hs0 3 (by decide) lfX6_22 rfl (Or.inl rfl) dX6_readNumber_39 (fun m10 H locs em10 hR hS => ?_)
      replace hf := hf m10 em10
      obtain ⟨v11, ev11⟩ : ∃ y : Int32, y = x3 + (1 : Int32) := ⟨_, rfl⟩
      replace hf := hf v11 ev11
      refine lv_iinc (v := v11) (lv' := [(3, .int v11), (2, .int v9), (0, .ref (ad g a0)), (1, .int x1)]) hx hb dX6_readNumber_42 hl (k := 3) rfl (by rw [ev11]; rfl) (by decide) rfl (fun ls hl => ?_)
      refine lv_goto (tgt := 4) hx hb dX6_readNumber_45 (by decide) ?_
      exact hBK4 _ _ _ _ _ _ hf hR hS (lv_sub hl [2, 3, 1, 0] rfl)
def f_X6_readNumber_L4 (S : Ss) (a0 : Nat) (x1 : Int32) (EK4 : Int32 → Mm → Prop) (K : Int32 → Mm → Prop) : Nat → Int32 → Int32 → Mm → Prop
  | 0, _, _, _ => False
  | n + 1, x2, x3, M => f_X6_readNumber_B4 S a0 x1 x2 x3 M (fun (x2 : Int32) (x3 : Int32) (M : Mm) => f_X6_readNumber_L4 S a0 x1 EK4 K n x2 x3 M) EK4 K
set_option maxHeartbeats 4000000 in
set_option maxRecDepth 100000 in
theorem w_X6_readNumber_L4 {p : Program} {l : Launch} {e : Env} {s : State} {m : MethodId} {args : Array Value} {below : List Frame} {meth : Method} {c : Code} {g : Gg} {S : Ss} (a0 : Nat) (x1 : Int32) (EK4 : Int32 → Mm → Prop) (K : Int32 → Mm → Prop) (E : EN p s m args meth c cX6_readNumber 4 (some .int) RX6 g) (hw : ad g 100000 < s.heap.size) (hs0 : S[a0]? = some (5, 0)) (hEK4 : ∀ (x2' : Int32) (M' : Mm) (H : Heap) (locs : List Loc) (ls : Array Slot), EK4 x2' M' → RP g S M' H → va_S (gA g) s.heap H locs → lv_has ls 4 [(2, .int x2')] → W p l e (rmD 1) s m args below meth c H locs 0 0 (MQ below (QA g S (pI K)) args s 0 0 (gA g)) (F0 m 48 ls [])) : ∀ (n : Nat) (x2 : Int32) (x3 : Int32) (M : Mm), f_X6_readNumber_L4 S a0 x1 EK4 K n x2 x3 M → ∀ (H : Heap) (locs : List Loc) (ls : Array Slot), RP g S M H → va_S (gA g) s.heap H locs → lv_has ls 4 [(0, .ref (ad g a0)), (1, .int x1), (2, .int x2), (3, .int x3)] → W p l e (rmD 1) s m args below meth c H locs 0 0 (MQ below (QA g S (pI K)) args s 0 0 (gA g)) (F0 m 4 ls []) := by
  intro n
  induction n with
  | zero => intro x2 x3 M hf; exact hf.elim
  | succ n ih =>
    intro x2 x3 M hf H locs ls hR hS hl
    exact w_X6_readNumber_B4 _ _ _ _ _ _ _ _ E hw hs0 (fun _ _ M H locs ls h hR hS hl => ih _ _ M h H locs ls hR hS hl) hEK4 hf H locs ls hR hS hl
def f_X6_readNumber (S : Ss) (a0 : Nat) (x1 : Int32) (M : Mm) (K : Int32 → Mm → Prop) : Prop :=
  ∃ n14 : Nat, f_X6_readNumber_L4 S a0 x1 (fun (v12 : Int32) (m13 : Mm) =>
    K v12 m13) K n14 (0 : Int32) (0 : Int32) M
set_option maxHeartbeats 4000000 in
set_option maxRecDepth 100000 in
theorem ok_X6_readNumber {l : Launch} {g : Gg} {S : Ss} {a0 : Nat} {x1 : Int32} {M : Mm} {K : Int32 → Mm → Prop} (hs0 : S[a0]? = some (5, 0)) (hf : f_X6_readNumber S a0 x1 M K) : MT l g S yX6_readNumber cX6_readNumber 4 (some .int) 1 [.ref (ad g a0), .int x1] M (pI K) := by
  refine MT.of (by decide +kernel) (Nat.le_of_ble_eq_true rfl) ?_
  intro p e s m below meth c ls E hw hR hS hl
  have hl : lv_has ls 4 [(0, .ref (ad g a0)), (1, .int x1)] := hl
  generalize ([.ref (ad g a0), .int x1] : List Value).toArray = args at E ⊢
  have E : EN p s m args meth c cX6_readNumber 4 (some .int) RX6 g := E
  have hx := E.1
  have hb := E.2.1
  unfold f_X6_readNumber at hf
  refine lv_iconst (v := 0) hx hb dX6_readNumber_0 (by decide) ?_
  refine lv_istore_n (lv' := [(2, .int (0 : Int32)), (0, .ref (ad g a0)), (1, .int x1)]) hx hb dX6_readNumber_1 rfl hl (by decide) rfl (fun ls hl => ?_)
  refine lv_iconst (v := 0) hx hb dX6_readNumber_2 (by decide) ?_
  refine lv_istore_n (lv' := [(3, .int (0 : Int32)), (2, .int (0 : Int32)), (0, .ref (ad g a0)), (1, .int x1)]) hx hb dX6_readNumber_3 rfl hl (by decide) rfl (fun ls hl => ?_)
  obtain ⟨n14, hf⟩ := hf
  refine w_X6_readNumber_L4 _ _ _ _ E hw hs0 ?_ n14 _ _ _ hf _ _ _ hR hS (lv_sub hl [2, 3, 1, 0] rfl)
  intro v12 m13 H locs ls hf hR hS hl
  refine lv_iload_n hx hb dX6_readNumber_48 rfl (lv_at hl 0 rfl) ?_
  exact hw_iret E hR hS ⟨_, rfl, hf⟩ dX6_readNumber_49
def f_X6_readThing (S : Ss) (a0 : Nat) (x1 : Int32) (M : Mm) (K : Int32 → Mm → Prop) : Prop :=
  f_X6_look S a0  M (fun (r2 : Int32) (m1 : Mm) =>
    f_X6_isDigit S  r2 m1 (fun (r4 : Int32) (m3 : Mm) =>
    ((r4 = 0 →
    f_X6_look S a0  m3 (fun (r7 : Int32) (m6 : Mm) =>
      f_X0_ofThing S  r7 x1 m6 (fun (r9 : Int32) (m8 : Mm) =>
      ((r9 = (-1 : Int32) →
      K (0 : Int32) m8) ∧
     (¬ r9 = (-1 : Int32) →
      ∃ b11 : Nat, m8.2.2 a0 6 = some b11 ∧
      S[b11]? = some (4, 0) ∧
      f_X5_emit S b11 r9 m8 (fun (m12 : Mm) =>
        ∀ m14 : Mm, m14 = stI m12 a0 3 ((m12.1 a0 3) + (1 : Int32)) →
      K (1 : Int32) m14)))))) ∧
   (¬ r4 = 0 →
    ∃ b15 : Nat, m3.2.2 a0 6 = some b15 ∧
    f_X6_readNumber S a0 (3 : Int32) m3 (fun (r17 : Int32) (m16 : Mm) =>
      S[b15]? = some (4, 0) ∧
    f_X5_emit S b15 r17 m16 (fun (m18 : Mm) =>
      K (1 : Int32) m18))))))
set_option maxHeartbeats 4000000 in
set_option maxRecDepth 100000 in
theorem ok_X6_readThing {l : Launch} {g : Gg} {S : Ss} {a0 : Nat} {x1 : Int32} {M : Mm} {K : Int32 → Mm → Prop} (hs0 : S[a0]? = some (5, 0)) (hf : f_X6_readThing S a0 x1 M K) : MT l g S yX6_readThing cX6_readThing 3 (some .boolean) 2 [.ref (ad g a0), .int x1] M (pI K) := by
  refine MT.of (by decide +kernel) (Nat.le_of_ble_eq_true rfl) ?_
  intro p e s m below meth c ls E hw hR hS hl
  have hl : lv_has ls 3 [(0, .ref (ad g a0)), (1, .int x1)] := hl
  generalize ([.ref (ad g a0), .int x1] : List Value).toArray = args at E ⊢
  have E : EN p s m args meth c cX6_readThing 3 (some .boolean) RX6 g := E
  have hx := E.1
  have hb := E.2.1
  unfold f_X6_readThing at hf
  refine lv_aload_n hx hb dX6_readThing_0 rfl (lv_at hl 0 rfl) ?_
  refine hw_callV (d := 2) E hR hS (As := []) (rest := []) cI5 hs0 rfl mcX6_look miX6_look lmX6_75 (ok_X6_look hs0 hf) rfl rfl (by decide) hl.1 (Nat.le_of_ble_eq_true rfl) dX6_readThing_1 (fun rr m1 H locs hp hR hS => ?_)
  obtain ⟨r2, rfl, hf⟩ := hp
  refine W.eq (g2 := F0 m 4 ls [.int r2]) rfl ?_
  refine hw_callS (d := 2) E hR hS (As := [.int r2]) (rest := []) mcX6_isDigit msX6_isDigit lmX6_88 (ok_X6_isDigit  hf) rfl rfl (by decide) hl.1 (Nat.le_of_ble_eq_true rfl) dX6_readThing_4 (fun rr m3 H locs hp hR hS => ?_)
  obtain ⟨r4, rfl, hf⟩ := hp
  refine W.eq (g2 := F0 m 7 ls [.int r4]) rfl ?_
  refine lv_if_eq (tgt := 24) hx hb dX6_readThing_7 (by decide) (fun c5 => ?_) (fun c5 => ?_)
  · replace hf := hf.1 c5
    refine lv_aload_n hx hb dX6_readThing_24 rfl (lv_at hl 0 rfl) ?_
    refine hw_callV (d := 2) E hR hS (As := []) (rest := []) cI5 hs0 rfl mcX6_look miX6_look lmX6_75 (ok_X6_look hs0 hf) rfl rfl (by decide) hl.1 (Nat.le_of_ble_eq_true rfl) dX6_readThing_25 (fun rr m6 H locs hp hR hS => ?_)
    obtain ⟨r7, rfl, hf⟩ := hp
    refine W.eq (g2 := F0 m 28 ls [.int r7]) rfl ?_
    refine lv_iload_n hx hb dX6_readThing_28 rfl (lv_at hl 1 rfl) ?_
    refine hw_callS (d := 2) E hR hS (As := [.int r7, .int x1]) (rest := []) mcX0_ofThing msX0_ofThing lmX6_118 (ok_X0_ofThing  hf) rfl rfl (by decide) hl.1 (Nat.le_of_ble_eq_true rfl) dX6_readThing_29 (fun rr m8 H locs hp hR hS => ?_)
    obtain ⟨r9, rfl, hf⟩ := hp
    refine W.eq (g2 := F0 m 32 ls [.int r9]) rfl ?_
    refine lv_istore_n (lv' := [(2, .int r9), (0, .ref (ad g a0)), (1, .int x1)]) hx hb dX6_readThing_32 rfl hl (by decide) rfl (fun ls hl => ?_)
    refine lv_iload_n hx hb dX6_readThing_33 rfl (lv_at hl 0 rfl) ?_
    refine lv_iconst (v := -1) hx hb dX6_readThing_34 (by decide) ?_
    refine lv_icmp_ne (tgt := 40) hx hb dX6_readThing_35 (by decide) (fun c10 => ?_) (fun c10 => ?_)
    · replace hf := hf.2 c10
      refine lv_aload_n hx hb dX6_readThing_40 rfl (lv_at hl 1 rfl) ?_
      obtain ⟨b11, hb11, hf⟩ := hf
      refine hw_getR E hR cI5 hs0 6 (by decide) lfX6_35 rfl hb11 dX6_readThing_41 ?_
      refine lv_iload_n hx hb dX6_readThing_44 rfl (lv_at hl 0 rfl) ?_
      obtain ⟨h13, hf⟩ := hf
      refine hw_callV (d := 2) E hR hS (As := [.int r9]) (rest := []) cI4 h13 rfl mcX5_emit miX5_emit lmX6_115 (ok_X5_emit h13 hf) rfl rfl (by decide) hl.1 (Nat.le_of_ble_eq_true rfl) dX6_readThing_45 (fun rr m12 H locs hp hR hS => ?_)
      obtain ⟨rfl, hf⟩ := hp
      refine W.eq (g2 := F0 m 48 ls []) rfl ?_
      refine lv_aload_n hx hb dX6_readThing_48 rfl (lv_at hl 1 rfl) ?_
      refine lv_dup hx hb dX6_readThing_49 rfl ?_
      refine hw_getI E hR cI5 hs0 3 (by decide) lfX6_22 rfl dX6_readThing_50 ?_
      refine lv_iconst (v := 1) hx hb dX6_readThing_53 (by decide) ?_
      refine lv_iadd hx hb dX6_readThing_54 ?_
      refine hw_putI E hR hS hw cI5 hs0 3 (by decide) lfX6_22 rfl (Or.inl rfl) dX6_readThing_55 (fun m14 H locs em14 hR hS => ?_)
      replace hf := hf m14 em14
      refine lv_iconst (v := 1) hx hb dX6_readThing_58 (by decide) ?_
      exact hw_zret E hR hS (by decide) ⟨_, rfl, hf⟩ dX6_readThing_59
    · replace hf := hf.1 c10
      refine lv_iconst (v := 0) hx hb dX6_readThing_38 (by decide) ?_
      exact hw_zret E hR hS (by decide) ⟨_, rfl, hf⟩ dX6_readThing_39
  · replace hf := hf.2 c5
    refine lv_aload_n hx hb dX6_readThing_10 rfl (lv_at hl 0 rfl) ?_
    obtain ⟨b15, hb15, hf⟩ := hf
    refine hw_getR E hR cI5 hs0 6 (by decide) lfX6_35 rfl hb15 dX6_readThing_11 ?_
    refine lv_aload_n hx hb dX6_readThing_14 rfl (lv_at hl 0 rfl) ?_
    refine lv_iconst (v := 3) hx hb dX6_readThing_15 (by decide) ?_
    refine hw_callV (d := 2) E hR hS (As := [.int (3 : Int32)]) (rest := [.ref (ad g b15)]) cI5 hs0 rfl mcX6_readNumber miX6_readNumber lmX6_91 (ok_X6_readNumber hs0 hf) rfl rfl (by decide) hl.1 (Nat.le_of_ble_eq_true rfl) dX6_readThing_16 (fun rr m16 H locs hp hR hS => ?_)
    obtain ⟨r17, rfl, hf⟩ := hp
    refine W.eq (g2 := F0 m 19 ls [.int r17, .ref (ad g b15)]) rfl ?_
    obtain ⟨h19, hf⟩ := hf
    refine hw_callV (d := 2) E hR hS (As := [.int r17]) (rest := []) cI4 h19 rfl mcX5_emit miX5_emit lmX6_115 (ok_X5_emit h19 hf) rfl rfl (by decide) hl.1 (Nat.le_of_ble_eq_true rfl) dX6_readThing_19 (fun rr m18 H locs hp hR hS => ?_)
    obtain ⟨rfl, hf⟩ := hp
    refine W.eq (g2 := F0 m 22 ls []) rfl ?_
    refine lv_iconst (v := 1) hx hb dX6_readThing_22 (by decide) ?_
    exact hw_zret E hR hS (by decide) ⟨_, rfl, hf⟩ dX6_readThing_23
def f_X6_readExpression_J122 (S : Ss) (a0 : Nat) (x1 : Int32) (x2 : Int32) (x3 : Int32) (x4 : Int32) (M : Mm) (BK12 : Int32 → Int32 → Int32 → Mm → Prop) (EK12 : Int32 → Int32 → Mm → Prop) (K : Int32 → Mm → Prop) : Prop :=
  f_X6_look S a0  M (fun (r8 : Int32) (m7 : Mm) =>
    f_X0_ofJoint S  r8 m7 (fun (r10 : Int32) (m9 : Mm) =>
    ((r10 = (-1 : Int32) →
    EK12 x2 x3 m9) ∧
   (¬ r10 = (-1 : Int32) →
    f_X6_holdJoint S a0 r10 m9 (fun (r13 : Int32) (m12 : Mm) =>
      ((r13 = 0 →
      K (0 : Int32) m12) ∧
     (¬ r13 = 0 →
      ∀ v15 : Int32, v15 = x4 + (1 : Int32) →
      BK12 x2 (1 : Int32) v15 m12)))))))
set_option maxHeartbeats 4000000 in
set_option maxRecDepth 100000 in
theorem w_X6_readExpression_J122 {p : Program} {l : Launch} {e : Env} {s : State} {m : MethodId} {args : Array Value} {below : List Frame} {meth : Method} {c : Code} {g : Gg} {S : Ss} (a0 : Nat) (x1 : Int32) (x2 : Int32) (x3 : Int32) (x4 : Int32) (M : Mm) (BK12 : Int32 → Int32 → Int32 → Mm → Prop) (EK12 : Int32 → Int32 → Mm → Prop) (K : Int32 → Mm → Prop) (E : EN p s m args meth c cX6_readExpression 6 (some .boolean) RX6 g) (hw : ad g 100000 < s.heap.size) (hs0 : S[a0]? = some (5, 0)) (hBK12 : ∀ (x2' : Int32) (x3' : Int32) (x4' : Int32) (M' : Mm) (H : Heap) (locs : List Loc) (ls : Array Slot), BK12 x2' x3' x4' M' → RP g S M' H → va_S (gA g) s.heap H locs → lv_has ls 6 [(0, .ref (ad g a0)), (1, .int x1), (2, .int x2'), (3, .int x3'), (4, .int x4')] → W p l e (rmD 4) s m args below meth c H locs 0 0 (MQ below (QA g S (pI K)) args s 0 0 (gA g)) (F0 m 12 ls [])) (hEK12 : ∀ (x2' : Int32) (x3' : Int32) (M' : Mm) (H : Heap) (locs : List Loc) (ls : Array Slot), EK12 x2' x3' M' → RP g S M' H → va_S (gA g) s.heap H locs → lv_has ls 6 [(0, .ref (ad g a0)), (2, .int x2'), (3, .int x3')] → W p l e (rmD 4) s m args below meth c H locs 0 0 (MQ below (QA g S (pI K)) args s 0 0 (gA g)) (F0 m 159 ls [])) (hf : f_X6_readExpression_J122 S a0 x1 x2 x3 x4 M BK12 EK12 K) (H : Heap) (locs : List Loc) (ls : Array Slot) (hR : RP g S M H) (hS : va_S (gA g) s.heap H locs) (hl : lv_has ls 6 [(0, .ref (ad g a0)), (1, .int x1), (2, .int x2), (3, .int x3), (4, .int x4)]) : W p l e (rmD 4) s m args below meth c H locs 0 0 (MQ below (QA g S (pI K)) args s 0 0 (gA g)) (F0 m 122 ls []) := by
  have hx := E.1
  have hb := E.2.1
  unfold f_X6_readExpression_J122 at hf
  refine lv_aload_n hx hb dX6_readExpression_122 rfl (lv_at hl 0 rfl) ?_
  refine hw_callV (d := 4) E hR hS (As := []) (rest := []) cI5 hs0 rfl mcX6_look miX6_look lmX6_75 (ok_X6_look hs0 hf) rfl rfl (by decide) hl.1 (Nat.le_of_ble_eq_true rfl) dX6_readExpression_123 (fun rr m7 H locs hp hR hS => ?_)
  obtain ⟨r8, rfl, hf⟩ := hp
  refine W.eq (g2 := F0 m 126 ls [.int r8]) rfl ?_
  refine hw_callS (d := 4) E hR hS (As := [.int r8]) (rest := []) mcX0_ofJoint msX0_ofJoint lmX6_104 (ok_X0_ofJoint  hf) rfl rfl (by decide) hl.1 (Nat.le_of_ble_eq_true rfl) dX6_readExpression_126 (fun rr m9 H locs hp hR hS => ?_)
  obtain ⟨r10, rfl, hf⟩ := hp
  refine W.eq (g2 := F0 m 129 ls [.int r10]) rfl ?_
  refine lv_istore (lv' := [(5, .int r10), (0, .ref (ad g a0)), (1, .int x1), (2, .int x2), (3, .int x3), (4, .int x4)]) hx hb dX6_readExpression_129 hl (by decide) rfl (fun ls hl => ?_)
  refine lv_iload hx hb dX6_readExpression_131 (lv_at hl 0 rfl) ?_
  refine lv_iconst (v := -1) hx hb dX6_readExpression_133 (by decide) ?_
  refine lv_icmp_ne (tgt := 140) hx hb dX6_readExpression_134 (by decide) (fun c11 => ?_) (fun c11 => ?_)
  · replace hf := hf.2 c11
    refine lv_aload_n hx hb dX6_readExpression_140 rfl (lv_at hl 1 rfl) ?_
    refine lv_iload hx hb dX6_readExpression_141 (lv_at hl 0 rfl) ?_
    refine hw_callV (d := 4) E hR hS (As := [.int r10]) (rest := []) cI5 hs0 rfl mcX6_holdJoint miX6_holdJoint lmX6_109 (ok_X6_holdJoint hs0 hf) rfl rfl (by decide) hl.1 (Nat.le_of_ble_eq_true rfl) dX6_readExpression_143 (fun rr m12 H locs hp hR hS => ?_)
    obtain ⟨r13, rfl, hf⟩ := hp
    refine W.eq (g2 := F0 m 146 ls [.int r13]) rfl ?_
    refine lv_if_ne (tgt := 151) hx hb dX6_readExpression_146 (by decide) (fun c14 => ?_) (fun c14 => ?_)
    · replace hf := hf.2 c14
      refine lv_iconst (v := 1) hx hb dX6_readExpression_151 (by decide) ?_
      refine lv_istore_n (lv' := [(3, .int (1 : Int32)), (5, .int r10), (0, .ref (ad g a0)), (1, .int x1), (2, .int x2), (4, .int x4)]) hx hb dX6_readExpression_152 rfl hl (by decide) rfl (fun ls hl => ?_)
      obtain ⟨v15, ev15⟩ : ∃ y : Int32, y = x4 + (1 : Int32) := ⟨_, rfl⟩
      replace hf := hf v15 ev15
      refine lv_iinc (v := v15) (lv' := [(4, .int v15), (3, .int (1 : Int32)), (5, .int r10), (0, .ref (ad g a0)), (1, .int x1), (2, .int x2)]) hx hb dX6_readExpression_153 hl (k := 5) rfl (by rw [ev15]; rfl) (by decide) rfl (fun ls hl => ?_)
      refine lv_goto (tgt := 12) hx hb dX6_readExpression_156 (by decide) ?_
      exact hBK12 _ _ _ _ _ _ _ hf hR hS (lv_sub hl [3, 4, 5, 1, 0] rfl)
    · replace hf := hf.1 c14
      refine lv_iconst (v := 0) hx hb dX6_readExpression_149 (by decide) ?_
      exact hw_zret E hR hS (by decide) ⟨_, rfl, hf⟩ dX6_readExpression_150
  · replace hf := hf.1 c11
    refine lv_goto (tgt := 159) hx hb dX6_readExpression_137 (by decide) ?_
    exact hEK12 _ _ _ _ _ _ hf hR hS (lv_sub hl [1, 3, 4] rfl)
def f_X6_readExpression_J54 (S : Ss) (a0 : Nat) (x1 : Int32) (x3 : Int32) (x4 : Int32) (t0 : Int32) (t1 : Int32) (M : Mm) (BK12 : Int32 → Int32 → Int32 → Mm → Prop) (K : Int32 → Mm → Prop) : Prop :=
  ∀ v28 : Int32, v28 = (t1 + t0) →
  f_X6_readAhead S a0  M (fun (r30 : Int32) (m29 : Mm) =>
    ((r30 = 0 →
    f_X6_readThing S a0 x1 m29 (fun (r34 : Int32) (m33 : Mm) =>
      ((r34 = 0 →
      K (0 : Int32) m33) ∧
     (¬ r34 = 0 →
      ∀ v36 : Int32, v36 = x4 + (1 : Int32) →
      BK12 v28 (0 : Int32) v36 m33)))) ∧
   (¬ r30 = 0 →
    ∀ v32 : Int32, v32 = x4 + (1 : Int32) →
    BK12 v28 x3 v32 m29)))
set_option maxHeartbeats 4000000 in
set_option maxRecDepth 100000 in
theorem w_X6_readExpression_J54 {p : Program} {l : Launch} {e : Env} {s : State} {m : MethodId} {args : Array Value} {below : List Frame} {meth : Method} {c : Code} {g : Gg} {S : Ss} (a0 : Nat) (x1 : Int32) (x3 : Int32) (x4 : Int32) (t0 : Int32) (t1 : Int32) (M : Mm) (BK12 : Int32 → Int32 → Int32 → Mm → Prop) (K : Int32 → Mm → Prop) (E : EN p s m args meth c cX6_readExpression 6 (some .boolean) RX6 g) (hw : ad g 100000 < s.heap.size) (hs0 : S[a0]? = some (5, 0)) (hBK12 : ∀ (x2' : Int32) (x3' : Int32) (x4' : Int32) (M' : Mm) (H : Heap) (locs : List Loc) (ls : Array Slot), BK12 x2' x3' x4' M' → RP g S M' H → va_S (gA g) s.heap H locs → lv_has ls 6 [(0, .ref (ad g a0)), (1, .int x1), (2, .int x2'), (3, .int x3'), (4, .int x4')] → W p l e (rmD 4) s m args below meth c H locs 0 0 (MQ below (QA g S (pI K)) args s 0 0 (gA g)) (F0 m 12 ls [])) (hf : f_X6_readExpression_J54 S a0 x1 x3 x4 t0 t1 M BK12 K) (H : Heap) (locs : List Loc) (ls : Array Slot) (hR : RP g S M H) (hS : va_S (gA g) s.heap H locs) (hl : lv_has ls 6 [(0, .ref (ad g a0)), (1, .int x1), (3, .int x3), (4, .int x4)]) : W p l e (rmD 4) s m args below meth c H locs 0 0 (MQ below (QA g S (pI K)) args s 0 0 (gA g)) (F0 m 54 ls [.int t0, .int t1]) := by
  have hx := E.1
  have hb := E.2.1
  unfold f_X6_readExpression_J54 at hf
  refine lv_iadd hx hb dX6_readExpression_54 ?_
  refine lv_topi (fun v28 ev28 => ?_)
  replace hf := hf v28 ev28
  refine lv_istore_n (lv' := [(2, .int v28), (0, .ref (ad g a0)), (1, .int x1), (3, .int x3), (4, .int x4)]) hx hb dX6_readExpression_55 rfl hl (by decide) rfl (fun ls hl => ?_)
  refine lv_aload_n hx hb dX6_readExpression_56 rfl (lv_at hl 1 rfl) ?_
  refine hw_callV (d := 4) E hR hS (As := []) (rest := []) cI5 hs0 rfl mcX6_readAhead miX6_readAhead lmX6_95 (ok_X6_readAhead hs0 hf) rfl rfl (by decide) hl.1 (Nat.le_of_ble_eq_true rfl) dX6_readExpression_57 (fun rr m29 H locs hp hR hS => ?_)
  obtain ⟨r30, rfl, hf⟩ := hp
  refine W.eq (g2 := F0 m 60 ls [.int r30]) rfl ?_
  refine lv_if_ne (tgt := 153) hx hb dX6_readExpression_60 (by decide) (fun c31 => ?_) (fun c31 => ?_)
  · replace hf := hf.2 c31
    obtain ⟨v32, ev32⟩ : ∃ y : Int32, y = x4 + (1 : Int32) := ⟨_, rfl⟩
    replace hf := hf v32 ev32
    refine lv_iinc (v := v32) (lv' := [(4, .int v32), (2, .int v28), (0, .ref (ad g a0)), (1, .int x1), (3, .int x3)]) hx hb dX6_readExpression_153 hl (k := 4) rfl (by rw [ev32]; rfl) (by decide) rfl (fun ls hl => ?_)
    refine lv_goto (tgt := 12) hx hb dX6_readExpression_156 (by decide) ?_
    exact hBK12 _ _ _ _ _ _ _ hf hR hS (lv_sub hl [2, 3, 1, 4, 0] rfl)
  · replace hf := hf.1 c31
    refine lv_aload_n hx hb dX6_readExpression_63 rfl (lv_at hl 1 rfl) ?_
    refine lv_iload_n hx hb dX6_readExpression_64 rfl (lv_at hl 2 rfl) ?_
    refine hw_callV (d := 4) E hR hS (As := [.int x1]) (rest := []) cI5 hs0 rfl mcX6_readThing miX6_readThing lmX6_98 (ok_X6_readThing hs0 hf) rfl rfl (by decide) hl.1 (Nat.le_of_ble_eq_true rfl) dX6_readExpression_65 (fun rr m33 H locs hp hR hS => ?_)
    obtain ⟨r34, rfl, hf⟩ := hp
    refine W.eq (g2 := F0 m 68 ls [.int r34]) rfl ?_
    refine lv_if_ne (tgt := 73) hx hb dX6_readExpression_68 (by decide) (fun c35 => ?_) (fun c35 => ?_)
    · replace hf := hf.2 c35
      refine lv_iconst (v := 0) hx hb dX6_readExpression_73 (by decide) ?_
      refine lv_istore_n (lv' := [(3, .int (0 : Int32)), (2, .int v28), (0, .ref (ad g a0)), (1, .int x1), (4, .int x4)]) hx hb dX6_readExpression_74 rfl hl (by decide) rfl (fun ls hl => ?_)
      refine lv_goto (tgt := 153) hx hb dX6_readExpression_75 (by decide) ?_
      obtain ⟨v36, ev36⟩ : ∃ y : Int32, y = x4 + (1 : Int32) := ⟨_, rfl⟩
      replace hf := hf v36 ev36
      refine lv_iinc (v := v36) (lv' := [(4, .int v36), (3, .int (0 : Int32)), (2, .int v28), (0, .ref (ad g a0)), (1, .int x1)]) hx hb dX6_readExpression_153 hl (k := 4) rfl (by rw [ev36]; rfl) (by decide) rfl (fun ls hl => ?_)
      refine lv_goto (tgt := 12) hx hb dX6_readExpression_156 (by decide) ?_
      exact hBK12 _ _ _ _ _ _ _ hf hR hS (lv_sub hl [3, 4, 2, 1, 0] rfl)
    · replace hf := hf.1 c35
      refine lv_iconst (v := 0) hx hb dX6_readExpression_71 (by decide) ?_
      exact hw_zret E hR hS (by decide) ⟨_, rfl, hf⟩ dX6_readExpression_72
def f_X6_readExpression_J39 (S : Ss) (a0 : Nat) (x1 : Int32) (x2 : Int32) (x3 : Int32) (x4 : Int32) (M : Mm) (BK12 : Int32 → Int32 → Int32 → Mm → Prop) (K : Int32 → Mm → Prop) : Prop :=
  f_X6_look S a0  M (fun (r26 : Int32) (m25 : Mm) =>
    ((r26 = (40 : Int32) →
    f_X6_readExpression_J54 S a0 x1 x3 x4 (1 : Int32) x2 m25 BK12 K) ∧
   (¬ r26 = (40 : Int32) →
    f_X6_readExpression_J54 S a0 x1 x3 x4 (0 : Int32) x2 m25 BK12 K)))
set_option maxHeartbeats 4000000 in
set_option maxRecDepth 100000 in
theorem w_X6_readExpression_J39 {p : Program} {l : Launch} {e : Env} {s : State} {m : MethodId} {args : Array Value} {below : List Frame} {meth : Method} {c : Code} {g : Gg} {S : Ss} (a0 : Nat) (x1 : Int32) (x2 : Int32) (x3 : Int32) (x4 : Int32) (M : Mm) (BK12 : Int32 → Int32 → Int32 → Mm → Prop) (K : Int32 → Mm → Prop) (E : EN p s m args meth c cX6_readExpression 6 (some .boolean) RX6 g) (hw : ad g 100000 < s.heap.size) (hs0 : S[a0]? = some (5, 0)) (hBK12 : ∀ (x2' : Int32) (x3' : Int32) (x4' : Int32) (M' : Mm) (H : Heap) (locs : List Loc) (ls : Array Slot), BK12 x2' x3' x4' M' → RP g S M' H → va_S (gA g) s.heap H locs → lv_has ls 6 [(0, .ref (ad g a0)), (1, .int x1), (2, .int x2'), (3, .int x3'), (4, .int x4')] → W p l e (rmD 4) s m args below meth c H locs 0 0 (MQ below (QA g S (pI K)) args s 0 0 (gA g)) (F0 m 12 ls [])) (hf : f_X6_readExpression_J39 S a0 x1 x2 x3 x4 M BK12 K) (H : Heap) (locs : List Loc) (ls : Array Slot) (hR : RP g S M H) (hS : va_S (gA g) s.heap H locs) (hl : lv_has ls 6 [(0, .ref (ad g a0)), (1, .int x1), (2, .int x2), (3, .int x3), (4, .int x4)]) : W p l e (rmD 4) s m args below meth c H locs 0 0 (MQ below (QA g S (pI K)) args s 0 0 (gA g)) (F0 m 39 ls []) := by
  have hx := E.1
  have hb := E.2.1
  unfold f_X6_readExpression_J39 at hf
  refine lv_iload_n hx hb dX6_readExpression_39 rfl (lv_at hl 2 rfl) ?_
  refine lv_aload_n hx hb dX6_readExpression_40 rfl (lv_at hl 0 rfl) ?_
  refine hw_callV (d := 4) E hR hS (As := []) (rest := [.int x2]) cI5 hs0 rfl mcX6_look miX6_look lmX6_75 (ok_X6_look hs0 hf) rfl rfl (by decide) hl.1 (Nat.le_of_ble_eq_true rfl) dX6_readExpression_41 (fun rr m25 H locs hp hR hS => ?_)
  obtain ⟨r26, rfl, hf⟩ := hp
  refine W.eq (g2 := F0 m 44 ls [.int r26, .int x2]) rfl ?_
  refine lv_bipush (v := 40) hx hb dX6_readExpression_44 (by decide) ?_
  refine lv_icmp_ne (tgt := 53) hx hb dX6_readExpression_46 (by decide) (fun c27 => ?_) (fun c27 => ?_)
  · replace hf := hf.2 c27
    refine lv_iconst (v := 0) hx hb dX6_readExpression_53 (by decide) ?_
    exact w_X6_readExpression_J54 _ _ _ _ _ _ _ _ _ E hw hs0 hBK12 hf _ _ _ hR hS (lv_sub hl [0, 1, 3, 4] rfl)
  · replace hf := hf.1 c27
    refine lv_iconst (v := 1) hx hb dX6_readExpression_49 (by decide) ?_
    refine lv_goto (tgt := 54) hx hb dX6_readExpression_50 (by decide) ?_
    exact w_X6_readExpression_J54 _ _ _ _ _ _ _ _ _ E hw hs0 hBK12 hf _ _ _ hR hS (lv_sub hl [0, 1, 3, 4] rfl)
def f_X6_readExpression_B12 (S : Ss) (a0 : Nat) (x1 : Int32) (x2 : Int32) (x3 : Int32) (x4 : Int32) (M : Mm) (BK12 : Int32 → Int32 → Int32 → Mm → Prop) (EK12 : Int32 → Int32 → Mm → Prop) (K : Int32 → Mm → Prop) : Prop :=
  (((60 : Int32) < x4 →
    EK12 x2 x3 M) ∧
   (¬ (60 : Int32) < x4 →
    ((x3 = 0 →
      f_X6_look S a0  M (fun (r5 : Int32) (m4 : Mm) =>
        ((r5 = (41 : Int32) →
        ((x2 ≤ 0 →
          f_X6_readExpression_J122 S a0 x1 x2 x3 x4 m4 BK12 EK12 K) ∧
         (¬ x2 ≤ 0 →
          ∀ m17 : Mm, m17 = stI m4 a0 3 ((m4.1 a0 3) + (1 : Int32)) →
          ∀ v18 : Int32, v18 = x2 + (-1 : Int32) →
          f_X6_release S a0 (1 : Int32) m17 (fun (m19 : Mm) =>
            ∀ m20 : Mm, m20 = stI m19 a0 5 ((m19.1 a0 5) - (1 : Int32)) →
          ∀ v21 : Int32, v21 = x4 + (1 : Int32) →
          BK12 v18 x3 v21 m20)))) ∧
       (¬ r5 = (41 : Int32) →
        f_X6_readExpression_J122 S a0 x1 x2 x3 x4 m4 BK12 EK12 K)))) ∧
     (¬ x3 = 0 →
      f_X6_look S a0  M (fun (r23 : Int32) (m22 : Mm) =>
        ((r23 = (40 : Int32) →
        ((x2 = (5 : Int32) →
          K (0 : Int32) m22) ∧
         (¬ x2 = (5 : Int32) →
          f_X6_readExpression_J39 S a0 x1 x2 x3 x4 m22 BK12 K))) ∧
       (¬ r23 = (40 : Int32) →
        f_X6_readExpression_J39 S a0 x1 x2 x3 x4 m22 BK12 K)))))))
set_option maxHeartbeats 4000000 in
set_option maxRecDepth 100000 in
theorem w_X6_readExpression_B12 {p : Program} {l : Launch} {e : Env} {s : State} {m : MethodId} {args : Array Value} {below : List Frame} {meth : Method} {c : Code} {g : Gg} {S : Ss} (a0 : Nat) (x1 : Int32) (x2 : Int32) (x3 : Int32) (x4 : Int32) (M : Mm) (BK12 : Int32 → Int32 → Int32 → Mm → Prop) (EK12 : Int32 → Int32 → Mm → Prop) (K : Int32 → Mm → Prop) (E : EN p s m args meth c cX6_readExpression 6 (some .boolean) RX6 g) (hw : ad g 100000 < s.heap.size) (hs0 : S[a0]? = some (5, 0)) (hBK12 : ∀ (x2' : Int32) (x3' : Int32) (x4' : Int32) (M' : Mm) (H : Heap) (locs : List Loc) (ls : Array Slot), BK12 x2' x3' x4' M' → RP g S M' H → va_S (gA g) s.heap H locs → lv_has ls 6 [(0, .ref (ad g a0)), (1, .int x1), (2, .int x2'), (3, .int x3'), (4, .int x4')] → W p l e (rmD 4) s m args below meth c H locs 0 0 (MQ below (QA g S (pI K)) args s 0 0 (gA g)) (F0 m 12 ls [])) (hEK12 : ∀ (x2' : Int32) (x3' : Int32) (M' : Mm) (H : Heap) (locs : List Loc) (ls : Array Slot), EK12 x2' x3' M' → RP g S M' H → va_S (gA g) s.heap H locs → lv_has ls 6 [(0, .ref (ad g a0)), (2, .int x2'), (3, .int x3')] → W p l e (rmD 4) s m args below meth c H locs 0 0 (MQ below (QA g S (pI K)) args s 0 0 (gA g)) (F0 m 159 ls [])) (hf : f_X6_readExpression_B12 S a0 x1 x2 x3 x4 M BK12 EK12 K) (H : Heap) (locs : List Loc) (ls : Array Slot) (hR : RP g S M H) (hS : va_S (gA g) s.heap H locs) (hl : lv_has ls 6 [(0, .ref (ad g a0)), (1, .int x1), (2, .int x2), (3, .int x3), (4, .int x4)]) : W p l e (rmD 4) s m args below meth c H locs 0 0 (MQ below (QA g S (pI K)) args s 0 0 (gA g)) (F0 m 12 ls []) := by
  have hx := E.1
  have hb := E.2.1
  unfold f_X6_readExpression_B12 at hf
  refine lv_iload hx hb dX6_readExpression_12 (lv_at hl 4 rfl) ?_
  refine lv_bipush (v := 60) hx hb dX6_readExpression_14 (by decide) ?_
  refine lv_icmp_gt (tgt := 159) hx hb dX6_readExpression_16 (by decide) (fun c2 => ?_) (fun c2 => ?_)
  · replace hf := hf.1 c2
    exact hEK12 _ _ _ _ _ _ hf hR hS (lv_sub hl [0, 2, 3] rfl)
  · replace hf := hf.2 c2
    refine lv_iload_n hx hb dX6_readExpression_19 rfl (lv_at hl 3 rfl) ?_
    refine lv_if_eq (tgt := 78) hx hb dX6_readExpression_20 (by decide) (fun c3 => ?_) (fun c3 => ?_)
    · replace hf := hf.1 c3
      refine lv_aload_n hx hb dX6_readExpression_78 rfl (lv_at hl 0 rfl) ?_
      refine hw_callV (d := 4) E hR hS (As := []) (rest := []) cI5 hs0 rfl mcX6_look miX6_look lmX6_75 (ok_X6_look hs0 hf) rfl rfl (by decide) hl.1 (Nat.le_of_ble_eq_true rfl) dX6_readExpression_79 (fun rr m4 H locs hp hR hS => ?_)
      obtain ⟨r5, rfl, hf⟩ := hp
      refine W.eq (g2 := F0 m 82 ls [.int r5]) rfl ?_
      refine lv_bipush (v := 41) hx hb dX6_readExpression_82 (by decide) ?_
      refine lv_icmp_ne (tgt := 122) hx hb dX6_readExpression_84 (by decide) (fun c6 => ?_) (fun c6 => ?_)
      · replace hf := hf.2 c6
        exact w_X6_readExpression_J122 _ _ _ _ _ _ _ _ _ E hw hs0 hBK12 hEK12 hf _ _ _ hR hS (lv_sub hl [0, 1, 2, 3, 4] rfl)
      · replace hf := hf.1 c6
        refine lv_iload_n hx hb dX6_readExpression_87 rfl (lv_at hl 2 rfl) ?_
        refine lv_if_le (tgt := 122) hx hb dX6_readExpression_88 (by decide) (fun c16 => ?_) (fun c16 => ?_)
        · replace hf := hf.1 c16
          exact w_X6_readExpression_J122 _ _ _ _ _ _ _ _ _ E hw hs0 hBK12 hEK12 hf _ _ _ hR hS (lv_sub hl [0, 1, 2, 3, 4] rfl)
        · replace hf := hf.2 c16
          refine lv_aload_n hx hb dX6_readExpression_91 rfl (lv_at hl 0 rfl) ?_
          refine lv_dup hx hb dX6_readExpression_92 rfl ?_
          refine hw_getI E hR cI5 hs0 3 (by decide) lfX6_22 rfl dX6_readExpression_93 ?_
          refine lv_iconst (v := 1) hx hb dX6_readExpression_96 (by decide) ?_
          refine lv_iadd hx hb dX6_readExpression_97 ?_
          refine hw_putI E hR hS hw cI5 hs0 3 (by decide) lfX6_22 rfl (Or.inl rfl) dX6_readExpression_98 (fun m17 H locs em17 hR hS => ?_)
          replace hf := hf m17 em17
          obtain ⟨v18, ev18⟩ : ∃ y : Int32, y = x2 + (-1 : Int32) := ⟨_, rfl⟩
          replace hf := hf v18 ev18
          refine lv_iinc (v := v18) (lv' := [(2, .int v18), (0, .ref (ad g a0)), (1, .int x1), (3, .int x3), (4, .int x4)]) hx hb dX6_readExpression_101 hl (k := 2) rfl (by rw [ev18]; rfl) (by decide) rfl (fun ls hl => ?_)
          refine lv_aload_n hx hb dX6_readExpression_104 rfl (lv_at hl 1 rfl) ?_
          refine lv_iconst (v := 1) hx hb dX6_readExpression_105 (by decide) ?_
          refine hw_callV (d := 4) E hR hS (As := [.int (1 : Int32)]) (rest := []) cI5 hs0 rfl mcX6_release miX6_release lmX6_101 (ok_X6_release hs0 hf) rfl rfl (by decide) hl.1 (Nat.le_of_ble_eq_true rfl) dX6_readExpression_106 (fun rr m19 H locs hp hR hS => ?_)
          obtain ⟨rfl, hf⟩ := hp
          refine W.eq (g2 := F0 m 109 ls []) rfl ?_
          refine lv_aload_n hx hb dX6_readExpression_109 rfl (lv_at hl 1 rfl) ?_
          refine lv_dup hx hb dX6_readExpression_110 rfl ?_
          refine hw_getI E hR cI5 hs0 5 (by decide) lfX6_29 rfl dX6_readExpression_111 ?_
          refine lv_iconst (v := 1) hx hb dX6_readExpression_114 (by decide) ?_
          refine lv_isub hx hb dX6_readExpression_115 ?_
          refine hw_putI E hR hS hw cI5 hs0 5 (by decide) lfX6_29 rfl (Or.inl rfl) dX6_readExpression_116 (fun m20 H locs em20 hR hS => ?_)
          replace hf := hf m20 em20
          refine lv_goto (tgt := 153) hx hb dX6_readExpression_119 (by decide) ?_
          obtain ⟨v21, ev21⟩ : ∃ y : Int32, y = x4 + (1 : Int32) := ⟨_, rfl⟩
          replace hf := hf v21 ev21
          refine lv_iinc (v := v21) (lv' := [(4, .int v21), (2, .int v18), (0, .ref (ad g a0)), (1, .int x1), (3, .int x3)]) hx hb dX6_readExpression_153 hl (k := 4) rfl (by rw [ev21]; rfl) (by decide) rfl (fun ls hl => ?_)
          refine lv_goto (tgt := 12) hx hb dX6_readExpression_156 (by decide) ?_
          exact hBK12 _ _ _ _ _ _ _ hf hR hS (lv_sub hl [2, 3, 1, 4, 0] rfl)
    · replace hf := hf.2 c3
      refine lv_aload_n hx hb dX6_readExpression_23 rfl (lv_at hl 0 rfl) ?_
      refine hw_callV (d := 4) E hR hS (As := []) (rest := []) cI5 hs0 rfl mcX6_look miX6_look lmX6_75 (ok_X6_look hs0 hf) rfl rfl (by decide) hl.1 (Nat.le_of_ble_eq_true rfl) dX6_readExpression_24 (fun rr m22 H locs hp hR hS => ?_)
      obtain ⟨r23, rfl, hf⟩ := hp
      refine W.eq (g2 := F0 m 27 ls [.int r23]) rfl ?_
      refine lv_bipush (v := 40) hx hb dX6_readExpression_27 (by decide) ?_
      refine lv_icmp_ne (tgt := 39) hx hb dX6_readExpression_29 (by decide) (fun c24 => ?_) (fun c24 => ?_)
      · replace hf := hf.2 c24
        exact w_X6_readExpression_J39 _ _ _ _ _ _ _ _ E hw hs0 hBK12 hf _ _ _ hR hS (lv_sub hl [0, 1, 2, 3, 4] rfl)
      · replace hf := hf.1 c24
        refine lv_iload_n hx hb dX6_readExpression_32 rfl (lv_at hl 2 rfl) ?_
        refine lv_iconst (v := 5) hx hb dX6_readExpression_33 (by decide) ?_
        refine lv_icmp_ne (tgt := 39) hx hb dX6_readExpression_34 (by decide) (fun c37 => ?_) (fun c37 => ?_)
        · replace hf := hf.2 c37
          exact w_X6_readExpression_J39 _ _ _ _ _ _ _ _ E hw hs0 hBK12 hf _ _ _ hR hS (lv_sub hl [0, 1, 2, 3, 4] rfl)
        · replace hf := hf.1 c37
          refine lv_iconst (v := 0) hx hb dX6_readExpression_37 (by decide) ?_
          exact hw_zret E hR hS (by decide) ⟨_, rfl, hf⟩ dX6_readExpression_38
def f_X6_readExpression_L12 (S : Ss) (a0 : Nat) (x1 : Int32) (EK12 : Int32 → Int32 → Mm → Prop) (K : Int32 → Mm → Prop) : Nat → Int32 → Int32 → Int32 → Mm → Prop
  | 0, _, _, _, _ => False
  | n + 1, x2, x3, x4, M => f_X6_readExpression_B12 S a0 x1 x2 x3 x4 M (fun (x2 : Int32) (x3 : Int32) (x4 : Int32) (M : Mm) => f_X6_readExpression_L12 S a0 x1 EK12 K n x2 x3 x4 M) EK12 K
set_option maxHeartbeats 4000000 in
set_option maxRecDepth 100000 in
theorem w_X6_readExpression_L12 {p : Program} {l : Launch} {e : Env} {s : State} {m : MethodId} {args : Array Value} {below : List Frame} {meth : Method} {c : Code} {g : Gg} {S : Ss} (a0 : Nat) (x1 : Int32) (EK12 : Int32 → Int32 → Mm → Prop) (K : Int32 → Mm → Prop) (E : EN p s m args meth c cX6_readExpression 6 (some .boolean) RX6 g) (hw : ad g 100000 < s.heap.size) (hs0 : S[a0]? = some (5, 0)) (hEK12 : ∀ (x2' : Int32) (x3' : Int32) (M' : Mm) (H : Heap) (locs : List Loc) (ls : Array Slot), EK12 x2' x3' M' → RP g S M' H → va_S (gA g) s.heap H locs → lv_has ls 6 [(0, .ref (ad g a0)), (2, .int x2'), (3, .int x3')] → W p l e (rmD 4) s m args below meth c H locs 0 0 (MQ below (QA g S (pI K)) args s 0 0 (gA g)) (F0 m 159 ls [])) : ∀ (n : Nat) (x2 : Int32) (x3 : Int32) (x4 : Int32) (M : Mm), f_X6_readExpression_L12 S a0 x1 EK12 K n x2 x3 x4 M → ∀ (H : Heap) (locs : List Loc) (ls : Array Slot), RP g S M H → va_S (gA g) s.heap H locs → lv_has ls 6 [(0, .ref (ad g a0)), (1, .int x1), (2, .int x2), (3, .int x3), (4, .int x4)] → W p l e (rmD 4) s m args below meth c H locs 0 0 (MQ below (QA g S (pI K)) args s 0 0 (gA g)) (F0 m 12 ls []) := by
  intro n
  induction n with
  | zero => intro x2 x3 x4 M hf; exact hf.elim
  | succ n ih =>
    intro x2 x3 x4 M hf H locs ls hR hS hl
    exact w_X6_readExpression_B12 _ _ _ _ _ _ _ _ _ E hw hs0 (fun _ _ _ M H locs ls h hR hS hl => ih _ _ _ M h H locs ls hR hS hl) hEK12 hf H locs ls hR hS hl
def f_X6_readExpression (S : Ss) (a0 : Nat) (x1 : Int32) (M : Mm) (K : Int32 → Mm → Prop) : Prop :=
  ∀ m1 : Mm, m1 = stI M a0 5 (0 : Int32) →
  ∃ n44 : Nat, f_X6_readExpression_L12 S a0 x1 (fun (v38 : Int32) (v39 : Int32) (m40 : Mm) =>
    f_X6_release S a0 (1 : Int32) m40 (fun (m41 : Mm) =>
      ((v38 = 0 →
      ((v39 = 0 →
        K (1 : Int32) m41) ∧
       (¬ v39 = 0 →
        K (0 : Int32) m41))) ∧
     (¬ v38 = 0 →
      K (0 : Int32) m41)))) K n44 (0 : Int32) (1 : Int32) (0 : Int32) m1
set_option maxHeartbeats 4000000 in
set_option maxRecDepth 100000 in
theorem ok_X6_readExpression {l : Launch} {g : Gg} {S : Ss} {a0 : Nat} {x1 : Int32} {M : Mm} {K : Int32 → Mm → Prop} (hs0 : S[a0]? = some (5, 0)) (hf : f_X6_readExpression S a0 x1 M K) : MT l g S yX6_readExpression cX6_readExpression 6 (some .boolean) 4 [.ref (ad g a0), .int x1] M (pI K) := by
  refine MT.of (by decide +kernel) (Nat.le_of_ble_eq_true rfl) ?_
  intro p e s m below meth c ls E hw hR hS hl
  have hl : lv_has ls 6 [(0, .ref (ad g a0)), (1, .int x1)] := hl
  generalize ([.ref (ad g a0), .int x1] : List Value).toArray = args at E ⊢
  have E : EN p s m args meth c cX6_readExpression 6 (some .boolean) RX6 g := E
  have hx := E.1
  have hb := E.2.1
  unfold f_X6_readExpression at hf
  refine lv_aload_n hx hb dX6_readExpression_0 rfl (lv_at hl 0 rfl) ?_
  refine lv_iconst (v := 0) hx hb dX6_readExpression_1 (by decide) ?_
  refine hw_putI E hR hS hw cI5 hs0 5 (by decide) lfX6_29 rfl (Or.inl rfl) dX6_readExpression_2 (fun m1 H locs em1 hR hS => ?_)
  replace hf := hf m1 em1
  refine lv_iconst (v := 0) hx hb dX6_readExpression_5 (by decide) ?_
  refine lv_istore_n (lv' := [(2, .int (0 : Int32)), (0, .ref (ad g a0)), (1, .int x1)]) hx hb dX6_readExpression_6 rfl hl (by decide) rfl (fun ls hl => ?_)
  refine lv_iconst (v := 1) hx hb dX6_readExpression_7 (by decide) ?_
  refine lv_istore_n (lv' := [(3, .int (1 : Int32)), (2, .int (0 : Int32)), (0, .ref (ad g a0)), (1, .int x1)]) hx hb dX6_readExpression_8 rfl hl (by decide) rfl (fun ls hl => ?_)
  refine lv_iconst (v := 0) hx hb dX6_readExpression_9 (by decide) ?_
  refine lv_istore (lv' := [(4, .int (0 : Int32)), (3, .int (1 : Int32)), (2, .int (0 : Int32)), (0, .ref (ad g a0)), (1, .int x1)]) hx hb dX6_readExpression_10 hl (by decide) rfl (fun ls hl => ?_)
  obtain ⟨n44, hf⟩ := hf
  refine w_X6_readExpression_L12 _ _ _ _ E hw hs0 ?_ n44 _ _ _ _ hf _ _ _ hR hS (lv_sub hl [3, 4, 2, 1, 0] rfl)
  intro v38 v39 m40 H locs ls hf hR hS hl
  refine lv_aload_n hx hb dX6_readExpression_159 rfl (lv_at hl 0 rfl) ?_
  refine lv_iconst (v := 1) hx hb dX6_readExpression_160 (by decide) ?_
  refine hw_callV (d := 4) E hR hS (As := [.int (1 : Int32)]) (rest := []) cI5 hs0 rfl mcX6_release miX6_release lmX6_101 (ok_X6_release hs0 hf) rfl rfl (by decide) hl.1 (Nat.le_of_ble_eq_true rfl) dX6_readExpression_161 (fun rr m41 H locs hp hR hS => ?_)
  obtain ⟨rfl, hf⟩ := hp
  refine W.eq (g2 := F0 m 164 ls []) rfl ?_
  refine lv_iload_n hx hb dX6_readExpression_164 rfl (lv_at hl 1 rfl) ?_
  refine lv_if_ne (tgt := 176) hx hb dX6_readExpression_165 (by decide) (fun c42 => ?_) (fun c42 => ?_)
  · replace hf := hf.2 c42
    refine lv_iconst (v := 0) hx hb dX6_readExpression_176 (by decide) ?_
    exact hw_zret E hR hS (by decide) ⟨_, rfl, hf⟩ dX6_readExpression_177
  · replace hf := hf.1 c42
    refine lv_iload_n hx hb dX6_readExpression_168 rfl (lv_at hl 2 rfl) ?_
    refine lv_if_ne (tgt := 176) hx hb dX6_readExpression_169 (by decide) (fun c43 => ?_) (fun c43 => ?_)
    · replace hf := hf.2 c43
      refine lv_iconst (v := 0) hx hb dX6_readExpression_176 (by decide) ?_
      exact hw_zret E hR hS (by decide) ⟨_, rfl, hf⟩ dX6_readExpression_177
    · replace hf := hf.1 c43
      refine lv_iconst (v := 1) hx hb dX6_readExpression_172 (by decide) ?_
      refine lv_goto (tgt := 177) hx hb dX6_readExpression_173 (by decide) ?_
      exact hw_zret E hR hS (by decide) ⟨_, rfl, hf⟩ dX6_readExpression_177
def f_X6_readAsked (S : Ss) (a0 : Nat) (x1 : Int32) (M : Mm) (K : Int32 → Mm → Prop) : Prop :=
  f_X6_begin S a0 x1 M (fun (m1 : Mm) =>
    ∃ b2 : Nat, m1.2.2 a0 6 = some b2 ∧
  S[b2]? = some (4, 0) ∧
  f_X5_beginLine S b2 (6 : Int32) (0 : Int32) m1 (fun (m3 : Mm) =>
    f_X6_readExpression S a0 (1 : Int32) m3 (fun (r6 : Int32) (m5 : Mm) =>
    ((r6 = 0 →
    K (m5.1 a0 3) m5) ∧
   (¬ r6 = 0 →
    (((m5.1 a0 2) ≤ (m5.1 a0 3) →
      ∃ b9 : Nat, m5.2.2 a0 6 = some b9 ∧
      S[b9]? = some (4, 0) ∧
      f_X5_endLine S b9  m5 (fun (m10 : Mm) =>
        ((x1 ≤ (60 : Int32) →
        K (-1 : Int32) m10) ∧
       (¬ x1 ≤ (60 : Int32) →
        K (60 : Int32) m10)))) ∧
     (¬ (m5.1 a0 2) ≤ (m5.1 a0 3) →
      K (m5.1 a0 3) m5)))))))
set_option maxHeartbeats 4000000 in
set_option maxRecDepth 100000 in
theorem ok_X6_readAsked {l : Launch} {g : Gg} {S : Ss} {a0 : Nat} {x1 : Int32} {M : Mm} {K : Int32 → Mm → Prop} (hs0 : S[a0]? = some (5, 0)) (hf : f_X6_readAsked S a0 x1 M K) : MT l g S yX6_readAsked cX6_readAsked 2 (some .int) 5 [.ref (ad g a0), .int x1] M (pI K) := by
  refine MT.of (by decide +kernel) (Nat.le_of_ble_eq_true rfl) ?_
  intro p e s m below meth c ls E hw hR hS hl
  have hl : lv_has ls 2 [(0, .ref (ad g a0)), (1, .int x1)] := hl
  generalize ([.ref (ad g a0), .int x1] : List Value).toArray = args at E ⊢
  have E : EN p s m args meth c cX6_readAsked 2 (some .int) RX6 g := E
  have hx := E.1
  have hb := E.2.1
  unfold f_X6_readAsked at hf
  refine lv_aload_n hx hb dX6_readAsked_0 rfl (lv_at hl 0 rfl) ?_
  refine lv_iload_n hx hb dX6_readAsked_1 rfl (lv_at hl 1 rfl) ?_
  refine hw_callV (d := 5) E hR hS (As := [.int x1]) (rest := []) cI5 hs0 rfl mcX6_begin miX6_begin lmX6_39 (ok_X6_begin hs0 hf) rfl rfl (by decide) hl.1 (Nat.le_of_ble_eq_true rfl) dX6_readAsked_2 (fun rr m1 H locs hp hR hS => ?_)
  obtain ⟨rfl, hf⟩ := hp
  refine W.eq (g2 := F0 m 5 ls []) rfl ?_
  refine lv_aload_n hx hb dX6_readAsked_5 rfl (lv_at hl 0 rfl) ?_
  obtain ⟨b2, hb2, hf⟩ := hf
  refine hw_getR E hR cI5 hs0 6 (by decide) lfX6_35 rfl hb2 dX6_readAsked_6 ?_
  refine lv_bipush (v := 6) hx hb dX6_readAsked_9 (by decide) ?_
  refine lv_iconst (v := 0) hx hb dX6_readAsked_11 (by decide) ?_
  obtain ⟨h4, hf⟩ := hf
  refine hw_callV (d := 5) E hR hS (As := [.int (6 : Int32), .int (0 : Int32)]) (rest := []) cI4 h4 rfl mcX5_beginLine miX5_beginLine lmX6_43 (ok_X5_beginLine h4 hf) rfl rfl (by decide) hl.1 (Nat.le_of_ble_eq_true rfl) dX6_readAsked_12 (fun rr m3 H locs hp hR hS => ?_)
  obtain ⟨rfl, hf⟩ := hp
  refine W.eq (g2 := F0 m 15 ls []) rfl ?_
  refine lv_aload_n hx hb dX6_readAsked_15 rfl (lv_at hl 0 rfl) ?_
  refine lv_iconst (v := 1) hx hb dX6_readAsked_16 (by decide) ?_
  refine hw_callV (d := 5) E hR hS (As := [.int (1 : Int32)]) (rest := []) cI5 hs0 rfl mcX6_readExpression miX6_readExpression lmX6_47 (ok_X6_readExpression hs0 hf) rfl rfl (by decide) hl.1 (Nat.le_of_ble_eq_true rfl) dX6_readAsked_17 (fun rr m5 H locs hp hR hS => ?_)
  obtain ⟨r6, rfl, hf⟩ := hp
  refine W.eq (g2 := F0 m 20 ls [.int r6]) rfl ?_
  refine lv_if_eq (tgt := 34) hx hb dX6_readAsked_20 (by decide) (fun c7 => ?_) (fun c7 => ?_)
  · replace hf := hf.1 c7
    refine lv_aload_n hx hb dX6_readAsked_34 rfl (lv_at hl 0 rfl) ?_
    refine hw_getI E hR cI5 hs0 3 (by decide) lfX6_22 rfl dX6_readAsked_35 ?_
    exact hw_iret E hR hS ⟨_, rfl, hf⟩ dX6_readAsked_38
  · replace hf := hf.2 c7
    refine lv_aload_n hx hb dX6_readAsked_23 rfl (lv_at hl 0 rfl) ?_
    refine hw_getI E hR cI5 hs0 3 (by decide) lfX6_22 rfl dX6_readAsked_24 ?_
    refine lv_aload_n hx hb dX6_readAsked_27 rfl (lv_at hl 0 rfl) ?_
    refine hw_getI E hR cI5 hs0 2 (by decide) lfX6_19 rfl dX6_readAsked_28 ?_
    refine lv_icmp_ge (tgt := 39) hx hb dX6_readAsked_31 (by decide) (fun c8 => ?_) (fun c8 => ?_)
    · replace hf := hf.1 c8
      refine lv_aload_n hx hb dX6_readAsked_39 rfl (lv_at hl 0 rfl) ?_
      obtain ⟨b9, hb9, hf⟩ := hf
      refine hw_getR E hR cI5 hs0 6 (by decide) lfX6_35 rfl hb9 dX6_readAsked_40 ?_
      obtain ⟨h11, hf⟩ := hf
      refine hw_callV (d := 5) E hR hS (As := []) (rest := []) cI4 h11 rfl mcX5_endLine miX5_endLine lmX6_51 (ok_X5_endLine h11 hf) rfl rfl (by decide) hl.1 (Nat.le_of_ble_eq_true rfl) dX6_readAsked_43 (fun rr m10 H locs hp hR hS => ?_)
      obtain ⟨rfl, hf⟩ := hp
      refine W.eq (g2 := F0 m 46 ls []) rfl ?_
      refine lv_iload_n hx hb dX6_readAsked_46 rfl (lv_at hl 1 rfl) ?_
      refine lv_bipush (v := 60) hx hb dX6_readAsked_47 (by decide) ?_
      refine lv_icmp_le (tgt := 57) hx hb dX6_readAsked_49 (by decide) (fun c12 => ?_) (fun c12 => ?_)
      · replace hf := hf.1 c12
        refine lv_iconst (v := -1) hx hb dX6_readAsked_57 (by decide) ?_
        exact hw_iret E hR hS ⟨_, rfl, hf⟩ dX6_readAsked_58
      · replace hf := hf.2 c12
        refine lv_bipush (v := 60) hx hb dX6_readAsked_52 (by decide) ?_
        refine lv_goto (tgt := 58) hx hb dX6_readAsked_54 (by decide) ?_
        exact hw_iret E hR hS ⟨_, rfl, hf⟩ dX6_readAsked_58
    · replace hf := hf.2 c8
      refine lv_aload_n hx hb dX6_readAsked_34 rfl (lv_at hl 0 rfl) ?_
      refine hw_getI E hR cI5 hs0 3 (by decide) lfX6_22 rfl dX6_readAsked_35 ?_
      exact hw_iret E hR hS ⟨_, rfl, hf⟩ dX6_readAsked_38
def f_X6_passes (S : Ss) (a0 : Nat) (x1 : Int32) (M : Mm) (K : Int32 → Mm → Prop) : Prop :=
  f_X6_look S a0  M (fun (r2 : Int32) (m1 : Mm) =>
    ((r2 = x1 →
    ∀ m4 : Mm, m4 = stI m1 a0 3 ((m1.1 a0 3) + (1 : Int32)) →
    K (1 : Int32) m4) ∧
   (¬ r2 = x1 →
    K (0 : Int32) m1)))
set_option maxHeartbeats 4000000 in
set_option maxRecDepth 100000 in
theorem ok_X6_passes {l : Launch} {g : Gg} {S : Ss} {a0 : Nat} {x1 : Int32} {M : Mm} {K : Int32 → Mm → Prop} (hs0 : S[a0]? = some (5, 0)) (hf : f_X6_passes S a0 x1 M K) : MT l g S yX6_passes cX6_passes 2 (some .boolean) 1 [.ref (ad g a0), .int x1] M (pI K) := by
  refine MT.of (by decide +kernel) (Nat.le_of_ble_eq_true rfl) ?_
  intro p e s m below meth c ls E hw hR hS hl
  have hl : lv_has ls 2 [(0, .ref (ad g a0)), (1, .int x1)] := hl
  generalize ([.ref (ad g a0), .int x1] : List Value).toArray = args at E ⊢
  have E : EN p s m args meth c cX6_passes 2 (some .boolean) RX6 g := E
  have hx := E.1
  have hb := E.2.1
  unfold f_X6_passes at hf
  refine lv_aload_n hx hb dX6_passes_0 rfl (lv_at hl 0 rfl) ?_
  refine hw_callV (d := 1) E hR hS (As := []) (rest := []) cI5 hs0 rfl mcX6_look miX6_look lmX6_75 (ok_X6_look hs0 hf) rfl rfl (by decide) hl.1 (Nat.le_of_ble_eq_true rfl) dX6_passes_1 (fun rr m1 H locs hp hR hS => ?_)
  obtain ⟨r2, rfl, hf⟩ := hp
  refine W.eq (g2 := F0 m 4 ls [.int r2]) rfl ?_
  refine lv_iload_n hx hb dX6_passes_4 rfl (lv_at hl 1 rfl) ?_
  refine lv_icmp_eq (tgt := 10) hx hb dX6_passes_5 (by decide) (fun c3 => ?_) (fun c3 => ?_)
  · replace hf := hf.1 c3
    refine lv_aload_n hx hb dX6_passes_10 rfl (lv_at hl 0 rfl) ?_
    refine lv_dup hx hb dX6_passes_11 rfl ?_
    refine hw_getI E hR cI5 hs0 3 (by decide) lfX6_22 rfl dX6_passes_12 ?_
    refine lv_iconst (v := 1) hx hb dX6_passes_15 (by decide) ?_
    refine lv_iadd hx hb dX6_passes_16 ?_
    refine hw_putI E hR hS hw cI5 hs0 3 (by decide) lfX6_22 rfl (Or.inl rfl) dX6_passes_17 (fun m4 H locs em4 hR hS => ?_)
    replace hf := hf m4 em4
    refine lv_iconst (v := 1) hx hb dX6_passes_20 (by decide) ?_
    exact hw_zret E hR hS (by decide) ⟨_, rfl, hf⟩ dX6_passes_21
  · replace hf := hf.2 c3
    refine lv_iconst (v := 0) hx hb dX6_passes_8 (by decide) ?_
    exact hw_zret E hR hS (by decide) ⟨_, rfl, hf⟩ dX6_passes_9
def f_X6_readNumbered (S : Ss) (a0 : Nat) (x1 : Int32) (M : Mm) (K : Int32 → Mm → Prop) : Prop :=
  f_X6_look S a0  M (fun (r2 : Int32) (m1 : Mm) =>
    f_X6_isDigit S  r2 m1 (fun (r4 : Int32) (m3 : Mm) =>
    ((r4 = 0 →
    K (0 : Int32) m3) ∧
   (¬ r4 = 0 →
    ∃ b6 : Nat, m3.2.2 a0 6 = some b6 ∧
    f_X6_readNumber S a0 (2 : Int32) m3 (fun (r8 : Int32) (m7 : Mm) =>
      S[b6]? = some (4, 0) ∧
    f_X5_beginLine S b6 x1 r8 m7 (fun (m9 : Mm) =>
      K (1 : Int32) m9))))))
set_option maxHeartbeats 4000000 in
set_option maxRecDepth 100000 in
theorem ok_X6_readNumbered {l : Launch} {g : Gg} {S : Ss} {a0 : Nat} {x1 : Int32} {M : Mm} {K : Int32 → Mm → Prop} (hs0 : S[a0]? = some (5, 0)) (hf : f_X6_readNumbered S a0 x1 M K) : MT l g S yX6_readNumbered cX6_readNumbered 2 (some .boolean) 2 [.ref (ad g a0), .int x1] M (pI K) := by
  refine MT.of (by decide +kernel) (Nat.le_of_ble_eq_true rfl) ?_
  intro p e s m below meth c ls E hw hR hS hl
  have hl : lv_has ls 2 [(0, .ref (ad g a0)), (1, .int x1)] := hl
  generalize ([.ref (ad g a0), .int x1] : List Value).toArray = args at E ⊢
  have E : EN p s m args meth c cX6_readNumbered 2 (some .boolean) RX6 g := E
  have hx := E.1
  have hb := E.2.1
  unfold f_X6_readNumbered at hf
  refine lv_aload_n hx hb dX6_readNumbered_0 rfl (lv_at hl 0 rfl) ?_
  refine hw_callV (d := 2) E hR hS (As := []) (rest := []) cI5 hs0 rfl mcX6_look miX6_look lmX6_75 (ok_X6_look hs0 hf) rfl rfl (by decide) hl.1 (Nat.le_of_ble_eq_true rfl) dX6_readNumbered_1 (fun rr m1 H locs hp hR hS => ?_)
  obtain ⟨r2, rfl, hf⟩ := hp
  refine W.eq (g2 := F0 m 4 ls [.int r2]) rfl ?_
  refine hw_callS (d := 2) E hR hS (As := [.int r2]) (rest := []) mcX6_isDigit msX6_isDigit lmX6_88 (ok_X6_isDigit  hf) rfl rfl (by decide) hl.1 (Nat.le_of_ble_eq_true rfl) dX6_readNumbered_4 (fun rr m3 H locs hp hR hS => ?_)
  obtain ⟨r4, rfl, hf⟩ := hp
  refine W.eq (g2 := F0 m 7 ls [.int r4]) rfl ?_
  refine lv_if_ne (tgt := 12) hx hb dX6_readNumbered_7 (by decide) (fun c5 => ?_) (fun c5 => ?_)
  · replace hf := hf.2 c5
    refine lv_aload_n hx hb dX6_readNumbered_12 rfl (lv_at hl 0 rfl) ?_
    obtain ⟨b6, hb6, hf⟩ := hf
    refine hw_getR E hR cI5 hs0 6 (by decide) lfX6_35 rfl hb6 dX6_readNumbered_13 ?_
    refine lv_iload_n hx hb dX6_readNumbered_16 rfl (lv_at hl 1 rfl) ?_
    refine lv_aload_n hx hb dX6_readNumbered_17 rfl (lv_at hl 0 rfl) ?_
    refine lv_iconst (v := 2) hx hb dX6_readNumbered_18 (by decide) ?_
    refine hw_callV (d := 2) E hR hS (As := [.int (2 : Int32)]) (rest := [.int x1, .ref (ad g b6)]) cI5 hs0 rfl mcX6_readNumber miX6_readNumber lmX6_91 (ok_X6_readNumber hs0 hf) rfl rfl (by decide) hl.1 (Nat.le_of_ble_eq_true rfl) dX6_readNumbered_19 (fun rr m7 H locs hp hR hS => ?_)
    obtain ⟨r8, rfl, hf⟩ := hp
    refine W.eq (g2 := F0 m 22 ls [.int r8, .int x1, .ref (ad g b6)]) rfl ?_
    obtain ⟨h10, hf⟩ := hf
    refine hw_callV (d := 2) E hR hS (As := [.int x1, .int r8]) (rest := []) cI4 h10 rfl mcX5_beginLine miX5_beginLine lmX6_43 (ok_X5_beginLine h10 hf) rfl rfl (by decide) hl.1 (Nat.le_of_ble_eq_true rfl) dX6_readNumbered_22 (fun rr m9 H locs hp hR hS => ?_)
    obtain ⟨rfl, hf⟩ := hp
    refine W.eq (g2 := F0 m 25 ls []) rfl ?_
    refine lv_iconst (v := 1) hx hb dX6_readNumbered_25 (by decide) ?_
    exact hw_zret E hR hS (by decide) ⟨_, rfl, hf⟩ dX6_readNumbered_26
  · replace hf := hf.1 c5
    refine lv_iconst (v := 0) hx hb dX6_readNumbered_10 (by decide) ?_
    exact hw_zret E hR hS (by decide) ⟨_, rfl, hf⟩ dX6_readNumbered_11
def f_X6_readPart (S : Ss) (a0 : Nat) (M : Mm) (K : Int32 → Mm → Prop) : Prop :=
  f_X6_look S a0  M (fun (r2 : Int32) (m1 : Mm) =>
    ∀ v3 : Int32, v3 = (r2 - (48 : Int32)) →
  ((v3 < 0 →
    K (0 : Int32) m1) ∧
   (¬ v3 < 0 →
    ((v3 < (4 : Int32) →
      ∀ m6 : Mm, m6 = stI m1 a0 3 ((m1.1 a0 3) + (1 : Int32)) →
      ∃ b7 : Nat, m6.2.2 a0 6 = some b7 ∧
      S[b7]? = some (4, 0) ∧
      f_X5_beginLine S b7 (2 : Int32) v3 m6 (fun (m8 : Mm) =>
        K (1 : Int32) m8)) ∧
     (¬ v3 < (4 : Int32) →
      K (0 : Int32) m1)))))
set_option maxHeartbeats 4000000 in
set_option maxRecDepth 100000 in
theorem ok_X6_readPart {l : Launch} {g : Gg} {S : Ss} {a0 : Nat} {M : Mm} {K : Int32 → Mm → Prop} (hs0 : S[a0]? = some (5, 0)) (hf : f_X6_readPart S a0 M K) : MT l g S yX6_readPart cX6_readPart 2 (some .boolean) 1 [.ref (ad g a0)] M (pI K) := by
  refine MT.of (by decide +kernel) (Nat.le_of_ble_eq_true rfl) ?_
  intro p e s m below meth c ls E hw hR hS hl
  have hl : lv_has ls 2 [(0, .ref (ad g a0))] := hl
  generalize ([.ref (ad g a0)] : List Value).toArray = args at E ⊢
  have E : EN p s m args meth c cX6_readPart 2 (some .boolean) RX6 g := E
  have hx := E.1
  have hb := E.2.1
  unfold f_X6_readPart at hf
  refine lv_aload_n hx hb dX6_readPart_0 rfl (lv_at hl 0 rfl) ?_
  refine hw_callV (d := 1) E hR hS (As := []) (rest := []) cI5 hs0 rfl mcX6_look miX6_look lmX6_75 (ok_X6_look hs0 hf) rfl rfl (by decide) hl.1 (Nat.le_of_ble_eq_true rfl) dX6_readPart_1 (fun rr m1 H locs hp hR hS => ?_)
  obtain ⟨r2, rfl, hf⟩ := hp
  refine W.eq (g2 := F0 m 4 ls [.int r2]) rfl ?_
  refine lv_bipush (v := 48) hx hb dX6_readPart_4 (by decide) ?_
  refine lv_isub hx hb dX6_readPart_6 ?_
  refine lv_topi (fun v3 ev3 => ?_)
  replace hf := hf v3 ev3
  refine lv_istore_n (lv' := [(1, .int v3), (0, .ref (ad g a0))]) hx hb dX6_readPart_7 rfl hl (by decide) rfl (fun ls hl => ?_)
  refine lv_iload_n hx hb dX6_readPart_8 rfl (lv_at hl 0 rfl) ?_
  refine lv_if_lt (tgt := 17) hx hb dX6_readPart_9 (by decide) (fun c4 => ?_) (fun c4 => ?_)
  · replace hf := hf.1 c4
    refine lv_iconst (v := 0) hx hb dX6_readPart_17 (by decide) ?_
    exact hw_zret E hR hS (by decide) ⟨_, rfl, hf⟩ dX6_readPart_18
  · replace hf := hf.2 c4
    refine lv_iload_n hx hb dX6_readPart_12 rfl (lv_at hl 0 rfl) ?_
    refine lv_iconst (v := 4) hx hb dX6_readPart_13 (by decide) ?_
    refine lv_icmp_lt (tgt := 19) hx hb dX6_readPart_14 (by decide) (fun c5 => ?_) (fun c5 => ?_)
    · replace hf := hf.1 c5
      refine lv_aload_n hx hb dX6_readPart_19 rfl (lv_at hl 1 rfl) ?_
      refine lv_dup hx hb dX6_readPart_20 rfl ?_
      refine hw_getI E hR cI5 hs0 3 (by decide) lfX6_22 rfl dX6_readPart_21 ?_
      refine lv_iconst (v := 1) hx hb dX6_readPart_24 (by decide) ?_
      refine lv_iadd hx hb dX6_readPart_25 ?_
      refine hw_putI E hR hS hw cI5 hs0 3 (by decide) lfX6_22 rfl (Or.inl rfl) dX6_readPart_26 (fun m6 H locs em6 hR hS => ?_)
      replace hf := hf m6 em6
      refine lv_aload_n hx hb dX6_readPart_29 rfl (lv_at hl 1 rfl) ?_
      obtain ⟨b7, hb7, hf⟩ := hf
      refine hw_getR E hR cI5 hs0 6 (by decide) lfX6_35 rfl hb7 dX6_readPart_30 ?_
      refine lv_iconst (v := 2) hx hb dX6_readPart_33 (by decide) ?_
      refine lv_iload_n hx hb dX6_readPart_34 rfl (lv_at hl 0 rfl) ?_
      obtain ⟨h9, hf⟩ := hf
      refine hw_callV (d := 1) E hR hS (As := [.int (2 : Int32), .int v3]) (rest := []) cI4 h9 rfl mcX5_beginLine miX5_beginLine lmX6_43 (ok_X5_beginLine h9 hf) rfl rfl (by decide) hl.1 (Nat.le_of_ble_eq_true rfl) dX6_readPart_35 (fun rr m8 H locs hp hR hS => ?_)
      obtain ⟨rfl, hf⟩ := hp
      refine W.eq (g2 := F0 m 38 ls []) rfl ?_
      refine lv_iconst (v := 1) hx hb dX6_readPart_38 (by decide) ?_
      exact hw_zret E hR hS (by decide) ⟨_, rfl, hf⟩ dX6_readPart_39
    · replace hf := hf.2 c5
      refine lv_iconst (v := 0) hx hb dX6_readPart_17 (by decide) ?_
      exact hw_zret E hR hS (by decide) ⟨_, rfl, hf⟩ dX6_readPart_18
def f_X6_readHead_J41 (S : Ss) (a0 : Nat) (x1 : Int32) (M : Mm) (K : Int32 → Mm → Prop) : Prop :=
  ((x1 = 63 →
    ∃ b4 : Nat, M.2.2 a0 6 = some b4 ∧
    S[b4]? = some (4, 0) ∧
    f_X5_beginLine S b4 (1 : Int32) (0 : Int32) M (fun (m5 : Mm) =>
      K (1 : Int32) m5)) ∧
   (¬ x1 = 63 →
    ((x1 = 106 →
      f_X6_readNumbered S a0 (3 : Int32) M (fun (r9 : Int32) (m8 : Mm) =>
        ((r9 = 0 →
        K (0 : Int32) m8) ∧
       (¬ r9 = 0 →
        f_X6_passes S a0 (58 : Int32) m8 (fun (r12 : Int32) (m11 : Mm) =>
          ((r12 = 0 →
          K (0 : Int32) m11) ∧
         (¬ r12 = 0 →
          K (1 : Int32) m11))))))) ∧
     (¬ x1 = 106 →
      ((x1 = 109 →
        f_X6_readPart S a0  M (fun (r16 : Int32) (m15 : Mm) =>
          ((r16 = 0 →
          K (0 : Int32) m15) ∧
         (¬ r16 = 0 →
          f_X6_passes S a0 (58 : Int32) m15 (fun (r19 : Int32) (m18 : Mm) =>
            ((r19 = 0 →
            K (0 : Int32) m18) ∧
           (¬ r19 = 0 →
            K (1 : Int32) m18))))))) ∧
       (¬ x1 = 109 →
        ((x1 = 115 →
          f_X6_readNumbered S a0 (4 : Int32) M (fun (r23 : Int32) (m22 : Mm) =>
            (r23 = 0 ∨ r23 = 1) ∧ K r23 m22)) ∧
         (¬ x1 = 115 →
          ((x1 = 120 →
            ∃ b25 : Nat, M.2.2 a0 6 = some b25 ∧
            S[b25]? = some (4, 0) ∧
            f_X5_beginLine S b25 (5 : Int32) (0 : Int32) M (fun (m26 : Mm) =>
              K (1 : Int32) m26)) ∧
           (¬ x1 = 120 →
            ∀ m28 : Mm, m28 = stI M a0 3 ((M.1 a0 3) - (1 : Int32)) →
            K (0 : Int32) m28))))))))))
set_option maxHeartbeats 4000000 in
set_option maxRecDepth 100000 in
theorem w_X6_readHead_J41 {p : Program} {l : Launch} {e : Env} {s : State} {m : MethodId} {args : Array Value} {below : List Frame} {meth : Method} {c : Code} {g : Gg} {S : Ss} (a0 : Nat) (x1 : Int32) (M : Mm) (K : Int32 → Mm → Prop) (E : EN p s m args meth c cX6_readHead 2 (some .boolean) RX6 g) (hw : ad g 100000 < s.heap.size) (hs0 : S[a0]? = some (5, 0)) (hf : f_X6_readHead_J41 S a0 x1 M K) (H : Heap) (locs : List Loc) (ls : Array Slot) (hR : RP g S M H) (hS : va_S (gA g) s.heap H locs) (hl : lv_has ls 2 [(0, .ref (ad g a0)), (1, .int x1)]) : W p l e (rmD 3) s m args below meth c H locs 0 0 (MQ below (QA g S (pI K)) args s 0 0 (gA g)) (F0 m 41 ls []) := by
  have hx := E.1
  have hb := E.2.1
  unfold f_X6_readHead_J41 at hf
  refine lv_iload_n hx hb dX6_readHead_41 rfl (lv_at hl 1 rfl) ?_
  rcases Decidable.em (x1 = 63) with w3 | w3
  · replace hf := hf.1 w3
    refine lv_lookup (off := 50) (tgt := 92) hx hb dX6_readHead_42 (by decide) (by rw [w3]; try rfl) (by decide) ?_
    refine lv_aload_n hx hb dX6_readHead_92 rfl (lv_at hl 0 rfl) ?_
    obtain ⟨b4, hb4, hf⟩ := hf
    refine hw_getR E hR cI5 hs0 6 (by decide) lfX6_35 rfl hb4 dX6_readHead_93 ?_
    refine lv_iconst (v := 1) hx hb dX6_readHead_96 (by decide) ?_
    refine lv_iconst (v := 0) hx hb dX6_readHead_97 (by decide) ?_
    obtain ⟨h6, hf⟩ := hf
    refine hw_callV (d := 3) E hR hS (As := [.int (1 : Int32), .int (0 : Int32)]) (rest := []) cI4 h6 rfl mcX5_beginLine miX5_beginLine lmX6_43 (ok_X5_beginLine h6 hf) rfl rfl (by decide) hl.1 (Nat.le_of_ble_eq_true rfl) dX6_readHead_98 (fun rr m5 H locs hp hR hS => ?_)
    obtain ⟨rfl, hf⟩ := hp
    refine W.eq (g2 := F0 m 101 ls []) rfl ?_
    refine lv_iconst (v := 1) hx hb dX6_readHead_101 (by decide) ?_
    exact hw_zret E hR hS (by decide) ⟨_, rfl, hf⟩ dX6_readHead_102
  · replace hf := hf.2 w3
    rcases Decidable.em (x1 = 106) with w7 | w7
    · replace hf := hf.1 w7
      refine lv_lookup (off := 83) (tgt := 125) hx hb dX6_readHead_42 (by decide) (by rw [w7]; try rfl) (by decide) ?_
      refine lv_aload_n hx hb dX6_readHead_125 rfl (lv_at hl 0 rfl) ?_
      refine lv_iconst (v := 3) hx hb dX6_readHead_126 (by decide) ?_
      refine hw_callV (d := 3) E hR hS (As := [.int (3 : Int32)]) (rest := []) cI5 hs0 rfl mcX6_readNumbered miX6_readNumbered lmX6_85 (ok_X6_readNumbered hs0 hf) rfl rfl (by decide) hl.1 (Nat.le_of_ble_eq_true rfl) dX6_readHead_127 (fun rr m8 H locs hp hR hS => ?_)
      obtain ⟨r9, rfl, hf⟩ := hp
      refine W.eq (g2 := F0 m 130 ls [.int r9]) rfl ?_
      refine lv_if_eq (tgt := 146) hx hb dX6_readHead_130 (by decide) (fun c10 => ?_) (fun c10 => ?_)
      · replace hf := hf.1 c10
        refine lv_iconst (v := 0) hx hb dX6_readHead_146 (by decide) ?_
        exact hw_zret E hR hS (by decide) ⟨_, rfl, hf⟩ dX6_readHead_147
      · replace hf := hf.2 c10
        refine lv_aload_n hx hb dX6_readHead_133 rfl (lv_at hl 0 rfl) ?_
        refine lv_bipush (v := 58) hx hb dX6_readHead_134 (by decide) ?_
        refine hw_callV (d := 3) E hR hS (As := [.int (58 : Int32)]) (rest := []) cI5 hs0 rfl mcX6_passes miX6_passes lmX6_58 (ok_X6_passes hs0 hf) rfl rfl (by decide) hl.1 (Nat.le_of_ble_eq_true rfl) dX6_readHead_136 (fun rr m11 H locs hp hR hS => ?_)
        obtain ⟨r12, rfl, hf⟩ := hp
        refine W.eq (g2 := F0 m 139 ls [.int r12]) rfl ?_
        refine lv_if_eq (tgt := 146) hx hb dX6_readHead_139 (by decide) (fun c13 => ?_) (fun c13 => ?_)
        · replace hf := hf.1 c13
          refine lv_iconst (v := 0) hx hb dX6_readHead_146 (by decide) ?_
          exact hw_zret E hR hS (by decide) ⟨_, rfl, hf⟩ dX6_readHead_147
        · replace hf := hf.2 c13
          refine lv_iconst (v := 1) hx hb dX6_readHead_142 (by decide) ?_
          refine lv_goto (tgt := 147) hx hb dX6_readHead_143 (by decide) ?_
          exact hw_zret E hR hS (by decide) ⟨_, rfl, hf⟩ dX6_readHead_147
    · replace hf := hf.2 w7
      rcases Decidable.em (x1 = 109) with w14 | w14
      · replace hf := hf.1 w14
        refine lv_lookup (off := 61) (tgt := 103) hx hb dX6_readHead_42 (by decide) (by rw [w14]; try rfl) (by decide) ?_
        refine lv_aload_n hx hb dX6_readHead_103 rfl (lv_at hl 0 rfl) ?_
        refine hw_callV (d := 3) E hR hS (As := []) (rest := []) cI5 hs0 rfl mcX6_readPart miX6_readPart lmX6_82 (ok_X6_readPart hs0 hf) rfl rfl (by decide) hl.1 (Nat.le_of_ble_eq_true rfl) dX6_readHead_104 (fun rr m15 H locs hp hR hS => ?_)
        obtain ⟨r16, rfl, hf⟩ := hp
        refine W.eq (g2 := F0 m 107 ls [.int r16]) rfl ?_
        refine lv_if_eq (tgt := 123) hx hb dX6_readHead_107 (by decide) (fun c17 => ?_) (fun c17 => ?_)
        · replace hf := hf.1 c17
          refine lv_iconst (v := 0) hx hb dX6_readHead_123 (by decide) ?_
          exact hw_zret E hR hS (by decide) ⟨_, rfl, hf⟩ dX6_readHead_124
        · replace hf := hf.2 c17
          refine lv_aload_n hx hb dX6_readHead_110 rfl (lv_at hl 0 rfl) ?_
          refine lv_bipush (v := 58) hx hb dX6_readHead_111 (by decide) ?_
          refine hw_callV (d := 3) E hR hS (As := [.int (58 : Int32)]) (rest := []) cI5 hs0 rfl mcX6_passes miX6_passes lmX6_58 (ok_X6_passes hs0 hf) rfl rfl (by decide) hl.1 (Nat.le_of_ble_eq_true rfl) dX6_readHead_113 (fun rr m18 H locs hp hR hS => ?_)
          obtain ⟨r19, rfl, hf⟩ := hp
          refine W.eq (g2 := F0 m 116 ls [.int r19]) rfl ?_
          refine lv_if_eq (tgt := 123) hx hb dX6_readHead_116 (by decide) (fun c20 => ?_) (fun c20 => ?_)
          · replace hf := hf.1 c20
            refine lv_iconst (v := 0) hx hb dX6_readHead_123 (by decide) ?_
            exact hw_zret E hR hS (by decide) ⟨_, rfl, hf⟩ dX6_readHead_124
          · replace hf := hf.2 c20
            refine lv_iconst (v := 1) hx hb dX6_readHead_119 (by decide) ?_
            refine lv_goto (tgt := 124) hx hb dX6_readHead_120 (by decide) ?_
            exact hw_zret E hR hS (by decide) ⟨_, rfl, hf⟩ dX6_readHead_124
      · replace hf := hf.2 w14
        rcases Decidable.em (x1 = 115) with w21 | w21
        · replace hf := hf.1 w21
          refine lv_lookup (off := 106) (tgt := 148) hx hb dX6_readHead_42 (by decide) (by rw [w21]; try rfl) (by decide) ?_
          refine lv_aload_n hx hb dX6_readHead_148 rfl (lv_at hl 0 rfl) ?_
          refine lv_iconst (v := 4) hx hb dX6_readHead_149 (by decide) ?_
          refine hw_callV (d := 3) E hR hS (As := [.int (4 : Int32)]) (rest := []) cI5 hs0 rfl mcX6_readNumbered miX6_readNumbered lmX6_85 (ok_X6_readNumbered hs0 hf) rfl rfl (by decide) hl.1 (Nat.le_of_ble_eq_true rfl) dX6_readHead_150 (fun rr m22 H locs hp hR hS => ?_)
          obtain ⟨r23, rfl, hf⟩ := hp
          refine W.eq (g2 := F0 m 153 ls [.int r23]) rfl ?_
          exact hw_zret E hR hS hf.1 ⟨_, rfl, hf.2⟩ dX6_readHead_153
        · replace hf := hf.2 w21
          rcases Decidable.em (x1 = 120) with w24 | w24
          · replace hf := hf.1 w24
            refine lv_lookup (off := 112) (tgt := 154) hx hb dX6_readHead_42 (by decide) (by rw [w24]; try rfl) (by decide) ?_
            refine lv_aload_n hx hb dX6_readHead_154 rfl (lv_at hl 0 rfl) ?_
            obtain ⟨b25, hb25, hf⟩ := hf
            refine hw_getR E hR cI5 hs0 6 (by decide) lfX6_35 rfl hb25 dX6_readHead_155 ?_
            refine lv_iconst (v := 5) hx hb dX6_readHead_158 (by decide) ?_
            refine lv_iconst (v := 0) hx hb dX6_readHead_159 (by decide) ?_
            obtain ⟨h27, hf⟩ := hf
            refine hw_callV (d := 3) E hR hS (As := [.int (5 : Int32), .int (0 : Int32)]) (rest := []) cI4 h27 rfl mcX5_beginLine miX5_beginLine lmX6_43 (ok_X5_beginLine h27 hf) rfl rfl (by decide) hl.1 (Nat.le_of_ble_eq_true rfl) dX6_readHead_160 (fun rr m26 H locs hp hR hS => ?_)
            obtain ⟨rfl, hf⟩ := hp
            refine W.eq (g2 := F0 m 163 ls []) rfl ?_
            refine lv_iconst (v := 1) hx hb dX6_readHead_163 (by decide) ?_
            exact hw_zret E hR hS (by decide) ⟨_, rfl, hf⟩ dX6_readHead_164
          · replace hf := hf.2 w24
            refine lv_lookup (off := 123) (tgt := 165) hx hb dX6_readHead_42 (by decide) (by rw [lv_osw w3 (by decide)]; rw [lv_osw w7 (by decide)]; rw [lv_osw w14 (by decide)]; rw [lv_osw w21 (by decide)]; rw [lv_osw w24 (by decide)]; try rfl) (by decide) ?_
            refine lv_aload_n hx hb dX6_readHead_165 rfl (lv_at hl 0 rfl) ?_
            refine lv_dup hx hb dX6_readHead_166 rfl ?_
            refine hw_getI E hR cI5 hs0 3 (by decide) lfX6_22 rfl dX6_readHead_167 ?_
            refine lv_iconst (v := 1) hx hb dX6_readHead_170 (by decide) ?_
            refine lv_isub hx hb dX6_readHead_171 ?_
            refine hw_putI E hR hS hw cI5 hs0 3 (by decide) lfX6_22 rfl (Or.inl rfl) dX6_readHead_172 (fun m28 H locs em28 hR hS => ?_)
            replace hf := hf m28 em28
            refine lv_iconst (v := 0) hx hb dX6_readHead_175 (by decide) ?_
            exact hw_zret E hR hS (by decide) ⟨_, rfl, hf⟩ dX6_readHead_176
def f_X6_readHead (S : Ss) (a0 : Nat) (x1 : Int32) (M : Mm) (K : Int32 → Mm → Prop) : Prop :=
  ∀ m1 : Mm, m1 = stI M a0 3 ((M.1 a0 3) + (1 : Int32)) →
  ((x1 < (97 : Int32) →
    f_X6_readHead_J41 S a0 x1 m1 K) ∧
   (¬ x1 < (97 : Int32) →
    (((104 : Int32) < x1 →
      f_X6_readHead_J41 S a0 x1 m1 K) ∧
     (¬ (104 : Int32) < x1 →
      ∃ b30 : Nat, m1.2.2 a0 6 = some b30 ∧
      S[b30]? = some (4, 0) ∧
      f_X5_beginLine S b30 (0 : Int32) (x1 - (97 : Int32)) m1 (fun (m31 : Mm) =>
        f_X6_passes S a0 (61 : Int32) m31 (fun (r34 : Int32) (m33 : Mm) =>
        (r34 = 0 ∨ r34 = 1) ∧ K r34 m33))))))
set_option maxHeartbeats 4000000 in
set_option maxRecDepth 100000 in
theorem ok_X6_readHead {l : Launch} {g : Gg} {S : Ss} {a0 : Nat} {x1 : Int32} {M : Mm} {K : Int32 → Mm → Prop} (hs0 : S[a0]? = some (5, 0)) (hf : f_X6_readHead S a0 x1 M K) : MT l g S yX6_readHead cX6_readHead 2 (some .boolean) 3 [.ref (ad g a0), .int x1] M (pI K) := by
  refine MT.of (by decide +kernel) (Nat.le_of_ble_eq_true rfl) ?_
  intro p e s m below meth c ls E hw hR hS hl
  have hl : lv_has ls 2 [(0, .ref (ad g a0)), (1, .int x1)] := hl
  generalize ([.ref (ad g a0), .int x1] : List Value).toArray = args at E ⊢
  have E : EN p s m args meth c cX6_readHead 2 (some .boolean) RX6 g := E
  have hx := E.1
  have hb := E.2.1
  unfold f_X6_readHead at hf
  refine lv_aload_n hx hb dX6_readHead_0 rfl (lv_at hl 0 rfl) ?_
  refine lv_dup hx hb dX6_readHead_1 rfl ?_
  refine hw_getI E hR cI5 hs0 3 (by decide) lfX6_22 rfl dX6_readHead_2 ?_
  refine lv_iconst (v := 1) hx hb dX6_readHead_5 (by decide) ?_
  refine lv_iadd hx hb dX6_readHead_6 ?_
  refine hw_putI E hR hS hw cI5 hs0 3 (by decide) lfX6_22 rfl (Or.inl rfl) dX6_readHead_7 (fun m1 H locs em1 hR hS => ?_)
  replace hf := hf m1 em1
  refine lv_iload_n hx hb dX6_readHead_10 rfl (lv_at hl 1 rfl) ?_
  refine lv_bipush (v := 97) hx hb dX6_readHead_11 (by decide) ?_
  refine lv_icmp_lt (tgt := 41) hx hb dX6_readHead_13 (by decide) (fun c2 => ?_) (fun c2 => ?_)
  · replace hf := hf.1 c2
    exact w_X6_readHead_J41 _ _ _ _ E hw hs0 hf _ _ _ hR hS (lv_sub hl [0, 1] rfl)
  · replace hf := hf.2 c2
    refine lv_iload_n hx hb dX6_readHead_16 rfl (lv_at hl 1 rfl) ?_
    refine lv_bipush (v := 104) hx hb dX6_readHead_17 (by decide) ?_
    refine lv_icmp_gt (tgt := 41) hx hb dX6_readHead_19 (by decide) (fun c29 => ?_) (fun c29 => ?_)
    · replace hf := hf.1 c29
      exact w_X6_readHead_J41 _ _ _ _ E hw hs0 hf _ _ _ hR hS (lv_sub hl [0, 1] rfl)
    · replace hf := hf.2 c29
      refine lv_aload_n hx hb dX6_readHead_22 rfl (lv_at hl 0 rfl) ?_
      obtain ⟨b30, hb30, hf⟩ := hf
      refine hw_getR E hR cI5 hs0 6 (by decide) lfX6_35 rfl hb30 dX6_readHead_23 ?_
      refine lv_iconst (v := 0) hx hb dX6_readHead_26 (by decide) ?_
      refine lv_iload_n hx hb dX6_readHead_27 rfl (lv_at hl 1 rfl) ?_
      refine lv_bipush (v := 97) hx hb dX6_readHead_28 (by decide) ?_
      refine lv_isub hx hb dX6_readHead_30 ?_
      obtain ⟨h32, hf⟩ := hf
      refine hw_callV (d := 3) E hR hS (As := [.int (0 : Int32), .int (x1 - (97 : Int32))]) (rest := []) cI4 h32 rfl mcX5_beginLine miX5_beginLine lmX6_43 (ok_X5_beginLine h32 hf) rfl rfl (by decide) hl.1 (Nat.le_of_ble_eq_true rfl) dX6_readHead_31 (fun rr m31 H locs hp hR hS => ?_)
      obtain ⟨rfl, hf⟩ := hp
      refine W.eq (g2 := F0 m 34 ls []) rfl ?_
      refine lv_aload_n hx hb dX6_readHead_34 rfl (lv_at hl 0 rfl) ?_
      refine lv_bipush (v := 61) hx hb dX6_readHead_35 (by decide) ?_
      refine hw_callV (d := 3) E hR hS (As := [.int (61 : Int32)]) (rest := []) cI5 hs0 rfl mcX6_passes miX6_passes lmX6_58 (ok_X6_passes hs0 hf) rfl rfl (by decide) hl.1 (Nat.le_of_ble_eq_true rfl) dX6_readHead_37 (fun rr m33 H locs hp hR hS => ?_)
      obtain ⟨r34, rfl, hf⟩ := hp
      refine W.eq (g2 := F0 m 40 ls [.int r34]) rfl ?_
      exact hw_zret E hR hS hf.1 ⟨_, rfl, hf.2⟩ dX6_readHead_40
def f_X6_readLine (S : Ss) (a0 : Nat) (M : Mm) (K : Int32 → Mm → Prop) : Prop :=
  f_X6_look S a0  M (fun (r2 : Int32) (m1 : Mm) =>
    f_X6_readHead S a0 r2 m1 (fun (r4 : Int32) (m3 : Mm) =>
    ((r4 = 0 →
    K (0 : Int32) m3) ∧
   (¬ r4 = 0 →
    ((r2 = (115 : Int32) →
      K (1 : Int32) m3) ∧
     (¬ r2 = (115 : Int32) →
      ((r2 = (120 : Int32) →
        K (1 : Int32) m3) ∧
       (¬ r2 = (120 : Int32) →
        f_X6_readExpression S a0 (0 : Int32) m3 (fun (r9 : Int32) (m8 : Mm) =>
          ((r9 = 0 →
          K (0 : Int32) m8) ∧
         (¬ r9 = 0 →
          K (1 : Int32) m8)))))))))))
set_option maxHeartbeats 4000000 in
set_option maxRecDepth 100000 in
theorem ok_X6_readLine {l : Launch} {g : Gg} {S : Ss} {a0 : Nat} {M : Mm} {K : Int32 → Mm → Prop} (hs0 : S[a0]? = some (5, 0)) (hf : f_X6_readLine S a0 M K) : MT l g S yX6_readLine cX6_readLine 2 (some .boolean) 5 [.ref (ad g a0)] M (pI K) := by
  refine MT.of (by decide +kernel) (Nat.le_of_ble_eq_true rfl) ?_
  intro p e s m below meth c ls E hw hR hS hl
  have hl : lv_has ls 2 [(0, .ref (ad g a0))] := hl
  generalize ([.ref (ad g a0)] : List Value).toArray = args at E ⊢
  have E : EN p s m args meth c cX6_readLine 2 (some .boolean) RX6 g := E
  have hx := E.1
  have hb := E.2.1
  unfold f_X6_readLine at hf
  refine lv_aload_n hx hb dX6_readLine_0 rfl (lv_at hl 0 rfl) ?_
  refine hw_callV (d := 5) E hR hS (As := []) (rest := []) cI5 hs0 rfl mcX6_look miX6_look lmX6_75 (ok_X6_look hs0 hf) rfl rfl (by decide) hl.1 (Nat.le_of_ble_eq_true rfl) dX6_readLine_1 (fun rr m1 H locs hp hR hS => ?_)
  obtain ⟨r2, rfl, hf⟩ := hp
  refine W.eq (g2 := F0 m 4 ls [.int r2]) rfl ?_
  refine lv_istore_n (lv' := [(1, .int r2), (0, .ref (ad g a0))]) hx hb dX6_readLine_4 rfl hl (by decide) rfl (fun ls hl => ?_)
  refine lv_aload_n hx hb dX6_readLine_5 rfl (lv_at hl 1 rfl) ?_
  refine lv_iload_n hx hb dX6_readLine_6 rfl (lv_at hl 0 rfl) ?_
  refine hw_callV (d := 5) E hR hS (As := [.int r2]) (rest := []) cI5 hs0 rfl mcX6_readHead miX6_readHead lmX6_79 (ok_X6_readHead hs0 hf) rfl rfl (by decide) hl.1 (Nat.le_of_ble_eq_true rfl) dX6_readLine_7 (fun rr m3 H locs hp hR hS => ?_)
  obtain ⟨r4, rfl, hf⟩ := hp
  refine W.eq (g2 := F0 m 10 ls [.int r4]) rfl ?_
  refine lv_if_ne (tgt := 15) hx hb dX6_readLine_10 (by decide) (fun c5 => ?_) (fun c5 => ?_)
  · replace hf := hf.2 c5
    refine lv_iload_n hx hb dX6_readLine_15 rfl (lv_at hl 0 rfl) ?_
    refine lv_bipush (v := 115) hx hb dX6_readLine_16 (by decide) ?_
    refine lv_icmp_eq (tgt := 35) hx hb dX6_readLine_18 (by decide) (fun c6 => ?_) (fun c6 => ?_)
    · replace hf := hf.1 c6
      refine lv_iconst (v := 1) hx hb dX6_readLine_35 (by decide) ?_
      refine lv_goto (tgt := 40) hx hb dX6_readLine_36 (by decide) ?_
      exact hw_zret E hR hS (by decide) ⟨_, rfl, hf⟩ dX6_readLine_40
    · replace hf := hf.2 c6
      refine lv_iload_n hx hb dX6_readLine_21 rfl (lv_at hl 0 rfl) ?_
      refine lv_bipush (v := 120) hx hb dX6_readLine_22 (by decide) ?_
      refine lv_icmp_eq (tgt := 35) hx hb dX6_readLine_24 (by decide) (fun c7 => ?_) (fun c7 => ?_)
      · replace hf := hf.1 c7
        refine lv_iconst (v := 1) hx hb dX6_readLine_35 (by decide) ?_
        refine lv_goto (tgt := 40) hx hb dX6_readLine_36 (by decide) ?_
        exact hw_zret E hR hS (by decide) ⟨_, rfl, hf⟩ dX6_readLine_40
      · replace hf := hf.2 c7
        refine lv_aload_n hx hb dX6_readLine_27 rfl (lv_at hl 1 rfl) ?_
        refine lv_iconst (v := 0) hx hb dX6_readLine_28 (by decide) ?_
        refine hw_callV (d := 5) E hR hS (As := [.int (0 : Int32)]) (rest := []) cI5 hs0 rfl mcX6_readExpression miX6_readExpression lmX6_47 (ok_X6_readExpression hs0 hf) rfl rfl (by decide) hl.1 (Nat.le_of_ble_eq_true rfl) dX6_readLine_29 (fun rr m8 H locs hp hR hS => ?_)
        obtain ⟨r9, rfl, hf⟩ := hp
        refine W.eq (g2 := F0 m 32 ls [.int r9]) rfl ?_
        refine lv_if_eq (tgt := 39) hx hb dX6_readLine_32 (by decide) (fun c10 => ?_) (fun c10 => ?_)
        · replace hf := hf.1 c10
          refine lv_iconst (v := 0) hx hb dX6_readLine_39 (by decide) ?_
          exact hw_zret E hR hS (by decide) ⟨_, rfl, hf⟩ dX6_readLine_40
        · replace hf := hf.2 c10
          refine lv_iconst (v := 1) hx hb dX6_readLine_35 (by decide) ?_
          refine lv_goto (tgt := 40) hx hb dX6_readLine_36 (by decide) ?_
          exact hw_zret E hR hS (by decide) ⟨_, rfl, hf⟩ dX6_readLine_40
  · replace hf := hf.1 c5
    refine lv_iconst (v := 0) hx hb dX6_readLine_13 (by decide) ?_
    exact hw_zret E hR hS (by decide) ⟨_, rfl, hf⟩ dX6_readLine_14
def f_X6_readLines_B7 (S : Ss) (a0 : Nat) (x1 : Int32) (x2 : Int32) (x3 : Int32) (M : Mm) (BK7 : Int32 → Mm → Prop) (EK7 : Mm → Prop) (K : Int32 → Mm → Prop) : Prop :=
  ((x2 < x3 →
    EK7 M) ∧
   (¬ x2 < x3 →
    f_X6_readLine S a0  M (fun (r4 : Int32) (m3 : Mm) =>
      ((r4 = 0 →
      K (m3.1 a0 3) m3) ∧
     (¬ r4 = 0 →
      ∃ b6 : Nat, m3.2.2 a0 6 = some b6 ∧
      S[b6]? = some (4, 0) ∧
      f_X5_endLine S b6  m3 (fun (m7 : Mm) =>
        (((m7.1 a0 3) < (m7.1 a0 2) →
        ((x3 = x2 →
          K (m7.1 a0 3) m7) ∧
         (¬ x3 = x2 →
          f_X6_passes S a0 (59 : Int32) m7 (fun (r12 : Int32) (m11 : Mm) =>
            ((r12 = 0 →
            K (m11.1 a0 3) m11) ∧
           (¬ r12 = 0 →
            ∀ v14 : Int32, v14 = x3 + (1 : Int32) →
            BK7 v14 m11)))))) ∧
       (¬ (m7.1 a0 3) < (m7.1 a0 2) →
        ((x1 ≤ (60 : Int32) →
          K (-1 : Int32) m7) ∧
         (¬ x1 ≤ (60 : Int32) →
          K (60 : Int32) m7))))))))))
set_option maxHeartbeats 4000000 in
set_option maxRecDepth 100000 in
theorem w_X6_readLines_B7 {p : Program} {l : Launch} {e : Env} {s : State} {m : MethodId} {args : Array Value} {below : List Frame} {meth : Method} {c : Code} {g : Gg} {S : Ss} (a0 : Nat) (x1 : Int32) (x2 : Int32) (x3 : Int32) (M : Mm) (BK7 : Int32 → Mm → Prop) (EK7 : Mm → Prop) (K : Int32 → Mm → Prop) (E : EN p s m args meth c cX6_readLines 4 (some .int) RX6 g) (hw : ad g 100000 < s.heap.size) (hs0 : S[a0]? = some (5, 0)) (hBK7 : ∀ (x3' : Int32) (M' : Mm) (H : Heap) (locs : List Loc) (ls : Array Slot), BK7 x3' M' → RP g S M' H → va_S (gA g) s.heap H locs → lv_has ls 4 [(0, .ref (ad g a0)), (1, .int x1), (2, .int x2), (3, .int x3')] → W p l e (rmD 6) s m args below meth c H locs 0 0 (MQ below (QA g S (pI K)) args s 0 0 (gA g)) (F0 m 7 ls [])) (hEK7 : ∀ (M' : Mm) (H : Heap) (locs : List Loc) (ls : Array Slot), EK7 M' → RP g S M' H → va_S (gA g) s.heap H locs → lv_has ls 4 [(0, .ref (ad g a0))] → W p l e (rmD 6) s m args below meth c H locs 0 0 (MQ below (QA g S (pI K)) args s 0 0 (gA g)) (F0 m 80 ls [])) (hf : f_X6_readLines_B7 S a0 x1 x2 x3 M BK7 EK7 K) (H : Heap) (locs : List Loc) (ls : Array Slot) (hR : RP g S M H) (hS : va_S (gA g) s.heap H locs) (hl : lv_has ls 4 [(0, .ref (ad g a0)), (1, .int x1), (2, .int x2), (3, .int x3)]) : W p l e (rmD 6) s m args below meth c H locs 0 0 (MQ below (QA g S (pI K)) args s 0 0 (gA g)) (F0 m 7 ls []) := by
  have hx := E.1
  have hb := E.2.1
  unfold f_X6_readLines_B7 at hf
  refine lv_iload_n hx hb dX6_readLines_7 rfl (lv_at hl 3 rfl) ?_
  refine lv_iload_n hx hb dX6_readLines_8 rfl (lv_at hl 2 rfl) ?_
  refine lv_icmp_gt (tgt := 80) hx hb dX6_readLines_9 (by decide) (fun c2 => ?_) (fun c2 => ?_)
  · replace hf := hf.1 c2
    exact hEK7  _ _ _ _ hf hR hS (lv_sub hl [0] rfl)
  · replace hf := hf.2 c2
    refine lv_aload_n hx hb dX6_readLines_12 rfl (lv_at hl 0 rfl) ?_
    refine hw_callV (d := 6) E hR hS (As := []) (rest := []) cI5 hs0 rfl mcX6_readLine miX6_readLine lmX6_54 (ok_X6_readLine hs0 hf) rfl rfl (by decide) hl.1 (Nat.le_of_ble_eq_true rfl) dX6_readLines_13 (fun rr m3 H locs hp hR hS => ?_)
    obtain ⟨r4, rfl, hf⟩ := hp
    refine W.eq (g2 := F0 m 16 ls [.int r4]) rfl ?_
    refine lv_if_ne (tgt := 24) hx hb dX6_readLines_16 (by decide) (fun c5 => ?_) (fun c5 => ?_)
    · replace hf := hf.2 c5
      refine lv_aload_n hx hb dX6_readLines_24 rfl (lv_at hl 0 rfl) ?_
      obtain ⟨b6, hb6, hf⟩ := hf
      refine hw_getR E hR cI5 hs0 6 (by decide) lfX6_35 rfl hb6 dX6_readLines_25 ?_
      obtain ⟨h8, hf⟩ := hf
      refine hw_callV (d := 6) E hR hS (As := []) (rest := []) cI4 h8 rfl mcX5_endLine miX5_endLine lmX6_51 (ok_X5_endLine h8 hf) rfl rfl (by decide) hl.1 (Nat.le_of_ble_eq_true rfl) dX6_readLines_28 (fun rr m7 H locs hp hR hS => ?_)
      obtain ⟨rfl, hf⟩ := hp
      refine W.eq (g2 := F0 m 31 ls []) rfl ?_
      refine lv_aload_n hx hb dX6_readLines_31 rfl (lv_at hl 0 rfl) ?_
      refine hw_getI E hR cI5 hs0 3 (by decide) lfX6_22 rfl dX6_readLines_32 ?_
      refine lv_aload_n hx hb dX6_readLines_35 rfl (lv_at hl 0 rfl) ?_
      refine hw_getI E hR cI5 hs0 2 (by decide) lfX6_19 rfl dX6_readLines_36 ?_
      refine lv_icmp_lt (tgt := 55) hx hb dX6_readLines_39 (by decide) (fun c9 => ?_) (fun c9 => ?_)
      · replace hf := hf.1 c9
        refine lv_iload_n hx hb dX6_readLines_55 rfl (lv_at hl 3 rfl) ?_
        refine lv_iload_n hx hb dX6_readLines_56 rfl (lv_at hl 2 rfl) ?_
        refine lv_icmp_eq (tgt := 69) hx hb dX6_readLines_57 (by decide) (fun c10 => ?_) (fun c10 => ?_)
        · replace hf := hf.1 c10
          refine lv_aload_n hx hb dX6_readLines_69 rfl (lv_at hl 0 rfl) ?_
          refine hw_getI E hR cI5 hs0 3 (by decide) lfX6_22 rfl dX6_readLines_70 ?_
          exact hw_iret E hR hS ⟨_, rfl, hf⟩ dX6_readLines_73
        · replace hf := hf.2 c10
          refine lv_aload_n hx hb dX6_readLines_60 rfl (lv_at hl 0 rfl) ?_
          refine lv_bipush (v := 59) hx hb dX6_readLines_61 (by decide) ?_
          refine hw_callV (d := 6) E hR hS (As := [.int (59 : Int32)]) (rest := []) cI5 hs0 rfl mcX6_passes miX6_passes lmX6_58 (ok_X6_passes hs0 hf) rfl rfl (by decide) hl.1 (Nat.le_of_ble_eq_true rfl) dX6_readLines_63 (fun rr m11 H locs hp hR hS => ?_)
          obtain ⟨r12, rfl, hf⟩ := hp
          refine W.eq (g2 := F0 m 66 ls [.int r12]) rfl ?_
          refine lv_if_ne (tgt := 74) hx hb dX6_readLines_66 (by decide) (fun c13 => ?_) (fun c13 => ?_)
          · replace hf := hf.2 c13
            obtain ⟨v14, ev14⟩ : ∃ y : Int32, y = x3 + (1 : Int32) := ⟨_, rfl⟩
            replace hf := hf v14 ev14
            refine lv_iinc (v := v14) (lv' := [(3, .int v14), (0, .ref (ad g a0)), (1, .int x1), (2, .int x2)]) hx hb dX6_readLines_74 hl (k := 3) rfl (by rw [ev14]; rfl) (by decide) rfl (fun ls hl => ?_)
            refine lv_goto (tgt := 7) hx hb dX6_readLines_77 (by decide) ?_
            exact hBK7 _ _ _ _ _ hf hR hS (lv_sub hl [1, 2, 3, 0] rfl)
          · replace hf := hf.1 c13
            refine lv_aload_n hx hb dX6_readLines_69 rfl (lv_at hl 0 rfl) ?_
            refine hw_getI E hR cI5 hs0 3 (by decide) lfX6_22 rfl dX6_readLines_70 ?_
            exact hw_iret E hR hS ⟨_, rfl, hf⟩ dX6_readLines_73
      · replace hf := hf.2 c9
        refine lv_iload_n hx hb dX6_readLines_42 rfl (lv_at hl 1 rfl) ?_
        refine lv_bipush (v := 60) hx hb dX6_readLines_43 (by decide) ?_
        refine lv_icmp_le (tgt := 53) hx hb dX6_readLines_45 (by decide) (fun c15 => ?_) (fun c15 => ?_)
        · replace hf := hf.1 c15
          refine lv_iconst (v := -1) hx hb dX6_readLines_53 (by decide) ?_
          exact hw_iret E hR hS ⟨_, rfl, hf⟩ dX6_readLines_54
        · replace hf := hf.2 c15
          refine lv_bipush (v := 60) hx hb dX6_readLines_48 (by decide) ?_
          refine lv_goto (tgt := 54) hx hb dX6_readLines_50 (by decide) ?_
          exact hw_iret E hR hS ⟨_, rfl, hf⟩ dX6_readLines_54
    · replace hf := hf.1 c5
      refine lv_aload_n hx hb dX6_readLines_19 rfl (lv_at hl 0 rfl) ?_
      refine hw_getI E hR cI5 hs0 3 (by decide) lfX6_22 rfl dX6_readLines_20 ?_
      exact hw_iret E hR hS ⟨_, rfl, hf⟩ dX6_readLines_23
def f_X6_readLines_L7 (S : Ss) (a0 : Nat) (x1 : Int32) (x2 : Int32) (EK7 : Mm → Prop) (K : Int32 → Mm → Prop) : Nat → Int32 → Mm → Prop
  | 0, _, _ => False
  | n + 1, x3, M => f_X6_readLines_B7 S a0 x1 x2 x3 M (fun (x3 : Int32) (M : Mm) => f_X6_readLines_L7 S a0 x1 x2 EK7 K n x3 M) EK7 K
set_option maxHeartbeats 4000000 in
set_option maxRecDepth 100000 in
theorem w_X6_readLines_L7 {p : Program} {l : Launch} {e : Env} {s : State} {m : MethodId} {args : Array Value} {below : List Frame} {meth : Method} {c : Code} {g : Gg} {S : Ss} (a0 : Nat) (x1 : Int32) (x2 : Int32) (EK7 : Mm → Prop) (K : Int32 → Mm → Prop) (E : EN p s m args meth c cX6_readLines 4 (some .int) RX6 g) (hw : ad g 100000 < s.heap.size) (hs0 : S[a0]? = some (5, 0)) (hEK7 : ∀ (M' : Mm) (H : Heap) (locs : List Loc) (ls : Array Slot), EK7 M' → RP g S M' H → va_S (gA g) s.heap H locs → lv_has ls 4 [(0, .ref (ad g a0))] → W p l e (rmD 6) s m args below meth c H locs 0 0 (MQ below (QA g S (pI K)) args s 0 0 (gA g)) (F0 m 80 ls [])) : ∀ (n : Nat) (x3 : Int32) (M : Mm), f_X6_readLines_L7 S a0 x1 x2 EK7 K n x3 M → ∀ (H : Heap) (locs : List Loc) (ls : Array Slot), RP g S M H → va_S (gA g) s.heap H locs → lv_has ls 4 [(0, .ref (ad g a0)), (1, .int x1), (2, .int x2), (3, .int x3)] → W p l e (rmD 6) s m args below meth c H locs 0 0 (MQ below (QA g S (pI K)) args s 0 0 (gA g)) (F0 m 7 ls []) := by
  intro n
  induction n with
  | zero => intro x3 M hf; exact hf.elim
  | succ n ih =>
    intro x3 M hf H locs ls hR hS hl
    exact w_X6_readLines_B7 _ _ _ _ _ _ _ _ E hw hs0 (fun _ M H locs ls h hR hS hl => ih _ M h H locs ls hR hS hl) hEK7 hf H locs ls hR hS hl
def f_X6_readLines (S : Ss) (a0 : Nat) (x1 : Int32) (x2 : Int32) (M : Mm) (K : Int32 → Mm → Prop) : Prop :=
  f_X6_begin S a0 x1 M (fun (m1 : Mm) =>
    ∃ n17 : Nat, f_X6_readLines_L7 S a0 x1 x2 (fun (m16 : Mm) =>
    K (m16.1 a0 3) m16) K n17 (1 : Int32) m1)
set_option maxHeartbeats 4000000 in
set_option maxRecDepth 100000 in
theorem ok_X6_readLines {l : Launch} {g : Gg} {S : Ss} {a0 : Nat} {x1 : Int32} {x2 : Int32} {M : Mm} {K : Int32 → Mm → Prop} (hs0 : S[a0]? = some (5, 0)) (hf : f_X6_readLines S a0 x1 x2 M K) : MT l g S yX6_readLines cX6_readLines 4 (some .int) 6 [.ref (ad g a0), .int x1, .int x2] M (pI K) := by
  refine MT.of (by decide +kernel) (Nat.le_of_ble_eq_true rfl) ?_
  intro p e s m below meth c ls E hw hR hS hl
  have hl : lv_has ls 4 [(0, .ref (ad g a0)), (1, .int x1), (2, .int x2)] := hl
  generalize ([.ref (ad g a0), .int x1, .int x2] : List Value).toArray = args at E ⊢
  have E : EN p s m args meth c cX6_readLines 4 (some .int) RX6 g := E
  have hx := E.1
  have hb := E.2.1
  unfold f_X6_readLines at hf
  refine lv_aload_n hx hb dX6_readLines_0 rfl (lv_at hl 0 rfl) ?_
  refine lv_iload_n hx hb dX6_readLines_1 rfl (lv_at hl 1 rfl) ?_
  refine hw_callV (d := 6) E hR hS (As := [.int x1]) (rest := []) cI5 hs0 rfl mcX6_begin miX6_begin lmX6_39 (ok_X6_begin hs0 hf) rfl rfl (by decide) hl.1 (Nat.le_of_ble_eq_true rfl) dX6_readLines_2 (fun rr m1 H locs hp hR hS => ?_)
  obtain ⟨rfl, hf⟩ := hp
  refine W.eq (g2 := F0 m 5 ls []) rfl ?_
  refine lv_iconst (v := 1) hx hb dX6_readLines_5 (by decide) ?_
  refine lv_istore_n (lv' := [(3, .int (1 : Int32)), (0, .ref (ad g a0)), (1, .int x1), (2, .int x2)]) hx hb dX6_readLines_6 rfl hl (by decide) rfl (fun ls hl => ?_)
  obtain ⟨n17, hf⟩ := hf
  refine w_X6_readLines_L7 _ _ _ _ _ E hw hs0 ?_ n17 _ _ hf _ _ _ hR hS (lv_sub hl [1, 2, 3, 0] rfl)
  intro m16 H locs ls hf hR hS hl
  refine lv_aload_n hx hb dX6_readLines_80 rfl (lv_at hl 0 rfl) ?_
  refine hw_getI E hR cI5 hs0 3 (by decide) lfX6_22 rfl dX6_readLines_81 ?_
  exact hw_iret E hR hS ⟨_, rfl, hf⟩ dX6_readLines_84
