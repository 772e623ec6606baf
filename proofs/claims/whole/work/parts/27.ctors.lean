set_option maxRecDepth 100000 in
set_option maxHeartbeats 4000000 in
def f_X4_init (S : Ss) (a0 : Nat) (M : Mm) (K : Ss → Mm → Prop) : Prop :=
  ∀ m1 : Mm, m1 = stJ M a0 0 (0 : Int64) →
  ∀ m2 : Mm, m2 = stJ m1 a0 1 (0 : Int64) →
  ∀ m3 : Mm, m3 = stI m2 a0 2 (0 : Int32) →
  ∀ m4 : Mm, m4 = stI m3 a0 3 (0 : Int32) →
  ∀ m5 : Mm, m5 = stI m4 a0 4 (0 : Int32) →
  ∀ m6 : Mm, m6 = stI m5 a0 5 (0 : Int32) →
  ∀ m7 : Mm, m7 = stI m6 a0 6 (0 : Int32) →
  K S m7
set_option maxHeartbeats 4000000 in
set_option maxRecDepth 100000 in
theorem ok_X4_init {l : Launch} {g : Gg} {S : Ss} {a0 : Nat} {M : Mm} {K : Ss → Mm → Prop} (hs0 : S[a0]? = some (3, 0)) (hf : f_X4_init S a0 M K) : MTC l g S yX4_init cX4_init 1 1 0 0 [.ref (ad g a0)] M K := by
  refine MTC.of (by decide +kernel) (Nat.le_of_ble_eq_true rfl) ?_
  intro p e s m below meth c ls E hin hN hw hR hS hl
  have hl : lv_has ls 1 [(0, .ref (ad g a0))] := hl
  generalize ([.ref (ad g a0)] : List Value).toArray = args at E ⊢
  have E : EN p s m args meth c cX4_init 1 none RX4 g := E
  have hin : meth.name = "<init>" := hin
  have hbs := rp_bs hR hs0
  have exA : EX g g S := EX.rf
  have pxA : PX S S := PX.rf
  unfold f_X4_init at hf
  refine lv_aload_n E.1 E.2.1 dX4_init_0 rfl (lv_at hl 0 rfl) ?_
  refine hw_obj E hl loX4_3 (Nat.le_of_ble_eq_true rfl) (Nat.le_of_ble_eq_true rfl) (Nat.le_of_ble_eq_true rfl) dX4_init_1 ?_
  refine lv_aload_n E.1 E.2.1 dX4_init_4 rfl (lv_at hl 0 rfl) ?_
  refine lv_lconst (v := 0) E.1 E.2.1 dX4_init_5 (by decide) ?_
  refine hw_putJ E hR hS hw cI3 hs0 0 (by decide) lfX4_9 rfl rfl dX4_init_6 (fun m1 H locs em1 hR hS => ?_)
  replace hf := hf m1 em1
  refine lv_aload_n E.1 E.2.1 dX4_init_9 rfl (lv_at hl 0 rfl) ?_
  refine lv_lconst (v := 0) E.1 E.2.1 dX4_init_10 (by decide) ?_
  refine hw_putJ E hR hS hw cI3 hs0 1 (by decide) lfX4_15 rfl rfl dX4_init_11 (fun m2 H locs em2 hR hS => ?_)
  replace hf := hf m2 em2
  refine lv_aload_n E.1 E.2.1 dX4_init_14 rfl (lv_at hl 0 rfl) ?_
  refine lv_iconst (v := 0) E.1 E.2.1 dX4_init_15 (by decide) ?_
  refine hw_putI E hR hS hw cI3 hs0 2 (by decide) lfX4_18 rfl (Or.inl rfl) dX4_init_16 (fun m3 H locs em3 hR hS => ?_)
  replace hf := hf m3 em3
  refine lv_aload_n E.1 E.2.1 dX4_init_19 rfl (lv_at hl 0 rfl) ?_
  refine lv_iconst (v := 0) E.1 E.2.1 dX4_init_20 (by decide) ?_
  refine hw_putI E hR hS hw cI3 hs0 3 (by decide) lfX4_22 rfl (Or.inl rfl) dX4_init_21 (fun m4 H locs em4 hR hS => ?_)
  replace hf := hf m4 em4
  refine lv_aload_n E.1 E.2.1 dX4_init_24 rfl (lv_at hl 0 rfl) ?_
  refine lv_iconst (v := 0) E.1 E.2.1 dX4_init_25 (by decide) ?_
  refine hw_putI E hR hS hw cI3 hs0 4 (by decide) lfX4_25 rfl (Or.inl rfl) dX4_init_26 (fun m5 H locs em5 hR hS => ?_)
  replace hf := hf m5 em5
  refine lv_aload_n E.1 E.2.1 dX4_init_29 rfl (lv_at hl 0 rfl) ?_
  refine lv_iconst (v := 0) E.1 E.2.1 dX4_init_30 (by decide) ?_
  refine hw_putI E hR hS hw cI3 hs0 5 (by decide) lfX4_28 rfl (Or.inl rfl) dX4_init_31 (fun m6 H locs em6 hR hS => ?_)
  replace hf := hf m6 em6
  refine lv_aload_n E.1 E.2.1 dX4_init_34 rfl (lv_at hl 0 rfl) ?_
  refine lv_iconst (v := 0) E.1 E.2.1 dX4_init_35 (by decide) ?_
  refine hw_putI E hR hS hw cI3 hs0 6 (by decide) lfX4_31 rfl (Or.inl rfl) dX4_init_36 (fun m7 H locs em7 hR hS => ?_)
  replace hf := hf m7 em7
  refine W.widen (k := 0) (n := 0) (Nat.le_of_ble_eq_true rfl) (Nat.le_of_ble_eq_true rfl) ?_
  exact hw_vretC E exA pxA hR hS hf dX4_init_39
set_option maxRecDepth 100000 in
set_option maxHeartbeats 4000000 in
def f_X5_init (S : Ss) (a0 : Nat) (M : Mm) (K : Ss → Mm → Prop) : Prop :=
  CL S M ∧ S.length < 100000 ∧
  ∀ S2 : Ss, S2 = S ++ [(51, 60)] → ∀ m3 : Mm, m3 = zr M S.length → ∀ b4 : Nat, b4 = S.length →
  ∀ m6 : Mm, m6 = stR m3 a0 0 (some b4) →
  CL S2 m6 ∧ S2.length < 100000 ∧
  ∀ S8 : Ss, S8 = S2 ++ [(50, 16)] → ∀ m9 : Mm, m9 = zr m6 S2.length → ∀ b10 : Nat, b10 = S2.length →
  ∀ m12 : Mm, m12 = stR m9 a0 1 (some b10) →
  CL S8 m12 ∧ S8.length < 100000 ∧
  ∀ S14 : Ss, S14 = S8 ++ [(50, 16)] → ∀ m15 : Mm, m15 = zr m12 S8.length → ∀ b16 : Nat, b16 = S8.length →
  ∀ m18 : Mm, m18 = stR m15 a0 2 (some b16) →
  CL S14 m18 ∧ S14.length < 100000 ∧
  ∀ S20 : Ss, S20 = S14 ++ [(50, 17)] → ∀ m21 : Mm, m21 = zr m18 S14.length → ∀ b22 : Nat, b22 = S14.length →
  ∀ m24 : Mm, m24 = stR m21 a0 3 (some b22) →
  CL S20 m24 ∧ S20.length < 100000 ∧
  ∀ S26 : Ss, S26 = S20 ++ [(50, 60)] → ∀ m27 : Mm, m27 = zr m24 S20.length → ∀ b28 : Nat, b28 = S20.length →
  ∀ m30 : Mm, m30 = stR m27 a0 4 (some b28) →
  ∀ m31 : Mm, m31 = stI m30 a0 5 (0 : Int32) →
  ∀ m32 : Mm, m32 = stI m31 a0 6 (0 : Int32) →
  ∀ m33 : Mm, m33 = stI m32 a0 7 (0 : Int32) →
  K S26 m33
set_option maxHeartbeats 4000000 in
set_option maxRecDepth 100000 in
theorem ok_X5_init {l : Launch} {g : Gg} {S : Ss} {a0 : Nat} {M : Mm} {K : Ss → Mm → Prop} (hs0 : S[a0]? = some (4, 0)) (hf : f_X5_init S a0 M K) : MTC l g S yX5_init cX5_init 1 1 5 169 [.ref (ad g a0)] M K := by
  refine MTC.of (by decide +kernel) (Nat.le_of_ble_eq_true rfl) ?_
  intro p e s m below meth c ls E hin hN hw hR hS hl
  have hl : lv_has ls 1 [(0, .ref (ad g a0))] := hl
  generalize ([.ref (ad g a0)] : List Value).toArray = args at E ⊢
  have E : EN p s m args meth c cX5_init 1 none RX5 g := E
  have hin : meth.name = "<init>" := hin
  have hbs := rp_bs hR hs0
  have exA : EX g g S := EX.rf
  have pxA : PX S S := PX.rf
  unfold f_X5_init at hf
  refine lv_aload_n E.1 E.2.1 dX5_init_0 rfl (lv_at hl 0 rfl) ?_
  refine hw_obj E hl loX5_3 (Nat.le_of_ble_eq_true rfl) (Nat.le_of_ble_eq_true rfl) (Nat.le_of_ble_eq_true rfl) dX5_init_1 ?_
  refine lv_aload_n E.1 E.2.1 dX5_init_4 rfl (lv_at hl 0 rfl) ?_
  refine lv_bipush (v := 60) E.1 E.2.1 dX5_init_5 (by decide) ?_
  obtain ⟨hcl, hln, hf⟩ := hf
  refine hw_newa51 E hR hS hw hbs hcl hln 60 (by decide) (by decide) (by decide) lar51 (Nat.le_of_ble_eq_true rfl) (Nat.le_of_ble_eq_true rfl) dX5_init_7 (fun g1 S2 m3 H ex5 eS2 em3 hR hS => ?_)
  obtain ⟨b4, eb4⟩ : ∃ y, y = S.length := ⟨_, rfl⟩
  rw [← eb4]
  replace hf := hf S2 eS2 m3 em3 b4 eb4
  have hb4 := ex_last eS2 eb4
  have px : PX S S2 := ⟨_, eS2⟩
  have ea := ex5.ad hs0
  (try rw [← ea] at hl)
  (try rw [← ea])
  have hs0 := px.at hs0
  have E := E.ex ex5
  have hw : ad g1 100000 < s.heap.size := by rw [ex5.2.2.2.1]; exact hw
  have hbs : g1.1 ≤ s.heap.size := by rw [ex5.1]; exact hbs
  have exA := exA.tr pxA ex5
  have pxA := pxA.tr px
  refine hw_putFR (o := (some b4)) E hin hR hS hw cI4 hs0 0 (by decide) lfX5_9 rfl rfl rfl dX5_init_9 (fun m6 H locs em6 hR hS => ?_)
  replace hf := hf m6 em6
  refine lv_aload_n E.1 E.2.1 dX5_init_12 rfl (lv_at hl 0 rfl) ?_
  refine lv_bipush (v := 16) E.1 E.2.1 dX5_init_13 (by decide) ?_
  obtain ⟨hcl, hln, hf⟩ := hf
  refine hw_newa50 E hR hS hw hbs hcl hln 16 (by decide) (by decide) (by decide) lar50 (Nat.le_of_ble_eq_true rfl) (Nat.le_of_ble_eq_true rfl) dX5_init_15 (fun g7 S8 m9 H ex11 eS8 em9 hR hS => ?_)
  obtain ⟨b10, eb10⟩ : ∃ y, y = S2.length := ⟨_, rfl⟩
  rw [← eb10]
  replace hf := hf S8 eS8 m9 em9 b10 eb10
  have hb10 := ex_last eS8 eb10
  have px : PX S2 S8 := ⟨_, eS8⟩
  have ea := ex11.ad hs0
  (try rw [← ea] at hl)
  (try rw [← ea])
  have hs0 := px.at hs0
  have hb4 := px.at hb4
  have E := E.ex ex11
  have hw : ad g7 100000 < s.heap.size := by rw [ex11.2.2.2.1]; exact hw
  have hbs : g7.1 ≤ s.heap.size := by rw [ex11.1]; exact hbs
  have exA := exA.tr pxA ex11
  have pxA := pxA.tr px
  refine hw_putFR (o := (some b10)) E hin hR hS hw cI4 hs0 1 (by decide) lfX5_15 rfl rfl rfl dX5_init_17 (fun m12 H locs em12 hR hS => ?_)
  replace hf := hf m12 em12
  refine lv_aload_n E.1 E.2.1 dX5_init_20 rfl (lv_at hl 0 rfl) ?_
  refine lv_bipush (v := 16) E.1 E.2.1 dX5_init_21 (by decide) ?_
  obtain ⟨hcl, hln, hf⟩ := hf
  refine hw_newa50 E hR hS hw hbs hcl hln 16 (by decide) (by decide) (by decide) lar50 (Nat.le_of_ble_eq_true rfl) (Nat.le_of_ble_eq_true rfl) dX5_init_23 (fun g13 S14 m15 H ex17 eS14 em15 hR hS => ?_)
  obtain ⟨b16, eb16⟩ : ∃ y, y = S8.length := ⟨_, rfl⟩
  rw [← eb16]
  replace hf := hf S14 eS14 m15 em15 b16 eb16
  have hb16 := ex_last eS14 eb16
  have px : PX S8 S14 := ⟨_, eS14⟩
  have ea := ex17.ad hs0
  (try rw [← ea] at hl)
  (try rw [← ea])
  have hs0 := px.at hs0
  have hb10 := px.at hb10
  have hb4 := px.at hb4
  have E := E.ex ex17
  have hw : ad g13 100000 < s.heap.size := by rw [ex17.2.2.2.1]; exact hw
  have hbs : g13.1 ≤ s.heap.size := by rw [ex17.1]; exact hbs
  have exA := exA.tr pxA ex17
  have pxA := pxA.tr px
  refine hw_putFR (o := (some b16)) E hin hR hS hw cI4 hs0 2 (by decide) lfX5_19 rfl rfl rfl dX5_init_25 (fun m18 H locs em18 hR hS => ?_)
  replace hf := hf m18 em18
  refine lv_aload_n E.1 E.2.1 dX5_init_28 rfl (lv_at hl 0 rfl) ?_
  refine lv_bipush (v := 17) E.1 E.2.1 dX5_init_29 (by decide) ?_
  obtain ⟨hcl, hln, hf⟩ := hf
  refine hw_newa50 E hR hS hw hbs hcl hln 17 (by decide) (by decide) (by decide) lar50 (Nat.le_of_ble_eq_true rfl) (Nat.le_of_ble_eq_true rfl) dX5_init_31 (fun g19 S20 m21 H ex23 eS20 em21 hR hS => ?_)
  obtain ⟨b22, eb22⟩ : ∃ y, y = S14.length := ⟨_, rfl⟩
  rw [← eb22]
  replace hf := hf S20 eS20 m21 em21 b22 eb22
  have hb22 := ex_last eS20 eb22
  have px : PX S14 S20 := ⟨_, eS20⟩
  have ea := ex23.ad hs0
  (try rw [← ea] at hl)
  (try rw [← ea])
  have hs0 := px.at hs0
  have hb10 := px.at hb10
  have hb16 := px.at hb16
  have hb4 := px.at hb4
  have E := E.ex ex23
  have hw : ad g19 100000 < s.heap.size := by rw [ex23.2.2.2.1]; exact hw
  have hbs : g19.1 ≤ s.heap.size := by rw [ex23.1]; exact hbs
  have exA := exA.tr pxA ex23
  have pxA := pxA.tr px
  refine hw_putFR (o := (some b22)) E hin hR hS hw cI4 hs0 3 (by decide) lfX5_22 rfl rfl rfl dX5_init_33 (fun m24 H locs em24 hR hS => ?_)
  replace hf := hf m24 em24
  refine lv_aload_n E.1 E.2.1 dX5_init_36 rfl (lv_at hl 0 rfl) ?_
  refine lv_bipush (v := 60) E.1 E.2.1 dX5_init_37 (by decide) ?_
  obtain ⟨hcl, hln, hf⟩ := hf
  refine hw_newa50 E hR hS hw hbs hcl hln 60 (by decide) (by decide) (by decide) lar50 (Nat.le_of_ble_eq_true rfl) (Nat.le_of_ble_eq_true rfl) dX5_init_39 (fun g25 S26 m27 H ex29 eS26 em27 hR hS => ?_)
  obtain ⟨b28, eb28⟩ : ∃ y, y = S20.length := ⟨_, rfl⟩
  rw [← eb28]
  replace hf := hf S26 eS26 m27 em27 b28 eb28
  have hb28 := ex_last eS26 eb28
  have px : PX S20 S26 := ⟨_, eS26⟩
  have ea := ex29.ad hs0
  (try rw [← ea] at hl)
  (try rw [← ea])
  have hs0 := px.at hs0
  have hb10 := px.at hb10
  have hb16 := px.at hb16
  have hb22 := px.at hb22
  have hb4 := px.at hb4
  have E := E.ex ex29
  have hw : ad g25 100000 < s.heap.size := by rw [ex29.2.2.2.1]; exact hw
  have hbs : g25.1 ≤ s.heap.size := by rw [ex29.1]; exact hbs
  have exA := exA.tr pxA ex29
  have pxA := pxA.tr px
  refine hw_putFR (o := (some b28)) E hin hR hS hw cI4 hs0 4 (by decide) lfX5_25 rfl rfl rfl dX5_init_41 (fun m30 H locs em30 hR hS => ?_)
  replace hf := hf m30 em30
  refine lv_aload_n E.1 E.2.1 dX5_init_44 rfl (lv_at hl 0 rfl) ?_
  refine lv_iconst (v := 0) E.1 E.2.1 dX5_init_45 (by decide) ?_
  refine hw_putI E hR hS hw cI4 hs0 5 (by decide) lfX5_28 rfl (Or.inl rfl) dX5_init_46 (fun m31 H locs em31 hR hS => ?_)
  replace hf := hf m31 em31
  refine lv_aload_n E.1 E.2.1 dX5_init_49 rfl (lv_at hl 0 rfl) ?_
  refine lv_iconst (v := 0) E.1 E.2.1 dX5_init_50 (by decide) ?_
  refine hw_putI E hR hS hw cI4 hs0 6 (by decide) lfX5_32 rfl (Or.inl rfl) dX5_init_51 (fun m32 H locs em32 hR hS => ?_)
  replace hf := hf m32 em32
  refine lv_aload_n E.1 E.2.1 dX5_init_54 rfl (lv_at hl 0 rfl) ?_
  refine lv_iconst (v := 0) E.1 E.2.1 dX5_init_55 (by decide) ?_
  refine hw_putI E hR hS hw cI4 hs0 7 (by decide) lfX5_35 rfl (Or.inl rfl) dX5_init_56 (fun m33 H locs em33 hR hS => ?_)
  replace hf := hf m33 em33
  refine W.widen (k := 5) (n := 169) (Nat.le_of_ble_eq_true rfl) (Nat.le_of_ble_eq_true rfl) ?_
  exact hw_vretC E exA pxA hR hS hf dX5_init_59
set_option maxRecDepth 100000 in
set_option maxHeartbeats 4000000 in
def f_X7_init (S : Ss) (a0 : Nat) (M : Mm) (K : Ss → Mm → Prop) : Prop :=
  CL S M ∧ S.length < 100000 ∧
  ∀ S2 : Ss, S2 = S ++ [(53, 20)] → ∀ m3 : Mm, m3 = zr M S.length → ∀ b4 : Nat, b4 = S.length →
  ∀ m6 : Mm, m6 = stR m3 a0 0 (some b4) →
  ∀ m7 : Mm, m7 = stI m6 a0 1 (0 : Int32) →
  K S2 m7
set_option maxHeartbeats 4000000 in
set_option maxRecDepth 100000 in
theorem ok_X7_init {l : Launch} {g : Gg} {S : Ss} {a0 : Nat} {M : Mm} {K : Ss → Mm → Prop} (hs0 : S[a0]? = some (6, 0)) (hf : f_X7_init S a0 M K) : MTC l g S yX7_init cX7_init 1 1 1 20 [.ref (ad g a0)] M K := by
  refine MTC.of (by decide +kernel) (Nat.le_of_ble_eq_true rfl) ?_
  intro p e s m below meth c ls E hin hN hw hR hS hl
  have hl : lv_has ls 1 [(0, .ref (ad g a0))] := hl
  generalize ([.ref (ad g a0)] : List Value).toArray = args at E ⊢
  have E : EN p s m args meth c cX7_init 1 none RX7 g := E
  have hin : meth.name = "<init>" := hin
  have hbs := rp_bs hR hs0
  have exA : EX g g S := EX.rf
  have pxA : PX S S := PX.rf
  unfold f_X7_init at hf
  refine lv_aload_n E.1 E.2.1 dX7_init_0 rfl (lv_at hl 0 rfl) ?_
  refine hw_obj E hl loX7_3 (Nat.le_of_ble_eq_true rfl) (Nat.le_of_ble_eq_true rfl) (Nat.le_of_ble_eq_true rfl) dX7_init_1 ?_
  refine lv_aload_n E.1 E.2.1 dX7_init_4 rfl (lv_at hl 0 rfl) ?_
  refine lv_bipush (v := 20) E.1 E.2.1 dX7_init_5 (by decide) ?_
  obtain ⟨hcl, hln, hf⟩ := hf
  refine hw_newa53 E hR hS hw hbs hcl hln 20 (by decide) (by decide) (by decide) lar53 (Nat.le_of_ble_eq_true rfl) (Nat.le_of_ble_eq_true rfl) dX7_init_7 (fun g1 S2 m3 H ex5 eS2 em3 hR hS => ?_)
  obtain ⟨b4, eb4⟩ : ∃ y, y = S.length := ⟨_, rfl⟩
  rw [← eb4]
  replace hf := hf S2 eS2 m3 em3 b4 eb4
  have hb4 := ex_last eS2 eb4
  have px : PX S S2 := ⟨_, eS2⟩
  have ea := ex5.ad hs0
  (try rw [← ea] at hl)
  (try rw [← ea])
  have hs0 := px.at hs0
  have E := E.ex ex5
  have hw : ad g1 100000 < s.heap.size := by rw [ex5.2.2.2.1]; exact hw
  have hbs : g1.1 ≤ s.heap.size := by rw [ex5.1]; exact hbs
  have exA := exA.tr pxA ex5
  have pxA := pxA.tr px
  refine hw_putFR (o := (some b4)) E hin hR hS hw cI6 hs0 0 (by decide) lfX7_9 rfl rfl rfl dX7_init_9 (fun m6 H locs em6 hR hS => ?_)
  replace hf := hf m6 em6
  refine lv_aload_n E.1 E.2.1 dX7_init_12 rfl (lv_at hl 0 rfl) ?_
  refine lv_iconst (v := 0) E.1 E.2.1 dX7_init_13 (by decide) ?_
  refine hw_putI E hR hS hw cI6 hs0 1 (by decide) lfX7_15 rfl (Or.inl rfl) dX7_init_14 (fun m7 H locs em7 hR hS => ?_)
  replace hf := hf m7 em7
  refine W.widen (k := 1) (n := 20) (Nat.le_of_ble_eq_true rfl) (Nat.le_of_ble_eq_true rfl) ?_
  exact hw_vretC E exA pxA hR hS hf dX7_init_17
set_option maxRecDepth 100000 in
set_option maxHeartbeats 4000000 in
def f_X8_init (S : Ss) (a0 : Nat) (M : Mm) (K : Ss → Mm → Prop) : Prop :=
  CL S M ∧ S.length < 100000 ∧
  ∀ S2 : Ss, S2 = S ++ [(50, 8)] → ∀ m3 : Mm, m3 = zr M S.length → ∀ b4 : Nat, b4 = S.length →
  ∀ m6 : Mm, m6 = stR m3 a0 0 (some b4) →
  CL S2 m6 ∧ S2.length < 100000 ∧
  ∀ S8 : Ss, S8 = S2 ++ [(50, 8)] → ∀ m9 : Mm, m9 = zr m6 S2.length → ∀ b10 : Nat, b10 = S2.length →
  ∀ m12 : Mm, m12 = stR m9 a0 1 (some b10) →
  ∀ m13 : Mm, m13 = stI m12 a0 2 (0 : Int32) →
  K S8 m13
set_option maxHeartbeats 4000000 in
set_option maxRecDepth 100000 in
theorem ok_X8_init {l : Launch} {g : Gg} {S : Ss} {a0 : Nat} {M : Mm} {K : Ss → Mm → Prop} (hs0 : S[a0]? = some (7, 0)) (hf : f_X8_init S a0 M K) : MTC l g S yX8_init cX8_init 1 1 2 16 [.ref (ad g a0)] M K := by
  refine MTC.of (by decide +kernel) (Nat.le_of_ble_eq_true rfl) ?_
  intro p e s m below meth c ls E hin hN hw hR hS hl
  have hl : lv_has ls 1 [(0, .ref (ad g a0))] := hl
  generalize ([.ref (ad g a0)] : List Value).toArray = args at E ⊢
  have E : EN p s m args meth c cX8_init 1 none RX8 g := E
  have hin : meth.name = "<init>" := hin
  have hbs := rp_bs hR hs0
  have exA : EX g g S := EX.rf
  have pxA : PX S S := PX.rf
  unfold f_X8_init at hf
  refine lv_aload_n E.1 E.2.1 dX8_init_0 rfl (lv_at hl 0 rfl) ?_
  refine hw_obj E hl loX8_3 (Nat.le_of_ble_eq_true rfl) (Nat.le_of_ble_eq_true rfl) (Nat.le_of_ble_eq_true rfl) dX8_init_1 ?_
  refine lv_aload_n E.1 E.2.1 dX8_init_4 rfl (lv_at hl 0 rfl) ?_
  refine lv_bipush (v := 8) E.1 E.2.1 dX8_init_5 (by decide) ?_
  obtain ⟨hcl, hln, hf⟩ := hf
  refine hw_newa50 E hR hS hw hbs hcl hln 8 (by decide) (by decide) (by decide) lar50 (Nat.le_of_ble_eq_true rfl) (Nat.le_of_ble_eq_true rfl) dX8_init_7 (fun g1 S2 m3 H ex5 eS2 em3 hR hS => ?_)
  obtain ⟨b4, eb4⟩ : ∃ y, y = S.length := ⟨_, rfl⟩
  rw [← eb4]
  replace hf := hf S2 eS2 m3 em3 b4 eb4
  have hb4 := ex_last eS2 eb4
  have px : PX S S2 := ⟨_, eS2⟩
  have ea := ex5.ad hs0
  (try rw [← ea] at hl)
  (try rw [← ea])
  have hs0 := px.at hs0
  have E := E.ex ex5
  have hw : ad g1 100000 < s.heap.size := by rw [ex5.2.2.2.1]; exact hw
  have hbs : g1.1 ≤ s.heap.size := by rw [ex5.1]; exact hbs
  have exA := exA.tr pxA ex5
  have pxA := pxA.tr px
  refine hw_putFR (o := (some b4)) E hin hR hS hw cI7 hs0 0 (by decide) lfX8_9 rfl rfl rfl dX8_init_9 (fun m6 H locs em6 hR hS => ?_)
  replace hf := hf m6 em6
  refine lv_aload_n E.1 E.2.1 dX8_init_12 rfl (lv_at hl 0 rfl) ?_
  refine lv_bipush (v := 8) E.1 E.2.1 dX8_init_13 (by decide) ?_
  obtain ⟨hcl, hln, hf⟩ := hf
  refine hw_newa50 E hR hS hw hbs hcl hln 8 (by decide) (by decide) (by decide) lar50 (Nat.le_of_ble_eq_true rfl) (Nat.le_of_ble_eq_true rfl) dX8_init_15 (fun g7 S8 m9 H ex11 eS8 em9 hR hS => ?_)
  obtain ⟨b10, eb10⟩ : ∃ y, y = S2.length := ⟨_, rfl⟩
  rw [← eb10]
  replace hf := hf S8 eS8 m9 em9 b10 eb10
  have hb10 := ex_last eS8 eb10
  have px : PX S2 S8 := ⟨_, eS8⟩
  have ea := ex11.ad hs0
  (try rw [← ea] at hl)
  (try rw [← ea])
  have hs0 := px.at hs0
  have hb4 := px.at hb4
  have E := E.ex ex11
  have hw : ad g7 100000 < s.heap.size := by rw [ex11.2.2.2.1]; exact hw
  have hbs : g7.1 ≤ s.heap.size := by rw [ex11.1]; exact hbs
  have exA := exA.tr pxA ex11
  have pxA := pxA.tr px
  refine hw_putFR (o := (some b10)) E hin hR hS hw cI7 hs0 1 (by decide) lfX8_15 rfl rfl rfl dX8_init_17 (fun m12 H locs em12 hR hS => ?_)
  replace hf := hf m12 em12
  refine lv_aload_n E.1 E.2.1 dX8_init_20 rfl (lv_at hl 0 rfl) ?_
  refine lv_iconst (v := 0) E.1 E.2.1 dX8_init_21 (by decide) ?_
  refine hw_putI E hR hS hw cI7 hs0 2 (by decide) lfX8_18 rfl (Or.inl rfl) dX8_init_22 (fun m13 H locs em13 hR hS => ?_)
  replace hf := hf m13 em13
  refine W.widen (k := 2) (n := 16) (Nat.le_of_ble_eq_true rfl) (Nat.le_of_ble_eq_true rfl) ?_
  exact hw_vretC E exA pxA hR hS hf dX8_init_25
set_option maxRecDepth 100000 in
set_option maxHeartbeats 4000000 in
def f_X1_init (S : Ss) (a0 : Nat) (M : Mm) (K : Ss → Mm → Prop) : Prop :=
  CL S M ∧ S.length < 100000 ∧
  ∀ S2 : Ss, S2 = S ++ [(50, 12)] → ∀ m3 : Mm, m3 = zr M S.length → ∀ b4 : Nat, b4 = S.length →
  ∀ m6 : Mm, m6 = stR m3 a0 0 (some b4) →
  CL S2 m6 ∧ S2.length < 100000 ∧
  ∀ S8 : Ss, S8 = S2 ++ [(50, 12)] → ∀ m9 : Mm, m9 = zr m6 S2.length → ∀ b10 : Nat, b10 = S2.length →
  ∀ m12 : Mm, m12 = stR m9 a0 1 (some b10) →
  CL S8 m12 ∧ S8.length < 100000 ∧
  ∀ S14 : Ss, S14 = S8 ++ [(50, 12)] → ∀ m15 : Mm, m15 = zr m12 S8.length → ∀ b16 : Nat, b16 = S8.length →
  ∀ m18 : Mm, m18 = stR m15 a0 2 (some b16) →
  CL S14 m18 ∧ S14.length < 100000 ∧
  ∀ S20 : Ss, S20 = S14 ++ [(50, 12)] → ∀ m21 : Mm, m21 = zr m18 S14.length → ∀ b22 : Nat, b22 = S14.length →
  ∀ m24 : Mm, m24 = stR m21 a0 3 (some b22) →
  CL S20 m24 ∧ S20.length < 100000 ∧
  ∀ S26 : Ss, S26 = S20 ++ [(50, 12)] → ∀ m27 : Mm, m27 = zr m24 S20.length → ∀ b28 : Nat, b28 = S20.length →
  ∀ m30 : Mm, m30 = stR m27 a0 4 (some b28) →
  CL S26 m30 ∧ S26.length < 100000 ∧
  ∀ S32 : Ss, S32 = S26 ++ [(50, 12)] → ∀ m33 : Mm, m33 = zr m30 S26.length → ∀ b34 : Nat, b34 = S26.length →
  ∀ m36 : Mm, m36 = stR m33 a0 5 (some b34) →
  CL S32 m36 ∧ S32.length < 100000 ∧
  ∀ S38 : Ss, S38 = S32 ++ [(50, 12)] → ∀ m39 : Mm, m39 = zr m36 S32.length → ∀ b40 : Nat, b40 = S32.length →
  ∀ m42 : Mm, m42 = stR m39 a0 6 (some b40) →
  CL S38 m42 ∧ S38.length < 100000 ∧
  ∀ S44 : Ss, S44 = S38 ++ [(50, 12)] → ∀ m45 : Mm, m45 = zr m42 S38.length → ∀ b46 : Nat, b46 = S38.length →
  ∀ m48 : Mm, m48 = stR m45 a0 7 (some b46) →
  ∀ m49 : Mm, m49 = stI m48 a0 8 (0 : Int32) →
  ∀ m50 : Mm, m50 = stI m49 a0 9 (0 : Int32) →
  K S44 m50
set_option maxHeartbeats 4000000 in
set_option maxRecDepth 100000 in
theorem ok_X1_init {l : Launch} {g : Gg} {S : Ss} {a0 : Nat} {M : Mm} {K : Ss → Mm → Prop} (hs0 : S[a0]? = some (0, 0)) (hf : f_X1_init S a0 M K) : MTC l g S yX1_init cX1_init 1 1 8 96 [.ref (ad g a0)] M K := by
  refine MTC.of (by decide +kernel) (Nat.le_of_ble_eq_true rfl) ?_
  intro p e s m below meth c ls E hin hN hw hR hS hl
  have hl : lv_has ls 1 [(0, .ref (ad g a0))] := hl
  generalize ([.ref (ad g a0)] : List Value).toArray = args at E ⊢
  have E : EN p s m args meth c cX1_init 1 none RX1 g := E
  have hin : meth.name = "<init>" := hin
  have hbs := rp_bs hR hs0
  have exA : EX g g S := EX.rf
  have pxA : PX S S := PX.rf
  unfold f_X1_init at hf
  refine lv_aload_n E.1 E.2.1 dX1_init_0 rfl (lv_at hl 0 rfl) ?_
  refine hw_obj E hl loX1_3 (Nat.le_of_ble_eq_true rfl) (Nat.le_of_ble_eq_true rfl) (Nat.le_of_ble_eq_true rfl) dX1_init_1 ?_
  refine lv_aload_n E.1 E.2.1 dX1_init_4 rfl (lv_at hl 0 rfl) ?_
  refine lv_bipush (v := 12) E.1 E.2.1 dX1_init_5 (by decide) ?_
  obtain ⟨hcl, hln, hf⟩ := hf
  refine hw_newa50 E hR hS hw hbs hcl hln 12 (by decide) (by decide) (by decide) lar50 (Nat.le_of_ble_eq_true rfl) (Nat.le_of_ble_eq_true rfl) dX1_init_7 (fun g1 S2 m3 H ex5 eS2 em3 hR hS => ?_)
  obtain ⟨b4, eb4⟩ : ∃ y, y = S.length := ⟨_, rfl⟩
  rw [← eb4]
  replace hf := hf S2 eS2 m3 em3 b4 eb4
  have hb4 := ex_last eS2 eb4
  have px : PX S S2 := ⟨_, eS2⟩
  have ea := ex5.ad hs0
  (try rw [← ea] at hl)
  (try rw [← ea])
  have hs0 := px.at hs0
  have E := E.ex ex5
  have hw : ad g1 100000 < s.heap.size := by rw [ex5.2.2.2.1]; exact hw
  have hbs : g1.1 ≤ s.heap.size := by rw [ex5.1]; exact hbs
  have exA := exA.tr pxA ex5
  have pxA := pxA.tr px
  refine hw_putFR (o := (some b4)) E hin hR hS hw cI0 hs0 0 (by decide) lfX1_11 rfl rfl rfl dX1_init_9 (fun m6 H locs em6 hR hS => ?_)
  replace hf := hf m6 em6
  refine lv_aload_n E.1 E.2.1 dX1_init_12 rfl (lv_at hl 0 rfl) ?_
  refine lv_bipush (v := 12) E.1 E.2.1 dX1_init_13 (by decide) ?_
  obtain ⟨hcl, hln, hf⟩ := hf
  refine hw_newa50 E hR hS hw hbs hcl hln 12 (by decide) (by decide) (by decide) lar50 (Nat.le_of_ble_eq_true rfl) (Nat.le_of_ble_eq_true rfl) dX1_init_15 (fun g7 S8 m9 H ex11 eS8 em9 hR hS => ?_)
  obtain ⟨b10, eb10⟩ : ∃ y, y = S2.length := ⟨_, rfl⟩
  rw [← eb10]
  replace hf := hf S8 eS8 m9 em9 b10 eb10
  have hb10 := ex_last eS8 eb10
  have px : PX S2 S8 := ⟨_, eS8⟩
  have ea := ex11.ad hs0
  (try rw [← ea] at hl)
  (try rw [← ea])
  have hs0 := px.at hs0
  have hb4 := px.at hb4
  have E := E.ex ex11
  have hw : ad g7 100000 < s.heap.size := by rw [ex11.2.2.2.1]; exact hw
  have hbs : g7.1 ≤ s.heap.size := by rw [ex11.1]; exact hbs
  have exA := exA.tr pxA ex11
  have pxA := pxA.tr px
  refine hw_putFR (o := (some b10)) E hin hR hS hw cI0 hs0 1 (by decide) lfX1_15 rfl rfl rfl dX1_init_17 (fun m12 H locs em12 hR hS => ?_)
  replace hf := hf m12 em12
  refine lv_aload_n E.1 E.2.1 dX1_init_20 rfl (lv_at hl 0 rfl) ?_
  refine lv_bipush (v := 12) E.1 E.2.1 dX1_init_21 (by decide) ?_
  obtain ⟨hcl, hln, hf⟩ := hf
  refine hw_newa50 E hR hS hw hbs hcl hln 12 (by decide) (by decide) (by decide) lar50 (Nat.le_of_ble_eq_true rfl) (Nat.le_of_ble_eq_true rfl) dX1_init_23 (fun g13 S14 m15 H ex17 eS14 em15 hR hS => ?_)
  obtain ⟨b16, eb16⟩ : ∃ y, y = S8.length := ⟨_, rfl⟩
  rw [← eb16]
  replace hf := hf S14 eS14 m15 em15 b16 eb16
  have hb16 := ex_last eS14 eb16
  have px : PX S8 S14 := ⟨_, eS14⟩
  have ea := ex17.ad hs0
  (try rw [← ea] at hl)
  (try rw [← ea])
  have hs0 := px.at hs0
  have hb10 := px.at hb10
  have hb4 := px.at hb4
  have E := E.ex ex17
  have hw : ad g13 100000 < s.heap.size := by rw [ex17.2.2.2.1]; exact hw
  have hbs : g13.1 ≤ s.heap.size := by rw [ex17.1]; exact hbs
  have exA := exA.tr pxA ex17
  have pxA := pxA.tr px
  refine hw_putFR (o := (some b16)) E hin hR hS hw cI0 hs0 2 (by decide) lfX1_18 rfl rfl rfl dX1_init_25 (fun m18 H locs em18 hR hS => ?_)
  replace hf := hf m18 em18
  refine lv_aload_n E.1 E.2.1 dX1_init_28 rfl (lv_at hl 0 rfl) ?_
  refine lv_bipush (v := 12) E.1 E.2.1 dX1_init_29 (by decide) ?_
  obtain ⟨hcl, hln, hf⟩ := hf
  refine hw_newa50 E hR hS hw hbs hcl hln 12 (by decide) (by decide) (by decide) lar50 (Nat.le_of_ble_eq_true rfl) (Nat.le_of_ble_eq_true rfl) dX1_init_31 (fun g19 S20 m21 H ex23 eS20 em21 hR hS => ?_)
  obtain ⟨b22, eb22⟩ : ∃ y, y = S14.length := ⟨_, rfl⟩
  rw [← eb22]
  replace hf := hf S20 eS20 m21 em21 b22 eb22
  have hb22 := ex_last eS20 eb22
  have px : PX S14 S20 := ⟨_, eS20⟩
  have ea := ex23.ad hs0
  (try rw [← ea] at hl)
  (try rw [← ea])
  have hs0 := px.at hs0
  have hb10 := px.at hb10
  have hb16 := px.at hb16
  have hb4 := px.at hb4
  have E := E.ex ex23
  have hw : ad g19 100000 < s.heap.size := by rw [ex23.2.2.2.1]; exact hw
  have hbs : g19.1 ≤ s.heap.size := by rw [ex23.1]; exact hbs
  have exA := exA.tr pxA ex23
  have pxA := pxA.tr px
  refine hw_putFR (o := (some b22)) E hin hR hS hw cI0 hs0 3 (by decide) lfX1_21 rfl rfl rfl dX1_init_33 (fun m24 H locs em24 hR hS => ?_)
  replace hf := hf m24 em24
  refine lv_aload_n E.1 E.2.1 dX1_init_36 rfl (lv_at hl 0 rfl) ?_
  refine lv_bipush (v := 12) E.1 E.2.1 dX1_init_37 (by decide) ?_
  obtain ⟨hcl, hln, hf⟩ := hf
  refine hw_newa50 E hR hS hw hbs hcl hln 12 (by decide) (by decide) (by decide) lar50 (Nat.le_of_ble_eq_true rfl) (Nat.le_of_ble_eq_true rfl) dX1_init_39 (fun g25 S26 m27 H ex29 eS26 em27 hR hS => ?_)
  obtain ⟨b28, eb28⟩ : ∃ y, y = S20.length := ⟨_, rfl⟩
  rw [← eb28]
  replace hf := hf S26 eS26 m27 em27 b28 eb28
  have hb28 := ex_last eS26 eb28
  have px : PX S20 S26 := ⟨_, eS26⟩
  have ea := ex29.ad hs0
  (try rw [← ea] at hl)
  (try rw [← ea])
  have hs0 := px.at hs0
  have hb10 := px.at hb10
  have hb16 := px.at hb16
  have hb22 := px.at hb22
  have hb4 := px.at hb4
  have E := E.ex ex29
  have hw : ad g25 100000 < s.heap.size := by rw [ex29.2.2.2.1]; exact hw
  have hbs : g25.1 ≤ s.heap.size := by rw [ex29.1]; exact hbs
  have exA := exA.tr pxA ex29
  have pxA := pxA.tr px
  refine hw_putFR (o := (some b28)) E hin hR hS hw cI0 hs0 4 (by decide) lfX1_24 rfl rfl rfl dX1_init_41 (fun m30 H locs em30 hR hS => ?_)
  replace hf := hf m30 em30
  refine lv_aload_n E.1 E.2.1 dX1_init_44 rfl (lv_at hl 0 rfl) ?_
  refine lv_bipush (v := 12) E.1 E.2.1 dX1_init_45 (by decide) ?_
  obtain ⟨hcl, hln, hf⟩ := hf
  refine hw_newa50 E hR hS hw hbs hcl hln 12 (by decide) (by decide) (by decide) lar50 (Nat.le_of_ble_eq_true rfl) (Nat.le_of_ble_eq_true rfl) dX1_init_47 (fun g31 S32 m33 H ex35 eS32 em33 hR hS => ?_)
  obtain ⟨b34, eb34⟩ : ∃ y, y = S26.length := ⟨_, rfl⟩
  rw [← eb34]
  replace hf := hf S32 eS32 m33 em33 b34 eb34
  have hb34 := ex_last eS32 eb34
  have px : PX S26 S32 := ⟨_, eS32⟩
  have ea := ex35.ad hs0
  (try rw [← ea] at hl)
  (try rw [← ea])
  have hs0 := px.at hs0
  have hb10 := px.at hb10
  have hb16 := px.at hb16
  have hb22 := px.at hb22
  have hb28 := px.at hb28
  have hb4 := px.at hb4
  have E := E.ex ex35
  have hw : ad g31 100000 < s.heap.size := by rw [ex35.2.2.2.1]; exact hw
  have hbs : g31.1 ≤ s.heap.size := by rw [ex35.1]; exact hbs
  have exA := exA.tr pxA ex35
  have pxA := pxA.tr px
  refine hw_putFR (o := (some b34)) E hin hR hS hw cI0 hs0 5 (by decide) lfX1_27 rfl rfl rfl dX1_init_49 (fun m36 H locs em36 hR hS => ?_)
  replace hf := hf m36 em36
  refine lv_aload_n E.1 E.2.1 dX1_init_52 rfl (lv_at hl 0 rfl) ?_
  refine lv_bipush (v := 12) E.1 E.2.1 dX1_init_53 (by decide) ?_
  obtain ⟨hcl, hln, hf⟩ := hf
  refine hw_newa50 E hR hS hw hbs hcl hln 12 (by decide) (by decide) (by decide) lar50 (Nat.le_of_ble_eq_true rfl) (Nat.le_of_ble_eq_true rfl) dX1_init_55 (fun g37 S38 m39 H ex41 eS38 em39 hR hS => ?_)
  obtain ⟨b40, eb40⟩ : ∃ y, y = S32.length := ⟨_, rfl⟩
  rw [← eb40]
  replace hf := hf S38 eS38 m39 em39 b40 eb40
  have hb40 := ex_last eS38 eb40
  have px : PX S32 S38 := ⟨_, eS38⟩
  have ea := ex41.ad hs0
  (try rw [← ea] at hl)
  (try rw [← ea])
  have hs0 := px.at hs0
  have hb10 := px.at hb10
  have hb16 := px.at hb16
  have hb22 := px.at hb22
  have hb28 := px.at hb28
  have hb34 := px.at hb34
  have hb4 := px.at hb4
  have E := E.ex ex41
  have hw : ad g37 100000 < s.heap.size := by rw [ex41.2.2.2.1]; exact hw
  have hbs : g37.1 ≤ s.heap.size := by rw [ex41.1]; exact hbs
  have exA := exA.tr pxA ex41
  have pxA := pxA.tr px
  refine hw_putFR (o := (some b40)) E hin hR hS hw cI0 hs0 6 (by decide) lfX1_30 rfl rfl rfl dX1_init_57 (fun m42 H locs em42 hR hS => ?_)
  replace hf := hf m42 em42
  refine lv_aload_n E.1 E.2.1 dX1_init_60 rfl (lv_at hl 0 rfl) ?_
  refine lv_bipush (v := 12) E.1 E.2.1 dX1_init_61 (by decide) ?_
  obtain ⟨hcl, hln, hf⟩ := hf
  refine hw_newa50 E hR hS hw hbs hcl hln 12 (by decide) (by decide) (by decide) lar50 (Nat.le_of_ble_eq_true rfl) (Nat.le_of_ble_eq_true rfl) dX1_init_63 (fun g43 S44 m45 H ex47 eS44 em45 hR hS => ?_)
  obtain ⟨b46, eb46⟩ : ∃ y, y = S38.length := ⟨_, rfl⟩
  rw [← eb46]
  replace hf := hf S44 eS44 m45 em45 b46 eb46
  have hb46 := ex_last eS44 eb46
  have px : PX S38 S44 := ⟨_, eS44⟩
  have ea := ex47.ad hs0
  (try rw [← ea] at hl)
  (try rw [← ea])
  have hs0 := px.at hs0
  have hb10 := px.at hb10
  have hb16 := px.at hb16
  have hb22 := px.at hb22
  have hb28 := px.at hb28
  have hb34 := px.at hb34
  have hb4 := px.at hb4
  have hb40 := px.at hb40
  have E := E.ex ex47
  have hw : ad g43 100000 < s.heap.size := by rw [ex47.2.2.2.1]; exact hw
  have hbs : g43.1 ≤ s.heap.size := by rw [ex47.1]; exact hbs
  have exA := exA.tr pxA ex47
  have pxA := pxA.tr px
  refine hw_putFR (o := (some b46)) E hin hR hS hw cI0 hs0 7 (by decide) lfX1_33 rfl rfl rfl dX1_init_65 (fun m48 H locs em48 hR hS => ?_)
  replace hf := hf m48 em48
  refine lv_aload_n E.1 E.2.1 dX1_init_68 rfl (lv_at hl 0 rfl) ?_
  refine lv_iconst (v := 0) E.1 E.2.1 dX1_init_69 (by decide) ?_
  refine hw_putI E hR hS hw cI0 hs0 8 (by decide) lfX1_36 rfl (Or.inl rfl) dX1_init_70 (fun m49 H locs em49 hR hS => ?_)
  replace hf := hf m49 em49
  refine lv_aload_n E.1 E.2.1 dX1_init_73 rfl (lv_at hl 0 rfl) ?_
  refine lv_iconst (v := 0) E.1 E.2.1 dX1_init_74 (by decide) ?_
  refine hw_putI E hR hS hw cI0 hs0 9 (by decide) lfX1_40 rfl (Or.inl rfl) dX1_init_75 (fun m50 H locs em50 hR hS => ?_)
  replace hf := hf m50 em50
  refine W.widen (k := 8) (n := 96) (Nat.le_of_ble_eq_true rfl) (Nat.le_of_ble_eq_true rfl) ?_
  exact hw_vretC E exA pxA hR hS hf dX1_init_78
set_option maxRecDepth 100000 in
set_option maxHeartbeats 4000000 in
def f_X2_init (S : Ss) (a0 : Nat) (M : Mm) (K : Ss → Mm → Prop) : Prop :=
  CL S M ∧ S.length < 100000 ∧
  ∀ S2 : Ss, S2 = S ++ [(3, 0)] → ∀ m3 : Mm, m3 = zr M S.length → ∀ b4 : Nat, b4 = S.length →
  f_X4_init S2 b4 m3 (fun (S7 : Ss) (m8 : Mm) => PX S2 S7 →
  ∀ m10 : Mm, m10 = stR m8 a0 0 (some b4) →
  CL S7 m10 ∧ S7.length < 100000 ∧
  ∀ S12 : Ss, S12 = S7 ++ [(50, 4)] → ∀ m13 : Mm, m13 = zr m10 S7.length → ∀ b14 : Nat, b14 = S7.length →
  ∀ m16 : Mm, m16 = stR m13 a0 1 (some b14) →
  ∀ m17 : Mm, m17 = stI m16 a0 2 (0 : Int32) →
  ∀ m18 : Mm, m18 = stI m17 a0 3 (0 : Int32) →
  ∀ m19 : Mm, m19 = stI m18 a0 4 (0 : Int32) →
  K S12 m19)
set_option maxHeartbeats 4000000 in
set_option maxRecDepth 100000 in
theorem ok_X2_init {l : Launch} {g : Gg} {S : Ss} {a0 : Nat} {M : Mm} {K : Ss → Mm → Prop} (hs0 : S[a0]? = some (1, 0)) (hf : f_X2_init S a0 M K) : MTC l g S yX2_init cX2_init 1 2 2 11 [.ref (ad g a0)] M K := by
  refine MTC.of (by decide +kernel) (Nat.le_of_ble_eq_true rfl) ?_
  intro p e s m below meth c ls E hin hN hw hR hS hl
  have hl : lv_has ls 1 [(0, .ref (ad g a0))] := hl
  generalize ([.ref (ad g a0)] : List Value).toArray = args at E ⊢
  have E : EN p s m args meth c cX2_init 1 none RX2 g := E
  have hin : meth.name = "<init>" := hin
  have hbs := rp_bs hR hs0
  have exA : EX g g S := EX.rf
  have pxA : PX S S := PX.rf
  unfold f_X2_init at hf
  refine lv_aload_n E.1 E.2.1 dX2_init_0 rfl (lv_at hl 0 rfl) ?_
  refine hw_obj E hl loX2_3 (Nat.le_of_ble_eq_true rfl) (Nat.le_of_ble_eq_true rfl) (Nat.le_of_ble_eq_true rfl) dX2_init_1 ?_
  refine lv_aload_n E.1 E.2.1 dX2_init_4 rfl (lv_at hl 0 rfl) ?_
  obtain ⟨hcl, hln, hf⟩ := hf
  refine hw_new E hR hS hw hbs hcl hln cI3 cd3 lnX2_9 (Nat.le_of_ble_eq_true rfl) (Nat.le_of_ble_eq_true rfl) dX2_init_5 (fun g1 S2 m3 H ex5 eS2 em3 hR hS => ?_)
  obtain ⟨b4, eb4⟩ : ∃ y, y = S.length := ⟨_, rfl⟩
  rw [← eb4]
  replace hf := hf S2 eS2 m3 em3 b4 eb4
  have hb4 := ex_last eS2 eb4
  have px : PX S S2 := ⟨_, eS2⟩
  have ea := ex5.ad hs0
  (try rw [← ea] at hl)
  (try rw [← ea])
  have hs0 := px.at hs0
  have E := E.ex ex5
  have hw : ad g1 100000 < s.heap.size := by rw [ex5.2.2.2.1]; exact hw
  have hbs : g1.1 ≤ s.heap.size := by rw [ex5.1]; exact hbs
  have exA := exA.tr pxA ex5
  have pxA := pxA.tr px
  refine lv_dup E.1 E.2.1 dX2_init_8 rfl ?_
  refine hw_callC (rest := [.ref (ad g1 b4), .ref (ad g1 a0)]) E hR hS hN mcX4_init rfl miX4_init (Or.inl (by decide +kernel)) (ok_X4_init hb4 hf) rfl (Nat.le_of_ble_eq_true rfl) (Nat.le_of_ble_eq_true rfl) (Nat.le_of_ble_eq_true rfl) (Nat.le_of_ble_eq_true rfl) hl.1 (Nat.le_of_ble_eq_true rfl) dX2_init_9 (fun g6 S7 m8 H locs ex9 px hf hR hS => ?_)
  replace hf := hf px
  have ea := ex9.ad hs0
  (try rw [← ea] at hl)
  (try rw [← ea])
  have ea := ex9.ad hb4
  (try rw [← ea] at hl)
  (try rw [← ea])
  have hs0 := px.at hs0
  have hb4 := px.at hb4
  have E := E.ex ex9
  have hw : ad g6 100000 < s.heap.size := by rw [ex9.2.2.2.1]; exact hw
  have hbs : g6.1 ≤ s.heap.size := by rw [ex9.1]; exact hbs
  have exA := exA.tr pxA ex9
  have pxA := pxA.tr px
  refine hw_putFR (o := (some b4)) E hin hR hS hw cI1 hs0 0 (by decide) lfX2_12 rfl rfl rfl dX2_init_12 (fun m10 H locs em10 hR hS => ?_)
  replace hf := hf m10 em10
  refine lv_aload_n E.1 E.2.1 dX2_init_15 rfl (lv_at hl 0 rfl) ?_
  refine lv_iconst (v := 4) E.1 E.2.1 dX2_init_16 (by decide) ?_
  obtain ⟨hcl, hln, hf⟩ := hf
  refine hw_newa50 E hR hS hw hbs hcl hln 4 (by decide) (by decide) (by decide) lar50 (Nat.le_of_ble_eq_true rfl) (Nat.le_of_ble_eq_true rfl) dX2_init_17 (fun g11 S12 m13 H ex15 eS12 em13 hR hS => ?_)
  obtain ⟨b14, eb14⟩ : ∃ y, y = S7.length := ⟨_, rfl⟩
  rw [← eb14]
  replace hf := hf S12 eS12 m13 em13 b14 eb14
  have hb14 := ex_last eS12 eb14
  have px : PX S7 S12 := ⟨_, eS12⟩
  have ea := ex15.ad hs0
  (try rw [← ea] at hl)
  (try rw [← ea])
  have hs0 := px.at hs0
  have hb4 := px.at hb4
  have E := E.ex ex15
  have hw : ad g11 100000 < s.heap.size := by rw [ex15.2.2.2.1]; exact hw
  have hbs : g11.1 ≤ s.heap.size := by rw [ex15.1]; exact hbs
  have exA := exA.tr pxA ex15
  have pxA := pxA.tr px
  refine hw_putFR (o := (some b14)) E hin hR hS hw cI1 hs0 1 (by decide) lfX2_18 rfl rfl rfl dX2_init_19 (fun m16 H locs em16 hR hS => ?_)
  replace hf := hf m16 em16
  refine lv_aload_n E.1 E.2.1 dX2_init_22 rfl (lv_at hl 0 rfl) ?_
  refine lv_iconst (v := 0) E.1 E.2.1 dX2_init_23 (by decide) ?_
  refine hw_putI E hR hS hw cI1 hs0 2 (by decide) lfX2_22 rfl (Or.inl rfl) dX2_init_24 (fun m17 H locs em17 hR hS => ?_)
  replace hf := hf m17 em17
  refine lv_aload_n E.1 E.2.1 dX2_init_27 rfl (lv_at hl 0 rfl) ?_
  refine lv_iconst (v := 0) E.1 E.2.1 dX2_init_28 (by decide) ?_
  refine hw_putI E hR hS hw cI1 hs0 3 (by decide) lfX2_26 rfl (Or.inl rfl) dX2_init_29 (fun m18 H locs em18 hR hS => ?_)
  replace hf := hf m18 em18
  refine lv_aload_n E.1 E.2.1 dX2_init_32 rfl (lv_at hl 0 rfl) ?_
  refine lv_iconst (v := 0) E.1 E.2.1 dX2_init_33 (by decide) ?_
  refine hw_putI E hR hS hw cI1 hs0 4 (by decide) lfX2_29 rfl (Or.inr ⟨rfl, by decide⟩) dX2_init_34 (fun m19 H locs em19 hR hS => ?_)
  replace hf := hf m19 em19
  refine W.widen (k := 2) (n := 11) (Nat.le_of_ble_eq_true rfl) (Nat.le_of_ble_eq_true rfl) ?_
  exact hw_vretC E exA pxA hR hS hf dX2_init_37
set_option maxRecDepth 100000 in
set_option maxHeartbeats 4000000 in
def f_X3_init (S : Ss) (a0 : Nat) (M : Mm) (K : Ss → Mm → Prop) : Prop :=
  CL S M ∧ S.length < 100000 ∧
  ∀ S2 : Ss, S2 = S ++ [(55, 4)] → ∀ m3 : Mm, m3 = zr M S.length → ∀ b4 : Nat, b4 = S.length →
  ∀ m6 : Mm, m6 = stR m3 a0 0 (some b4) →
  CL S2 m6 ∧ S2.length < 100000 ∧
  ∀ S8 : Ss, S8 = S2 ++ [(55, 3)] → ∀ m9 : Mm, m9 = zr m6 S2.length → ∀ b10 : Nat, b10 = S2.length →
  ∀ m12 : Mm, m12 = stR m9 a0 1 (some b10) →
  CL S8 m12 ∧ S8.length < 100000 ∧
  ∀ S14 : Ss, S14 = S8 ++ [(55, 5)] → ∀ m15 : Mm, m15 = zr m12 S8.length → ∀ b16 : Nat, b16 = S8.length →
  ∀ m18 : Mm, m18 = stR m15 a0 2 (some b16) →
  CL S14 m18 ∧ S14.length < 100000 ∧
  ∀ S20 : Ss, S20 = S14 ++ [(50, 5)] → ∀ m21 : Mm, m21 = zr m18 S14.length → ∀ b22 : Nat, b22 = S14.length →
  ∀ m24 : Mm, m24 = stR m21 a0 3 (some b22) →
  CL S20 m24 ∧ S20.length < 100000 ∧
  ∀ S26 : Ss, S26 = S20 ++ [(50, 5)] → ∀ m27 : Mm, m27 = zr m24 S20.length → ∀ b28 : Nat, b28 = S20.length →
  ∀ m30 : Mm, m30 = stR m27 a0 4 (some b28) →
  CL S26 m30 ∧ S26.length < 100000 ∧
  ∀ S32 : Ss, S32 = S26 ++ [(55, 64)] → ∀ m33 : Mm, m33 = zr m30 S26.length → ∀ b34 : Nat, b34 = S26.length →
  ∀ m36 : Mm, m36 = stR m33 a0 5 (some b34) →
  CL S32 m36 ∧ S32.length < 100000 ∧
  ∀ S38 : Ss, S38 = S32 ++ [(50, 4)] → ∀ m39 : Mm, m39 = zr m36 S32.length → ∀ b40 : Nat, b40 = S32.length →
  ∃ i43n : Nat, S38[b40]? = some (50, i43n) ∧ vp_in (0 : Int32) i43n ∧
  ∀ m42 : Mm, m42 = stI m39 b40 (0 : Int32).toNatClampNeg (3 : Int32) →
  ∃ i45n : Nat, S38[b40]? = some (50, i45n) ∧ vp_in (1 : Int32) i45n ∧
  ∀ m44 : Mm, m44 = stI m42 b40 (1 : Int32).toNatClampNeg (3 : Int32) →
  ∃ i47n : Nat, S38[b40]? = some (50, i47n) ∧ vp_in (2 : Int32) i47n ∧
  ∀ m46 : Mm, m46 = stI m44 b40 (2 : Int32).toNatClampNeg (3 : Int32) →
  ∃ i49n : Nat, S38[b40]? = some (50, i49n) ∧ vp_in (3 : Int32) i49n ∧
  ∀ m48 : Mm, m48 = stI m46 b40 (3 : Int32).toNatClampNeg (3 : Int32) →
  ∀ m50 : Mm, m50 = stR m48 a0 6 (some b40) →
  CL S38 m50 ∧ S38.length < 100000 ∧
  ∀ S52 : Ss, S52 = S38 ++ [(50, 64)] → ∀ m53 : Mm, m53 = zr m50 S38.length → ∀ b54 : Nat, b54 = S38.length →
  ∀ m56 : Mm, m56 = stR m53 a0 7 (some b54) →
  CL S52 m56 ∧ S52.length < 100000 ∧
  ∀ S58 : Ss, S58 = S52 ++ [(4, 0)] → ∀ m59 : Mm, m59 = zr m56 S52.length → ∀ b60 : Nat, b60 = S52.length →
  f_X5_init S58 b60 m59 (fun (S63 : Ss) (m64 : Mm) => PX S58 S63 →
  ∀ m66 : Mm, m66 = stR m64 a0 8 (some b60) →
  CL S63 m66 ∧ S63.length < 100000 ∧
  ∀ S68 : Ss, S68 = S63 ++ [(4, 0)] → ∀ m69 : Mm, m69 = zr m66 S63.length → ∀ b70 : Nat, b70 = S63.length →
  f_X5_init S68 b70 m69 (fun (S73 : Ss) (m74 : Mm) => PX S68 S73 →
  ∀ m76 : Mm, m76 = stR m74 a0 9 (some b70) →
  ∀ m77 : Mm, m77 = stI m76 a0 10 (0 : Int32) →
  ∀ m78 : Mm, m78 = stI m77 a0 11 (0 : Int32) →
  ∀ m79 : Mm, m79 = stI m78 a0 12 (0 : Int32) →
  ∀ m80 : Mm, m80 = stI m79 a0 13 (2 : Int32) →
  ∀ m81 : Mm, m81 = stI m80 a0 14 (0 : Int32) →
  ∃ b83 : Nat, m81.2.2 a0 0 = some b83 ∧
  ∃ n84 : Nat, S73[b83]? = some (55, n84) ∧
  CL S73 m81 ∧ S73.length < 100000 ∧
  ∀ S87 : Ss, S87 = S73 ++ [(4, 0)] → ∀ m88 : Mm, m88 = zr m81 S73.length → ∀ b89 : Nat, b89 = S73.length →
  f_X5_init S87 b89 m88 (fun (S92 : Ss) (m93 : Mm) => PX S87 S92 →
  ∃ i96n : Nat, S92[b83]? = some (55, i96n) ∧ vp_in (0 : Int32) i96n ∧
  ∀ m95 : Mm, m95 = stR m93 b83 (0 : Int32).toNatClampNeg (some b89) →
  ∃ b98 : Nat, m95.2.2 a0 0 = some b98 ∧
  ∃ n99 : Nat, S92[b98]? = some (55, n99) ∧
  CL S92 m95 ∧ S92.length < 100000 ∧
  ∀ S102 : Ss, S102 = S92 ++ [(4, 0)] → ∀ m103 : Mm, m103 = zr m95 S92.length → ∀ b104 : Nat, b104 = S92.length →
  f_X5_init S102 b104 m103 (fun (S107 : Ss) (m108 : Mm) => PX S102 S107 →
  ∃ i111n : Nat, S107[b98]? = some (55, i111n) ∧ vp_in (1 : Int32) i111n ∧
  ∀ m110 : Mm, m110 = stR m108 b98 (1 : Int32).toNatClampNeg (some b104) →
  ∃ b113 : Nat, m110.2.2 a0 0 = some b113 ∧
  ∃ n114 : Nat, S107[b113]? = some (55, n114) ∧
  CL S107 m110 ∧ S107.length < 100000 ∧
  ∀ S117 : Ss, S117 = S107 ++ [(4, 0)] → ∀ m118 : Mm, m118 = zr m110 S107.length → ∀ b119 : Nat, b119 = S107.length →
  f_X5_init S117 b119 m118 (fun (S122 : Ss) (m123 : Mm) => PX S117 S122 →
  ∃ i126n : Nat, S122[b113]? = some (55, i126n) ∧ vp_in (2 : Int32) i126n ∧
  ∀ m125 : Mm, m125 = stR m123 b113 (2 : Int32).toNatClampNeg (some b119) →
  ∃ b128 : Nat, m125.2.2 a0 0 = some b128 ∧
  ∃ n129 : Nat, S122[b128]? = some (55, n129) ∧
  CL S122 m125 ∧ S122.length < 100000 ∧
  ∀ S132 : Ss, S132 = S122 ++ [(4, 0)] → ∀ m133 : Mm, m133 = zr m125 S122.length → ∀ b134 : Nat, b134 = S122.length →
  f_X5_init S132 b134 m133 (fun (S137 : Ss) (m138 : Mm) => PX S132 S137 →
  ∃ i141n : Nat, S137[b128]? = some (55, i141n) ∧ vp_in (3 : Int32) i141n ∧
  ∀ m140 : Mm, m140 = stR m138 b128 (3 : Int32).toNatClampNeg (some b134) →
  ∃ b144 : Nat, m140.2.2 a0 1 = some b144 ∧
  ∃ n145 : Nat, S137[b144]? = some (55, n145) ∧
  CL S137 m140 ∧ S137.length < 100000 ∧
  ∀ S148 : Ss, S148 = S137 ++ [(4, 0)] → ∀ m149 : Mm, m149 = zr m140 S137.length → ∀ b150 : Nat, b150 = S137.length →
  f_X5_init S148 b150 m149 (fun (S153 : Ss) (m154 : Mm) => PX S148 S153 →
  ∃ i157n : Nat, S153[b144]? = some (55, i157n) ∧ vp_in (0 : Int32) i157n ∧
  ∀ m156 : Mm, m156 = stR m154 b144 (0 : Int32).toNatClampNeg (some b150) →
  ∃ b159 : Nat, m156.2.2 a0 1 = some b159 ∧
  ∃ n160 : Nat, S153[b159]? = some (55, n160) ∧
  CL S153 m156 ∧ S153.length < 100000 ∧
  ∀ S163 : Ss, S163 = S153 ++ [(4, 0)] → ∀ m164 : Mm, m164 = zr m156 S153.length → ∀ b165 : Nat, b165 = S153.length →
  f_X5_init S163 b165 m164 (fun (S168 : Ss) (m169 : Mm) => PX S163 S168 →
  ∃ i172n : Nat, S168[b159]? = some (55, i172n) ∧ vp_in (1 : Int32) i172n ∧
  ∀ m171 : Mm, m171 = stR m169 b159 (1 : Int32).toNatClampNeg (some b165) →
  ∃ b174 : Nat, m171.2.2 a0 1 = some b174 ∧
  ∃ n175 : Nat, S168[b174]? = some (55, n175) ∧
  CL S168 m171 ∧ S168.length < 100000 ∧
  ∀ S178 : Ss, S178 = S168 ++ [(4, 0)] → ∀ m179 : Mm, m179 = zr m171 S168.length → ∀ b180 : Nat, b180 = S168.length →
  f_X5_init S178 b180 m179 (fun (S183 : Ss) (m184 : Mm) => PX S178 S183 →
  ∃ i187n : Nat, S183[b174]? = some (55, i187n) ∧ vp_in (2 : Int32) i187n ∧
  ∀ m186 : Mm, m186 = stR m184 b174 (2 : Int32).toNatClampNeg (some b180) →
  ∃ b190 : Nat, m186.2.2 a0 2 = some b190 ∧
  ∃ n191 : Nat, S183[b190]? = some (55, n191) ∧
  CL S183 m186 ∧ S183.length < 100000 ∧
  ∀ S194 : Ss, S194 = S183 ++ [(4, 0)] → ∀ m195 : Mm, m195 = zr m186 S183.length → ∀ b196 : Nat, b196 = S183.length →
  f_X5_init S194 b196 m195 (fun (S199 : Ss) (m200 : Mm) => PX S194 S199 →
  ∃ i203n : Nat, S199[b190]? = some (55, i203n) ∧ vp_in (0 : Int32) i203n ∧
  ∀ m202 : Mm, m202 = stR m200 b190 (0 : Int32).toNatClampNeg (some b196) →
  ∃ b205 : Nat, m202.2.2 a0 2 = some b205 ∧
  ∃ n206 : Nat, S199[b205]? = some (55, n206) ∧
  CL S199 m202 ∧ S199.length < 100000 ∧
  ∀ S209 : Ss, S209 = S199 ++ [(4, 0)] → ∀ m210 : Mm, m210 = zr m202 S199.length → ∀ b211 : Nat, b211 = S199.length →
  f_X5_init S209 b211 m210 (fun (S214 : Ss) (m215 : Mm) => PX S209 S214 →
  ∃ i218n : Nat, S214[b205]? = some (55, i218n) ∧ vp_in (1 : Int32) i218n ∧
  ∀ m217 : Mm, m217 = stR m215 b205 (1 : Int32).toNatClampNeg (some b211) →
  ∃ b220 : Nat, m217.2.2 a0 2 = some b220 ∧
  ∃ n221 : Nat, S214[b220]? = some (55, n221) ∧
  CL S214 m217 ∧ S214.length < 100000 ∧
  ∀ S224 : Ss, S224 = S214 ++ [(4, 0)] → ∀ m225 : Mm, m225 = zr m217 S214.length → ∀ b226 : Nat, b226 = S214.length →
  f_X5_init S224 b226 m225 (fun (S229 : Ss) (m230 : Mm) => PX S224 S229 →
  ∃ i233n : Nat, S229[b220]? = some (55, i233n) ∧ vp_in (2 : Int32) i233n ∧
  ∀ m232 : Mm, m232 = stR m230 b220 (2 : Int32).toNatClampNeg (some b226) →
  ∃ b235 : Nat, m232.2.2 a0 2 = some b235 ∧
  ∃ n236 : Nat, S229[b235]? = some (55, n236) ∧
  CL S229 m232 ∧ S229.length < 100000 ∧
  ∀ S239 : Ss, S239 = S229 ++ [(4, 0)] → ∀ m240 : Mm, m240 = zr m232 S229.length → ∀ b241 : Nat, b241 = S229.length →
  f_X5_init S239 b241 m240 (fun (S244 : Ss) (m245 : Mm) => PX S239 S244 →
  ∃ i248n : Nat, S244[b235]? = some (55, i248n) ∧ vp_in (3 : Int32) i248n ∧
  ∀ m247 : Mm, m247 = stR m245 b235 (3 : Int32).toNatClampNeg (some b241) →
  ∃ b250 : Nat, m247.2.2 a0 2 = some b250 ∧
  ∃ n251 : Nat, S244[b250]? = some (55, n251) ∧
  CL S244 m247 ∧ S244.length < 100000 ∧
  ∀ S254 : Ss, S254 = S244 ++ [(4, 0)] → ∀ m255 : Mm, m255 = zr m247 S244.length → ∀ b256 : Nat, b256 = S244.length →
  f_X5_init S254 b256 m255 (fun (S259 : Ss) (m260 : Mm) => PX S254 S259 →
  ∃ i263n : Nat, S259[b250]? = some (55, i263n) ∧ vp_in (4 : Int32) i263n ∧
  ∀ m262 : Mm, m262 = stR m260 b250 (4 : Int32).toNatClampNeg (some b256) →
  K S259 m262))))))))))))))
set_option maxHeartbeats 4000000 in
set_option maxRecDepth 100000 in
theorem ok_X3_init {l : Launch} {g : Gg} {S : Ss} {a0 : Nat} {M : Mm} {K : Ss → Mm → Prop} (hs0 : S[a0]? = some (2, 0)) (hf : f_X3_init S a0 M K) : MTC l g S yX3_init cX3_init 2 2 92 2632 [.ref (ad g a0)] M K := by
  refine MTC.of (by decide +kernel) (Nat.le_of_ble_eq_true rfl) ?_
  intro p e s m below meth c ls E hin hN hw hR hS hl
  have hl : lv_has ls 2 [(0, .ref (ad g a0))] := hl
  generalize ([.ref (ad g a0)] : List Value).toArray = args at E ⊢
  have E : EN p s m args meth c cX3_init 2 none RX3 g := E
  have hin : meth.name = "<init>" := hin
  have hbs := rp_bs hR hs0
  have exA : EX g g S := EX.rf
  have pxA : PX S S := PX.rf
  unfold f_X3_init at hf
  refine lv_aload_n E.1 E.2.1 dX3_init_0 rfl (lv_at hl 0 rfl) ?_
  refine hw_obj E hl loX3_3 (Nat.le_of_ble_eq_true rfl) (Nat.le_of_ble_eq_true rfl) (Nat.le_of_ble_eq_true rfl) dX3_init_1 ?_
  refine lv_aload_n E.1 E.2.1 dX3_init_4 rfl (lv_at hl 0 rfl) ?_
  refine lv_iconst (v := 4) E.1 E.2.1 dX3_init_5 (by decide) ?_
  obtain ⟨hcl, hln, hf⟩ := hf
  refine hw_newa55 E hR hS hw hbs hcl hln 4 (by decide) (by decide) (by decide) lqX3_9 hN.2.2 (Nat.le_of_ble_eq_true rfl) (Nat.le_of_ble_eq_true rfl) dX3_init_6 (fun g1 S2 m3 H ex5 eS2 em3 hR hS => ?_)
  obtain ⟨b4, eb4⟩ : ∃ y, y = S.length := ⟨_, rfl⟩
  rw [← eb4]
  replace hf := hf S2 eS2 m3 em3 b4 eb4
  have hb4 := ex_last eS2 eb4
  have px : PX S S2 := ⟨_, eS2⟩
  have ea := ex5.ad hs0
  (try rw [← ea] at hl)
  (try rw [← ea])
  have hs0 := px.at hs0
  have E := E.ex ex5
  have hw : ad g1 100000 < s.heap.size := by rw [ex5.2.2.2.1]; exact hw
  have hbs : g1.1 ≤ s.heap.size := by rw [ex5.1]; exact hbs
  have exA := exA.tr pxA ex5
  have pxA := pxA.tr px
  refine hw_putFR (o := (some b4)) E hin hR hS hw cI2 hs0 0 (by decide) lfX3_11 rfl rfl rfl dX3_init_9 (fun m6 H locs em6 hR hS => ?_)
  replace hf := hf m6 em6
  refine lv_aload_n E.1 E.2.1 dX3_init_12 rfl (lv_at hl 0 rfl) ?_
  refine lv_iconst (v := 3) E.1 E.2.1 dX3_init_13 (by decide) ?_
  obtain ⟨hcl, hln, hf⟩ := hf
  refine hw_newa55 E hR hS hw hbs hcl hln 3 (by decide) (by decide) (by decide) lqX3_9 hN.2.2 (Nat.le_of_ble_eq_true rfl) (Nat.le_of_ble_eq_true rfl) dX3_init_14 (fun g7 S8 m9 H ex11 eS8 em9 hR hS => ?_)
  obtain ⟨b10, eb10⟩ : ∃ y, y = S2.length := ⟨_, rfl⟩
  rw [← eb10]
  replace hf := hf S8 eS8 m9 em9 b10 eb10
  have hb10 := ex_last eS8 eb10
  have px : PX S2 S8 := ⟨_, eS8⟩
  have ea := ex11.ad hs0
  (try rw [← ea] at hl)
  (try rw [← ea])
  have hs0 := px.at hs0
  have hb4 := px.at hb4
  have E := E.ex ex11
  have hw : ad g7 100000 < s.heap.size := by rw [ex11.2.2.2.1]; exact hw
  have hbs : g7.1 ≤ s.heap.size := by rw [ex11.1]; exact hbs
  have exA := exA.tr pxA ex11
  have pxA := pxA.tr px
  refine hw_putFR (o := (some b10)) E hin hR hS hw cI2 hs0 1 (by decide) lfX3_17 rfl rfl rfl dX3_init_17 (fun m12 H locs em12 hR hS => ?_)
  replace hf := hf m12 em12
  refine lv_aload_n E.1 E.2.1 dX3_init_20 rfl (lv_at hl 0 rfl) ?_
  refine lv_iconst (v := 5) E.1 E.2.1 dX3_init_21 (by decide) ?_
  obtain ⟨hcl, hln, hf⟩ := hf
  refine hw_newa55 E hR hS hw hbs hcl hln 5 (by decide) (by decide) (by decide) lqX3_9 hN.2.2 (Nat.le_of_ble_eq_true rfl) (Nat.le_of_ble_eq_true rfl) dX3_init_22 (fun g13 S14 m15 H ex17 eS14 em15 hR hS => ?_)
  obtain ⟨b16, eb16⟩ : ∃ y, y = S8.length := ⟨_, rfl⟩
  rw [← eb16]
  replace hf := hf S14 eS14 m15 em15 b16 eb16
  have hb16 := ex_last eS14 eb16
  have px : PX S8 S14 := ⟨_, eS14⟩
  have ea := ex17.ad hs0
  (try rw [← ea] at hl)
  (try rw [← ea])
  have hs0 := px.at hs0
  have hb10 := px.at hb10
  have hb4 := px.at hb4
  have E := E.ex ex17
  have hw : ad g13 100000 < s.heap.size := by rw [ex17.2.2.2.1]; exact hw
  have hbs : g13.1 ≤ s.heap.size := by rw [ex17.1]; exact hbs
  have exA := exA.tr pxA ex17
  have pxA := pxA.tr px
  refine hw_putFR (o := (some b16)) E hin hR hS hw cI2 hs0 2 (by decide) lfX3_20 rfl rfl rfl dX3_init_25 (fun m18 H locs em18 hR hS => ?_)
  replace hf := hf m18 em18
  refine lv_aload_n E.1 E.2.1 dX3_init_28 rfl (lv_at hl 0 rfl) ?_
  refine lv_iconst (v := 5) E.1 E.2.1 dX3_init_29 (by decide) ?_
  obtain ⟨hcl, hln, hf⟩ := hf
  refine hw_newa50 E hR hS hw hbs hcl hln 5 (by decide) (by decide) (by decide) lar50 (Nat.le_of_ble_eq_true rfl) (Nat.le_of_ble_eq_true rfl) dX3_init_30 (fun g19 S20 m21 H ex23 eS20 em21 hR hS => ?_)
  obtain ⟨b22, eb22⟩ : ∃ y, y = S14.length := ⟨_, rfl⟩
  rw [← eb22]
  replace hf := hf S20 eS20 m21 em21 b22 eb22
  have hb22 := ex_last eS20 eb22
  have px : PX S14 S20 := ⟨_, eS20⟩
  have ea := ex23.ad hs0
  (try rw [← ea] at hl)
  (try rw [← ea])
  have hs0 := px.at hs0
  have hb10 := px.at hb10
  have hb16 := px.at hb16
  have hb4 := px.at hb4
  have E := E.ex ex23
  have hw : ad g19 100000 < s.heap.size := by rw [ex23.2.2.2.1]; exact hw
  have hbs : g19.1 ≤ s.heap.size := by rw [ex23.1]; exact hbs
  have exA := exA.tr pxA ex23
  have pxA := pxA.tr px
  refine hw_putFR (o := (some b22)) E hin hR hS hw cI2 hs0 3 (by decide) lfX3_23 rfl rfl rfl dX3_init_32 (fun m24 H locs em24 hR hS => ?_)
  replace hf := hf m24 em24
  refine lv_aload_n E.1 E.2.1 dX3_init_35 rfl (lv_at hl 0 rfl) ?_
  refine lv_iconst (v := 5) E.1 E.2.1 dX3_init_36 (by decide) ?_
  obtain ⟨hcl, hln, hf⟩ := hf
  refine hw_newa50 E hR hS hw hbs hcl hln 5 (by decide) (by decide) (by decide) lar50 (Nat.le_of_ble_eq_true rfl) (Nat.le_of_ble_eq_true rfl) dX3_init_37 (fun g25 S26 m27 H ex29 eS26 em27 hR hS => ?_)
  obtain ⟨b28, eb28⟩ : ∃ y, y = S20.length := ⟨_, rfl⟩
  rw [← eb28]
  replace hf := hf S26 eS26 m27 em27 b28 eb28
  have hb28 := ex_last eS26 eb28
  have px : PX S20 S26 := ⟨_, eS26⟩
  have ea := ex29.ad hs0
  (try rw [← ea] at hl)
  (try rw [← ea])
  have hs0 := px.at hs0
  have hb10 := px.at hb10
  have hb16 := px.at hb16
  have hb22 := px.at hb22
  have hb4 := px.at hb4
  have E := E.ex ex29
  have hw : ad g25 100000 < s.heap.size := by rw [ex29.2.2.2.1]; exact hw
  have hbs : g25.1 ≤ s.heap.size := by rw [ex29.1]; exact hbs
  have exA := exA.tr pxA ex29
  have pxA := pxA.tr px
  refine hw_putFR (o := (some b28)) E hin hR hS hw cI2 hs0 4 (by decide) lfX3_27 rfl rfl rfl dX3_init_39 (fun m30 H locs em30 hR hS => ?_)
  replace hf := hf m30 em30
  refine lv_aload_n E.1 E.2.1 dX3_init_42 rfl (lv_at hl 0 rfl) ?_
  refine lv_bipush (v := 64) E.1 E.2.1 dX3_init_43 (by decide) ?_
  obtain ⟨hcl, hln, hf⟩ := hf
  refine hw_newa55 E hR hS hw hbs hcl hln 64 (by decide) (by decide) (by decide) lqX3_9 hN.2.2 (Nat.le_of_ble_eq_true rfl) (Nat.le_of_ble_eq_true rfl) dX3_init_45 (fun g31 S32 m33 H ex35 eS32 em33 hR hS => ?_)
  obtain ⟨b34, eb34⟩ : ∃ y, y = S26.length := ⟨_, rfl⟩
  rw [← eb34]
  replace hf := hf S32 eS32 m33 em33 b34 eb34
  have hb34 := ex_last eS32 eb34
  have px : PX S26 S32 := ⟨_, eS32⟩
  have ea := ex35.ad hs0
  (try rw [← ea] at hl)
  (try rw [← ea])
  have hs0 := px.at hs0
  have hb10 := px.at hb10
  have hb16 := px.at hb16
  have hb22 := px.at hb22
  have hb28 := px.at hb28
  have hb4 := px.at hb4
  have E := E.ex ex35
  have hw : ad g31 100000 < s.heap.size := by rw [ex35.2.2.2.1]; exact hw
  have hbs : g31.1 ≤ s.heap.size := by rw [ex35.1]; exact hbs
  have exA := exA.tr pxA ex35
  have pxA := pxA.tr px
  refine hw_putFR (o := (some b34)) E hin hR hS hw cI2 hs0 5 (by decide) lfX3_30 rfl rfl rfl dX3_init_48 (fun m36 H locs em36 hR hS => ?_)
  replace hf := hf m36 em36
  refine lv_aload_n E.1 E.2.1 dX3_init_51 rfl (lv_at hl 0 rfl) ?_
  refine lv_iconst (v := 4) E.1 E.2.1 dX3_init_52 (by decide) ?_
  obtain ⟨hcl, hln, hf⟩ := hf
  refine hw_newa50 E hR hS hw hbs hcl hln 4 (by decide) (by decide) (by decide) lar50 (Nat.le_of_ble_eq_true rfl) (Nat.le_of_ble_eq_true rfl) dX3_init_53 (fun g37 S38 m39 H ex41 eS38 em39 hR hS => ?_)
  obtain ⟨b40, eb40⟩ : ∃ y, y = S32.length := ⟨_, rfl⟩
  rw [← eb40]
  replace hf := hf S38 eS38 m39 em39 b40 eb40
  have hb40 := ex_last eS38 eb40
  have px : PX S32 S38 := ⟨_, eS38⟩
  have ea := ex41.ad hs0
  (try rw [← ea] at hl)
  (try rw [← ea])
  have hs0 := px.at hs0
  have hb10 := px.at hb10
  have hb16 := px.at hb16
  have hb22 := px.at hb22
  have hb28 := px.at hb28
  have hb34 := px.at hb34
  have hb4 := px.at hb4
  have E := E.ex ex41
  have hw : ad g37 100000 < s.heap.size := by rw [ex41.2.2.2.1]; exact hw
  have hbs : g37.1 ≤ s.heap.size := by rw [ex41.1]; exact hbs
  have exA := exA.tr pxA ex41
  have pxA := pxA.tr px
  refine lv_dup E.1 E.2.1 dX3_init_55 rfl ?_
  refine lv_iconst (v := 0) E.1 E.2.1 dX3_init_56 (by decide) ?_
  refine lv_iconst (v := 3) E.1 E.2.1 dX3_init_57 (by decide) ?_
  obtain ⟨i43n, i43s, i43, hf⟩ := hf
  refine hw_iast E hR hS hw i43s i43 dX3_init_58 (fun m42 H locs em42 hR hS => ?_)
  replace hf := hf m42 em42
  refine lv_dup E.1 E.2.1 dX3_init_59 rfl ?_
  refine lv_iconst (v := 1) E.1 E.2.1 dX3_init_60 (by decide) ?_
  refine lv_iconst (v := 3) E.1 E.2.1 dX3_init_61 (by decide) ?_
  obtain ⟨i45n, i45s, i45, hf⟩ := hf
  refine hw_iast E hR hS hw i45s i45 dX3_init_62 (fun m44 H locs em44 hR hS => ?_)
  replace hf := hf m44 em44
  refine lv_dup E.1 E.2.1 dX3_init_63 rfl ?_
  refine lv_iconst (v := 2) E.1 E.2.1 dX3_init_64 (by decide) ?_
  refine lv_iconst (v := 3) E.1 E.2.1 dX3_init_65 (by decide) ?_
  obtain ⟨i47n, i47s, i47, hf⟩ := hf
  refine hw_iast E hR hS hw i47s i47 dX3_init_66 (fun m46 H locs em46 hR hS => ?_)
  replace hf := hf m46 em46
  refine lv_dup E.1 E.2.1 dX3_init_67 rfl ?_
  refine lv_iconst (v := 3) E.1 E.2.1 dX3_init_68 (by decide) ?_
  refine lv_iconst (v := 3) E.1 E.2.1 dX3_init_69 (by decide) ?_
  obtain ⟨i49n, i49s, i49, hf⟩ := hf
  refine hw_iast E hR hS hw i49s i49 dX3_init_70 (fun m48 H locs em48 hR hS => ?_)
  replace hf := hf m48 em48
  refine hw_putFR (o := (some b40)) E hin hR hS hw cI2 hs0 6 (by decide) lfX3_33 rfl rfl rfl dX3_init_71 (fun m50 H locs em50 hR hS => ?_)
  replace hf := hf m50 em50
  refine lv_aload_n E.1 E.2.1 dX3_init_74 rfl (lv_at hl 0 rfl) ?_
  refine lv_bipush (v := 64) E.1 E.2.1 dX3_init_75 (by decide) ?_
  obtain ⟨hcl, hln, hf⟩ := hf
  refine hw_newa50 E hR hS hw hbs hcl hln 64 (by decide) (by decide) (by decide) lar50 (Nat.le_of_ble_eq_true rfl) (Nat.le_of_ble_eq_true rfl) dX3_init_77 (fun g51 S52 m53 H ex55 eS52 em53 hR hS => ?_)
  obtain ⟨b54, eb54⟩ : ∃ y, y = S38.length := ⟨_, rfl⟩
  rw [← eb54]
  replace hf := hf S52 eS52 m53 em53 b54 eb54
  have hb54 := ex_last eS52 eb54
  have px : PX S38 S52 := ⟨_, eS52⟩
  have ea := ex55.ad hs0
  (try rw [← ea] at hl)
  (try rw [← ea])
  have hs0 := px.at hs0
  have hb10 := px.at hb10
  have hb16 := px.at hb16
  have hb22 := px.at hb22
  have hb28 := px.at hb28
  have hb34 := px.at hb34
  have hb4 := px.at hb4
  have hb40 := px.at hb40
  have E := E.ex ex55
  have hw : ad g51 100000 < s.heap.size := by rw [ex55.2.2.2.1]; exact hw
  have hbs : g51.1 ≤ s.heap.size := by rw [ex55.1]; exact hbs
  have exA := exA.tr pxA ex55
  have pxA := pxA.tr px
  refine hw_putFR (o := (some b54)) E hin hR hS hw cI2 hs0 7 (by decide) lfX3_36 rfl rfl rfl dX3_init_79 (fun m56 H locs em56 hR hS => ?_)
  replace hf := hf m56 em56
  refine lv_aload_n E.1 E.2.1 dX3_init_82 rfl (lv_at hl 0 rfl) ?_
  obtain ⟨hcl, hln, hf⟩ := hf
  refine hw_new E hR hS hw hbs hcl hln cI4 cd4 lnX3_9 (Nat.le_of_ble_eq_true rfl) (Nat.le_of_ble_eq_true rfl) dX3_init_83 (fun g57 S58 m59 H ex61 eS58 em59 hR hS => ?_)
  obtain ⟨b60, eb60⟩ : ∃ y, y = S52.length := ⟨_, rfl⟩
  rw [← eb60]
  replace hf := hf S58 eS58 m59 em59 b60 eb60
  have hb60 := ex_last eS58 eb60
  have px : PX S52 S58 := ⟨_, eS58⟩
  have ea := ex61.ad hs0
  (try rw [← ea] at hl)
  (try rw [← ea])
  have hs0 := px.at hs0
  have hb10 := px.at hb10
  have hb16 := px.at hb16
  have hb22 := px.at hb22
  have hb28 := px.at hb28
  have hb34 := px.at hb34
  have hb4 := px.at hb4
  have hb40 := px.at hb40
  have hb54 := px.at hb54
  have E := E.ex ex61
  have hw : ad g57 100000 < s.heap.size := by rw [ex61.2.2.2.1]; exact hw
  have hbs : g57.1 ≤ s.heap.size := by rw [ex61.1]; exact hbs
  have exA := exA.tr pxA ex61
  have pxA := pxA.tr px
  refine lv_dup E.1 E.2.1 dX3_init_86 rfl ?_
  refine hw_callC (rest := [.ref (ad g57 b60), .ref (ad g57 a0)]) E hR hS hN mcX5_init rfl miX5_init (Or.inl (by decide +kernel)) (ok_X5_init hb60 hf) rfl (Nat.le_of_ble_eq_true rfl) (Nat.le_of_ble_eq_true rfl) (Nat.le_of_ble_eq_true rfl) (Nat.le_of_ble_eq_true rfl) hl.1 (Nat.le_of_ble_eq_true rfl) dX3_init_87 (fun g62 S63 m64 H locs ex65 px hf hR hS => ?_)
  replace hf := hf px
  have ea := ex65.ad hs0
  (try rw [← ea] at hl)
  (try rw [← ea])
  have ea := ex65.ad hb60
  (try rw [← ea] at hl)
  (try rw [← ea])
  have hs0 := px.at hs0
  have hb10 := px.at hb10
  have hb16 := px.at hb16
  have hb22 := px.at hb22
  have hb28 := px.at hb28
  have hb34 := px.at hb34
  have hb4 := px.at hb4
  have hb40 := px.at hb40
  have hb54 := px.at hb54
  have hb60 := px.at hb60
  have E := E.ex ex65
  have hw : ad g62 100000 < s.heap.size := by rw [ex65.2.2.2.1]; exact hw
  have hbs : g62.1 ≤ s.heap.size := by rw [ex65.1]; exact hbs
  have exA := exA.tr pxA ex65
  have pxA := pxA.tr px
  refine hw_putR (o := (some b60)) E hR hS hw cI2 hs0 8 (by decide) lfX3_40 rfl rfl dX3_init_90 (fun m66 H locs em66 hR hS => ?_)
  replace hf := hf m66 em66
  refine lv_aload_n E.1 E.2.1 dX3_init_93 rfl (lv_at hl 0 rfl) ?_
  obtain ⟨hcl, hln, hf⟩ := hf
  refine hw_new E hR hS hw hbs hcl hln cI4 cd4 lnX3_9 (Nat.le_of_ble_eq_true rfl) (Nat.le_of_ble_eq_true rfl) dX3_init_94 (fun g67 S68 m69 H ex71 eS68 em69 hR hS => ?_)
  obtain ⟨b70, eb70⟩ : ∃ y, y = S63.length := ⟨_, rfl⟩
  rw [← eb70]
  replace hf := hf S68 eS68 m69 em69 b70 eb70
  have hb70 := ex_last eS68 eb70
  have px : PX S63 S68 := ⟨_, eS68⟩
  have ea := ex71.ad hs0
  (try rw [← ea] at hl)
  (try rw [← ea])
  have hs0 := px.at hs0
  have hb10 := px.at hb10
  have hb16 := px.at hb16
  have hb22 := px.at hb22
  have hb28 := px.at hb28
  have hb34 := px.at hb34
  have hb4 := px.at hb4
  have hb40 := px.at hb40
  have hb54 := px.at hb54
  have hb60 := px.at hb60
  have E := E.ex ex71
  have hw : ad g67 100000 < s.heap.size := by rw [ex71.2.2.2.1]; exact hw
  have hbs : g67.1 ≤ s.heap.size := by rw [ex71.1]; exact hbs
  have exA := exA.tr pxA ex71
  have pxA := pxA.tr px
  refine lv_dup E.1 E.2.1 dX3_init_97 rfl ?_
  refine hw_callC (rest := [.ref (ad g67 b70), .ref (ad g67 a0)]) E hR hS hN mcX5_init rfl miX5_init (Or.inl (by decide +kernel)) (ok_X5_init hb70 hf) rfl (Nat.le_of_ble_eq_true rfl) (Nat.le_of_ble_eq_true rfl) (Nat.le_of_ble_eq_true rfl) (Nat.le_of_ble_eq_true rfl) hl.1 (Nat.le_of_ble_eq_true rfl) dX3_init_98 (fun g72 S73 m74 H locs ex75 px hf hR hS => ?_)
  replace hf := hf px
  have ea := ex75.ad hs0
  (try rw [← ea] at hl)
  (try rw [← ea])
  have ea := ex75.ad hb70
  (try rw [← ea] at hl)
  (try rw [← ea])
  have hs0 := px.at hs0
  have hb10 := px.at hb10
  have hb16 := px.at hb16
  have hb22 := px.at hb22
  have hb28 := px.at hb28
  have hb34 := px.at hb34
  have hb4 := px.at hb4
  have hb40 := px.at hb40
  have hb54 := px.at hb54
  have hb60 := px.at hb60
  have hb70 := px.at hb70
  have E := E.ex ex75
  have hw : ad g72 100000 < s.heap.size := by rw [ex75.2.2.2.1]; exact hw
  have hbs : g72.1 ≤ s.heap.size := by rw [ex75.1]; exact hbs
  have exA := exA.tr pxA ex75
  have pxA := pxA.tr px
  refine hw_putR (o := (some b70)) E hR hS hw cI2 hs0 9 (by decide) lfX3_44 rfl rfl dX3_init_101 (fun m76 H locs em76 hR hS => ?_)
  replace hf := hf m76 em76
  refine lv_aload_n E.1 E.2.1 dX3_init_104 rfl (lv_at hl 0 rfl) ?_
  refine lv_iconst (v := 0) E.1 E.2.1 dX3_init_105 (by decide) ?_
  refine hw_putI E hR hS hw cI2 hs0 10 (by decide) lfX3_47 rfl (Or.inl rfl) dX3_init_106 (fun m77 H locs em77 hR hS => ?_)
  replace hf := hf m77 em77
  refine lv_aload_n E.1 E.2.1 dX3_init_109 rfl (lv_at hl 0 rfl) ?_
  refine lv_iconst (v := 0) E.1 E.2.1 dX3_init_110 (by decide) ?_
  refine hw_putI E hR hS hw cI2 hs0 11 (by decide) lfX3_51 rfl (Or.inl rfl) dX3_init_111 (fun m78 H locs em78 hR hS => ?_)
  replace hf := hf m78 em78
  refine lv_aload_n E.1 E.2.1 dX3_init_114 rfl (lv_at hl 0 rfl) ?_
  refine lv_iconst (v := 0) E.1 E.2.1 dX3_init_115 (by decide) ?_
  refine hw_putI E hR hS hw cI2 hs0 12 (by decide) lfX3_54 rfl (Or.inl rfl) dX3_init_116 (fun m79 H locs em79 hR hS => ?_)
  replace hf := hf m79 em79
  refine lv_aload_n E.1 E.2.1 dX3_init_119 rfl (lv_at hl 0 rfl) ?_
  refine lv_iconst (v := 2) E.1 E.2.1 dX3_init_120 (by decide) ?_
  refine hw_putI E hR hS hw cI2 hs0 13 (by decide) lfX3_57 rfl (Or.inl rfl) dX3_init_121 (fun m80 H locs em80 hR hS => ?_)
  replace hf := hf m80 em80
  refine lv_aload_n E.1 E.2.1 dX3_init_124 rfl (lv_at hl 0 rfl) ?_
  refine lv_iconst (v := 0) E.1 E.2.1 dX3_init_125 (by decide) ?_
  refine hw_putI E hR hS hw cI2 hs0 14 (by decide) lfX3_60 rfl (Or.inl rfl) dX3_init_126 (fun m81 H locs em81 hR hS => ?_)
  replace hf := hf m81 em81
  refine lv_iconst (v := 0) E.1 E.2.1 dX3_init_129 (by decide) ?_
  refine lv_istore_n (lv' := [(1, .int (0 : Int32)), (0, .ref (ad g72 a0))]) E.1 E.2.1 dX3_init_130 rfl hl (by decide) rfl (fun ls hl => ?_)
  refine lv_iload_n E.1 E.2.1 dX3_init_131 rfl (lv_at hl 0 rfl) ?_
  refine lv_iconst (v := 4) E.1 E.2.1 dX3_init_132 (by decide) ?_
  refine lv_icmp_ge (tgt := 155) E.1 E.2.1 dX3_init_133 (by decide) (fun c82 => ?_) (fun c82 => ?_)
  · exact absurd c82 (by decide)
  refine lv_aload_n E.1 E.2.1 dX3_init_136 rfl (lv_at hl 1 rfl) ?_
  obtain ⟨b83, hb83, hf⟩ := hf
  refine hw_getR E hR cI2 hs0 0 (by decide) lfX3_11 rfl hb83 dX3_init_137 ?_
  obtain ⟨n84, h85, hf⟩ := hf
  refine lv_iload_n E.1 E.2.1 dX3_init_140 rfl (lv_at hl 0 rfl) ?_
  obtain ⟨hcl, hln, hf⟩ := hf
  refine hw_new E hR hS hw hbs hcl hln cI4 cd4 lnX3_9 (Nat.le_of_ble_eq_true rfl) (Nat.le_of_ble_eq_true rfl) dX3_init_141 (fun g86 S87 m88 H ex90 eS87 em88 hR hS => ?_)
  obtain ⟨b89, eb89⟩ : ∃ y, y = S73.length := ⟨_, rfl⟩
  rw [← eb89]
  replace hf := hf S87 eS87 m88 em88 b89 eb89
  have hb89 := ex_last eS87 eb89
  have px : PX S73 S87 := ⟨_, eS87⟩
  have ea := ex90.ad hs0
  (try rw [← ea] at hl)
  (try rw [← ea])
  have ea := ex90.ad h85
  (try rw [← ea] at hl)
  (try rw [← ea])
  have hs0 := px.at hs0
  have hb10 := px.at hb10
  have hb16 := px.at hb16
  have hb22 := px.at hb22
  have hb28 := px.at hb28
  have hb34 := px.at hb34
  have hb4 := px.at hb4
  have hb40 := px.at hb40
  have hb54 := px.at hb54
  have hb60 := px.at hb60
  have hb70 := px.at hb70
  have h85 := px.at h85
  have E := E.ex ex90
  have hw : ad g86 100000 < s.heap.size := by rw [ex90.2.2.2.1]; exact hw
  have hbs : g86.1 ≤ s.heap.size := by rw [ex90.1]; exact hbs
  have exA := exA.tr pxA ex90
  have pxA := pxA.tr px
  refine lv_dup E.1 E.2.1 dX3_init_144 rfl ?_
  refine hw_callC (rest := [.ref (ad g86 b89), .int (0 : Int32), .ref (ad g86 b83)]) E hR hS hN mcX5_init rfl miX5_init (Or.inl (by decide +kernel)) (ok_X5_init hb89 hf) rfl (Nat.le_of_ble_eq_true rfl) (Nat.le_of_ble_eq_true rfl) (Nat.le_of_ble_eq_true rfl) (Nat.le_of_ble_eq_true rfl) hl.1 (Nat.le_of_ble_eq_true rfl) dX3_init_145 (fun g91 S92 m93 H locs ex94 px hf hR hS => ?_)
  replace hf := hf px
  have ea := ex94.ad hs0
  (try rw [← ea] at hl)
  (try rw [← ea])
  have ea := ex94.ad h85
  (try rw [← ea] at hl)
  (try rw [← ea])
  have ea := ex94.ad hb89
  (try rw [← ea] at hl)
  (try rw [← ea])
  have hs0 := px.at hs0
  have hb10 := px.at hb10
  have hb16 := px.at hb16
  have hb22 := px.at hb22
  have hb28 := px.at hb28
  have hb34 := px.at hb34
  have hb4 := px.at hb4
  have hb40 := px.at hb40
  have hb54 := px.at hb54
  have hb60 := px.at hb60
  have hb70 := px.at hb70
  have h85 := px.at h85
  have hb89 := px.at hb89
  have E := E.ex ex94
  have hw : ad g91 100000 < s.heap.size := by rw [ex94.2.2.2.1]; exact hw
  have hbs : g91.1 ≤ s.heap.size := by rw [ex94.1]; exact hbs
  have exA := exA.tr pxA ex94
  have pxA := pxA.tr px
  obtain ⟨i96n, i96s, i96, hf⟩ := hf
  refine hw_aast55 E hR hS hw i96s hb89 i96 dX3_init_148 (fun m95 H locs em95 hR hS => ?_)
  replace hf := hf m95 em95
  refine lv_iinc (v := 1) (lv' := [(1, .int (1 : Int32)), (0, .ref (ad g91 a0))]) E.1 E.2.1 dX3_init_149 hl (k := 0) rfl (by decide) (by decide) rfl (fun ls hl => ?_)
  refine lv_goto (tgt := 131) E.1 E.2.1 dX3_init_152 (by decide) ?_
  refine lv_iload_n E.1 E.2.1 dX3_init_131 rfl (lv_at hl 0 rfl) ?_
  refine lv_iconst (v := 4) E.1 E.2.1 dX3_init_132 (by decide) ?_
  refine lv_icmp_ge (tgt := 155) E.1 E.2.1 dX3_init_133 (by decide) (fun c97 => ?_) (fun c97 => ?_)
  · exact absurd c97 (by decide)
  refine lv_aload_n E.1 E.2.1 dX3_init_136 rfl (lv_at hl 1 rfl) ?_
  obtain ⟨b98, hb98, hf⟩ := hf
  refine hw_getR E hR cI2 hs0 0 (by decide) lfX3_11 rfl hb98 dX3_init_137 ?_
  obtain ⟨n99, h100, hf⟩ := hf
  refine lv_iload_n E.1 E.2.1 dX3_init_140 rfl (lv_at hl 0 rfl) ?_
  obtain ⟨hcl, hln, hf⟩ := hf
  refine hw_new E hR hS hw hbs hcl hln cI4 cd4 lnX3_9 (Nat.le_of_ble_eq_true rfl) (Nat.le_of_ble_eq_true rfl) dX3_init_141 (fun g101 S102 m103 H ex105 eS102 em103 hR hS => ?_)
  obtain ⟨b104, eb104⟩ : ∃ y, y = S92.length := ⟨_, rfl⟩
  rw [← eb104]
  replace hf := hf S102 eS102 m103 em103 b104 eb104
  have hb104 := ex_last eS102 eb104
  have px : PX S92 S102 := ⟨_, eS102⟩
  have ea := ex105.ad hs0
  (try rw [← ea] at hl)
  (try rw [← ea])
  have ea := ex105.ad h100
  (try rw [← ea] at hl)
  (try rw [← ea])
  have hs0 := px.at hs0
  have hb10 := px.at hb10
  have hb16 := px.at hb16
  have hb22 := px.at hb22
  have hb28 := px.at hb28
  have hb34 := px.at hb34
  have hb4 := px.at hb4
  have hb40 := px.at hb40
  have hb54 := px.at hb54
  have hb60 := px.at hb60
  have hb70 := px.at hb70
  have h85 := px.at h85
  have hb89 := px.at hb89
  have h100 := px.at h100
  have E := E.ex ex105
  have hw : ad g101 100000 < s.heap.size := by rw [ex105.2.2.2.1]; exact hw
  have hbs : g101.1 ≤ s.heap.size := by rw [ex105.1]; exact hbs
  have exA := exA.tr pxA ex105
  have pxA := pxA.tr px
  refine lv_dup E.1 E.2.1 dX3_init_144 rfl ?_
  refine hw_callC (rest := [.ref (ad g101 b104), .int (1 : Int32), .ref (ad g101 b98)]) E hR hS hN mcX5_init rfl miX5_init (Or.inl (by decide +kernel)) (ok_X5_init hb104 hf) rfl (Nat.le_of_ble_eq_true rfl) (Nat.le_of_ble_eq_true rfl) (Nat.le_of_ble_eq_true rfl) (Nat.le_of_ble_eq_true rfl) hl.1 (Nat.le_of_ble_eq_true rfl) dX3_init_145 (fun g106 S107 m108 H locs ex109 px hf hR hS => ?_)
  replace hf := hf px
  have ea := ex109.ad hs0
  (try rw [← ea] at hl)
  (try rw [← ea])
  have ea := ex109.ad hb104
  (try rw [← ea] at hl)
  (try rw [← ea])
  have ea := ex109.ad h100
  (try rw [← ea] at hl)
  (try rw [← ea])
  have hs0 := px.at hs0
  have hb10 := px.at hb10
  have hb104 := px.at hb104
  have hb16 := px.at hb16
  have hb22 := px.at hb22
  have hb28 := px.at hb28
  have hb34 := px.at hb34
  have hb4 := px.at hb4
  have hb40 := px.at hb40
  have hb54 := px.at hb54
  have hb60 := px.at hb60
  have hb70 := px.at hb70
  have h85 := px.at h85
  have hb89 := px.at hb89
  have h100 := px.at h100
  have E := E.ex ex109
  have hw : ad g106 100000 < s.heap.size := by rw [ex109.2.2.2.1]; exact hw
  have hbs : g106.1 ≤ s.heap.size := by rw [ex109.1]; exact hbs
  have exA := exA.tr pxA ex109
  have pxA := pxA.tr px
  obtain ⟨i111n, i111s, i111, hf⟩ := hf
  refine hw_aast55 E hR hS hw i111s hb104 i111 dX3_init_148 (fun m110 H locs em110 hR hS => ?_)
  replace hf := hf m110 em110
  refine lv_iinc (v := 2) (lv' := [(1, .int (2 : Int32)), (0, .ref (ad g106 a0))]) E.1 E.2.1 dX3_init_149 hl (k := 0) rfl (by decide) (by decide) rfl (fun ls hl => ?_)
  refine lv_goto (tgt := 131) E.1 E.2.1 dX3_init_152 (by decide) ?_
  refine lv_iload_n E.1 E.2.1 dX3_init_131 rfl (lv_at hl 0 rfl) ?_
  refine lv_iconst (v := 4) E.1 E.2.1 dX3_init_132 (by decide) ?_
  refine lv_icmp_ge (tgt := 155) E.1 E.2.1 dX3_init_133 (by decide) (fun c112 => ?_) (fun c112 => ?_)
  · exact absurd c112 (by decide)
  refine lv_aload_n E.1 E.2.1 dX3_init_136 rfl (lv_at hl 1 rfl) ?_
  obtain ⟨b113, hb113, hf⟩ := hf
  refine hw_getR E hR cI2 hs0 0 (by decide) lfX3_11 rfl hb113 dX3_init_137 ?_
  obtain ⟨n114, h115, hf⟩ := hf
  refine lv_iload_n E.1 E.2.1 dX3_init_140 rfl (lv_at hl 0 rfl) ?_
  obtain ⟨hcl, hln, hf⟩ := hf
  refine hw_new E hR hS hw hbs hcl hln cI4 cd4 lnX3_9 (Nat.le_of_ble_eq_true rfl) (Nat.le_of_ble_eq_true rfl) dX3_init_141 (fun g116 S117 m118 H ex120 eS117 em118 hR hS => ?_)
  obtain ⟨b119, eb119⟩ : ∃ y, y = S107.length := ⟨_, rfl⟩
  rw [← eb119]
  replace hf := hf S117 eS117 m118 em118 b119 eb119
  have hb119 := ex_last eS117 eb119
  have px : PX S107 S117 := ⟨_, eS117⟩
  have ea := ex120.ad hs0
  (try rw [← ea] at hl)
  (try rw [← ea])
  have ea := ex120.ad h115
  (try rw [← ea] at hl)
  (try rw [← ea])
  have hs0 := px.at hs0
  have hb10 := px.at hb10
  have hb104 := px.at hb104
  have h115 := px.at h115
  have hb16 := px.at hb16
  have hb22 := px.at hb22
  have hb28 := px.at hb28
  have hb34 := px.at hb34
  have hb4 := px.at hb4
  have hb40 := px.at hb40
  have hb54 := px.at hb54
  have hb60 := px.at hb60
  have hb70 := px.at hb70
  have h85 := px.at h85
  have hb89 := px.at hb89
  have h100 := px.at h100
  have E := E.ex ex120
  have hw : ad g116 100000 < s.heap.size := by rw [ex120.2.2.2.1]; exact hw
  have hbs : g116.1 ≤ s.heap.size := by rw [ex120.1]; exact hbs
  have exA := exA.tr pxA ex120
  have pxA := pxA.tr px
  refine lv_dup E.1 E.2.1 dX3_init_144 rfl ?_
  refine hw_callC (rest := [.ref (ad g116 b119), .int (2 : Int32), .ref (ad g116 b113)]) E hR hS hN mcX5_init rfl miX5_init (Or.inl (by decide +kernel)) (ok_X5_init hb119 hf) rfl (Nat.le_of_ble_eq_true rfl) (Nat.le_of_ble_eq_true rfl) (Nat.le_of_ble_eq_true rfl) (Nat.le_of_ble_eq_true rfl) hl.1 (Nat.le_of_ble_eq_true rfl) dX3_init_145 (fun g121 S122 m123 H locs ex124 px hf hR hS => ?_)
  replace hf := hf px
  have ea := ex124.ad hs0
  (try rw [← ea] at hl)
  (try rw [← ea])
  have ea := ex124.ad h115
  (try rw [← ea] at hl)
  (try rw [← ea])
  have ea := ex124.ad hb119
  (try rw [← ea] at hl)
  (try rw [← ea])
  have hs0 := px.at hs0
  have hb10 := px.at hb10
  have hb104 := px.at hb104
  have h115 := px.at h115
  have hb119 := px.at hb119
  have hb16 := px.at hb16
  have hb22 := px.at hb22
  have hb28 := px.at hb28
  have hb34 := px.at hb34
  have hb4 := px.at hb4
  have hb40 := px.at hb40
  have hb54 := px.at hb54
  have hb60 := px.at hb60
  have hb70 := px.at hb70
  have h85 := px.at h85
  have hb89 := px.at hb89
  have h100 := px.at h100
  have E := E.ex ex124
  have hw : ad g121 100000 < s.heap.size := by rw [ex124.2.2.2.1]; exact hw
  have hbs : g121.1 ≤ s.heap.size := by rw [ex124.1]; exact hbs
  have exA := exA.tr pxA ex124
  have pxA := pxA.tr px
  obtain ⟨i126n, i126s, i126, hf⟩ := hf
  refine hw_aast55 E hR hS hw i126s hb119 i126 dX3_init_148 (fun m125 H locs em125 hR hS => ?_)
  replace hf := hf m125 em125
  refine lv_iinc (v := 3) (lv' := [(1, .int (3 : Int32)), (0, .ref (ad g121 a0))]) E.1 E.2.1 dX3_init_149 hl (k := 0) rfl (by decide) (by decide) rfl (fun ls hl => ?_)
  refine lv_goto (tgt := 131) E.1 E.2.1 dX3_init_152 (by decide) ?_
  refine lv_iload_n E.1 E.2.1 dX3_init_131 rfl (lv_at hl 0 rfl) ?_
  refine lv_iconst (v := 4) E.1 E.2.1 dX3_init_132 (by decide) ?_
  refine lv_icmp_ge (tgt := 155) E.1 E.2.1 dX3_init_133 (by decide) (fun c127 => ?_) (fun c127 => ?_)
  · exact absurd c127 (by decide)
  refine lv_aload_n E.1 E.2.1 dX3_init_136 rfl (lv_at hl 1 rfl) ?_
  obtain ⟨b128, hb128, hf⟩ := hf
  refine hw_getR E hR cI2 hs0 0 (by decide) lfX3_11 rfl hb128 dX3_init_137 ?_
  obtain ⟨n129, h130, hf⟩ := hf
  refine lv_iload_n E.1 E.2.1 dX3_init_140 rfl (lv_at hl 0 rfl) ?_
  obtain ⟨hcl, hln, hf⟩ := hf
  refine hw_new E hR hS hw hbs hcl hln cI4 cd4 lnX3_9 (Nat.le_of_ble_eq_true rfl) (Nat.le_of_ble_eq_true rfl) dX3_init_141 (fun g131 S132 m133 H ex135 eS132 em133 hR hS => ?_)
  obtain ⟨b134, eb134⟩ : ∃ y, y = S122.length := ⟨_, rfl⟩
  rw [← eb134]
  replace hf := hf S132 eS132 m133 em133 b134 eb134
  have hb134 := ex_last eS132 eb134
  have px : PX S122 S132 := ⟨_, eS132⟩
  have ea := ex135.ad hs0
  (try rw [← ea] at hl)
  (try rw [← ea])
  have ea := ex135.ad h130
  (try rw [← ea] at hl)
  (try rw [← ea])
  have hs0 := px.at hs0
  have hb10 := px.at hb10
  have hb104 := px.at hb104
  have h115 := px.at h115
  have hb119 := px.at hb119
  have h130 := px.at h130
  have hb16 := px.at hb16
  have hb22 := px.at hb22
  have hb28 := px.at hb28
  have hb34 := px.at hb34
  have hb4 := px.at hb4
  have hb40 := px.at hb40
  have hb54 := px.at hb54
  have hb60 := px.at hb60
  have hb70 := px.at hb70
  have h85 := px.at h85
  have hb89 := px.at hb89
  have h100 := px.at h100
  have E := E.ex ex135
  have hw : ad g131 100000 < s.heap.size := by rw [ex135.2.2.2.1]; exact hw
  have hbs : g131.1 ≤ s.heap.size := by rw [ex135.1]; exact hbs
  have exA := exA.tr pxA ex135
  have pxA := pxA.tr px
  refine lv_dup E.1 E.2.1 dX3_init_144 rfl ?_
  refine hw_callC (rest := [.ref (ad g131 b134), .int (3 : Int32), .ref (ad g131 b128)]) E hR hS hN mcX5_init rfl miX5_init (Or.inl (by decide +kernel)) (ok_X5_init hb134 hf) rfl (Nat.le_of_ble_eq_true rfl) (Nat.le_of_ble_eq_true rfl) (Nat.le_of_ble_eq_true rfl) (Nat.le_of_ble_eq_true rfl) hl.1 (Nat.le_of_ble_eq_true rfl) dX3_init_145 (fun g136 S137 m138 H locs ex139 px hf hR hS => ?_)
  replace hf := hf px
  have ea := ex139.ad hs0
  (try rw [← ea] at hl)
  (try rw [← ea])
  have ea := ex139.ad h130
  (try rw [← ea] at hl)
  (try rw [← ea])
  have ea := ex139.ad hb134
  (try rw [← ea] at hl)
  (try rw [← ea])
  have hs0 := px.at hs0
  have hb10 := px.at hb10
  have hb104 := px.at hb104
  have h115 := px.at h115
  have hb119 := px.at hb119
  have h130 := px.at h130
  have hb134 := px.at hb134
  have hb16 := px.at hb16
  have hb22 := px.at hb22
  have hb28 := px.at hb28
  have hb34 := px.at hb34
  have hb4 := px.at hb4
  have hb40 := px.at hb40
  have hb54 := px.at hb54
  have hb60 := px.at hb60
  have hb70 := px.at hb70
  have h85 := px.at h85
  have hb89 := px.at hb89
  have h100 := px.at h100
  have E := E.ex ex139
  have hw : ad g136 100000 < s.heap.size := by rw [ex139.2.2.2.1]; exact hw
  have hbs : g136.1 ≤ s.heap.size := by rw [ex139.1]; exact hbs
  have exA := exA.tr pxA ex139
  have pxA := pxA.tr px
  obtain ⟨i141n, i141s, i141, hf⟩ := hf
  refine hw_aast55 E hR hS hw i141s hb134 i141 dX3_init_148 (fun m140 H locs em140 hR hS => ?_)
  replace hf := hf m140 em140
  refine lv_iinc (v := 4) (lv' := [(1, .int (4 : Int32)), (0, .ref (ad g136 a0))]) E.1 E.2.1 dX3_init_149 hl (k := 0) rfl (by decide) (by decide) rfl (fun ls hl => ?_)
  refine lv_goto (tgt := 131) E.1 E.2.1 dX3_init_152 (by decide) ?_
  refine lv_iload_n E.1 E.2.1 dX3_init_131 rfl (lv_at hl 0 rfl) ?_
  refine lv_iconst (v := 4) E.1 E.2.1 dX3_init_132 (by decide) ?_
  refine lv_icmp_ge (tgt := 155) E.1 E.2.1 dX3_init_133 (by decide) (fun c142 => ?_) (fun c142 => ?_)
  rotate_left
  · exact absurd (by decide) c142
  refine lv_iconst (v := 0) E.1 E.2.1 dX3_init_155 (by decide) ?_
  refine lv_istore_n (lv' := [(1, .int (0 : Int32)), (0, .ref (ad g136 a0))]) E.1 E.2.1 dX3_init_156 rfl hl (by decide) rfl (fun ls hl => ?_)
  refine lv_iload_n E.1 E.2.1 dX3_init_157 rfl (lv_at hl 0 rfl) ?_
  refine lv_iconst (v := 3) E.1 E.2.1 dX3_init_158 (by decide) ?_
  refine lv_icmp_ge (tgt := 181) E.1 E.2.1 dX3_init_159 (by decide) (fun c143 => ?_) (fun c143 => ?_)
  · exact absurd c143 (by decide)
  refine lv_aload_n E.1 E.2.1 dX3_init_162 rfl (lv_at hl 1 rfl) ?_
  obtain ⟨b144, hb144, hf⟩ := hf
  refine hw_getR E hR cI2 hs0 1 (by decide) lfX3_17 rfl hb144 dX3_init_163 ?_
  obtain ⟨n145, h146, hf⟩ := hf
  refine lv_iload_n E.1 E.2.1 dX3_init_166 rfl (lv_at hl 0 rfl) ?_
  obtain ⟨hcl, hln, hf⟩ := hf
  refine hw_new E hR hS hw hbs hcl hln cI4 cd4 lnX3_9 (Nat.le_of_ble_eq_true rfl) (Nat.le_of_ble_eq_true rfl) dX3_init_167 (fun g147 S148 m149 H ex151 eS148 em149 hR hS => ?_)
  obtain ⟨b150, eb150⟩ : ∃ y, y = S137.length := ⟨_, rfl⟩
  rw [← eb150]
  replace hf := hf S148 eS148 m149 em149 b150 eb150
  have hb150 := ex_last eS148 eb150
  have px : PX S137 S148 := ⟨_, eS148⟩
  have ea := ex151.ad hs0
  (try rw [← ea] at hl)
  (try rw [← ea])
  have ea := ex151.ad h146
  (try rw [← ea] at hl)
  (try rw [← ea])
  have hs0 := px.at hs0
  have hb10 := px.at hb10
  have hb104 := px.at hb104
  have h115 := px.at h115
  have hb119 := px.at hb119
  have h130 := px.at h130
  have hb134 := px.at hb134
  have h146 := px.at h146
  have hb16 := px.at hb16
  have hb22 := px.at hb22
  have hb28 := px.at hb28
  have hb34 := px.at hb34
  have hb4 := px.at hb4
  have hb40 := px.at hb40
  have hb54 := px.at hb54
  have hb60 := px.at hb60
  have hb70 := px.at hb70
  have h85 := px.at h85
  have hb89 := px.at hb89
  have h100 := px.at h100
  have E := E.ex ex151
  have hw : ad g147 100000 < s.heap.size := by rw [ex151.2.2.2.1]; exact hw
  have hbs : g147.1 ≤ s.heap.size := by rw [ex151.1]; exact hbs
  have exA := exA.tr pxA ex151
  have pxA := pxA.tr px
  refine lv_dup E.1 E.2.1 dX3_init_170 rfl ?_
  refine hw_callC (rest := [.ref (ad g147 b150), .int (0 : Int32), .ref (ad g147 b144)]) E hR hS hN mcX5_init rfl miX5_init (Or.inl (by decide +kernel)) (ok_X5_init hb150 hf) rfl (Nat.le_of_ble_eq_true rfl) (Nat.le_of_ble_eq_true rfl) (Nat.le_of_ble_eq_true rfl) (Nat.le_of_ble_eq_true rfl) hl.1 (Nat.le_of_ble_eq_true rfl) dX3_init_171 (fun g152 S153 m154 H locs ex155 px hf hR hS => ?_)
  replace hf := hf px
  have ea := ex155.ad hs0
  (try rw [← ea] at hl)
  (try rw [← ea])
  have ea := ex155.ad h146
  (try rw [← ea] at hl)
  (try rw [← ea])
  have ea := ex155.ad hb150
  (try rw [← ea] at hl)
  (try rw [← ea])
  have hs0 := px.at hs0
  have hb10 := px.at hb10
  have hb104 := px.at hb104
  have h115 := px.at h115
  have hb119 := px.at hb119
  have h130 := px.at h130
  have hb134 := px.at hb134
  have h146 := px.at h146
  have hb150 := px.at hb150
  have hb16 := px.at hb16
  have hb22 := px.at hb22
  have hb28 := px.at hb28
  have hb34 := px.at hb34
  have hb4 := px.at hb4
  have hb40 := px.at hb40
  have hb54 := px.at hb54
  have hb60 := px.at hb60
  have hb70 := px.at hb70
  have h85 := px.at h85
  have hb89 := px.at hb89
  have h100 := px.at h100
  have E := E.ex ex155
  have hw : ad g152 100000 < s.heap.size := by rw [ex155.2.2.2.1]; exact hw
  have hbs : g152.1 ≤ s.heap.size := by rw [ex155.1]; exact hbs
  have exA := exA.tr pxA ex155
  have pxA := pxA.tr px
  obtain ⟨i157n, i157s, i157, hf⟩ := hf
  refine hw_aast55 E hR hS hw i157s hb150 i157 dX3_init_174 (fun m156 H locs em156 hR hS => ?_)
  replace hf := hf m156 em156
  refine lv_iinc (v := 1) (lv' := [(1, .int (1 : Int32)), (0, .ref (ad g152 a0))]) E.1 E.2.1 dX3_init_175 hl (k := 0) rfl (by decide) (by decide) rfl (fun ls hl => ?_)
  refine lv_goto (tgt := 157) E.1 E.2.1 dX3_init_178 (by decide) ?_
  refine lv_iload_n E.1 E.2.1 dX3_init_157 rfl (lv_at hl 0 rfl) ?_
  refine lv_iconst (v := 3) E.1 E.2.1 dX3_init_158 (by decide) ?_
  refine lv_icmp_ge (tgt := 181) E.1 E.2.1 dX3_init_159 (by decide) (fun c158 => ?_) (fun c158 => ?_)
  · exact absurd c158 (by decide)
  refine lv_aload_n E.1 E.2.1 dX3_init_162 rfl (lv_at hl 1 rfl) ?_
  obtain ⟨b159, hb159, hf⟩ := hf
  refine hw_getR E hR cI2 hs0 1 (by decide) lfX3_17 rfl hb159 dX3_init_163 ?_
  obtain ⟨n160, h161, hf⟩ := hf
  refine lv_iload_n E.1 E.2.1 dX3_init_166 rfl (lv_at hl 0 rfl) ?_
  obtain ⟨hcl, hln, hf⟩ := hf
  refine hw_new E hR hS hw hbs hcl hln cI4 cd4 lnX3_9 (Nat.le_of_ble_eq_true rfl) (Nat.le_of_ble_eq_true rfl) dX3_init_167 (fun g162 S163 m164 H ex166 eS163 em164 hR hS => ?_)
  obtain ⟨b165, eb165⟩ : ∃ y, y = S153.length := ⟨_, rfl⟩
  rw [← eb165]
  replace hf := hf S163 eS163 m164 em164 b165 eb165
  have hb165 := ex_last eS163 eb165
  have px : PX S153 S163 := ⟨_, eS163⟩
  have ea := ex166.ad hs0
  (try rw [← ea] at hl)
  (try rw [← ea])
  have ea := ex166.ad h161
  (try rw [← ea] at hl)
  (try rw [← ea])
  have hs0 := px.at hs0
  have hb10 := px.at hb10
  have hb104 := px.at hb104
  have h115 := px.at h115
  have hb119 := px.at hb119
  have h130 := px.at h130
  have hb134 := px.at hb134
  have h146 := px.at h146
  have hb150 := px.at hb150
  have h161 := px.at h161
  have hb16 := px.at hb16
  have hb22 := px.at hb22
  have hb28 := px.at hb28
  have hb34 := px.at hb34
  have hb4 := px.at hb4
  have hb40 := px.at hb40
  have hb54 := px.at hb54
  have hb60 := px.at hb60
  have hb70 := px.at hb70
  have h85 := px.at h85
  have hb89 := px.at hb89
  have h100 := px.at h100
  have E := E.ex ex166
  have hw : ad g162 100000 < s.heap.size := by rw [ex166.2.2.2.1]; exact hw
  have hbs : g162.1 ≤ s.heap.size := by rw [ex166.1]; exact hbs
  have exA := exA.tr pxA ex166
  have pxA := pxA.tr px
  refine lv_dup E.1 E.2.1 dX3_init_170 rfl ?_
  refine hw_callC (rest := [.ref (ad g162 b165), .int (1 : Int32), .ref (ad g162 b159)]) E hR hS hN mcX5_init rfl miX5_init (Or.inl (by decide +kernel)) (ok_X5_init hb165 hf) rfl (Nat.le_of_ble_eq_true rfl) (Nat.le_of_ble_eq_true rfl) (Nat.le_of_ble_eq_true rfl) (Nat.le_of_ble_eq_true rfl) hl.1 (Nat.le_of_ble_eq_true rfl) dX3_init_171 (fun g167 S168 m169 H locs ex170 px hf hR hS => ?_)
  replace hf := hf px
  have ea := ex170.ad hs0
  (try rw [← ea] at hl)
  (try rw [← ea])
  have ea := ex170.ad h161
  (try rw [← ea] at hl)
  (try rw [← ea])
  have ea := ex170.ad hb165
  (try rw [← ea] at hl)
  (try rw [← ea])
  have hs0 := px.at hs0
  have hb10 := px.at hb10
  have hb104 := px.at hb104
  have h115 := px.at h115
  have hb119 := px.at hb119
  have h130 := px.at h130
  have hb134 := px.at hb134
  have h146 := px.at h146
  have hb150 := px.at hb150
  have h161 := px.at h161
  have hb16 := px.at hb16
  have hb165 := px.at hb165
  have hb22 := px.at hb22
  have hb28 := px.at hb28
  have hb34 := px.at hb34
  have hb4 := px.at hb4
  have hb40 := px.at hb40
  have hb54 := px.at hb54
  have hb60 := px.at hb60
  have hb70 := px.at hb70
  have h85 := px.at h85
  have hb89 := px.at hb89
  have h100 := px.at h100
  have E := E.ex ex170
  have hw : ad g167 100000 < s.heap.size := by rw [ex170.2.2.2.1]; exact hw
  have hbs : g167.1 ≤ s.heap.size := by rw [ex170.1]; exact hbs
  have exA := exA.tr pxA ex170
  have pxA := pxA.tr px
  obtain ⟨i172n, i172s, i172, hf⟩ := hf
  refine hw_aast55 E hR hS hw i172s hb165 i172 dX3_init_174 (fun m171 H locs em171 hR hS => ?_)
  replace hf := hf m171 em171
  refine lv_iinc (v := 2) (lv' := [(1, .int (2 : Int32)), (0, .ref (ad g167 a0))]) E.1 E.2.1 dX3_init_175 hl (k := 0) rfl (by decide) (by decide) rfl (fun ls hl => ?_)
  refine lv_goto (tgt := 157) E.1 E.2.1 dX3_init_178 (by decide) ?_
  refine lv_iload_n E.1 E.2.1 dX3_init_157 rfl (lv_at hl 0 rfl) ?_
  refine lv_iconst (v := 3) E.1 E.2.1 dX3_init_158 (by decide) ?_
  refine lv_icmp_ge (tgt := 181) E.1 E.2.1 dX3_init_159 (by decide) (fun c173 => ?_) (fun c173 => ?_)
  · exact absurd c173 (by decide)
  refine lv_aload_n E.1 E.2.1 dX3_init_162 rfl (lv_at hl 1 rfl) ?_
  obtain ⟨b174, hb174, hf⟩ := hf
  refine hw_getR E hR cI2 hs0 1 (by decide) lfX3_17 rfl hb174 dX3_init_163 ?_
  obtain ⟨n175, h176, hf⟩ := hf
  refine lv_iload_n E.1 E.2.1 dX3_init_166 rfl (lv_at hl 0 rfl) ?_
  obtain ⟨hcl, hln, hf⟩ := hf
  refine hw_new E hR hS hw hbs hcl hln cI4 cd4 lnX3_9 (Nat.le_of_ble_eq_true rfl) (Nat.le_of_ble_eq_true rfl) dX3_init_167 (fun g177 S178 m179 H ex181 eS178 em179 hR hS => ?_)
  obtain ⟨b180, eb180⟩ : ∃ y, y = S168.length := ⟨_, rfl⟩
  rw [← eb180]
  replace hf := hf S178 eS178 m179 em179 b180 eb180
  have hb180 := ex_last eS178 eb180
  have px : PX S168 S178 := ⟨_, eS178⟩
  have ea := ex181.ad hs0
  (try rw [← ea] at hl)
  (try rw [← ea])
  have ea := ex181.ad h176
  (try rw [← ea] at hl)
  (try rw [← ea])
  have hs0 := px.at hs0
  have hb10 := px.at hb10
  have hb104 := px.at hb104
  have h115 := px.at h115
  have hb119 := px.at hb119
  have h130 := px.at h130
  have hb134 := px.at hb134
  have h146 := px.at h146
  have hb150 := px.at hb150
  have h161 := px.at h161
  have hb16 := px.at hb16
  have hb165 := px.at hb165
  have h176 := px.at h176
  have hb22 := px.at hb22
  have hb28 := px.at hb28
  have hb34 := px.at hb34
  have hb4 := px.at hb4
  have hb40 := px.at hb40
  have hb54 := px.at hb54
  have hb60 := px.at hb60
  have hb70 := px.at hb70
  have h85 := px.at h85
  have hb89 := px.at hb89
  have h100 := px.at h100
  have E := E.ex ex181
  have hw : ad g177 100000 < s.heap.size := by rw [ex181.2.2.2.1]; exact hw
  have hbs : g177.1 ≤ s.heap.size := by rw [ex181.1]; exact hbs
  have exA := exA.tr pxA ex181
  have pxA := pxA.tr px
  refine lv_dup E.1 E.2.1 dX3_init_170 rfl ?_
  refine hw_callC (rest := [.ref (ad g177 b180), .int (2 : Int32), .ref (ad g177 b174)]) E hR hS hN mcX5_init rfl miX5_init (Or.inl (by decide +kernel)) (ok_X5_init hb180 hf) rfl (Nat.le_of_ble_eq_true rfl) (Nat.le_of_ble_eq_true rfl) (Nat.le_of_ble_eq_true rfl) (Nat.le_of_ble_eq_true rfl) hl.1 (Nat.le_of_ble_eq_true rfl) dX3_init_171 (fun g182 S183 m184 H locs ex185 px hf hR hS => ?_)
  replace hf := hf px
  have ea := ex185.ad hs0
  (try rw [← ea] at hl)
  (try rw [← ea])
  have ea := ex185.ad h176
  (try rw [← ea] at hl)
  (try rw [← ea])
  have ea := ex185.ad hb180
  (try rw [← ea] at hl)
  (try rw [← ea])
  have hs0 := px.at hs0
  have hb10 := px.at hb10
  have hb104 := px.at hb104
  have h115 := px.at h115
  have hb119 := px.at hb119
  have h130 := px.at h130
  have hb134 := px.at hb134
  have h146 := px.at h146
  have hb150 := px.at hb150
  have h161 := px.at h161
  have hb16 := px.at hb16
  have hb165 := px.at hb165
  have h176 := px.at h176
  have hb180 := px.at hb180
  have hb22 := px.at hb22
  have hb28 := px.at hb28
  have hb34 := px.at hb34
  have hb4 := px.at hb4
  have hb40 := px.at hb40
  have hb54 := px.at hb54
  have hb60 := px.at hb60
  have hb70 := px.at hb70
  have h85 := px.at h85
  have hb89 := px.at hb89
  have h100 := px.at h100
  have E := E.ex ex185
  have hw : ad g182 100000 < s.heap.size := by rw [ex185.2.2.2.1]; exact hw
  have hbs : g182.1 ≤ s.heap.size := by rw [ex185.1]; exact hbs
  have exA := exA.tr pxA ex185
  have pxA := pxA.tr px
  obtain ⟨i187n, i187s, i187, hf⟩ := hf
  refine hw_aast55 E hR hS hw i187s hb180 i187 dX3_init_174 (fun m186 H locs em186 hR hS => ?_)
  replace hf := hf m186 em186
  refine lv_iinc (v := 3) (lv' := [(1, .int (3 : Int32)), (0, .ref (ad g182 a0))]) E.1 E.2.1 dX3_init_175 hl (k := 0) rfl (by decide) (by decide) rfl (fun ls hl => ?_)
  refine lv_goto (tgt := 157) E.1 E.2.1 dX3_init_178 (by decide) ?_
  refine lv_iload_n E.1 E.2.1 dX3_init_157 rfl (lv_at hl 0 rfl) ?_
  refine lv_iconst (v := 3) E.1 E.2.1 dX3_init_158 (by decide) ?_
  refine lv_icmp_ge (tgt := 181) E.1 E.2.1 dX3_init_159 (by decide) (fun c188 => ?_) (fun c188 => ?_)
  rotate_left
  · exact absurd (by decide) c188
  refine lv_iconst (v := 0) E.1 E.2.1 dX3_init_181 (by decide) ?_
  refine lv_istore_n (lv' := [(1, .int (0 : Int32)), (0, .ref (ad g182 a0))]) E.1 E.2.1 dX3_init_182 rfl hl (by decide) rfl (fun ls hl => ?_)
  refine lv_iload_n E.1 E.2.1 dX3_init_183 rfl (lv_at hl 0 rfl) ?_
  refine lv_iconst (v := 5) E.1 E.2.1 dX3_init_184 (by decide) ?_
  refine lv_icmp_ge (tgt := 207) E.1 E.2.1 dX3_init_185 (by decide) (fun c189 => ?_) (fun c189 => ?_)
  · exact absurd c189 (by decide)
  refine lv_aload_n E.1 E.2.1 dX3_init_188 rfl (lv_at hl 1 rfl) ?_
  obtain ⟨b190, hb190, hf⟩ := hf
  refine hw_getR E hR cI2 hs0 2 (by decide) lfX3_20 rfl hb190 dX3_init_189 ?_
  obtain ⟨n191, h192, hf⟩ := hf
  refine lv_iload_n E.1 E.2.1 dX3_init_192 rfl (lv_at hl 0 rfl) ?_
  obtain ⟨hcl, hln, hf⟩ := hf
  refine hw_new E hR hS hw hbs hcl hln cI4 cd4 lnX3_9 (Nat.le_of_ble_eq_true rfl) (Nat.le_of_ble_eq_true rfl) dX3_init_193 (fun g193 S194 m195 H ex197 eS194 em195 hR hS => ?_)
  obtain ⟨b196, eb196⟩ : ∃ y, y = S183.length := ⟨_, rfl⟩
  rw [← eb196]
  replace hf := hf S194 eS194 m195 em195 b196 eb196
  have hb196 := ex_last eS194 eb196
  have px : PX S183 S194 := ⟨_, eS194⟩
  have ea := ex197.ad hs0
  (try rw [← ea] at hl)
  (try rw [← ea])
  have ea := ex197.ad h192
  (try rw [← ea] at hl)
  (try rw [← ea])
  have hs0 := px.at hs0
  have hb10 := px.at hb10
  have hb104 := px.at hb104
  have h115 := px.at h115
  have hb119 := px.at hb119
  have h130 := px.at h130
  have hb134 := px.at hb134
  have h146 := px.at h146
  have hb150 := px.at hb150
  have h161 := px.at h161
  have hb16 := px.at hb16
  have hb165 := px.at hb165
  have h176 := px.at h176
  have hb180 := px.at hb180
  have h192 := px.at h192
  have hb22 := px.at hb22
  have hb28 := px.at hb28
  have hb34 := px.at hb34
  have hb4 := px.at hb4
  have hb40 := px.at hb40
  have hb54 := px.at hb54
  have hb60 := px.at hb60
  have hb70 := px.at hb70
  have h85 := px.at h85
  have hb89 := px.at hb89
  have h100 := px.at h100
  have E := E.ex ex197
  have hw : ad g193 100000 < s.heap.size := by rw [ex197.2.2.2.1]; exact hw
  have hbs : g193.1 ≤ s.heap.size := by rw [ex197.1]; exact hbs
  have exA := exA.tr pxA ex197
  have pxA := pxA.tr px
  refine lv_dup E.1 E.2.1 dX3_init_196 rfl ?_
  refine hw_callC (rest := [.ref (ad g193 b196), .int (0 : Int32), .ref (ad g193 b190)]) E hR hS hN mcX5_init rfl miX5_init (Or.inl (by decide +kernel)) (ok_X5_init hb196 hf) rfl (Nat.le_of_ble_eq_true rfl) (Nat.le_of_ble_eq_true rfl) (Nat.le_of_ble_eq_true rfl) (Nat.le_of_ble_eq_true rfl) hl.1 (Nat.le_of_ble_eq_true rfl) dX3_init_197 (fun g198 S199 m200 H locs ex201 px hf hR hS => ?_)
  replace hf := hf px
  have ea := ex201.ad hs0
  (try rw [← ea] at hl)
  (try rw [← ea])
  have ea := ex201.ad h192
  (try rw [← ea] at hl)
  (try rw [← ea])
  have ea := ex201.ad hb196
  (try rw [← ea] at hl)
  (try rw [← ea])
  have hs0 := px.at hs0
  have hb10 := px.at hb10
  have hb104 := px.at hb104
  have h115 := px.at h115
  have hb119 := px.at hb119
  have h130 := px.at h130
  have hb134 := px.at hb134
  have h146 := px.at h146
  have hb150 := px.at hb150
  have h161 := px.at h161
  have hb16 := px.at hb16
  have hb165 := px.at hb165
  have h176 := px.at h176
  have hb180 := px.at hb180
  have h192 := px.at h192
  have hb196 := px.at hb196
  have hb22 := px.at hb22
  have hb28 := px.at hb28
  have hb34 := px.at hb34
  have hb4 := px.at hb4
  have hb40 := px.at hb40
  have hb54 := px.at hb54
  have hb60 := px.at hb60
  have hb70 := px.at hb70
  have h85 := px.at h85
  have hb89 := px.at hb89
  have h100 := px.at h100
  have E := E.ex ex201
  have hw : ad g198 100000 < s.heap.size := by rw [ex201.2.2.2.1]; exact hw
  have hbs : g198.1 ≤ s.heap.size := by rw [ex201.1]; exact hbs
  have exA := exA.tr pxA ex201
  have pxA := pxA.tr px
  obtain ⟨i203n, i203s, i203, hf⟩ := hf
  refine hw_aast55 E hR hS hw i203s hb196 i203 dX3_init_200 (fun m202 H locs em202 hR hS => ?_)
  replace hf := hf m202 em202
  refine lv_iinc (v := 1) (lv' := [(1, .int (1 : Int32)), (0, .ref (ad g198 a0))]) E.1 E.2.1 dX3_init_201 hl (k := 0) rfl (by decide) (by decide) rfl (fun ls hl => ?_)
  refine lv_goto (tgt := 183) E.1 E.2.1 dX3_init_204 (by decide) ?_
  refine lv_iload_n E.1 E.2.1 dX3_init_183 rfl (lv_at hl 0 rfl) ?_
  refine lv_iconst (v := 5) E.1 E.2.1 dX3_init_184 (by decide) ?_
  refine lv_icmp_ge (tgt := 207) E.1 E.2.1 dX3_init_185 (by decide) (fun c204 => ?_) (fun c204 => ?_)
  · exact absurd c204 (by decide)
  refine lv_aload_n E.1 E.2.1 dX3_init_188 rfl (lv_at hl 1 rfl) ?_
  obtain ⟨b205, hb205, hf⟩ := hf
  refine hw_getR E hR cI2 hs0 2 (by decide) lfX3_20 rfl hb205 dX3_init_189 ?_
  obtain ⟨n206, h207, hf⟩ := hf
  refine lv_iload_n E.1 E.2.1 dX3_init_192 rfl (lv_at hl 0 rfl) ?_
  obtain ⟨hcl, hln, hf⟩ := hf
  refine hw_new E hR hS hw hbs hcl hln cI4 cd4 lnX3_9 (Nat.le_of_ble_eq_true rfl) (Nat.le_of_ble_eq_true rfl) dX3_init_193 (fun g208 S209 m210 H ex212 eS209 em210 hR hS => ?_)
  obtain ⟨b211, eb211⟩ : ∃ y, y = S199.length := ⟨_, rfl⟩
  rw [← eb211]
  replace hf := hf S209 eS209 m210 em210 b211 eb211
  have hb211 := ex_last eS209 eb211
  have px : PX S199 S209 := ⟨_, eS209⟩
  have ea := ex212.ad hs0
  (try rw [← ea] at hl)
  (try rw [← ea])
  have ea := ex212.ad h207
  (try rw [← ea] at hl)
  (try rw [← ea])
  have hs0 := px.at hs0
  have hb10 := px.at hb10
  have hb104 := px.at hb104
  have h115 := px.at h115
  have hb119 := px.at hb119
  have h130 := px.at h130
  have hb134 := px.at hb134
  have h146 := px.at h146
  have hb150 := px.at hb150
  have h161 := px.at h161
  have hb16 := px.at hb16
  have hb165 := px.at hb165
  have h176 := px.at h176
  have hb180 := px.at hb180
  have h192 := px.at h192
  have hb196 := px.at hb196
  have h207 := px.at h207
  have hb22 := px.at hb22
  have hb28 := px.at hb28
  have hb34 := px.at hb34
  have hb4 := px.at hb4
  have hb40 := px.at hb40
  have hb54 := px.at hb54
  have hb60 := px.at hb60
  have hb70 := px.at hb70
  have h85 := px.at h85
  have hb89 := px.at hb89
  have h100 := px.at h100
  have E := E.ex ex212
  have hw : ad g208 100000 < s.heap.size := by rw [ex212.2.2.2.1]; exact hw
  have hbs : g208.1 ≤ s.heap.size := by rw [ex212.1]; exact hbs
  have exA := exA.tr pxA ex212
  have pxA := pxA.tr px
  refine lv_dup E.1 E.2.1 dX3_init_196 rfl ?_
  refine hw_callC (rest := [.ref (ad g208 b211), .int (1 : Int32), .ref (ad g208 b205)]) E hR hS hN mcX5_init rfl miX5_init (Or.inl (by decide +kernel)) (ok_X5_init hb211 hf) rfl (Nat.le_of_ble_eq_true rfl) (Nat.le_of_ble_eq_true rfl) (Nat.le_of_ble_eq_true rfl) (Nat.le_of_ble_eq_true rfl) hl.1 (Nat.le_of_ble_eq_true rfl) dX3_init_197 (fun g213 S214 m215 H locs ex216 px hf hR hS => ?_)
  replace hf := hf px
  have ea := ex216.ad hs0
  (try rw [← ea] at hl)
  (try rw [← ea])
  have ea := ex216.ad h207
  (try rw [← ea] at hl)
  (try rw [← ea])
  have ea := ex216.ad hb211
  (try rw [← ea] at hl)
  (try rw [← ea])
  have hs0 := px.at hs0
  have hb10 := px.at hb10
  have hb104 := px.at hb104
  have h115 := px.at h115
  have hb119 := px.at hb119
  have h130 := px.at h130
  have hb134 := px.at hb134
  have h146 := px.at h146
  have hb150 := px.at hb150
  have h161 := px.at h161
  have hb16 := px.at hb16
  have hb165 := px.at hb165
  have h176 := px.at h176
  have hb180 := px.at hb180
  have h192 := px.at h192
  have hb196 := px.at hb196
  have h207 := px.at h207
  have hb211 := px.at hb211
  have hb22 := px.at hb22
  have hb28 := px.at hb28
  have hb34 := px.at hb34
  have hb4 := px.at hb4
  have hb40 := px.at hb40
  have hb54 := px.at hb54
  have hb60 := px.at hb60
  have hb70 := px.at hb70
  have h85 := px.at h85
  have hb89 := px.at hb89
  have h100 := px.at h100
  have E := E.ex ex216
  have hw : ad g213 100000 < s.heap.size := by rw [ex216.2.2.2.1]; exact hw
  have hbs : g213.1 ≤ s.heap.size := by rw [ex216.1]; exact hbs
  have exA := exA.tr pxA ex216
  have pxA := pxA.tr px
  obtain ⟨i218n, i218s, i218, hf⟩ := hf
  refine hw_aast55 E hR hS hw i218s hb211 i218 dX3_init_200 (fun m217 H locs em217 hR hS => ?_)
  replace hf := hf m217 em217
  refine lv_iinc (v := 2) (lv' := [(1, .int (2 : Int32)), (0, .ref (ad g213 a0))]) E.1 E.2.1 dX3_init_201 hl (k := 0) rfl (by decide) (by decide) rfl (fun ls hl => ?_)
  refine lv_goto (tgt := 183) E.1 E.2.1 dX3_init_204 (by decide) ?_
  refine lv_iload_n E.1 E.2.1 dX3_init_183 rfl (lv_at hl 0 rfl) ?_
  refine lv_iconst (v := 5) E.1 E.2.1 dX3_init_184 (by decide) ?_
  refine lv_icmp_ge (tgt := 207) E.1 E.2.1 dX3_init_185 (by decide) (fun c219 => ?_) (fun c219 => ?_)
  · exact absurd c219 (by decide)
  refine lv_aload_n E.1 E.2.1 dX3_init_188 rfl (lv_at hl 1 rfl) ?_
  obtain ⟨b220, hb220, hf⟩ := hf
  refine hw_getR E hR cI2 hs0 2 (by decide) lfX3_20 rfl hb220 dX3_init_189 ?_
  obtain ⟨n221, h222, hf⟩ := hf
  refine lv_iload_n E.1 E.2.1 dX3_init_192 rfl (lv_at hl 0 rfl) ?_
  obtain ⟨hcl, hln, hf⟩ := hf
  refine hw_new E hR hS hw hbs hcl hln cI4 cd4 lnX3_9 (Nat.le_of_ble_eq_true rfl) (Nat.le_of_ble_eq_true rfl) dX3_init_193 (fun g223 S224 m225 H ex227 eS224 em225 hR hS => ?_)
  obtain ⟨b226, eb226⟩ : ∃ y, y = S214.length := ⟨_, rfl⟩
  rw [← eb226]
  replace hf := hf S224 eS224 m225 em225 b226 eb226
  have hb226 := ex_last eS224 eb226
  have px : PX S214 S224 := ⟨_, eS224⟩
  have ea := ex227.ad hs0
  (try rw [← ea] at hl)
  (try rw [← ea])
  have ea := ex227.ad h222
  (try rw [← ea] at hl)
  (try rw [← ea])
  have hs0 := px.at hs0
  have hb10 := px.at hb10
  have hb104 := px.at hb104
  have h115 := px.at h115
  have hb119 := px.at hb119
  have h130 := px.at h130
  have hb134 := px.at hb134
  have h146 := px.at h146
  have hb150 := px.at hb150
  have h161 := px.at h161
  have hb16 := px.at hb16
  have hb165 := px.at hb165
  have h176 := px.at h176
  have hb180 := px.at hb180
  have h192 := px.at h192
  have hb196 := px.at hb196
  have h207 := px.at h207
  have hb211 := px.at hb211
  have hb22 := px.at hb22
  have h222 := px.at h222
  have hb28 := px.at hb28
  have hb34 := px.at hb34
  have hb4 := px.at hb4
  have hb40 := px.at hb40
  have hb54 := px.at hb54
  have hb60 := px.at hb60
  have hb70 := px.at hb70
  have h85 := px.at h85
  have hb89 := px.at hb89
  have h100 := px.at h100
  have E := E.ex ex227
  have hw : ad g223 100000 < s.heap.size := by rw [ex227.2.2.2.1]; exact hw
  have hbs : g223.1 ≤ s.heap.size := by rw [ex227.1]; exact hbs
  have exA := exA.tr pxA ex227
  have pxA := pxA.tr px
  refine lv_dup E.1 E.2.1 dX3_init_196 rfl ?_
  refine hw_callC (rest := [.ref (ad g223 b226), .int (2 : Int32), .ref (ad g223 b220)]) E hR hS hN mcX5_init rfl miX5_init (Or.inl (by decide +kernel)) (ok_X5_init hb226 hf) rfl (Nat.le_of_ble_eq_true rfl) (Nat.le_of_ble_eq_true rfl) (Nat.le_of_ble_eq_true rfl) (Nat.le_of_ble_eq_true rfl) hl.1 (Nat.le_of_ble_eq_true rfl) dX3_init_197 (fun g228 S229 m230 H locs ex231 px hf hR hS => ?_)
  replace hf := hf px
  have ea := ex231.ad hs0
  (try rw [← ea] at hl)
  (try rw [← ea])
  have ea := ex231.ad h222
  (try rw [← ea] at hl)
  (try rw [← ea])
  have ea := ex231.ad hb226
  (try rw [← ea] at hl)
  (try rw [← ea])
  have hs0 := px.at hs0
  have hb10 := px.at hb10
  have hb104 := px.at hb104
  have h115 := px.at h115
  have hb119 := px.at hb119
  have h130 := px.at h130
  have hb134 := px.at hb134
  have h146 := px.at h146
  have hb150 := px.at hb150
  have h161 := px.at h161
  have hb16 := px.at hb16
  have hb165 := px.at hb165
  have h176 := px.at h176
  have hb180 := px.at hb180
  have h192 := px.at h192
  have hb196 := px.at hb196
  have h207 := px.at h207
  have hb211 := px.at hb211
  have hb22 := px.at hb22
  have h222 := px.at h222
  have hb226 := px.at hb226
  have hb28 := px.at hb28
  have hb34 := px.at hb34
  have hb4 := px.at hb4
  have hb40 := px.at hb40
  have hb54 := px.at hb54
  have hb60 := px.at hb60
  have hb70 := px.at hb70
  have h85 := px.at h85
  have hb89 := px.at hb89
  have h100 := px.at h100
  have E := E.ex ex231
  have hw : ad g228 100000 < s.heap.size := by rw [ex231.2.2.2.1]; exact hw
  have hbs : g228.1 ≤ s.heap.size := by rw [ex231.1]; exact hbs
  have exA := exA.tr pxA ex231
  have pxA := pxA.tr px
  obtain ⟨i233n, i233s, i233, hf⟩ := hf
  refine hw_aast55 E hR hS hw i233s hb226 i233 dX3_init_200 (fun m232 H locs em232 hR hS => ?_)
  replace hf := hf m232 em232
  refine lv_iinc (v := 3) (lv' := [(1, .int (3 : Int32)), (0, .ref (ad g228 a0))]) E.1 E.2.1 dX3_init_201 hl (k := 0) rfl (by decide) (by decide) rfl (fun ls hl => ?_)
  refine lv_goto (tgt := 183) E.1 E.2.1 dX3_init_204 (by decide) ?_
  refine lv_iload_n E.1 E.2.1 dX3_init_183 rfl (lv_at hl 0 rfl) ?_
  refine lv_iconst (v := 5) E.1 E.2.1 dX3_init_184 (by decide) ?_
  refine lv_icmp_ge (tgt := 207) E.1 E.2.1 dX3_init_185 (by decide) (fun c234 => ?_) (fun c234 => ?_)
  · exact absurd c234 (by decide)
  refine lv_aload_n E.1 E.2.1 dX3_init_188 rfl (lv_at hl 1 rfl) ?_
  obtain ⟨b235, hb235, hf⟩ := hf
  refine hw_getR E hR cI2 hs0 2 (by decide) lfX3_20 rfl hb235 dX3_init_189 ?_
  obtain ⟨n236, h237, hf⟩ := hf
  refine lv_iload_n E.1 E.2.1 dX3_init_192 rfl (lv_at hl 0 rfl) ?_
  obtain ⟨hcl, hln, hf⟩ := hf
  refine hw_new E hR hS hw hbs hcl hln cI4 cd4 lnX3_9 (Nat.le_of_ble_eq_true rfl) (Nat.le_of_ble_eq_true rfl) dX3_init_193 (fun g238 S239 m240 H ex242 eS239 em240 hR hS => ?_)
  obtain ⟨b241, eb241⟩ : ∃ y, y = S229.length := ⟨_, rfl⟩
  rw [← eb241]
  replace hf := hf S239 eS239 m240 em240 b241 eb241
  have hb241 := ex_last eS239 eb241
  have px : PX S229 S239 := ⟨_, eS239⟩
  have ea := ex242.ad hs0
  (try rw [← ea] at hl)
  (try rw [← ea])
  have ea := ex242.ad h237
  (try rw [← ea] at hl)
  (try rw [← ea])
  have hs0 := px.at hs0
  have hb10 := px.at hb10
  have hb104 := px.at hb104
  have h115 := px.at h115
  have hb119 := px.at hb119
  have h130 := px.at h130
  have hb134 := px.at hb134
  have h146 := px.at h146
  have hb150 := px.at hb150
  have h161 := px.at h161
  have hb16 := px.at hb16
  have hb165 := px.at hb165
  have h176 := px.at h176
  have hb180 := px.at hb180
  have h192 := px.at h192
  have hb196 := px.at hb196
  have h207 := px.at h207
  have hb211 := px.at hb211
  have hb22 := px.at hb22
  have h222 := px.at h222
  have hb226 := px.at hb226
  have h237 := px.at h237
  have hb28 := px.at hb28
  have hb34 := px.at hb34
  have hb4 := px.at hb4
  have hb40 := px.at hb40
  have hb54 := px.at hb54
  have hb60 := px.at hb60
  have hb70 := px.at hb70
  have h85 := px.at h85
  have hb89 := px.at hb89
  have h100 := px.at h100
  have E := E.ex ex242
  have hw : ad g238 100000 < s.heap.size := by rw [ex242.2.2.2.1]; exact hw
  have hbs : g238.1 ≤ s.heap.size := by rw [ex242.1]; exact hbs
  have exA := exA.tr pxA ex242
  have pxA := pxA.tr px
  refine lv_dup E.1 E.2.1 dX3_init_196 rfl ?_
  refine hw_callC (rest := [.ref (ad g238 b241), .int (3 : Int32), .ref (ad g238 b235)]) E hR hS hN mcX5_init rfl miX5_init (Or.inl (by decide +kernel)) (ok_X5_init hb241 hf) rfl (Nat.le_of_ble_eq_true rfl) (Nat.le_of_ble_eq_true rfl) (Nat.le_of_ble_eq_true rfl) (Nat.le_of_ble_eq_true rfl) hl.1 (Nat.le_of_ble_eq_true rfl) dX3_init_197 (fun g243 S244 m245 H locs ex246 px hf hR hS => ?_)
  replace hf := hf px
  have ea := ex246.ad hs0
  (try rw [← ea] at hl)
  (try rw [← ea])
  have ea := ex246.ad h237
  (try rw [← ea] at hl)
  (try rw [← ea])
  have ea := ex246.ad hb241
  (try rw [← ea] at hl)
  (try rw [← ea])
  have hs0 := px.at hs0
  have hb10 := px.at hb10
  have hb104 := px.at hb104
  have h115 := px.at h115
  have hb119 := px.at hb119
  have h130 := px.at h130
  have hb134 := px.at hb134
  have h146 := px.at h146
  have hb150 := px.at hb150
  have h161 := px.at h161
  have hb16 := px.at hb16
  have hb165 := px.at hb165
  have h176 := px.at h176
  have hb180 := px.at hb180
  have h192 := px.at h192
  have hb196 := px.at hb196
  have h207 := px.at h207
  have hb211 := px.at hb211
  have hb22 := px.at hb22
  have h222 := px.at h222
  have hb226 := px.at hb226
  have h237 := px.at h237
  have hb241 := px.at hb241
  have hb28 := px.at hb28
  have hb34 := px.at hb34
  have hb4 := px.at hb4
  have hb40 := px.at hb40
  have hb54 := px.at hb54
  have hb60 := px.at hb60
  have hb70 := px.at hb70
  have h85 := px.at h85
  have hb89 := px.at hb89
  have h100 := px.at h100
  have E := E.ex ex246
  have hw : ad g243 100000 < s.heap.size := by rw [ex246.2.2.2.1]; exact hw
  have hbs : g243.1 ≤ s.heap.size := by rw [ex246.1]; exact hbs
  have exA := exA.tr pxA ex246
  have pxA := pxA.tr px
  obtain ⟨i248n, i248s, i248, hf⟩ := hf
  refine hw_aast55 E hR hS hw i248s hb241 i248 dX3_init_200 (fun m247 H locs em247 hR hS => ?_)
  replace hf := hf m247 em247
  refine lv_iinc (v := 4) (lv' := [(1, .int (4 : Int32)), (0, .ref (ad g243 a0))]) E.1 E.2.1 dX3_init_201 hl (k := 0) rfl (by decide) (by decide) rfl (fun ls hl => ?_)
  refine lv_goto (tgt := 183) E.1 E.2.1 dX3_init_204 (by decide) ?_
  refine lv_iload_n E.1 E.2.1 dX3_init_183 rfl (lv_at hl 0 rfl) ?_
  refine lv_iconst (v := 5) E.1 E.2.1 dX3_init_184 (by decide) ?_
  refine lv_icmp_ge (tgt := 207) E.1 E.2.1 dX3_init_185 (by decide) (fun c249 => ?_) (fun c249 => ?_)
  · exact absurd c249 (by decide)
  refine lv_aload_n E.1 E.2.1 dX3_init_188 rfl (lv_at hl 1 rfl) ?_
  obtain ⟨b250, hb250, hf⟩ := hf
  refine hw_getR E hR cI2 hs0 2 (by decide) lfX3_20 rfl hb250 dX3_init_189 ?_
  obtain ⟨n251, h252, hf⟩ := hf
  refine lv_iload_n E.1 E.2.1 dX3_init_192 rfl (lv_at hl 0 rfl) ?_
  obtain ⟨hcl, hln, hf⟩ := hf
  refine hw_new E hR hS hw hbs hcl hln cI4 cd4 lnX3_9 (Nat.le_of_ble_eq_true rfl) (Nat.le_of_ble_eq_true rfl) dX3_init_193 (fun g253 S254 m255 H ex257 eS254 em255 hR hS => ?_)
  obtain ⟨b256, eb256⟩ : ∃ y, y = S244.length := ⟨_, rfl⟩
  rw [← eb256]
  replace hf := hf S254 eS254 m255 em255 b256 eb256
  have hb256 := ex_last eS254 eb256
  have px : PX S244 S254 := ⟨_, eS254⟩
  have ea := ex257.ad hs0
  (try rw [← ea] at hl)
  (try rw [← ea])
  have ea := ex257.ad h252
  (try rw [← ea] at hl)
  (try rw [← ea])
  have hs0 := px.at hs0
  have hb10 := px.at hb10
  have hb104 := px.at hb104
  have h115 := px.at h115
  have hb119 := px.at hb119
  have h130 := px.at h130
  have hb134 := px.at hb134
  have h146 := px.at h146
  have hb150 := px.at hb150
  have h161 := px.at h161
  have hb16 := px.at hb16
  have hb165 := px.at hb165
  have h176 := px.at h176
  have hb180 := px.at hb180
  have h192 := px.at h192
  have hb196 := px.at hb196
  have h207 := px.at h207
  have hb211 := px.at hb211
  have hb22 := px.at hb22
  have h222 := px.at h222
  have hb226 := px.at hb226
  have h237 := px.at h237
  have hb241 := px.at hb241
  have h252 := px.at h252
  have hb28 := px.at hb28
  have hb34 := px.at hb34
  have hb4 := px.at hb4
  have hb40 := px.at hb40
  have hb54 := px.at hb54
  have hb60 := px.at hb60
  have hb70 := px.at hb70
  have h85 := px.at h85
  have hb89 := px.at hb89
  have h100 := px.at h100
  have E := E.ex ex257
  have hw : ad g253 100000 < s.heap.size := by rw [ex257.2.2.2.1]; exact hw
  have hbs : g253.1 ≤ s.heap.size := by rw [ex257.1]; exact hbs
  have exA := exA.tr pxA ex257
  have pxA := pxA.tr px
  refine lv_dup E.1 E.2.1 dX3_init_196 rfl ?_
  refine hw_callC (rest := [.ref (ad g253 b256), .int (4 : Int32), .ref (ad g253 b250)]) E hR hS hN mcX5_init rfl miX5_init (Or.inl (by decide +kernel)) (ok_X5_init hb256 hf) rfl (Nat.le_of_ble_eq_true rfl) (Nat.le_of_ble_eq_true rfl) (Nat.le_of_ble_eq_true rfl) (Nat.le_of_ble_eq_true rfl) hl.1 (Nat.le_of_ble_eq_true rfl) dX3_init_197 (fun g258 S259 m260 H locs ex261 px hf hR hS => ?_)
  replace hf := hf px
  have ea := ex261.ad hs0
  (try rw [← ea] at hl)
  (try rw [← ea])
  have ea := ex261.ad h252
  (try rw [← ea] at hl)
  (try rw [← ea])
  have ea := ex261.ad hb256
  (try rw [← ea] at hl)
  (try rw [← ea])
  have hs0 := px.at hs0
  have hb10 := px.at hb10
  have hb104 := px.at hb104
  have h115 := px.at h115
  have hb119 := px.at hb119
  have h130 := px.at h130
  have hb134 := px.at hb134
  have h146 := px.at h146
  have hb150 := px.at hb150
  have h161 := px.at h161
  have hb16 := px.at hb16
  have hb165 := px.at hb165
  have h176 := px.at h176
  have hb180 := px.at hb180
  have h192 := px.at h192
  have hb196 := px.at hb196
  have h207 := px.at h207
  have hb211 := px.at hb211
  have hb22 := px.at hb22
  have h222 := px.at h222
  have hb226 := px.at hb226
  have h237 := px.at h237
  have hb241 := px.at hb241
  have h252 := px.at h252
  have hb256 := px.at hb256
  have hb28 := px.at hb28
  have hb34 := px.at hb34
  have hb4 := px.at hb4
  have hb40 := px.at hb40
  have hb54 := px.at hb54
  have hb60 := px.at hb60
  have hb70 := px.at hb70
  have h85 := px.at h85
  have hb89 := px.at hb89
  have h100 := px.at h100
  have E := E.ex ex261
  have hw : ad g258 100000 < s.heap.size := by rw [ex261.2.2.2.1]; exact hw
  have hbs : g258.1 ≤ s.heap.size := by rw [ex261.1]; exact hbs
  have exA := exA.tr pxA ex261
  have pxA := pxA.tr px
  obtain ⟨i263n, i263s, i263, hf⟩ := hf
  refine hw_aast55 E hR hS hw i263s hb256 i263 dX3_init_200 (fun m262 H locs em262 hR hS => ?_)
  replace hf := hf m262 em262
  refine lv_iinc (v := 5) (lv' := [(1, .int (5 : Int32)), (0, .ref (ad g258 a0))]) E.1 E.2.1 dX3_init_201 hl (k := 0) rfl (by decide) (by decide) rfl (fun ls hl => ?_)
  refine lv_goto (tgt := 183) E.1 E.2.1 dX3_init_204 (by decide) ?_
  refine lv_iload_n E.1 E.2.1 dX3_init_183 rfl (lv_at hl 0 rfl) ?_
  refine lv_iconst (v := 5) E.1 E.2.1 dX3_init_184 (by decide) ?_
  refine lv_icmp_ge (tgt := 207) E.1 E.2.1 dX3_init_185 (by decide) (fun c264 => ?_) (fun c264 => ?_)
  rotate_left
  · exact absurd (by decide) c264
  refine W.widen (k := 92) (n := 2632) (Nat.le_of_ble_eq_true rfl) (Nat.le_of_ble_eq_true rfl) ?_
  exact hw_vretC E exA pxA hR hS hf dX3_init_207
set_option maxRecDepth 100000 in
set_option maxHeartbeats 4000000 in
def f_X6_init (S : Ss) (a0 : Nat) (M : Mm) (K : Ss → Mm → Prop) : Prop :=
  CL S M ∧ S.length < 100000 ∧
  ∀ S2 : Ss, S2 = S ++ [(51, 100)] → ∀ m3 : Mm, m3 = zr M S.length → ∀ b4 : Nat, b4 = S.length →
  ∀ m6 : Mm, m6 = stR m3 a0 0 (some b4) →
  ∀ m7 : Mm, m7 = stI m6 a0 1 (0 : Int32) →
  ∀ m8 : Mm, m8 = stI m7 a0 2 (0 : Int32) →
  ∀ m9 : Mm, m9 = stI m8 a0 3 (0 : Int32) →
  CL S2 m9 ∧ S2.length < 100000 ∧
  ∀ S11 : Ss, S11 = S2 ++ [(50, 60)] → ∀ m12 : Mm, m12 = zr m9 S2.length → ∀ b13 : Nat, b13 = S2.length →
  ∀ m15 : Mm, m15 = stR m12 a0 4 (some b13) →
  ∀ m16 : Mm, m16 = stI m15 a0 5 (0 : Int32) →
  CL S11 m16 ∧ S11.length < 100000 ∧
  ∀ S18 : Ss, S18 = S11 ++ [(4, 0)] → ∀ m19 : Mm, m19 = zr m16 S11.length → ∀ b20 : Nat, b20 = S11.length →
  f_X5_init S18 b20 m19 (fun (S23 : Ss) (m24 : Mm) => PX S18 S23 →
  ∀ m26 : Mm, m26 = stR m24 a0 6 (some b20) →
  K S23 m26)
set_option maxHeartbeats 4000000 in
set_option maxRecDepth 100000 in
theorem ok_X6_init {l : Launch} {g : Gg} {S : Ss} {a0 : Nat} {M : Mm} {K : Ss → Mm → Prop} (hs0 : S[a0]? = some (5, 0)) (hf : f_X6_init S a0 M K) : MTC l g S yX6_init cX6_init 1 2 8 337 [.ref (ad g a0)] M K := by
  refine MTC.of (by decide +kernel) (Nat.le_of_ble_eq_true rfl) ?_
  intro p e s m below meth c ls E hin hN hw hR hS hl
  have hl : lv_has ls 1 [(0, .ref (ad g a0))] := hl
  generalize ([.ref (ad g a0)] : List Value).toArray = args at E ⊢
  have E : EN p s m args meth c cX6_init 1 none RX6 g := E
  have hin : meth.name = "<init>" := hin
  have hbs := rp_bs hR hs0
  have exA : EX g g S := EX.rf
  have pxA : PX S S := PX.rf
  unfold f_X6_init at hf
  refine lv_aload_n E.1 E.2.1 dX6_init_0 rfl (lv_at hl 0 rfl) ?_
  refine hw_obj E hl loX6_3 (Nat.le_of_ble_eq_true rfl) (Nat.le_of_ble_eq_true rfl) (Nat.le_of_ble_eq_true rfl) dX6_init_1 ?_
  refine lv_aload_n E.1 E.2.1 dX6_init_4 rfl (lv_at hl 0 rfl) ?_
  refine lv_bipush (v := 100) E.1 E.2.1 dX6_init_5 (by decide) ?_
  obtain ⟨hcl, hln, hf⟩ := hf
  refine hw_newa51 E hR hS hw hbs hcl hln 100 (by decide) (by decide) (by decide) lar51 (Nat.le_of_ble_eq_true rfl) (Nat.le_of_ble_eq_true rfl) dX6_init_7 (fun g1 S2 m3 H ex5 eS2 em3 hR hS => ?_)
  obtain ⟨b4, eb4⟩ : ∃ y, y = S.length := ⟨_, rfl⟩
  rw [← eb4]
  replace hf := hf S2 eS2 m3 em3 b4 eb4
  have hb4 := ex_last eS2 eb4
  have px : PX S S2 := ⟨_, eS2⟩
  have ea := ex5.ad hs0
  (try rw [← ea] at hl)
  (try rw [← ea])
  have hs0 := px.at hs0
  have E := E.ex ex5
  have hw : ad g1 100000 < s.heap.size := by rw [ex5.2.2.2.1]; exact hw
  have hbs : g1.1 ≤ s.heap.size := by rw [ex5.1]; exact hbs
  have exA := exA.tr pxA ex5
  have pxA := pxA.tr px
  refine hw_putFR (o := (some b4)) E hin hR hS hw cI5 hs0 0 (by decide) lfX6_9 rfl rfl rfl dX6_init_9 (fun m6 H locs em6 hR hS => ?_)
  replace hf := hf m6 em6
  refine lv_aload_n E.1 E.2.1 dX6_init_12 rfl (lv_at hl 0 rfl) ?_
  refine lv_iconst (v := 0) E.1 E.2.1 dX6_init_13 (by decide) ?_
  refine hw_putI E hR hS hw cI5 hs0 1 (by decide) lfX6_15 rfl (Or.inl rfl) dX6_init_14 (fun m7 H locs em7 hR hS => ?_)
  replace hf := hf m7 em7
  refine lv_aload_n E.1 E.2.1 dX6_init_17 rfl (lv_at hl 0 rfl) ?_
  refine lv_iconst (v := 0) E.1 E.2.1 dX6_init_18 (by decide) ?_
  refine hw_putI E hR hS hw cI5 hs0 2 (by decide) lfX6_19 rfl (Or.inl rfl) dX6_init_19 (fun m8 H locs em8 hR hS => ?_)
  replace hf := hf m8 em8
  refine lv_aload_n E.1 E.2.1 dX6_init_22 rfl (lv_at hl 0 rfl) ?_
  refine lv_iconst (v := 0) E.1 E.2.1 dX6_init_23 (by decide) ?_
  refine hw_putI E hR hS hw cI5 hs0 3 (by decide) lfX6_22 rfl (Or.inl rfl) dX6_init_24 (fun m9 H locs em9 hR hS => ?_)
  replace hf := hf m9 em9
  refine lv_aload_n E.1 E.2.1 dX6_init_27 rfl (lv_at hl 0 rfl) ?_
  refine lv_bipush (v := 60) E.1 E.2.1 dX6_init_28 (by decide) ?_
  obtain ⟨hcl, hln, hf⟩ := hf
  refine hw_newa50 E hR hS hw hbs hcl hln 60 (by decide) (by decide) (by decide) lar50 (Nat.le_of_ble_eq_true rfl) (Nat.le_of_ble_eq_true rfl) dX6_init_30 (fun g10 S11 m12 H ex14 eS11 em12 hR hS => ?_)
  obtain ⟨b13, eb13⟩ : ∃ y, y = S2.length := ⟨_, rfl⟩
  rw [← eb13]
  replace hf := hf S11 eS11 m12 em12 b13 eb13
  have hb13 := ex_last eS11 eb13
  have px : PX S2 S11 := ⟨_, eS11⟩
  have ea := ex14.ad hs0
  (try rw [← ea] at hl)
  (try rw [← ea])
  have hs0 := px.at hs0
  have hb4 := px.at hb4
  have E := E.ex ex14
  have hw : ad g10 100000 < s.heap.size := by rw [ex14.2.2.2.1]; exact hw
  have hbs : g10.1 ≤ s.heap.size := by rw [ex14.1]; exact hbs
  have exA := exA.tr pxA ex14
  have pxA := pxA.tr px
  refine hw_putFR (o := (some b13)) E hin hR hS hw cI5 hs0 4 (by decide) lfX6_25 rfl rfl rfl dX6_init_32 (fun m15 H locs em15 hR hS => ?_)
  replace hf := hf m15 em15
  refine lv_aload_n E.1 E.2.1 dX6_init_35 rfl (lv_at hl 0 rfl) ?_
  refine lv_iconst (v := 0) E.1 E.2.1 dX6_init_36 (by decide) ?_
  refine hw_putI E hR hS hw cI5 hs0 5 (by decide) lfX6_29 rfl (Or.inl rfl) dX6_init_37 (fun m16 H locs em16 hR hS => ?_)
  replace hf := hf m16 em16
  refine lv_aload_n E.1 E.2.1 dX6_init_40 rfl (lv_at hl 0 rfl) ?_
  obtain ⟨hcl, hln, hf⟩ := hf
  refine hw_new E hR hS hw hbs hcl hln cI4 cd4 lnX6_32 (Nat.le_of_ble_eq_true rfl) (Nat.le_of_ble_eq_true rfl) dX6_init_41 (fun g17 S18 m19 H ex21 eS18 em19 hR hS => ?_)
  obtain ⟨b20, eb20⟩ : ∃ y, y = S11.length := ⟨_, rfl⟩
  rw [← eb20]
  replace hf := hf S18 eS18 m19 em19 b20 eb20
  have hb20 := ex_last eS18 eb20
  have px : PX S11 S18 := ⟨_, eS18⟩
  have ea := ex21.ad hs0
  (try rw [← ea] at hl)
  (try rw [← ea])
  have hs0 := px.at hs0
  have hb13 := px.at hb13
  have hb4 := px.at hb4
  have E := E.ex ex21
  have hw : ad g17 100000 < s.heap.size := by rw [ex21.2.2.2.1]; exact hw
  have hbs : g17.1 ≤ s.heap.size := by rw [ex21.1]; exact hbs
  have exA := exA.tr pxA ex21
  have pxA := pxA.tr px
  refine lv_dup E.1 E.2.1 dX6_init_44 rfl ?_
  refine hw_callC (rest := [.ref (ad g17 b20), .ref (ad g17 a0)]) E hR hS hN mcX5_init rfl miX5_init (Or.inl (by decide +kernel)) (ok_X5_init hb20 hf) rfl (Nat.le_of_ble_eq_true rfl) (Nat.le_of_ble_eq_true rfl) (Nat.le_of_ble_eq_true rfl) (Nat.le_of_ble_eq_true rfl) hl.1 (Nat.le_of_ble_eq_true rfl) dX6_init_45 (fun g22 S23 m24 H locs ex25 px hf hR hS => ?_)
  replace hf := hf px
  have ea := ex25.ad hs0
  (try rw [← ea] at hl)
  (try rw [← ea])
  have ea := ex25.ad hb20
  (try rw [← ea] at hl)
  (try rw [← ea])
  have hs0 := px.at hs0
  have hb13 := px.at hb13
  have hb20 := px.at hb20
  have hb4 := px.at hb4
  have E := E.ex ex25
  have hw : ad g22 100000 < s.heap.size := by rw [ex25.2.2.2.1]; exact hw
  have hbs : g22.1 ≤ s.heap.size := by rw [ex25.1]; exact hbs
  have exA := exA.tr pxA ex25
  have pxA := pxA.tr px
  refine hw_putR (o := (some b20)) E hR hS hw cI5 hs0 6 (by decide) lfX6_35 rfl rfl dX6_init_48 (fun m26 H locs em26 hR hS => ?_)
  replace hf := hf m26 em26
  refine W.widen (k := 8) (n := 337) (Nat.le_of_ble_eq_true rfl) (Nat.le_of_ble_eq_true rfl) ?_
  exact hw_vretC E exA pxA hR hS hf dX6_init_51
set_option maxRecDepth 100000 in
set_option maxHeartbeats 4000000 in
def f_X9_init (S : Ss) (a0 : Nat) (M : Mm) (K : Ss → Mm → Prop) : Prop :=
  CL S M ∧ S.length < 100000 ∧
  ∀ S2 : Ss, S2 = S ++ [(2, 0)] → ∀ m3 : Mm, m3 = zr M S.length → ∀ b4 : Nat, b4 = S.length →
  f_X3_init S2 b4 m3 (fun (S7 : Ss) (m8 : Mm) => PX S2 S7 →
  ∀ m10 : Mm, m10 = stR m8 a0 0 (some b4) →
  CL S7 m10 ∧ S7.length < 100000 ∧
  ∀ S12 : Ss, S12 = S7 ++ [(3, 0)] → ∀ m13 : Mm, m13 = zr m10 S7.length → ∀ b14 : Nat, b14 = S7.length →
  f_X4_init S12 b14 m13 (fun (S17 : Ss) (m18 : Mm) => PX S12 S17 →
  ∀ m20 : Mm, m20 = stR m18 a0 1 (some b14) →
  CL S17 m20 ∧ S17.length < 100000 ∧
  ∀ S22 : Ss, S22 = S17 ++ [(53, 4000)] → ∀ m23 : Mm, m23 = zr m20 S17.length → ∀ b24 : Nat, b24 = S17.length →
  ∀ m26 : Mm, m26 = stR m23 a0 2 (some b24) →
  CL S22 m26 ∧ S22.length < 100000 ∧
  ∀ S28 : Ss, S28 = S22 ++ [(53, 4000)] → ∀ m29 : Mm, m29 = zr m26 S22.length → ∀ b30 : Nat, b30 = S22.length →
  ∀ m32 : Mm, m32 = stR m29 a0 3 (some b30) →
  CL S28 m32 ∧ S28.length < 100000 ∧
  ∀ S34 : Ss, S34 = S28 ++ [(50, 4000)] → ∀ m35 : Mm, m35 = zr m32 S28.length → ∀ b36 : Nat, b36 = S28.length →
  ∀ m38 : Mm, m38 = stR m35 a0 4 (some b36) →
  CL S34 m38 ∧ S34.length < 100000 ∧
  ∀ S40 : Ss, S40 = S34 ++ [(50, 4000)] → ∀ m41 : Mm, m41 = zr m38 S34.length → ∀ b42 : Nat, b42 = S34.length →
  ∀ m44 : Mm, m44 = stR m41 a0 5 (some b42) →
  CL S40 m44 ∧ S40.length < 100000 ∧
  ∀ S46 : Ss, S46 = S40 ++ [(50, 8192)] → ∀ m47 : Mm, m47 = zr m44 S40.length → ∀ b48 : Nat, b48 = S40.length →
  ∀ m50 : Mm, m50 = stR m47 a0 6 (some b48) →
  CL S46 m50 ∧ S46.length < 100000 ∧
  ∀ S52 : Ss, S52 = S46 ++ [(50, 80000)] → ∀ m53 : Mm, m53 = zr m50 S46.length → ∀ b54 : Nat, b54 = S46.length →
  ∀ m56 : Mm, m56 = stR m53 a0 7 (some b54) →
  CL S52 m56 ∧ S52.length < 100000 ∧
  ∀ S58 : Ss, S58 = S52 ++ [(53, 4000)] → ∀ m59 : Mm, m59 = zr m56 S52.length → ∀ b60 : Nat, b60 = S52.length →
  ∀ m62 : Mm, m62 = stR m59 a0 8 (some b60) →
  CL S58 m62 ∧ S58.length < 100000 ∧
  ∀ S64 : Ss, S64 = S58 ++ [(53, 4000)] → ∀ m65 : Mm, m65 = zr m62 S58.length → ∀ b66 : Nat, b66 = S58.length →
  ∀ m68 : Mm, m68 = stR m65 a0 9 (some b66) →
  ∀ m69 : Mm, m69 = stI m68 a0 10 (0 : Int32) →
  ∀ m70 : Mm, m70 = stI m69 a0 11 (0 : Int32) →
  ∀ m71 : Mm, m71 = stI m70 a0 12 (0 : Int32) →
  ∀ m72 : Mm, m72 = stI m71 a0 13 (0 : Int32) →
  ∀ m73 : Mm, m73 = stI m72 a0 14 (-1 : Int32) →
  ∀ m74 : Mm, m74 = stI m73 a0 15 (-1 : Int32) →
  ∀ m75 : Mm, m75 = stI m74 a0 16 (-1 : Int32) →
  ∀ m76 : Mm, m76 = stI m75 a0 17 (-1 : Int32) →
  ∀ m77 : Mm, m77 = stJ m76 a0 18 (0 : Int64) →
  K S64 m77))
set_option maxHeartbeats 4000000 in
set_option maxRecDepth 100000 in
theorem ok_X9_init {l : Launch} {g : Gg} {S : Ss} {a0 : Nat} {M : Mm} {K : Ss → Mm → Prop} (hs0 : S[a0]? = some (8, 0)) (hf : f_X9_init S a0 M K) : MTC l g S yX9_init cX9_init 1 3 102 114846 [.ref (ad g a0)] M K := by
  refine MTC.of (by decide +kernel) (Nat.le_of_ble_eq_true rfl) ?_
  intro p e s m below meth c ls E hin hN hw hR hS hl
  have hl : lv_has ls 1 [(0, .ref (ad g a0))] := hl
  generalize ([.ref (ad g a0)] : List Value).toArray = args at E ⊢
  have E : EN p s m args meth c cX9_init 1 none RX9 g := E
  have hin : meth.name = "<init>" := hin
  have hbs := rp_bs hR hs0
  have exA : EX g g S := EX.rf
  have pxA : PX S S := PX.rf
  unfold f_X9_init at hf
  refine lv_aload_n E.1 E.2.1 dX9_init_0 rfl (lv_at hl 0 rfl) ?_
  refine hw_obj E hl loX9_3 (Nat.le_of_ble_eq_true rfl) (Nat.le_of_ble_eq_true rfl) (Nat.le_of_ble_eq_true rfl) dX9_init_1 ?_
  refine lv_aload_n E.1 E.2.1 dX9_init_4 rfl (lv_at hl 0 rfl) ?_
  obtain ⟨hcl, hln, hf⟩ := hf
  refine hw_new E hR hS hw hbs hcl hln cI2 cd2 lnX9_9 (Nat.le_of_ble_eq_true rfl) (Nat.le_of_ble_eq_true rfl) dX9_init_5 (fun g1 S2 m3 H ex5 eS2 em3 hR hS => ?_)
  obtain ⟨b4, eb4⟩ : ∃ y, y = S.length := ⟨_, rfl⟩
  rw [← eb4]
  replace hf := hf S2 eS2 m3 em3 b4 eb4
  have hb4 := ex_last eS2 eb4
  have px : PX S S2 := ⟨_, eS2⟩
  have ea := ex5.ad hs0
  (try rw [← ea] at hl)
  (try rw [← ea])
  have hs0 := px.at hs0
  have E := E.ex ex5
  have hw : ad g1 100000 < s.heap.size := by rw [ex5.2.2.2.1]; exact hw
  have hbs : g1.1 ≤ s.heap.size := by rw [ex5.1]; exact hbs
  have exA := exA.tr pxA ex5
  have pxA := pxA.tr px
  refine lv_dup E.1 E.2.1 dX9_init_8 rfl ?_
  refine hw_callC (rest := [.ref (ad g1 b4), .ref (ad g1 a0)]) E hR hS hN mcX3_init rfl miX3_init (Or.inr lmX9_11) (ok_X3_init hb4 hf) rfl (Nat.le_of_ble_eq_true rfl) (Nat.le_of_ble_eq_true rfl) (Nat.le_of_ble_eq_true rfl) (Nat.le_of_ble_eq_true rfl) hl.1 (Nat.le_of_ble_eq_true rfl) dX9_init_9 (fun g6 S7 m8 H locs ex9 px hf hR hS => ?_)
  replace hf := hf px
  have ea := ex9.ad hs0
  (try rw [← ea] at hl)
  (try rw [← ea])
  have ea := ex9.ad hb4
  (try rw [← ea] at hl)
  (try rw [← ea])
  have hs0 := px.at hs0
  have hb4 := px.at hb4
  have E := E.ex ex9
  have hw : ad g6 100000 < s.heap.size := by rw [ex9.2.2.2.1]; exact hw
  have hbs : g6.1 ≤ s.heap.size := by rw [ex9.1]; exact hbs
  have exA := exA.tr pxA ex9
  have pxA := pxA.tr px
  refine hw_putFR (o := (some b4)) E hin hR hS hw cI8 hs0 0 (by decide) lfX9_12 rfl rfl rfl dX9_init_12 (fun m10 H locs em10 hR hS => ?_)
  replace hf := hf m10 em10
  refine lv_aload_n E.1 E.2.1 dX9_init_15 rfl (lv_at hl 0 rfl) ?_
  obtain ⟨hcl, hln, hf⟩ := hf
  refine hw_new E hR hS hw hbs hcl hln cI3 cd3 lnX9_18 (Nat.le_of_ble_eq_true rfl) (Nat.le_of_ble_eq_true rfl) dX9_init_16 (fun g11 S12 m13 H ex15 eS12 em13 hR hS => ?_)
  obtain ⟨b14, eb14⟩ : ∃ y, y = S7.length := ⟨_, rfl⟩
  rw [← eb14]
  replace hf := hf S12 eS12 m13 em13 b14 eb14
  have hb14 := ex_last eS12 eb14
  have px : PX S7 S12 := ⟨_, eS12⟩
  have ea := ex15.ad hs0
  (try rw [← ea] at hl)
  (try rw [← ea])
  have hs0 := px.at hs0
  have hb4 := px.at hb4
  have E := E.ex ex15
  have hw : ad g11 100000 < s.heap.size := by rw [ex15.2.2.2.1]; exact hw
  have hbs : g11.1 ≤ s.heap.size := by rw [ex15.1]; exact hbs
  have exA := exA.tr pxA ex15
  have pxA := pxA.tr px
  refine lv_dup E.1 E.2.1 dX9_init_19 rfl ?_
  refine hw_callC (rest := [.ref (ad g11 b14), .ref (ad g11 a0)]) E hR hS hN mcX4_init rfl miX4_init (Or.inl (by decide +kernel)) (ok_X4_init hb14 hf) rfl (Nat.le_of_ble_eq_true rfl) (Nat.le_of_ble_eq_true rfl) (Nat.le_of_ble_eq_true rfl) (Nat.le_of_ble_eq_true rfl) hl.1 (Nat.le_of_ble_eq_true rfl) dX9_init_20 (fun g16 S17 m18 H locs ex19 px hf hR hS => ?_)
  replace hf := hf px
  have ea := ex19.ad hs0
  (try rw [← ea] at hl)
  (try rw [← ea])
  have ea := ex19.ad hb14
  (try rw [← ea] at hl)
  (try rw [← ea])
  have hs0 := px.at hs0
  have hb14 := px.at hb14
  have hb4 := px.at hb4
  have E := E.ex ex19
  have hw : ad g16 100000 < s.heap.size := by rw [ex19.2.2.2.1]; exact hw
  have hbs : g16.1 ≤ s.heap.size := by rw [ex19.1]; exact hbs
  have exA := exA.tr pxA ex19
  have pxA := pxA.tr px
  refine hw_putFR (o := (some b14)) E hin hR hS hw cI8 hs0 1 (by decide) lfX9_21 rfl rfl rfl dX9_init_23 (fun m20 H locs em20 hR hS => ?_)
  replace hf := hf m20 em20
  refine lv_aload_n E.1 E.2.1 dX9_init_26 rfl (lv_at hl 0 rfl) ?_
  refine lv_sipush (v := 4000) E.1 E.2.1 dX9_init_27 (by decide) ?_
  obtain ⟨hcl, hln, hf⟩ := hf
  refine hw_newa53 E hR hS hw hbs hcl hln 4000 (by decide) (by decide) (by decide) lar53 (Nat.le_of_ble_eq_true rfl) (Nat.le_of_ble_eq_true rfl) dX9_init_30 (fun g21 S22 m23 H ex25 eS22 em23 hR hS => ?_)
  obtain ⟨b24, eb24⟩ : ∃ y, y = S17.length := ⟨_, rfl⟩
  rw [← eb24]
  replace hf := hf S22 eS22 m23 em23 b24 eb24
  have hb24 := ex_last eS22 eb24
  have px : PX S17 S22 := ⟨_, eS22⟩
  have ea := ex25.ad hs0
  (try rw [← ea] at hl)
  (try rw [← ea])
  have hs0 := px.at hs0
  have hb14 := px.at hb14
  have hb4 := px.at hb4
  have E := E.ex ex25
  have hw : ad g21 100000 < s.heap.size := by rw [ex25.2.2.2.1]; exact hw
  have hbs : g21.1 ≤ s.heap.size := by rw [ex25.1]; exact hbs
  have exA := exA.tr pxA ex25
  have pxA := pxA.tr px
  refine hw_putFR (o := (some b24)) E hin hR hS hw cI8 hs0 2 (by decide) lfX9_25 rfl rfl rfl dX9_init_32 (fun m26 H locs em26 hR hS => ?_)
  replace hf := hf m26 em26
  refine lv_aload_n E.1 E.2.1 dX9_init_35 rfl (lv_at hl 0 rfl) ?_
  refine lv_sipush (v := 4000) E.1 E.2.1 dX9_init_36 (by decide) ?_
  obtain ⟨hcl, hln, hf⟩ := hf
  refine hw_newa53 E hR hS hw hbs hcl hln 4000 (by decide) (by decide) (by decide) lar53 (Nat.le_of_ble_eq_true rfl) (Nat.le_of_ble_eq_true rfl) dX9_init_39 (fun g27 S28 m29 H ex31 eS28 em29 hR hS => ?_)
  obtain ⟨b30, eb30⟩ : ∃ y, y = S22.length := ⟨_, rfl⟩
  rw [← eb30]
  replace hf := hf S28 eS28 m29 em29 b30 eb30
  have hb30 := ex_last eS28 eb30
  have px : PX S22 S28 := ⟨_, eS28⟩
  have ea := ex31.ad hs0
  (try rw [← ea] at hl)
  (try rw [← ea])
  have hs0 := px.at hs0
  have hb14 := px.at hb14
  have hb24 := px.at hb24
  have hb4 := px.at hb4
  have E := E.ex ex31
  have hw : ad g27 100000 < s.heap.size := by rw [ex31.2.2.2.1]; exact hw
  have hbs : g27.1 ≤ s.heap.size := by rw [ex31.1]; exact hbs
  have exA := exA.tr pxA ex31
  have pxA := pxA.tr px
  refine hw_putFR (o := (some b30)) E hin hR hS hw cI8 hs0 3 (by decide) lfX9_29 rfl rfl rfl dX9_init_41 (fun m32 H locs em32 hR hS => ?_)
  replace hf := hf m32 em32
  refine lv_aload_n E.1 E.2.1 dX9_init_44 rfl (lv_at hl 0 rfl) ?_
  refine lv_sipush (v := 4000) E.1 E.2.1 dX9_init_45 (by decide) ?_
  obtain ⟨hcl, hln, hf⟩ := hf
  refine hw_newa50 E hR hS hw hbs hcl hln 4000 (by decide) (by decide) (by decide) lar50 (Nat.le_of_ble_eq_true rfl) (Nat.le_of_ble_eq_true rfl) dX9_init_48 (fun g33 S34 m35 H ex37 eS34 em35 hR hS => ?_)
  obtain ⟨b36, eb36⟩ : ∃ y, y = S28.length := ⟨_, rfl⟩
  rw [← eb36]
  replace hf := hf S34 eS34 m35 em35 b36 eb36
  have hb36 := ex_last eS34 eb36
  have px : PX S28 S34 := ⟨_, eS34⟩
  have ea := ex37.ad hs0
  (try rw [← ea] at hl)
  (try rw [← ea])
  have hs0 := px.at hs0
  have hb14 := px.at hb14
  have hb24 := px.at hb24
  have hb30 := px.at hb30
  have hb4 := px.at hb4
  have E := E.ex ex37
  have hw : ad g33 100000 < s.heap.size := by rw [ex37.2.2.2.1]; exact hw
  have hbs : g33.1 ≤ s.heap.size := by rw [ex37.1]; exact hbs
  have exA := exA.tr pxA ex37
  have pxA := pxA.tr px
  refine hw_putFR (o := (some b36)) E hin hR hS hw cI8 hs0 4 (by decide) lfX9_32 rfl rfl rfl dX9_init_50 (fun m38 H locs em38 hR hS => ?_)
  replace hf := hf m38 em38
  refine lv_aload_n E.1 E.2.1 dX9_init_53 rfl (lv_at hl 0 rfl) ?_
  refine lv_sipush (v := 4000) E.1 E.2.1 dX9_init_54 (by decide) ?_
  obtain ⟨hcl, hln, hf⟩ := hf
  refine hw_newa50 E hR hS hw hbs hcl hln 4000 (by decide) (by decide) (by decide) lar50 (Nat.le_of_ble_eq_true rfl) (Nat.le_of_ble_eq_true rfl) dX9_init_57 (fun g39 S40 m41 H ex43 eS40 em41 hR hS => ?_)
  obtain ⟨b42, eb42⟩ : ∃ y, y = S34.length := ⟨_, rfl⟩
  rw [← eb42]
  replace hf := hf S40 eS40 m41 em41 b42 eb42
  have hb42 := ex_last eS40 eb42
  have px : PX S34 S40 := ⟨_, eS40⟩
  have ea := ex43.ad hs0
  (try rw [← ea] at hl)
  (try rw [← ea])
  have hs0 := px.at hs0
  have hb14 := px.at hb14
  have hb24 := px.at hb24
  have hb30 := px.at hb30
  have hb36 := px.at hb36
  have hb4 := px.at hb4
  have E := E.ex ex43
  have hw : ad g39 100000 < s.heap.size := by rw [ex43.2.2.2.1]; exact hw
  have hbs : g39.1 ≤ s.heap.size := by rw [ex43.1]; exact hbs
  have exA := exA.tr pxA ex43
  have pxA := pxA.tr px
  refine hw_putFR (o := (some b42)) E hin hR hS hw cI8 hs0 5 (by decide) lfX9_36 rfl rfl rfl dX9_init_59 (fun m44 H locs em44 hR hS => ?_)
  replace hf := hf m44 em44
  refine lv_aload_n E.1 E.2.1 dX9_init_62 rfl (lv_at hl 0 rfl) ?_
  refine lv_sipush (v := 8192) E.1 E.2.1 dX9_init_63 (by decide) ?_
  obtain ⟨hcl, hln, hf⟩ := hf
  refine hw_newa50 E hR hS hw hbs hcl hln 8192 (by decide) (by decide) (by decide) lar50 (Nat.le_of_ble_eq_true rfl) (Nat.le_of_ble_eq_true rfl) dX9_init_66 (fun g45 S46 m47 H ex49 eS46 em47 hR hS => ?_)
  obtain ⟨b48, eb48⟩ : ∃ y, y = S40.length := ⟨_, rfl⟩
  rw [← eb48]
  replace hf := hf S46 eS46 m47 em47 b48 eb48
  have hb48 := ex_last eS46 eb48
  have px : PX S40 S46 := ⟨_, eS46⟩
  have ea := ex49.ad hs0
  (try rw [← ea] at hl)
  (try rw [← ea])
  have hs0 := px.at hs0
  have hb14 := px.at hb14
  have hb24 := px.at hb24
  have hb30 := px.at hb30
  have hb36 := px.at hb36
  have hb4 := px.at hb4
  have hb42 := px.at hb42
  have E := E.ex ex49
  have hw : ad g45 100000 < s.heap.size := by rw [ex49.2.2.2.1]; exact hw
  have hbs : g45.1 ≤ s.heap.size := by rw [ex49.1]; exact hbs
  have exA := exA.tr pxA ex49
  have pxA := pxA.tr px
  refine hw_putFR (o := (some b48)) E hin hR hS hw cI8 hs0 6 (by decide) lfX9_39 rfl rfl rfl dX9_init_68 (fun m50 H locs em50 hR hS => ?_)
  replace hf := hf m50 em50
  refine lv_aload_n E.1 E.2.1 dX9_init_71 rfl (lv_at hl 0 rfl) ?_
  refine lv_ldc (v := 80000) E.1 E.2.1 E.2.2.2.2.1 (E.2.2.2.2.2.1 _ lcX9_42) dX9_init_72 ?_
  obtain ⟨hcl, hln, hf⟩ := hf
  refine hw_newa50 E hR hS hw hbs hcl hln 80000 (by decide) (by decide) (by decide) lar50 (Nat.le_of_ble_eq_true rfl) (Nat.le_of_ble_eq_true rfl) dX9_init_74 (fun g51 S52 m53 H ex55 eS52 em53 hR hS => ?_)
  obtain ⟨b54, eb54⟩ : ∃ y, y = S46.length := ⟨_, rfl⟩
  rw [← eb54]
  replace hf := hf S52 eS52 m53 em53 b54 eb54
  have hb54 := ex_last eS52 eb54
  have px : PX S46 S52 := ⟨_, eS52⟩
  have ea := ex55.ad hs0
  (try rw [← ea] at hl)
  (try rw [← ea])
  have hs0 := px.at hs0
  have hb14 := px.at hb14
  have hb24 := px.at hb24
  have hb30 := px.at hb30
  have hb36 := px.at hb36
  have hb4 := px.at hb4
  have hb42 := px.at hb42
  have hb48 := px.at hb48
  have E := E.ex ex55
  have hw : ad g51 100000 < s.heap.size := by rw [ex55.2.2.2.1]; exact hw
  have hbs : g51.1 ≤ s.heap.size := by rw [ex55.1]; exact hbs
  have exA := exA.tr pxA ex55
  have pxA := pxA.tr px
  refine hw_putFR (o := (some b54)) E hin hR hS hw cI8 hs0 7 (by decide) lfX9_43 rfl rfl rfl dX9_init_76 (fun m56 H locs em56 hR hS => ?_)
  replace hf := hf m56 em56
  refine lv_aload_n E.1 E.2.1 dX9_init_79 rfl (lv_at hl 0 rfl) ?_
  refine lv_sipush (v := 4000) E.1 E.2.1 dX9_init_80 (by decide) ?_
  obtain ⟨hcl, hln, hf⟩ := hf
  refine hw_newa53 E hR hS hw hbs hcl hln 4000 (by decide) (by decide) (by decide) lar53 (Nat.le_of_ble_eq_true rfl) (Nat.le_of_ble_eq_true rfl) dX9_init_83 (fun g57 S58 m59 H ex61 eS58 em59 hR hS => ?_)
  obtain ⟨b60, eb60⟩ : ∃ y, y = S52.length := ⟨_, rfl⟩
  rw [← eb60]
  replace hf := hf S58 eS58 m59 em59 b60 eb60
  have hb60 := ex_last eS58 eb60
  have px : PX S52 S58 := ⟨_, eS58⟩
  have ea := ex61.ad hs0
  (try rw [← ea] at hl)
  (try rw [← ea])
  have hs0 := px.at hs0
  have hb14 := px.at hb14
  have hb24 := px.at hb24
  have hb30 := px.at hb30
  have hb36 := px.at hb36
  have hb4 := px.at hb4
  have hb42 := px.at hb42
  have hb48 := px.at hb48
  have hb54 := px.at hb54
  have E := E.ex ex61
  have hw : ad g57 100000 < s.heap.size := by rw [ex61.2.2.2.1]; exact hw
  have hbs : g57.1 ≤ s.heap.size := by rw [ex61.1]; exact hbs
  have exA := exA.tr pxA ex61
  have pxA := pxA.tr px
  refine hw_putR (o := (some b60)) E hR hS hw cI8 hs0 8 (by decide) lfX9_46 rfl rfl dX9_init_85 (fun m62 H locs em62 hR hS => ?_)
  replace hf := hf m62 em62
  refine lv_aload_n E.1 E.2.1 dX9_init_88 rfl (lv_at hl 0 rfl) ?_
  refine lv_sipush (v := 4000) E.1 E.2.1 dX9_init_89 (by decide) ?_
  obtain ⟨hcl, hln, hf⟩ := hf
  refine hw_newa53 E hR hS hw hbs hcl hln 4000 (by decide) (by decide) (by decide) lar53 (Nat.le_of_ble_eq_true rfl) (Nat.le_of_ble_eq_true rfl) dX9_init_92 (fun g63 S64 m65 H ex67 eS64 em65 hR hS => ?_)
  obtain ⟨b66, eb66⟩ : ∃ y, y = S58.length := ⟨_, rfl⟩
  rw [← eb66]
  replace hf := hf S64 eS64 m65 em65 b66 eb66
  have hb66 := ex_last eS64 eb66
  have px : PX S58 S64 := ⟨_, eS64⟩
  have ea := ex67.ad hs0
  (try rw [← ea] at hl)
  (try rw [← ea])
  have hs0 := px.at hs0
  have hb14 := px.at hb14
  have hb24 := px.at hb24
  have hb30 := px.at hb30
  have hb36 := px.at hb36
  have hb4 := px.at hb4
  have hb42 := px.at hb42
  have hb48 := px.at hb48
  have hb54 := px.at hb54
  have hb60 := px.at hb60
  have E := E.ex ex67
  have hw : ad g63 100000 < s.heap.size := by rw [ex67.2.2.2.1]; exact hw
  have hbs : g63.1 ≤ s.heap.size := by rw [ex67.1]; exact hbs
  have exA := exA.tr pxA ex67
  have pxA := pxA.tr px
  refine hw_putR (o := (some b66)) E hR hS hw cI8 hs0 9 (by decide) lfX9_49 rfl rfl dX9_init_94 (fun m68 H locs em68 hR hS => ?_)
  replace hf := hf m68 em68
  refine lv_aload_n E.1 E.2.1 dX9_init_97 rfl (lv_at hl 0 rfl) ?_
  refine lv_iconst (v := 0) E.1 E.2.1 dX9_init_98 (by decide) ?_
  refine hw_putI E hR hS hw cI8 hs0 10 (by decide) lfX9_52 rfl (Or.inl rfl) dX9_init_99 (fun m69 H locs em69 hR hS => ?_)
  replace hf := hf m69 em69
  refine lv_aload_n E.1 E.2.1 dX9_init_102 rfl (lv_at hl 0 rfl) ?_
  refine lv_iconst (v := 0) E.1 E.2.1 dX9_init_103 (by decide) ?_
  refine hw_putI E hR hS hw cI8 hs0 11 (by decide) lfX9_56 rfl (Or.inl rfl) dX9_init_104 (fun m70 H locs em70 hR hS => ?_)
  replace hf := hf m70 em70
  refine lv_aload_n E.1 E.2.1 dX9_init_107 rfl (lv_at hl 0 rfl) ?_
  refine lv_iconst (v := 0) E.1 E.2.1 dX9_init_108 (by decide) ?_
  refine hw_putI E hR hS hw cI8 hs0 12 (by decide) lfX9_59 rfl (Or.inl rfl) dX9_init_109 (fun m71 H locs em71 hR hS => ?_)
  replace hf := hf m71 em71
  refine lv_aload_n E.1 E.2.1 dX9_init_112 rfl (lv_at hl 0 rfl) ?_
  refine lv_iconst (v := 0) E.1 E.2.1 dX9_init_113 (by decide) ?_
  refine hw_putI E hR hS hw cI8 hs0 13 (by decide) lfX9_62 rfl (Or.inl rfl) dX9_init_114 (fun m72 H locs em72 hR hS => ?_)
  replace hf := hf m72 em72
  refine lv_aload_n E.1 E.2.1 dX9_init_117 rfl (lv_at hl 0 rfl) ?_
  refine lv_iconst (v := -1) E.1 E.2.1 dX9_init_118 (by decide) ?_
  refine hw_putI E hR hS hw cI8 hs0 14 (by decide) lfX9_65 rfl (Or.inl rfl) dX9_init_119 (fun m73 H locs em73 hR hS => ?_)
  replace hf := hf m73 em73
  refine lv_aload_n E.1 E.2.1 dX9_init_122 rfl (lv_at hl 0 rfl) ?_
  refine lv_iconst (v := -1) E.1 E.2.1 dX9_init_123 (by decide) ?_
  refine hw_putI E hR hS hw cI8 hs0 15 (by decide) lfX9_68 rfl (Or.inl rfl) dX9_init_124 (fun m74 H locs em74 hR hS => ?_)
  replace hf := hf m74 em74
  refine lv_aload_n E.1 E.2.1 dX9_init_127 rfl (lv_at hl 0 rfl) ?_
  refine lv_iconst (v := -1) E.1 E.2.1 dX9_init_128 (by decide) ?_
  refine hw_putI E hR hS hw cI8 hs0 16 (by decide) lfX9_71 rfl (Or.inl rfl) dX9_init_129 (fun m75 H locs em75 hR hS => ?_)
  replace hf := hf m75 em75
  refine lv_aload_n E.1 E.2.1 dX9_init_132 rfl (lv_at hl 0 rfl) ?_
  refine lv_iconst (v := -1) E.1 E.2.1 dX9_init_133 (by decide) ?_
  refine hw_putI E hR hS hw cI8 hs0 17 (by decide) lfX9_74 rfl (Or.inl rfl) dX9_init_134 (fun m76 H locs em76 hR hS => ?_)
  replace hf := hf m76 em76
  refine lv_aload_n E.1 E.2.1 dX9_init_137 rfl (lv_at hl 0 rfl) ?_
  refine lv_lconst (v := 0) E.1 E.2.1 dX9_init_138 (by decide) ?_
  refine hw_putJ E hR hS hw cI8 hs0 18 (by decide) lfX9_77 rfl rfl dX9_init_139 (fun m77 H locs em77 hR hS => ?_)
  replace hf := hf m77 em77
  refine W.widen (k := 102) (n := 114846) (Nat.le_of_ble_eq_true rfl) (Nat.le_of_ble_eq_true rfl) ?_
  exact hw_vretC E exA pxA hR hS hf dX9_init_142
set_option maxRecDepth 100000 in
set_option maxHeartbeats 4000000 in
def f_X10_init (S : Ss) (a0 : Nat) (M : Mm) (K : Ss → Mm → Prop) : Prop :=
  CL S M ∧ S.length < 100000 ∧
  ∀ S2 : Ss, S2 = S ++ [(5, 0)] → ∀ m3 : Mm, m3 = zr M S.length → ∀ b4 : Nat, b4 = S.length →
  f_X6_init S2 b4 m3 (fun (S7 : Ss) (m8 : Mm) => PX S2 S7 →
  ∀ m10 : Mm, m10 = stR m8 a0 0 (some b4) →
  CL S7 m10 ∧ S7.length < 100000 ∧
  ∀ S12 : Ss, S12 = S7 ++ [(8, 0)] → ∀ m13 : Mm, m13 = zr m10 S7.length → ∀ b14 : Nat, b14 = S7.length →
  f_X9_init S12 b14 m13 (fun (S17 : Ss) (m18 : Mm) => PX S12 S17 →
  ∀ m20 : Mm, m20 = stR m18 a0 1 (some b14) →
  ∃ b21 : Nat, m20.2.2 a0 1 = some b21 ∧
  S17[b21]? = some (8, 0) ∧
  ∃ b23 : Nat, m20.2.2 b21 0 = some b23 ∧
  S17[b23]? = some (2, 0) ∧
  ∀ m25 : Mm, m25 = stR m20 a0 2 (some b23) →
  CL S17 m25 ∧ S17.length < 100000 ∧
  ∀ S27 : Ss, S27 = S17 ++ [(3, 0)] → ∀ m28 : Mm, m28 = zr m25 S17.length → ∀ b29 : Nat, b29 = S17.length →
  f_X4_init S27 b29 m28 (fun (S32 : Ss) (m33 : Mm) => PX S27 S32 →
  ∀ m35 : Mm, m35 = stR m33 a0 3 (some b29) →
  CL S32 m35 ∧ S32.length < 100000 ∧
  ∀ S37 : Ss, S37 = S32 ++ [(3, 0)] → ∀ m38 : Mm, m38 = zr m35 S32.length → ∀ b39 : Nat, b39 = S32.length →
  f_X4_init S37 b39 m38 (fun (S42 : Ss) (m43 : Mm) => PX S37 S42 →
  ∀ m45 : Mm, m45 = stR m43 a0 4 (some b39) →
  CL S42 m45 ∧ S42.length < 100000 ∧
  ∀ S47 : Ss, S47 = S42 ++ [(52, 256)] → ∀ m48 : Mm, m48 = zr m45 S42.length → ∀ b49 : Nat, b49 = S42.length →
  ∀ m51 : Mm, m51 = stR m48 a0 5 (some b49) →
  CL S47 m51 ∧ S47.length < 100000 ∧
  ∀ S53 : Ss, S53 = S47 ++ [(6, 0)] → ∀ m54 : Mm, m54 = zr m51 S47.length → ∀ b55 : Nat, b55 = S47.length →
  f_X7_init S53 b55 m54 (fun (S58 : Ss) (m59 : Mm) => PX S53 S58 →
  ∀ m61 : Mm, m61 = stR m59 a0 6 (some b55) →
  CL S58 m61 ∧ S58.length < 100000 ∧
  ∀ S63 : Ss, S63 = S58 ++ [(7, 0)] → ∀ m64 : Mm, m64 = zr m61 S58.length → ∀ b65 : Nat, b65 = S58.length →
  f_X8_init S63 b65 m64 (fun (S68 : Ss) (m69 : Mm) => PX S63 S68 →
  ∀ m71 : Mm, m71 = stR m69 a0 7 (some b65) →
  CL S68 m71 ∧ S68.length < 100000 ∧
  ∀ S73 : Ss, S73 = S68 ++ [(0, 0)] → ∀ m74 : Mm, m74 = zr m71 S68.length → ∀ b75 : Nat, b75 = S68.length →
  f_X1_init S73 b75 m74 (fun (S78 : Ss) (m79 : Mm) => PX S73 S78 →
  ∀ m81 : Mm, m81 = stR m79 a0 8 (some b75) →
  CL S78 m81 ∧ S78.length < 100000 ∧
  ∀ S83 : Ss, S83 = S78 ++ [(54, 3)] → ∀ m84 : Mm, m84 = zr m81 S78.length → ∀ b85 : Nat, b85 = S78.length →
  ∀ m87 : Mm, m87 = stR m84 a0 9 (some b85) →
  CL S83 m87 ∧ S83.length < 100000 ∧
  ∀ S89 : Ss, S89 = S83 ++ [(50, 5)] → ∀ m90 : Mm, m90 = zr m87 S83.length → ∀ b91 : Nat, b91 = S83.length →
  ∃ i94n : Nat, S89[b91]? = some (50, i94n) ∧ vp_in (0 : Int32) i94n ∧
  ∀ m93 : Mm, m93 = stI m90 b91 (0 : Int32).toNatClampNeg (1 : Int32) →
  ∃ i96n : Nat, S89[b91]? = some (50, i96n) ∧ vp_in (1 : Int32) i96n ∧
  ∀ m95 : Mm, m95 = stI m93 b91 (1 : Int32).toNatClampNeg (1 : Int32) →
  ∃ i98n : Nat, S89[b91]? = some (50, i98n) ∧ vp_in (2 : Int32) i98n ∧
  ∀ m97 : Mm, m97 = stI m95 b91 (2 : Int32).toNatClampNeg (1 : Int32) →
  ∃ i100n : Nat, S89[b91]? = some (50, i100n) ∧ vp_in (3 : Int32) i100n ∧
  ∀ m99 : Mm, m99 = stI m97 b91 (3 : Int32).toNatClampNeg (1 : Int32) →
  ∃ i102n : Nat, S89[b91]? = some (50, i102n) ∧ vp_in (4 : Int32) i102n ∧
  ∀ m101 : Mm, m101 = stI m99 b91 (4 : Int32).toNatClampNeg (1 : Int32) →
  ∀ m103 : Mm, m103 = stR m101 a0 10 (some b91) →
  CL S89 m103 ∧ S89.length < 100000 ∧
  ∀ S105 : Ss, S105 = S89 ++ [(50, 5)] → ∀ m106 : Mm, m106 = zr m103 S89.length → ∀ b107 : Nat, b107 = S89.length →
  ∃ i110n : Nat, S105[b107]? = some (50, i110n) ∧ vp_in (0 : Int32) i110n ∧
  ∀ m109 : Mm, m109 = stI m106 b107 (0 : Int32).toNatClampNeg (1 : Int32) →
  ∃ i112n : Nat, S105[b107]? = some (50, i112n) ∧ vp_in (1 : Int32) i112n ∧
  ∀ m111 : Mm, m111 = stI m109 b107 (1 : Int32).toNatClampNeg (1 : Int32) →
  ∃ i114n : Nat, S105[b107]? = some (50, i114n) ∧ vp_in (2 : Int32) i114n ∧
  ∀ m113 : Mm, m113 = stI m111 b107 (2 : Int32).toNatClampNeg (1 : Int32) →
  ∃ i116n : Nat, S105[b107]? = some (50, i116n) ∧ vp_in (3 : Int32) i116n ∧
  ∀ m115 : Mm, m115 = stI m113 b107 (3 : Int32).toNatClampNeg (1 : Int32) →
  ∃ i118n : Nat, S105[b107]? = some (50, i118n) ∧ vp_in (4 : Int32) i118n ∧
  ∀ m117 : Mm, m117 = stI m115 b107 (4 : Int32).toNatClampNeg (1 : Int32) →
  ∀ m119 : Mm, m119 = stR m117 a0 11 (some b107) →
  ∀ m120 : Mm, m120 = stI m119 a0 12 (0 : Int32) →
  ∃ b122 : Nat, m120.2.2 a0 9 = some b122 ∧
  ∃ n123 : Nat, S105[b122]? = some (54, n123) ∧
  CL S105 m120 ∧ S105.length < 100000 ∧
  ∀ S126 : Ss, S126 = S105 ++ [(1, 0)] → ∀ m127 : Mm, m127 = zr m120 S105.length → ∀ b128 : Nat, b128 = S105.length →
  f_X2_init S126 b128 m127 (fun (S131 : Ss) (m132 : Mm) => PX S126 S131 →
  ∃ i135n : Nat, S131[b122]? = some (54, i135n) ∧ vp_in (0 : Int32) i135n ∧
  ∀ m134 : Mm, m134 = stR m132 b122 (0 : Int32).toNatClampNeg (some b128) →
  ∃ b137 : Nat, m134.2.2 a0 9 = some b137 ∧
  ∃ n138 : Nat, S131[b137]? = some (54, n138) ∧
  CL S131 m134 ∧ S131.length < 100000 ∧
  ∀ S141 : Ss, S141 = S131 ++ [(1, 0)] → ∀ m142 : Mm, m142 = zr m134 S131.length → ∀ b143 : Nat, b143 = S131.length →
  f_X2_init S141 b143 m142 (fun (S146 : Ss) (m147 : Mm) => PX S141 S146 →
  ∃ i150n : Nat, S146[b137]? = some (54, i150n) ∧ vp_in (1 : Int32) i150n ∧
  ∀ m149 : Mm, m149 = stR m147 b137 (1 : Int32).toNatClampNeg (some b143) →
  ∃ b152 : Nat, m149.2.2 a0 9 = some b152 ∧
  ∃ n153 : Nat, S146[b152]? = some (54, n153) ∧
  CL S146 m149 ∧ S146.length < 100000 ∧
  ∀ S156 : Ss, S156 = S146 ++ [(1, 0)] → ∀ m157 : Mm, m157 = zr m149 S146.length → ∀ b158 : Nat, b158 = S146.length →
  f_X2_init S156 b158 m157 (fun (S161 : Ss) (m162 : Mm) => PX S156 S161 →
  ∃ i165n : Nat, S161[b152]? = some (54, i165n) ∧ vp_in (2 : Int32) i165n ∧
  ∀ m164 : Mm, m164 = stR m162 b152 (2 : Int32).toNatClampNeg (some b158) →
  K S161 m164))))))))))
set_option maxHeartbeats 4000000 in
set_option maxRecDepth 100000 in
theorem ok_X10_init {l : Launch} {g : Gg} {S : Ss} {a0 : Nat} {M : Mm} {K : Ss → Mm → Prop} (hs0 : S[a0]? = some (9, 0)) (hf : f_X10_init S a0 M K) : MTC l g S yX10_init cX10_init 2 4 141 115687 [.ref (ad g a0)] M K := by
  refine MTC.of (by decide +kernel) (Nat.le_of_ble_eq_true rfl) ?_
  intro p e s m below meth c ls E hin hN hw hR hS hl
  have hl : lv_has ls 2 [(0, .ref (ad g a0))] := hl
  generalize ([.ref (ad g a0)] : List Value).toArray = args at E ⊢
  have E : EN p s m args meth c cX10_init 2 none RX10 g := E
  have hin : meth.name = "<init>" := hin
  have hbs := rp_bs hR hs0
  have exA : EX g g S := EX.rf
  have pxA : PX S S := PX.rf
  unfold f_X10_init at hf
  refine lv_aload_n E.1 E.2.1 dX10_init_0 rfl (lv_at hl 0 rfl) ?_
  refine hw_obj E hl loX10_1 (Nat.le_of_ble_eq_true rfl) (Nat.le_of_ble_eq_true rfl) (Nat.le_of_ble_eq_true rfl) dX10_init_1 ?_
  refine lv_aload_n E.1 E.2.1 dX10_init_4 rfl (lv_at hl 0 rfl) ?_
  obtain ⟨hcl, hln, hf⟩ := hf
  refine hw_new E hR hS hw hbs hcl hln cI5 cd5 lnX10_7 (Nat.le_of_ble_eq_true rfl) (Nat.le_of_ble_eq_true rfl) dX10_init_5 (fun g1 S2 m3 H ex5 eS2 em3 hR hS => ?_)
  obtain ⟨b4, eb4⟩ : ∃ y, y = S.length := ⟨_, rfl⟩
  rw [← eb4]
  replace hf := hf S2 eS2 m3 em3 b4 eb4
  have hb4 := ex_last eS2 eb4
  have px : PX S S2 := ⟨_, eS2⟩
  have ea := ex5.ad hs0
  (try rw [← ea] at hl)
  (try rw [← ea])
  have hs0 := px.at hs0
  have E := E.ex ex5
  have hw : ad g1 100000 < s.heap.size := by rw [ex5.2.2.2.1]; exact hw
  have hbs : g1.1 ≤ s.heap.size := by rw [ex5.1]; exact hbs
  have exA := exA.tr pxA ex5
  have pxA := pxA.tr px
  refine lv_dup E.1 E.2.1 dX10_init_8 rfl ?_
  refine hw_callC (rest := [.ref (ad g1 b4), .ref (ad g1 a0)]) E hR hS hN mcX6_init rfl miX6_init (Or.inl (by decide +kernel)) (ok_X6_init hb4 hf) rfl (Nat.le_of_ble_eq_true rfl) (Nat.le_of_ble_eq_true rfl) (Nat.le_of_ble_eq_true rfl) (Nat.le_of_ble_eq_true rfl) hl.1 (Nat.le_of_ble_eq_true rfl) dX10_init_9 (fun g6 S7 m8 H locs ex9 px hf hR hS => ?_)
  replace hf := hf px
  have ea := ex9.ad hs0
  (try rw [← ea] at hl)
  (try rw [← ea])
  have ea := ex9.ad hb4
  (try rw [← ea] at hl)
  (try rw [← ea])
  have hs0 := px.at hs0
  have hb4 := px.at hb4
  have E := E.ex ex9
  have hw : ad g6 100000 < s.heap.size := by rw [ex9.2.2.2.1]; exact hw
  have hbs : g6.1 ≤ s.heap.size := by rw [ex9.1]; exact hbs
  have exA := exA.tr pxA ex9
  have pxA := pxA.tr px
  refine hw_putFR (o := (some b4)) E hin hR hS hw cI9 hs0 0 (by decide) lfX10_10 rfl rfl rfl dX10_init_12 (fun m10 H locs em10 hR hS => ?_)
  replace hf := hf m10 em10
  refine lv_aload_n E.1 E.2.1 dX10_init_15 rfl (lv_at hl 0 rfl) ?_
  obtain ⟨hcl, hln, hf⟩ := hf
  refine hw_new E hR hS hw hbs hcl hln cI8 cd8 lnX10_16 (Nat.le_of_ble_eq_true rfl) (Nat.le_of_ble_eq_true rfl) dX10_init_16 (fun g11 S12 m13 H ex15 eS12 em13 hR hS => ?_)
  obtain ⟨b14, eb14⟩ : ∃ y, y = S7.length := ⟨_, rfl⟩
  rw [← eb14]
  replace hf := hf S12 eS12 m13 em13 b14 eb14
  have hb14 := ex_last eS12 eb14
  have px : PX S7 S12 := ⟨_, eS12⟩
  have ea := ex15.ad hs0
  (try rw [← ea] at hl)
  (try rw [← ea])
  have hs0 := px.at hs0
  have hb4 := px.at hb4
  have E := E.ex ex15
  have hw : ad g11 100000 < s.heap.size := by rw [ex15.2.2.2.1]; exact hw
  have hbs : g11.1 ≤ s.heap.size := by rw [ex15.1]; exact hbs
  have exA := exA.tr pxA ex15
  have pxA := pxA.tr px
  refine lv_dup E.1 E.2.1 dX10_init_19 rfl ?_
  refine hw_callC (rest := [.ref (ad g11 b14), .ref (ad g11 a0)]) E hR hS hN mcX9_init rfl miX9_init (Or.inl (by decide +kernel)) (ok_X9_init hb14 hf) rfl (Nat.le_of_ble_eq_true rfl) (Nat.le_of_ble_eq_true rfl) (Nat.le_of_ble_eq_true rfl) (Nat.le_of_ble_eq_true rfl) hl.1 (Nat.le_of_ble_eq_true rfl) dX10_init_20 (fun g16 S17 m18 H locs ex19 px hf hR hS => ?_)
  replace hf := hf px
  have ea := ex19.ad hs0
  (try rw [← ea] at hl)
  (try rw [← ea])
  have ea := ex19.ad hb14
  (try rw [← ea] at hl)
  (try rw [← ea])
  have hs0 := px.at hs0
  have hb14 := px.at hb14
  have hb4 := px.at hb4
  have E := E.ex ex19
  have hw : ad g16 100000 < s.heap.size := by rw [ex19.2.2.2.1]; exact hw
  have hbs : g16.1 ≤ s.heap.size := by rw [ex19.1]; exact hbs
  have exA := exA.tr pxA ex19
  have pxA := pxA.tr px
  refine hw_putFR (o := (some b14)) E hin hR hS hw cI9 hs0 1 (by decide) lfX10_19 rfl rfl rfl dX10_init_23 (fun m20 H locs em20 hR hS => ?_)
  replace hf := hf m20 em20
  refine lv_aload_n E.1 E.2.1 dX10_init_26 rfl (lv_at hl 0 rfl) ?_
  refine lv_aload_n E.1 E.2.1 dX10_init_27 rfl (lv_at hl 0 rfl) ?_
  obtain ⟨b21, hb21, hf⟩ := hf
  refine hw_getR E hR cI9 hs0 1 (by decide) lfX10_19 rfl hb21 dX10_init_28 ?_
  obtain ⟨h22, hf⟩ := hf
  obtain ⟨b23, hb23, hf⟩ := hf
  refine hw_getR E hR cI8 h22 0 (by decide) lfX10_23 rfl hb23 dX10_init_31 ?_
  obtain ⟨h24, hf⟩ := hf
  refine hw_putFR (o := (some b23)) E hin hR hS hw cI9 hs0 2 (by decide) lfX10_27 rfl rfl rfl dX10_init_34 (fun m25 H locs em25 hR hS => ?_)
  replace hf := hf m25 em25
  refine lv_aload_n E.1 E.2.1 dX10_init_37 rfl (lv_at hl 0 rfl) ?_
  obtain ⟨hcl, hln, hf⟩ := hf
  refine hw_new E hR hS hw hbs hcl hln cI3 cd3 lnX10_28 (Nat.le_of_ble_eq_true rfl) (Nat.le_of_ble_eq_true rfl) dX10_init_38 (fun g26 S27 m28 H ex30 eS27 em28 hR hS => ?_)
  obtain ⟨b29, eb29⟩ : ∃ y, y = S17.length := ⟨_, rfl⟩
  rw [← eb29]
  replace hf := hf S27 eS27 m28 em28 b29 eb29
  have hb29 := ex_last eS27 eb29
  have px : PX S17 S27 := ⟨_, eS27⟩
  have ea := ex30.ad hs0
  (try rw [← ea] at hl)
  (try rw [← ea])
  have hs0 := px.at hs0
  have hb14 := px.at hb14
  have h22 := px.at h22
  have h24 := px.at h24
  have hb4 := px.at hb4
  have E := E.ex ex30
  have hw : ad g26 100000 < s.heap.size := by rw [ex30.2.2.2.1]; exact hw
  have hbs : g26.1 ≤ s.heap.size := by rw [ex30.1]; exact hbs
  have exA := exA.tr pxA ex30
  have pxA := pxA.tr px
  refine lv_dup E.1 E.2.1 dX10_init_41 rfl ?_
  refine hw_callC (rest := [.ref (ad g26 b29), .ref (ad g26 a0)]) E hR hS hN mcX4_init rfl miX4_init (Or.inl (by decide +kernel)) (ok_X4_init hb29 hf) rfl (Nat.le_of_ble_eq_true rfl) (Nat.le_of_ble_eq_true rfl) (Nat.le_of_ble_eq_true rfl) (Nat.le_of_ble_eq_true rfl) hl.1 (Nat.le_of_ble_eq_true rfl) dX10_init_42 (fun g31 S32 m33 H locs ex34 px hf hR hS => ?_)
  replace hf := hf px
  have ea := ex34.ad hs0
  (try rw [← ea] at hl)
  (try rw [← ea])
  have ea := ex34.ad hb29
  (try rw [← ea] at hl)
  (try rw [← ea])
  have hs0 := px.at hs0
  have hb14 := px.at hb14
  have h22 := px.at h22
  have h24 := px.at h24
  have hb29 := px.at hb29
  have hb4 := px.at hb4
  have E := E.ex ex34
  have hw : ad g31 100000 < s.heap.size := by rw [ex34.2.2.2.1]; exact hw
  have hbs : g31.1 ≤ s.heap.size := by rw [ex34.1]; exact hbs
  have exA := exA.tr pxA ex34
  have pxA := pxA.tr px
  refine hw_putFR (o := (some b29)) E hin hR hS hw cI9 hs0 3 (by decide) lfX10_31 rfl rfl rfl dX10_init_45 (fun m35 H locs em35 hR hS => ?_)
  replace hf := hf m35 em35
  refine lv_aload_n E.1 E.2.1 dX10_init_48 rfl (lv_at hl 0 rfl) ?_
  obtain ⟨hcl, hln, hf⟩ := hf
  refine hw_new E hR hS hw hbs hcl hln cI3 cd3 lnX10_28 (Nat.le_of_ble_eq_true rfl) (Nat.le_of_ble_eq_true rfl) dX10_init_49 (fun g36 S37 m38 H ex40 eS37 em38 hR hS => ?_)
  obtain ⟨b39, eb39⟩ : ∃ y, y = S32.length := ⟨_, rfl⟩
  rw [← eb39]
  replace hf := hf S37 eS37 m38 em38 b39 eb39
  have hb39 := ex_last eS37 eb39
  have px : PX S32 S37 := ⟨_, eS37⟩
  have ea := ex40.ad hs0
  (try rw [← ea] at hl)
  (try rw [← ea])
  have hs0 := px.at hs0
  have hb14 := px.at hb14
  have h22 := px.at h22
  have h24 := px.at h24
  have hb29 := px.at hb29
  have hb4 := px.at hb4
  have E := E.ex ex40
  have hw : ad g36 100000 < s.heap.size := by rw [ex40.2.2.2.1]; exact hw
  have hbs : g36.1 ≤ s.heap.size := by rw [ex40.1]; exact hbs
  have exA := exA.tr pxA ex40
  have pxA := pxA.tr px
  refine lv_dup E.1 E.2.1 dX10_init_52 rfl ?_
  refine hw_callC (rest := [.ref (ad g36 b39), .ref (ad g36 a0)]) E hR hS hN mcX4_init rfl miX4_init (Or.inl (by decide +kernel)) (ok_X4_init hb39 hf) rfl (Nat.le_of_ble_eq_true rfl) (Nat.le_of_ble_eq_true rfl) (Nat.le_of_ble_eq_true rfl) (Nat.le_of_ble_eq_true rfl) hl.1 (Nat.le_of_ble_eq_true rfl) dX10_init_53 (fun g41 S42 m43 H locs ex44 px hf hR hS => ?_)
  replace hf := hf px
  have ea := ex44.ad hs0
  (try rw [← ea] at hl)
  (try rw [← ea])
  have ea := ex44.ad hb39
  (try rw [← ea] at hl)
  (try rw [← ea])
  have hs0 := px.at hs0
  have hb14 := px.at hb14
  have h22 := px.at h22
  have h24 := px.at h24
  have hb29 := px.at hb29
  have hb39 := px.at hb39
  have hb4 := px.at hb4
  have E := E.ex ex44
  have hw : ad g41 100000 < s.heap.size := by rw [ex44.2.2.2.1]; exact hw
  have hbs : g41.1 ≤ s.heap.size := by rw [ex44.1]; exact hbs
  have exA := exA.tr pxA ex44
  have pxA := pxA.tr px
  refine hw_putFR (o := (some b39)) E hin hR hS hw cI9 hs0 4 (by decide) lfX10_35 rfl rfl rfl dX10_init_56 (fun m45 H locs em45 hR hS => ?_)
  replace hf := hf m45 em45
  refine lv_aload_n E.1 E.2.1 dX10_init_59 rfl (lv_at hl 0 rfl) ?_
  refine lv_sipush (v := 256) E.1 E.2.1 dX10_init_60 (by decide) ?_
  obtain ⟨hcl, hln, hf⟩ := hf
  refine hw_newa52 E hR hS hw hbs hcl hln 256 (by decide) (by decide) (by decide) lar52 (Nat.le_of_ble_eq_true rfl) (Nat.le_of_ble_eq_true rfl) dX10_init_63 (fun g46 S47 m48 H ex50 eS47 em48 hR hS => ?_)
  obtain ⟨b49, eb49⟩ : ∃ y, y = S42.length := ⟨_, rfl⟩
  rw [← eb49]
  replace hf := hf S47 eS47 m48 em48 b49 eb49
  have hb49 := ex_last eS47 eb49
  have px : PX S42 S47 := ⟨_, eS47⟩
  have ea := ex50.ad hs0
  (try rw [← ea] at hl)
  (try rw [← ea])
  have hs0 := px.at hs0
  have hb14 := px.at hb14
  have h22 := px.at h22
  have h24 := px.at h24
  have hb29 := px.at hb29
  have hb39 := px.at hb39
  have hb4 := px.at hb4
  have E := E.ex ex50
  have hw : ad g46 100000 < s.heap.size := by rw [ex50.2.2.2.1]; exact hw
  have hbs : g46.1 ≤ s.heap.size := by rw [ex50.1]; exact hbs
  have exA := exA.tr pxA ex50
  have pxA := pxA.tr px
  refine hw_putFR (o := (some b49)) E hin hR hS hw cI9 hs0 5 (by decide) lfX10_38 rfl rfl rfl dX10_init_65 (fun m51 H locs em51 hR hS => ?_)
  replace hf := hf m51 em51
  refine lv_aload_n E.1 E.2.1 dX10_init_68 rfl (lv_at hl 0 rfl) ?_
  obtain ⟨hcl, hln, hf⟩ := hf
  refine hw_new E hR hS hw hbs hcl hln cI6 cd6 lnX10_42 (Nat.le_of_ble_eq_true rfl) (Nat.le_of_ble_eq_true rfl) dX10_init_69 (fun g52 S53 m54 H ex56 eS53 em54 hR hS => ?_)
  obtain ⟨b55, eb55⟩ : ∃ y, y = S47.length := ⟨_, rfl⟩
  rw [← eb55]
  replace hf := hf S53 eS53 m54 em54 b55 eb55
  have hb55 := ex_last eS53 eb55
  have px : PX S47 S53 := ⟨_, eS53⟩
  have ea := ex56.ad hs0
  (try rw [← ea] at hl)
  (try rw [← ea])
  have hs0 := px.at hs0
  have hb14 := px.at hb14
  have h22 := px.at h22
  have h24 := px.at h24
  have hb29 := px.at hb29
  have hb39 := px.at hb39
  have hb4 := px.at hb4
  have hb49 := px.at hb49
  have E := E.ex ex56
  have hw : ad g52 100000 < s.heap.size := by rw [ex56.2.2.2.1]; exact hw
  have hbs : g52.1 ≤ s.heap.size := by rw [ex56.1]; exact hbs
  have exA := exA.tr pxA ex56
  have pxA := pxA.tr px
  refine lv_dup E.1 E.2.1 dX10_init_72 rfl ?_
  refine hw_callC (rest := [.ref (ad g52 b55), .ref (ad g52 a0)]) E hR hS hN mcX7_init rfl miX7_init (Or.inl (by decide +kernel)) (ok_X7_init hb55 hf) rfl (Nat.le_of_ble_eq_true rfl) (Nat.le_of_ble_eq_true rfl) (Nat.le_of_ble_eq_true rfl) (Nat.le_of_ble_eq_true rfl) hl.1 (Nat.le_of_ble_eq_true rfl) dX10_init_73 (fun g57 S58 m59 H locs ex60 px hf hR hS => ?_)
  replace hf := hf px
  have ea := ex60.ad hs0
  (try rw [← ea] at hl)
  (try rw [← ea])
  have ea := ex60.ad hb55
  (try rw [← ea] at hl)
  (try rw [← ea])
  have hs0 := px.at hs0
  have hb14 := px.at hb14
  have h22 := px.at h22
  have h24 := px.at h24
  have hb29 := px.at hb29
  have hb39 := px.at hb39
  have hb4 := px.at hb4
  have hb49 := px.at hb49
  have hb55 := px.at hb55
  have E := E.ex ex60
  have hw : ad g57 100000 < s.heap.size := by rw [ex60.2.2.2.1]; exact hw
  have hbs : g57.1 ≤ s.heap.size := by rw [ex60.1]; exact hbs
  have exA := exA.tr pxA ex60
  have pxA := pxA.tr px
  refine hw_putFR (o := (some b55)) E hin hR hS hw cI9 hs0 6 (by decide) lfX10_45 rfl rfl rfl dX10_init_76 (fun m61 H locs em61 hR hS => ?_)
  replace hf := hf m61 em61
  refine lv_aload_n E.1 E.2.1 dX10_init_79 rfl (lv_at hl 0 rfl) ?_
  obtain ⟨hcl, hln, hf⟩ := hf
  refine hw_new E hR hS hw hbs hcl hln cI7 cd7 lnX10_49 (Nat.le_of_ble_eq_true rfl) (Nat.le_of_ble_eq_true rfl) dX10_init_80 (fun g62 S63 m64 H ex66 eS63 em64 hR hS => ?_)
  obtain ⟨b65, eb65⟩ : ∃ y, y = S58.length := ⟨_, rfl⟩
  rw [← eb65]
  replace hf := hf S63 eS63 m64 em64 b65 eb65
  have hb65 := ex_last eS63 eb65
  have px : PX S58 S63 := ⟨_, eS63⟩
  have ea := ex66.ad hs0
  (try rw [← ea] at hl)
  (try rw [← ea])
  have hs0 := px.at hs0
  have hb14 := px.at hb14
  have h22 := px.at h22
  have h24 := px.at h24
  have hb29 := px.at hb29
  have hb39 := px.at hb39
  have hb4 := px.at hb4
  have hb49 := px.at hb49
  have hb55 := px.at hb55
  have E := E.ex ex66
  have hw : ad g62 100000 < s.heap.size := by rw [ex66.2.2.2.1]; exact hw
  have hbs : g62.1 ≤ s.heap.size := by rw [ex66.1]; exact hbs
  have exA := exA.tr pxA ex66
  have pxA := pxA.tr px
  refine lv_dup E.1 E.2.1 dX10_init_83 rfl ?_
  refine hw_callC (rest := [.ref (ad g62 b65), .ref (ad g62 a0)]) E hR hS hN mcX8_init rfl miX8_init (Or.inl (by decide +kernel)) (ok_X8_init hb65 hf) rfl (Nat.le_of_ble_eq_true rfl) (Nat.le_of_ble_eq_true rfl) (Nat.le_of_ble_eq_true rfl) (Nat.le_of_ble_eq_true rfl) hl.1 (Nat.le_of_ble_eq_true rfl) dX10_init_84 (fun g67 S68 m69 H locs ex70 px hf hR hS => ?_)
  replace hf := hf px
  have ea := ex70.ad hs0
  (try rw [← ea] at hl)
  (try rw [← ea])
  have ea := ex70.ad hb65
  (try rw [← ea] at hl)
  (try rw [← ea])
  have hs0 := px.at hs0
  have hb14 := px.at hb14
  have h22 := px.at h22
  have h24 := px.at h24
  have hb29 := px.at hb29
  have hb39 := px.at hb39
  have hb4 := px.at hb4
  have hb49 := px.at hb49
  have hb55 := px.at hb55
  have hb65 := px.at hb65
  have E := E.ex ex70
  have hw : ad g67 100000 < s.heap.size := by rw [ex70.2.2.2.1]; exact hw
  have hbs : g67.1 ≤ s.heap.size := by rw [ex70.1]; exact hbs
  have exA := exA.tr pxA ex70
  have pxA := pxA.tr px
  refine hw_putFR (o := (some b65)) E hin hR hS hw cI9 hs0 7 (by decide) lfX10_52 rfl rfl rfl dX10_init_87 (fun m71 H locs em71 hR hS => ?_)
  replace hf := hf m71 em71
  refine lv_aload_n E.1 E.2.1 dX10_init_90 rfl (lv_at hl 0 rfl) ?_
  obtain ⟨hcl, hln, hf⟩ := hf
  refine hw_new E hR hS hw hbs hcl hln cI0 cd0 lnX10_56 (Nat.le_of_ble_eq_true rfl) (Nat.le_of_ble_eq_true rfl) dX10_init_91 (fun g72 S73 m74 H ex76 eS73 em74 hR hS => ?_)
  obtain ⟨b75, eb75⟩ : ∃ y, y = S68.length := ⟨_, rfl⟩
  rw [← eb75]
  replace hf := hf S73 eS73 m74 em74 b75 eb75
  have hb75 := ex_last eS73 eb75
  have px : PX S68 S73 := ⟨_, eS73⟩
  have ea := ex76.ad hs0
  (try rw [← ea] at hl)
  (try rw [← ea])
  have hs0 := px.at hs0
  have hb14 := px.at hb14
  have h22 := px.at h22
  have h24 := px.at h24
  have hb29 := px.at hb29
  have hb39 := px.at hb39
  have hb4 := px.at hb4
  have hb49 := px.at hb49
  have hb55 := px.at hb55
  have hb65 := px.at hb65
  have E := E.ex ex76
  have hw : ad g72 100000 < s.heap.size := by rw [ex76.2.2.2.1]; exact hw
  have hbs : g72.1 ≤ s.heap.size := by rw [ex76.1]; exact hbs
  have exA := exA.tr pxA ex76
  have pxA := pxA.tr px
  refine lv_dup E.1 E.2.1 dX10_init_94 rfl ?_
  refine hw_callC (rest := [.ref (ad g72 b75), .ref (ad g72 a0)]) E hR hS hN mcX1_init rfl miX1_init (Or.inl (by decide +kernel)) (ok_X1_init hb75 hf) rfl (Nat.le_of_ble_eq_true rfl) (Nat.le_of_ble_eq_true rfl) (Nat.le_of_ble_eq_true rfl) (Nat.le_of_ble_eq_true rfl) hl.1 (Nat.le_of_ble_eq_true rfl) dX10_init_95 (fun g77 S78 m79 H locs ex80 px hf hR hS => ?_)
  replace hf := hf px
  have ea := ex80.ad hs0
  (try rw [← ea] at hl)
  (try rw [← ea])
  have ea := ex80.ad hb75
  (try rw [← ea] at hl)
  (try rw [← ea])
  have hs0 := px.at hs0
  have hb14 := px.at hb14
  have h22 := px.at h22
  have h24 := px.at h24
  have hb29 := px.at hb29
  have hb39 := px.at hb39
  have hb4 := px.at hb4
  have hb49 := px.at hb49
  have hb55 := px.at hb55
  have hb65 := px.at hb65
  have hb75 := px.at hb75
  have E := E.ex ex80
  have hw : ad g77 100000 < s.heap.size := by rw [ex80.2.2.2.1]; exact hw
  have hbs : g77.1 ≤ s.heap.size := by rw [ex80.1]; exact hbs
  have exA := exA.tr pxA ex80
  have pxA := pxA.tr px
  refine hw_putFR (o := (some b75)) E hin hR hS hw cI9 hs0 8 (by decide) lfX10_59 rfl rfl rfl dX10_init_98 (fun m81 H locs em81 hR hS => ?_)
  replace hf := hf m81 em81
  refine lv_aload_n E.1 E.2.1 dX10_init_101 rfl (lv_at hl 0 rfl) ?_
  refine lv_iconst (v := 3) E.1 E.2.1 dX10_init_102 (by decide) ?_
  obtain ⟨hcl, hln, hf⟩ := hf
  refine hw_newa54 E hR hS hw hbs hcl hln 3 (by decide) (by decide) (by decide) lqX10_63 hN.2.1 (Nat.le_of_ble_eq_true rfl) (Nat.le_of_ble_eq_true rfl) dX10_init_103 (fun g82 S83 m84 H ex86 eS83 em84 hR hS => ?_)
  obtain ⟨b85, eb85⟩ : ∃ y, y = S78.length := ⟨_, rfl⟩
  rw [← eb85]
  replace hf := hf S83 eS83 m84 em84 b85 eb85
  have hb85 := ex_last eS83 eb85
  have px : PX S78 S83 := ⟨_, eS83⟩
  have ea := ex86.ad hs0
  (try rw [← ea] at hl)
  (try rw [← ea])
  have hs0 := px.at hs0
  have hb14 := px.at hb14
  have h22 := px.at h22
  have h24 := px.at h24
  have hb29 := px.at hb29
  have hb39 := px.at hb39
  have hb4 := px.at hb4
  have hb49 := px.at hb49
  have hb55 := px.at hb55
  have hb65 := px.at hb65
  have hb75 := px.at hb75
  have E := E.ex ex86
  have hw : ad g82 100000 < s.heap.size := by rw [ex86.2.2.2.1]; exact hw
  have hbs : g82.1 ≤ s.heap.size := by rw [ex86.1]; exact hbs
  have exA := exA.tr pxA ex86
  have pxA := pxA.tr px
  refine hw_putFR (o := (some b85)) E hin hR hS hw cI9 hs0 9 (by decide) lfX10_65 rfl rfl rfl dX10_init_106 (fun m87 H locs em87 hR hS => ?_)
  replace hf := hf m87 em87
  refine lv_aload_n E.1 E.2.1 dX10_init_109 rfl (lv_at hl 0 rfl) ?_
  refine lv_iconst (v := 5) E.1 E.2.1 dX10_init_110 (by decide) ?_
  obtain ⟨hcl, hln, hf⟩ := hf
  refine hw_newa50 E hR hS hw hbs hcl hln 5 (by decide) (by decide) (by decide) lar50 (Nat.le_of_ble_eq_true rfl) (Nat.le_of_ble_eq_true rfl) dX10_init_111 (fun g88 S89 m90 H ex92 eS89 em90 hR hS => ?_)
  obtain ⟨b91, eb91⟩ : ∃ y, y = S83.length := ⟨_, rfl⟩
  rw [← eb91]
  replace hf := hf S89 eS89 m90 em90 b91 eb91
  have hb91 := ex_last eS89 eb91
  have px : PX S83 S89 := ⟨_, eS89⟩
  have ea := ex92.ad hs0
  (try rw [← ea] at hl)
  (try rw [← ea])
  have hs0 := px.at hs0
  have hb14 := px.at hb14
  have h22 := px.at h22
  have h24 := px.at h24
  have hb29 := px.at hb29
  have hb39 := px.at hb39
  have hb4 := px.at hb4
  have hb49 := px.at hb49
  have hb55 := px.at hb55
  have hb65 := px.at hb65
  have hb75 := px.at hb75
  have hb85 := px.at hb85
  have E := E.ex ex92
  have hw : ad g88 100000 < s.heap.size := by rw [ex92.2.2.2.1]; exact hw
  have hbs : g88.1 ≤ s.heap.size := by rw [ex92.1]; exact hbs
  have exA := exA.tr pxA ex92
  have pxA := pxA.tr px
  refine lv_dup E.1 E.2.1 dX10_init_113 rfl ?_
  refine lv_iconst (v := 0) E.1 E.2.1 dX10_init_114 (by decide) ?_
  refine lv_iconst (v := 1) E.1 E.2.1 dX10_init_115 (by decide) ?_
  obtain ⟨i94n, i94s, i94, hf⟩ := hf
  refine hw_iast E hR hS hw i94s i94 dX10_init_116 (fun m93 H locs em93 hR hS => ?_)
  replace hf := hf m93 em93
  refine lv_dup E.1 E.2.1 dX10_init_117 rfl ?_
  refine lv_iconst (v := 1) E.1 E.2.1 dX10_init_118 (by decide) ?_
  refine lv_iconst (v := 1) E.1 E.2.1 dX10_init_119 (by decide) ?_
  obtain ⟨i96n, i96s, i96, hf⟩ := hf
  refine hw_iast E hR hS hw i96s i96 dX10_init_120 (fun m95 H locs em95 hR hS => ?_)
  replace hf := hf m95 em95
  refine lv_dup E.1 E.2.1 dX10_init_121 rfl ?_
  refine lv_iconst (v := 2) E.1 E.2.1 dX10_init_122 (by decide) ?_
  refine lv_iconst (v := 1) E.1 E.2.1 dX10_init_123 (by decide) ?_
  obtain ⟨i98n, i98s, i98, hf⟩ := hf
  refine hw_iast E hR hS hw i98s i98 dX10_init_124 (fun m97 H locs em97 hR hS => ?_)
  replace hf := hf m97 em97
  refine lv_dup E.1 E.2.1 dX10_init_125 rfl ?_
  refine lv_iconst (v := 3) E.1 E.2.1 dX10_init_126 (by decide) ?_
  refine lv_iconst (v := 1) E.1 E.2.1 dX10_init_127 (by decide) ?_
  obtain ⟨i100n, i100s, i100, hf⟩ := hf
  refine hw_iast E hR hS hw i100s i100 dX10_init_128 (fun m99 H locs em99 hR hS => ?_)
  replace hf := hf m99 em99
  refine lv_dup E.1 E.2.1 dX10_init_129 rfl ?_
  refine lv_iconst (v := 4) E.1 E.2.1 dX10_init_130 (by decide) ?_
  refine lv_iconst (v := 1) E.1 E.2.1 dX10_init_131 (by decide) ?_
  obtain ⟨i102n, i102s, i102, hf⟩ := hf
  refine hw_iast E hR hS hw i102s i102 dX10_init_132 (fun m101 H locs em101 hR hS => ?_)
  replace hf := hf m101 em101
  refine hw_putFR (o := (some b91)) E hin hR hS hw cI9 hs0 10 (by decide) lfX10_69 rfl rfl rfl dX10_init_133 (fun m103 H locs em103 hR hS => ?_)
  replace hf := hf m103 em103
  refine lv_aload_n E.1 E.2.1 dX10_init_136 rfl (lv_at hl 0 rfl) ?_
  refine lv_iconst (v := 5) E.1 E.2.1 dX10_init_137 (by decide) ?_
  obtain ⟨hcl, hln, hf⟩ := hf
  refine hw_newa50 E hR hS hw hbs hcl hln 5 (by decide) (by decide) (by decide) lar50 (Nat.le_of_ble_eq_true rfl) (Nat.le_of_ble_eq_true rfl) dX10_init_138 (fun g104 S105 m106 H ex108 eS105 em106 hR hS => ?_)
  obtain ⟨b107, eb107⟩ : ∃ y, y = S89.length := ⟨_, rfl⟩
  rw [← eb107]
  replace hf := hf S105 eS105 m106 em106 b107 eb107
  have hb107 := ex_last eS105 eb107
  have px : PX S89 S105 := ⟨_, eS105⟩
  have ea := ex108.ad hs0
  (try rw [← ea] at hl)
  (try rw [← ea])
  have hs0 := px.at hs0
  have hb14 := px.at hb14
  have h22 := px.at h22
  have h24 := px.at h24
  have hb29 := px.at hb29
  have hb39 := px.at hb39
  have hb4 := px.at hb4
  have hb49 := px.at hb49
  have hb55 := px.at hb55
  have hb65 := px.at hb65
  have hb75 := px.at hb75
  have hb85 := px.at hb85
  have hb91 := px.at hb91
  have E := E.ex ex108
  have hw : ad g104 100000 < s.heap.size := by rw [ex108.2.2.2.1]; exact hw
  have hbs : g104.1 ≤ s.heap.size := by rw [ex108.1]; exact hbs
  have exA := exA.tr pxA ex108
  have pxA := pxA.tr px
  refine lv_dup E.1 E.2.1 dX10_init_140 rfl ?_
  refine lv_iconst (v := 0) E.1 E.2.1 dX10_init_141 (by decide) ?_
  refine lv_iconst (v := 1) E.1 E.2.1 dX10_init_142 (by decide) ?_
  obtain ⟨i110n, i110s, i110, hf⟩ := hf
  refine hw_iast E hR hS hw i110s i110 dX10_init_143 (fun m109 H locs em109 hR hS => ?_)
  replace hf := hf m109 em109
  refine lv_dup E.1 E.2.1 dX10_init_144 rfl ?_
  refine lv_iconst (v := 1) E.1 E.2.1 dX10_init_145 (by decide) ?_
  refine lv_iconst (v := 1) E.1 E.2.1 dX10_init_146 (by decide) ?_
  obtain ⟨i112n, i112s, i112, hf⟩ := hf
  refine hw_iast E hR hS hw i112s i112 dX10_init_147 (fun m111 H locs em111 hR hS => ?_)
  replace hf := hf m111 em111
  refine lv_dup E.1 E.2.1 dX10_init_148 rfl ?_
  refine lv_iconst (v := 2) E.1 E.2.1 dX10_init_149 (by decide) ?_
  refine lv_iconst (v := 1) E.1 E.2.1 dX10_init_150 (by decide) ?_
  obtain ⟨i114n, i114s, i114, hf⟩ := hf
  refine hw_iast E hR hS hw i114s i114 dX10_init_151 (fun m113 H locs em113 hR hS => ?_)
  replace hf := hf m113 em113
  refine lv_dup E.1 E.2.1 dX10_init_152 rfl ?_
  refine lv_iconst (v := 3) E.1 E.2.1 dX10_init_153 (by decide) ?_
  refine lv_iconst (v := 1) E.1 E.2.1 dX10_init_154 (by decide) ?_
  obtain ⟨i116n, i116s, i116, hf⟩ := hf
  refine hw_iast E hR hS hw i116s i116 dX10_init_155 (fun m115 H locs em115 hR hS => ?_)
  replace hf := hf m115 em115
  refine lv_dup E.1 E.2.1 dX10_init_156 rfl ?_
  refine lv_iconst (v := 4) E.1 E.2.1 dX10_init_157 (by decide) ?_
  refine lv_iconst (v := 1) E.1 E.2.1 dX10_init_158 (by decide) ?_
  obtain ⟨i118n, i118s, i118, hf⟩ := hf
  refine hw_iast E hR hS hw i118s i118 dX10_init_159 (fun m117 H locs em117 hR hS => ?_)
  replace hf := hf m117 em117
  refine hw_putFR (o := (some b107)) E hin hR hS hw cI9 hs0 11 (by decide) lfX10_73 rfl rfl rfl dX10_init_160 (fun m119 H locs em119 hR hS => ?_)
  replace hf := hf m119 em119
  refine lv_aload_n E.1 E.2.1 dX10_init_163 rfl (lv_at hl 0 rfl) ?_
  refine lv_iconst (v := 0) E.1 E.2.1 dX10_init_164 (by decide) ?_
  refine hw_putI E hR hS hw cI9 hs0 12 (by decide) lfX10_76 rfl (Or.inl rfl) dX10_init_165 (fun m120 H locs em120 hR hS => ?_)
  replace hf := hf m120 em120
  refine lv_iconst (v := 0) E.1 E.2.1 dX10_init_168 (by decide) ?_
  refine lv_istore_n (lv' := [(1, .int (0 : Int32)), (0, .ref (ad g104 a0))]) E.1 E.2.1 dX10_init_169 rfl hl (by decide) rfl (fun ls hl => ?_)
  refine lv_iload_n E.1 E.2.1 dX10_init_170 rfl (lv_at hl 0 rfl) ?_
  refine lv_iconst (v := 3) E.1 E.2.1 dX10_init_171 (by decide) ?_
  refine lv_icmp_ge (tgt := 194) E.1 E.2.1 dX10_init_172 (by decide) (fun c121 => ?_) (fun c121 => ?_)
  · exact absurd c121 (by decide)
  refine lv_aload_n E.1 E.2.1 dX10_init_175 rfl (lv_at hl 1 rfl) ?_
  obtain ⟨b122, hb122, hf⟩ := hf
  refine hw_getR E hR cI9 hs0 9 (by decide) lfX10_65 rfl hb122 dX10_init_176 ?_
  obtain ⟨n123, h124, hf⟩ := hf
  refine lv_iload_n E.1 E.2.1 dX10_init_179 rfl (lv_at hl 0 rfl) ?_
  obtain ⟨hcl, hln, hf⟩ := hf
  refine hw_new E hR hS hw hbs hcl hln cI1 cd1 lnX10_63 (Nat.le_of_ble_eq_true rfl) (Nat.le_of_ble_eq_true rfl) dX10_init_180 (fun g125 S126 m127 H ex129 eS126 em127 hR hS => ?_)
  obtain ⟨b128, eb128⟩ : ∃ y, y = S105.length := ⟨_, rfl⟩
  rw [← eb128]
  replace hf := hf S126 eS126 m127 em127 b128 eb128
  have hb128 := ex_last eS126 eb128
  have px : PX S105 S126 := ⟨_, eS126⟩
  have ea := ex129.ad hs0
  (try rw [← ea] at hl)
  (try rw [← ea])
  have ea := ex129.ad h124
  (try rw [← ea] at hl)
  (try rw [← ea])
  have hs0 := px.at hs0
  have hb107 := px.at hb107
  have h124 := px.at h124
  have hb14 := px.at hb14
  have h22 := px.at h22
  have h24 := px.at h24
  have hb29 := px.at hb29
  have hb39 := px.at hb39
  have hb4 := px.at hb4
  have hb49 := px.at hb49
  have hb55 := px.at hb55
  have hb65 := px.at hb65
  have hb75 := px.at hb75
  have hb85 := px.at hb85
  have hb91 := px.at hb91
  have E := E.ex ex129
  have hw : ad g125 100000 < s.heap.size := by rw [ex129.2.2.2.1]; exact hw
  have hbs : g125.1 ≤ s.heap.size := by rw [ex129.1]; exact hbs
  have exA := exA.tr pxA ex129
  have pxA := pxA.tr px
  refine lv_dup E.1 E.2.1 dX10_init_183 rfl ?_
  refine hw_callC (rest := [.ref (ad g125 b128), .int (0 : Int32), .ref (ad g125 b122)]) E hR hS hN mcX2_init rfl miX2_init (Or.inl (by decide +kernel)) (ok_X2_init hb128 hf) rfl (Nat.le_of_ble_eq_true rfl) (Nat.le_of_ble_eq_true rfl) (Nat.le_of_ble_eq_true rfl) (Nat.le_of_ble_eq_true rfl) hl.1 (Nat.le_of_ble_eq_true rfl) dX10_init_184 (fun g130 S131 m132 H locs ex133 px hf hR hS => ?_)
  replace hf := hf px
  have ea := ex133.ad hs0
  (try rw [← ea] at hl)
  (try rw [← ea])
  have ea := ex133.ad h124
  (try rw [← ea] at hl)
  (try rw [← ea])
  have ea := ex133.ad hb128
  (try rw [← ea] at hl)
  (try rw [← ea])
  have hs0 := px.at hs0
  have hb107 := px.at hb107
  have h124 := px.at h124
  have hb128 := px.at hb128
  have hb14 := px.at hb14
  have h22 := px.at h22
  have h24 := px.at h24
  have hb29 := px.at hb29
  have hb39 := px.at hb39
  have hb4 := px.at hb4
  have hb49 := px.at hb49
  have hb55 := px.at hb55
  have hb65 := px.at hb65
  have hb75 := px.at hb75
  have hb85 := px.at hb85
  have hb91 := px.at hb91
  have E := E.ex ex133
  have hw : ad g130 100000 < s.heap.size := by rw [ex133.2.2.2.1]; exact hw
  have hbs : g130.1 ≤ s.heap.size := by rw [ex133.1]; exact hbs
  have exA := exA.tr pxA ex133
  have pxA := pxA.tr px
  obtain ⟨i135n, i135s, i135, hf⟩ := hf
  refine hw_aast54 E hR hS hw i135s hb128 i135 dX10_init_187 (fun m134 H locs em134 hR hS => ?_)
  replace hf := hf m134 em134
  refine lv_iinc (v := 1) (lv' := [(1, .int (1 : Int32)), (0, .ref (ad g130 a0))]) E.1 E.2.1 dX10_init_188 hl (k := 0) rfl (by decide) (by decide) rfl (fun ls hl => ?_)
  refine lv_goto (tgt := 170) E.1 E.2.1 dX10_init_191 (by decide) ?_
  refine lv_iload_n E.1 E.2.1 dX10_init_170 rfl (lv_at hl 0 rfl) ?_
  refine lv_iconst (v := 3) E.1 E.2.1 dX10_init_171 (by decide) ?_
  refine lv_icmp_ge (tgt := 194) E.1 E.2.1 dX10_init_172 (by decide) (fun c136 => ?_) (fun c136 => ?_)
  · exact absurd c136 (by decide)
  refine lv_aload_n E.1 E.2.1 dX10_init_175 rfl (lv_at hl 1 rfl) ?_
  obtain ⟨b137, hb137, hf⟩ := hf
  refine hw_getR E hR cI9 hs0 9 (by decide) lfX10_65 rfl hb137 dX10_init_176 ?_
  obtain ⟨n138, h139, hf⟩ := hf
  refine lv_iload_n E.1 E.2.1 dX10_init_179 rfl (lv_at hl 0 rfl) ?_
  obtain ⟨hcl, hln, hf⟩ := hf
  refine hw_new E hR hS hw hbs hcl hln cI1 cd1 lnX10_63 (Nat.le_of_ble_eq_true rfl) (Nat.le_of_ble_eq_true rfl) dX10_init_180 (fun g140 S141 m142 H ex144 eS141 em142 hR hS => ?_)
  obtain ⟨b143, eb143⟩ : ∃ y, y = S131.length := ⟨_, rfl⟩
  rw [← eb143]
  replace hf := hf S141 eS141 m142 em142 b143 eb143
  have hb143 := ex_last eS141 eb143
  have px : PX S131 S141 := ⟨_, eS141⟩
  have ea := ex144.ad hs0
  (try rw [← ea] at hl)
  (try rw [← ea])
  have ea := ex144.ad h139
  (try rw [← ea] at hl)
  (try rw [← ea])
  have hs0 := px.at hs0
  have hb107 := px.at hb107
  have h124 := px.at h124
  have hb128 := px.at hb128
  have h139 := px.at h139
  have hb14 := px.at hb14
  have h22 := px.at h22
  have h24 := px.at h24
  have hb29 := px.at hb29
  have hb39 := px.at hb39
  have hb4 := px.at hb4
  have hb49 := px.at hb49
  have hb55 := px.at hb55
  have hb65 := px.at hb65
  have hb75 := px.at hb75
  have hb85 := px.at hb85
  have hb91 := px.at hb91
  have E := E.ex ex144
  have hw : ad g140 100000 < s.heap.size := by rw [ex144.2.2.2.1]; exact hw
  have hbs : g140.1 ≤ s.heap.size := by rw [ex144.1]; exact hbs
  have exA := exA.tr pxA ex144
  have pxA := pxA.tr px
  refine lv_dup E.1 E.2.1 dX10_init_183 rfl ?_
  refine hw_callC (rest := [.ref (ad g140 b143), .int (1 : Int32), .ref (ad g140 b137)]) E hR hS hN mcX2_init rfl miX2_init (Or.inl (by decide +kernel)) (ok_X2_init hb143 hf) rfl (Nat.le_of_ble_eq_true rfl) (Nat.le_of_ble_eq_true rfl) (Nat.le_of_ble_eq_true rfl) (Nat.le_of_ble_eq_true rfl) hl.1 (Nat.le_of_ble_eq_true rfl) dX10_init_184 (fun g145 S146 m147 H locs ex148 px hf hR hS => ?_)
  replace hf := hf px
  have ea := ex148.ad hs0
  (try rw [← ea] at hl)
  (try rw [← ea])
  have ea := ex148.ad h139
  (try rw [← ea] at hl)
  (try rw [← ea])
  have ea := ex148.ad hb143
  (try rw [← ea] at hl)
  (try rw [← ea])
  have hs0 := px.at hs0
  have hb107 := px.at hb107
  have h124 := px.at h124
  have hb128 := px.at hb128
  have h139 := px.at h139
  have hb14 := px.at hb14
  have hb143 := px.at hb143
  have h22 := px.at h22
  have h24 := px.at h24
  have hb29 := px.at hb29
  have hb39 := px.at hb39
  have hb4 := px.at hb4
  have hb49 := px.at hb49
  have hb55 := px.at hb55
  have hb65 := px.at hb65
  have hb75 := px.at hb75
  have hb85 := px.at hb85
  have hb91 := px.at hb91
  have E := E.ex ex148
  have hw : ad g145 100000 < s.heap.size := by rw [ex148.2.2.2.1]; exact hw
  have hbs : g145.1 ≤ s.heap.size := by rw [ex148.1]; exact hbs
  have exA := exA.tr pxA ex148
  have pxA := pxA.tr px
  obtain ⟨i150n, i150s, i150, hf⟩ := hf
  refine hw_aast54 E hR hS hw i150s hb143 i150 dX10_init_187 (fun m149 H locs em149 hR hS => ?_)
  replace hf := hf m149 em149
  refine lv_iinc (v := 2) (lv' := [(1, .int (2 : Int32)), (0, .ref (ad g145 a0))]) E.1 E.2.1 dX10_init_188 hl (k := 0) rfl (by decide) (by decide) rfl (fun ls hl => ?_)
  refine lv_goto (tgt := 170) E.1 E.2.1 dX10_init_191 (by decide) ?_
  refine lv_iload_n E.1 E.2.1 dX10_init_170 rfl (lv_at hl 0 rfl) ?_
  refine lv_iconst (v := 3) E.1 E.2.1 dX10_init_171 (by decide) ?_
  refine lv_icmp_ge (tgt := 194) E.1 E.2.1 dX10_init_172 (by decide) (fun c151 => ?_) (fun c151 => ?_)
  · exact absurd c151 (by decide)
  refine lv_aload_n E.1 E.2.1 dX10_init_175 rfl (lv_at hl 1 rfl) ?_
  obtain ⟨b152, hb152, hf⟩ := hf
  refine hw_getR E hR cI9 hs0 9 (by decide) lfX10_65 rfl hb152 dX10_init_176 ?_
  obtain ⟨n153, h154, hf⟩ := hf
  refine lv_iload_n E.1 E.2.1 dX10_init_179 rfl (lv_at hl 0 rfl) ?_
  obtain ⟨hcl, hln, hf⟩ := hf
  refine hw_new E hR hS hw hbs hcl hln cI1 cd1 lnX10_63 (Nat.le_of_ble_eq_true rfl) (Nat.le_of_ble_eq_true rfl) dX10_init_180 (fun g155 S156 m157 H ex159 eS156 em157 hR hS => ?_)
  obtain ⟨b158, eb158⟩ : ∃ y, y = S146.length := ⟨_, rfl⟩
  rw [← eb158]
  replace hf := hf S156 eS156 m157 em157 b158 eb158
  have hb158 := ex_last eS156 eb158
  have px : PX S146 S156 := ⟨_, eS156⟩
  have ea := ex159.ad hs0
  (try rw [← ea] at hl)
  (try rw [← ea])
  have ea := ex159.ad h154
  (try rw [← ea] at hl)
  (try rw [← ea])
  have hs0 := px.at hs0
  have hb107 := px.at hb107
  have h124 := px.at h124
  have hb128 := px.at hb128
  have h139 := px.at h139
  have hb14 := px.at hb14
  have hb143 := px.at hb143
  have h154 := px.at h154
  have h22 := px.at h22
  have h24 := px.at h24
  have hb29 := px.at hb29
  have hb39 := px.at hb39
  have hb4 := px.at hb4
  have hb49 := px.at hb49
  have hb55 := px.at hb55
  have hb65 := px.at hb65
  have hb75 := px.at hb75
  have hb85 := px.at hb85
  have hb91 := px.at hb91
  have E := E.ex ex159
  have hw : ad g155 100000 < s.heap.size := by rw [ex159.2.2.2.1]; exact hw
  have hbs : g155.1 ≤ s.heap.size := by rw [ex159.1]; exact hbs
  have exA := exA.tr pxA ex159
  have pxA := pxA.tr px
  refine lv_dup E.1 E.2.1 dX10_init_183 rfl ?_
  refine hw_callC (rest := [.ref (ad g155 b158), .int (2 : Int32), .ref (ad g155 b152)]) E hR hS hN mcX2_init rfl miX2_init (Or.inl (by decide +kernel)) (ok_X2_init hb158 hf) rfl (Nat.le_of_ble_eq_true rfl) (Nat.le_of_ble_eq_true rfl) (Nat.le_of_ble_eq_true rfl) (Nat.le_of_ble_eq_true rfl) hl.1 (Nat.le_of_ble_eq_true rfl) dX10_init_184 (fun g160 S161 m162 H locs ex163 px hf hR hS => ?_)
  replace hf := hf px
  have ea := ex163.ad hs0
  (try rw [← ea] at hl)
  (try rw [← ea])
  have ea := ex163.ad h154
  (try rw [← ea] at hl)
  (try rw [← ea])
  have ea := ex163.ad hb158
  (try rw [← ea] at hl)
  (try rw [← ea])
  have hs0 := px.at hs0
  have hb107 := px.at hb107
  have h124 := px.at h124
  have hb128 := px.at hb128
  have h139 := px.at h139
  have hb14 := px.at hb14
  have hb143 := px.at hb143
  have h154 := px.at h154
  have hb158 := px.at hb158
  have h22 := px.at h22
  have h24 := px.at h24
  have hb29 := px.at hb29
  have hb39 := px.at hb39
  have hb4 := px.at hb4
  have hb49 := px.at hb49
  have hb55 := px.at hb55
  have hb65 := px.at hb65
  have hb75 := px.at hb75
  have hb85 := px.at hb85
  have hb91 := px.at hb91
  have E := E.ex ex163
  have hw : ad g160 100000 < s.heap.size := by rw [ex163.2.2.2.1]; exact hw
  have hbs : g160.1 ≤ s.heap.size := by rw [ex163.1]; exact hbs
  have exA := exA.tr pxA ex163
  have pxA := pxA.tr px
  obtain ⟨i165n, i165s, i165, hf⟩ := hf
  refine hw_aast54 E hR hS hw i165s hb158 i165 dX10_init_187 (fun m164 H locs em164 hR hS => ?_)
  replace hf := hf m164 em164
  refine lv_iinc (v := 3) (lv' := [(1, .int (3 : Int32)), (0, .ref (ad g160 a0))]) E.1 E.2.1 dX10_init_188 hl (k := 0) rfl (by decide) (by decide) rfl (fun ls hl => ?_)
  refine lv_goto (tgt := 170) E.1 E.2.1 dX10_init_191 (by decide) ?_
  refine lv_iload_n E.1 E.2.1 dX10_init_170 rfl (lv_at hl 0 rfl) ?_
  refine lv_iconst (v := 3) E.1 E.2.1 dX10_init_171 (by decide) ?_
  refine lv_icmp_ge (tgt := 194) E.1 E.2.1 dX10_init_172 (by decide) (fun c166 => ?_) (fun c166 => ?_)
  rotate_left
  · exact absurd (by decide) c166
  refine W.widen (k := 141) (n := 115687) (Nat.le_of_ble_eq_true rfl) (Nat.le_of_ble_eq_true rfl) ?_
  exact hw_vretC E exA pxA hR hS hf dX10_init_194
set_option maxRecDepth 100000 in
set_option maxHeartbeats 4000000 in
def f_X11_init (S : Ss) (a0 : Nat) (M : Mm) (K : Ss → Mm → Prop) : Prop :=
  CL S M ∧ S.length < 100000 ∧
  ∀ S2 : Ss, S2 = S ++ [(53, 64)] → ∀ m3 : Mm, m3 = zr M S.length → ∀ b4 : Nat, b4 = S.length →
  ∀ m6 : Mm, m6 = stR m3 a0 2 (some b4) →
  CL S2 m6 ∧ S2.length < 100000 ∧
  ∀ S8 : Ss, S8 = S2 ++ [(50, 100)] → ∀ m9 : Mm, m9 = zr m6 S2.length → ∀ b10 : Nat, b10 = S2.length →
  ∀ m12 : Mm, m12 = stR m9 a0 3 (some b10) →
  CL S8 m12 ∧ S8.length < 100000 ∧
  ∀ S14 : Ss, S14 = S8 ++ [(50, 90)] → ∀ m15 : Mm, m15 = zr m12 S8.length → ∀ b16 : Nat, b16 = S8.length →
  ∀ m18 : Mm, m18 = stR m15 a0 9 (some b16) →
  CL S14 m18 ∧ S14.length < 100000 ∧
  ∀ S20 : Ss, S20 = S14 ++ [(50, 90)] → ∀ m21 : Mm, m21 = zr m18 S14.length → ∀ b22 : Nat, b22 = S14.length →
  ∀ m24 : Mm, m24 = stR m21 a0 10 (some b22) →
  CL S20 m24 ∧ S20.length < 100000 ∧
  ∀ S26 : Ss, S26 = S20 ++ [(50, 5760)] → ∀ m27 : Mm, m27 = zr m24 S20.length → ∀ b28 : Nat, b28 = S20.length →
  ∀ m30 : Mm, m30 = stR m27 a0 11 (some b28) →
  CL S26 m30 ∧ S26.length < 100000 ∧
  ∀ S32 : Ss, S32 = S26 ++ [(50, 90)] → ∀ m33 : Mm, m33 = zr m30 S26.length → ∀ b34 : Nat, b34 = S26.length →
  ∀ m36 : Mm, m36 = stR m33 a0 12 (some b34) →
  CL S32 m36 ∧ S32.length < 100000 ∧
  ∀ S38 : Ss, S38 = S32 ++ [(50, 64)] → ∀ m39 : Mm, m39 = zr m36 S32.length → ∀ b40 : Nat, b40 = S32.length →
  ∀ m42 : Mm, m42 = stR m39 a0 14 (some b40) →
  CL S38 m42 ∧ S38.length < 100000 ∧
  ∀ S44 : Ss, S44 = S38 ++ [(50, 4)] → ∀ m45 : Mm, m45 = zr m42 S38.length → ∀ b46 : Nat, b46 = S38.length →
  ∀ m48 : Mm, m48 = stR m45 a0 16 (some b46) →
  CL S44 m48 ∧ S44.length < 100000 ∧
  ∀ S50 : Ss, S50 = S44 ++ [(50, 240)] → ∀ m51 : Mm, m51 = zr m48 S44.length → ∀ b52 : Nat, b52 = S44.length →
  ∀ m54 : Mm, m54 = stR m51 a0 17 (some b52) →
  CL S50 m54 ∧ S50.length < 100000 ∧
  ∀ S56 : Ss, S56 = S50 ++ [(50, 4)] → ∀ m57 : Mm, m57 = zr m54 S50.length → ∀ b58 : Nat, b58 = S50.length →
  ∀ m60 : Mm, m60 = stR m57 a0 18 (some b58) →
  CL S56 m60 ∧ S56.length < 100000 ∧
  ∀ S62 : Ss, S62 = S56 ++ [(50, 8)] → ∀ m63 : Mm, m63 = zr m60 S56.length → ∀ b64 : Nat, b64 = S56.length →
  ∀ m66 : Mm, m66 = stR m63 a0 22 (some b64) →
  CL S62 m66 ∧ S62.length < 100000 ∧
  ∀ S68 : Ss, S68 = S62 ++ [(50, 4)] → ∀ m69 : Mm, m69 = zr m66 S62.length → ∀ b70 : Nat, b70 = S62.length →
  ∀ m72 : Mm, m72 = stR m69 a0 23 (some b70) →
  CL S68 m72 ∧ S68.length < 100000 ∧
  ∀ S74 : Ss, S74 = S68 ++ [(50, 4)] → ∀ m75 : Mm, m75 = zr m72 S68.length → ∀ b76 : Nat, b76 = S68.length →
  ∀ m78 : Mm, m78 = stR m75 a0 24 (some b76) →
  CL S74 m78 ∧ S74.length < 100000 ∧
  ∀ S80 : Ss, S80 = S74 ++ [(50, 4)] → ∀ m81 : Mm, m81 = zr m78 S74.length → ∀ b82 : Nat, b82 = S74.length →
  ∀ m84 : Mm, m84 = stR m81 a0 25 (some b82) →
  CL S80 m84 ∧ S80.length < 100000 ∧
  ∀ S86 : Ss, S86 = S80 ++ [(50, 4)] → ∀ m87 : Mm, m87 = zr m84 S80.length → ∀ b88 : Nat, b88 = S80.length →
  ∃ i91n : Nat, S86[b88]? = some (50, i91n) ∧ vp_in (0 : Int32) i91n ∧
  ∀ m90 : Mm, m90 = stI m87 b88 (0 : Int32).toNatClampNeg (3 : Int32) →
  ∃ i93n : Nat, S86[b88]? = some (50, i93n) ∧ vp_in (1 : Int32) i93n ∧
  ∀ m92 : Mm, m92 = stI m90 b88 (1 : Int32).toNatClampNeg (3 : Int32) →
  ∃ i95n : Nat, S86[b88]? = some (50, i95n) ∧ vp_in (2 : Int32) i95n ∧
  ∀ m94 : Mm, m94 = stI m92 b88 (2 : Int32).toNatClampNeg (3 : Int32) →
  ∃ i97n : Nat, S86[b88]? = some (50, i97n) ∧ vp_in (3 : Int32) i97n ∧
  ∀ m96 : Mm, m96 = stI m94 b88 (3 : Int32).toNatClampNeg (3 : Int32) →
  ∀ m98 : Mm, m98 = stR m96 a0 26 (some b88) →
  ∀ m99 : Mm, m99 = stI m98 a0 27 (2 : Int32) →
  CL S86 m99 ∧ S86.length < 100000 ∧
  ∀ S101 : Ss, S101 = S86 ++ [(50, 5)] → ∀ m102 : Mm, m102 = zr m99 S86.length → ∀ b103 : Nat, b103 = S86.length →
  ∀ m105 : Mm, m105 = stR m102 a0 35 (some b103) →
  CL S101 m105 ∧ S101.length < 100000 ∧
  ∀ S107 : Ss, S107 = S101 ++ [(50, 5)] → ∀ m108 : Mm, m108 = zr m105 S101.length → ∀ b109 : Nat, b109 = S101.length →
  ∀ m111 : Mm, m111 = stR m108 a0 36 (some b109) →
  CL S107 m111 ∧ S107.length < 100000 ∧
  ∀ S113 : Ss, S113 = S107 ++ [(53, 4001)] → ∀ m114 : Mm, m114 = zr m111 S107.length → ∀ b115 : Nat, b115 = S107.length →
  ∀ m117 : Mm, m117 = stR m114 a0 38 (some b115) →
  CL S113 m117 ∧ S113.length < 100000 ∧
  ∀ S119 : Ss, S119 = S113 ++ [(53, 4001)] → ∀ m120 : Mm, m120 = zr m117 S113.length → ∀ b121 : Nat, b121 = S113.length →
  ∀ m123 : Mm, m123 = stR m120 a0 39 (some b121) →
  CL S119 m123 ∧ S119.length < 100000 ∧
  ∀ S125 : Ss, S125 = S119 ++ [(50, 4001)] → ∀ m126 : Mm, m126 = zr m123 S119.length → ∀ b127 : Nat, b127 = S119.length →
  ∀ m129 : Mm, m129 = stR m126 a0 40 (some b127) →
  CL S125 m129 ∧ S125.length < 100000 ∧
  ∀ S131 : Ss, S131 = S125 ++ [(50, 4001)] → ∀ m132 : Mm, m132 = zr m129 S125.length → ∀ b133 : Nat, b133 = S125.length →
  ∀ m135 : Mm, m135 = stR m132 a0 41 (some b133) →
  CL S131 m135 ∧ S131.length < 100000 ∧
  ∀ S137 : Ss, S137 = S131 ++ [(50, 4001)] → ∀ m138 : Mm, m138 = zr m135 S131.length → ∀ b139 : Nat, b139 = S131.length →
  ∀ m141 : Mm, m141 = stR m138 a0 42 (some b139) →
  CL S137 m141 ∧ S137.length < 100000 ∧
  ∀ S143 : Ss, S143 = S137 ++ [(50, 16384)] → ∀ m144 : Mm, m144 = zr m141 S137.length → ∀ b145 : Nat, b145 = S137.length →
  ∀ m147 : Mm, m147 = stR m144 a0 43 (some b145) →
  CL S143 m147 ∧ S143.length < 100000 ∧
  ∀ S149 : Ss, S149 = S143 ++ [(53, 16004)] → ∀ m150 : Mm, m150 = zr m147 S143.length → ∀ b151 : Nat, b151 = S143.length →
  ∀ m153 : Mm, m153 = stR m150 a0 53 (some b151) →
  CL S149 m153 ∧ S149.length < 100000 ∧
  ∀ S155 : Ss, S155 = S149 ++ [(53, 16004)] → ∀ m156 : Mm, m156 = zr m153 S149.length → ∀ b157 : Nat, b157 = S149.length →
  ∀ m159 : Mm, m159 = stR m156 a0 54 (some b157) →
  CL S155 m159 ∧ S155.length < 100000 ∧
  ∀ S161 : Ss, S161 = S155 ++ [(50, 80020)] → ∀ m162 : Mm, m162 = zr m159 S155.length → ∀ b163 : Nat, b163 = S155.length →
  ∀ m165 : Mm, m165 = stR m162 a0 55 (some b163) →
  CL S161 m165 ∧ S161.length < 100000 ∧
  ∀ S167 : Ss, S167 = S161 ++ [(52, 80020)] → ∀ m168 : Mm, m168 = zr m165 S161.length → ∀ b169 : Nat, b169 = S161.length →
  ∀ m171 : Mm, m171 = stR m168 a0 56 (some b169) →
  CL S167 m171 ∧ S167.length < 100000 ∧
  ∀ S173 : Ss, S173 = S167 ++ [(50, 80020)] → ∀ m174 : Mm, m174 = zr m171 S167.length → ∀ b175 : Nat, b175 = S167.length →
  ∀ m177 : Mm, m177 = stR m174 a0 57 (some b175) →
  CL S173 m177 ∧ S173.length < 100000 ∧
  ∀ S179 : Ss, S179 = S173 ++ [(50, 10)] → ∀ m180 : Mm, m180 = zr m177 S173.length → ∀ b181 : Nat, b181 = S173.length →
  ∃ i184n : Nat, S179[b181]? = some (50, i184n) ∧ vp_in (0 : Int32) i184n ∧
  ∀ m183 : Mm, m183 = stI m180 b181 (0 : Int32).toNatClampNeg (1 : Int32) →
  ∃ i186n : Nat, S179[b181]? = some (50, i186n) ∧ vp_in (1 : Int32) i186n ∧
  ∀ m185 : Mm, m185 = stI m183 b181 (1 : Int32).toNatClampNeg (1 : Int32) →
  ∃ i188n : Nat, S179[b181]? = some (50, i188n) ∧ vp_in (2 : Int32) i188n ∧
  ∀ m187 : Mm, m187 = stI m185 b181 (2 : Int32).toNatClampNeg (1 : Int32) →
  ∃ i190n : Nat, S179[b181]? = some (50, i190n) ∧ vp_in (3 : Int32) i190n ∧
  ∀ m189 : Mm, m189 = stI m187 b181 (3 : Int32).toNatClampNeg (1 : Int32) →
  ∃ i192n : Nat, S179[b181]? = some (50, i192n) ∧ vp_in (4 : Int32) i192n ∧
  ∀ m191 : Mm, m191 = stI m189 b181 (4 : Int32).toNatClampNeg (1 : Int32) →
  ∃ i194n : Nat, S179[b181]? = some (50, i194n) ∧ vp_in (5 : Int32) i194n ∧
  ∀ m193 : Mm, m193 = stI m191 b181 (5 : Int32).toNatClampNeg (1 : Int32) →
  ∃ i196n : Nat, S179[b181]? = some (50, i196n) ∧ vp_in (6 : Int32) i196n ∧
  ∀ m195 : Mm, m195 = stI m193 b181 (6 : Int32).toNatClampNeg (1 : Int32) →
  ∃ i198n : Nat, S179[b181]? = some (50, i198n) ∧ vp_in (7 : Int32) i198n ∧
  ∀ m197 : Mm, m197 = stI m195 b181 (7 : Int32).toNatClampNeg (1 : Int32) →
  ∃ i200n : Nat, S179[b181]? = some (50, i200n) ∧ vp_in (8 : Int32) i200n ∧
  ∀ m199 : Mm, m199 = stI m197 b181 (8 : Int32).toNatClampNeg (1 : Int32) →
  ∃ i202n : Nat, S179[b181]? = some (50, i202n) ∧ vp_in (9 : Int32) i202n ∧
  ∀ m201 : Mm, m201 = stI m199 b181 (9 : Int32).toNatClampNeg (1 : Int32) →
  ∀ m203 : Mm, m203 = stR m201 a0 58 (some b181) →
  CL S179 m203 ∧ S179.length < 100000 ∧
  ∀ S205 : Ss, S205 = S179 ++ [(50, 20)] → ∀ m206 : Mm, m206 = zr m203 S179.length → ∀ b207 : Nat, b207 = S179.length →
  ∀ m209 : Mm, m209 = stR m206 a0 59 (some b207) →
  CL S205 m209 ∧ S205.length < 100000 ∧
  ∀ S211 : Ss, S211 = S205 ++ [(50, 8)] → ∀ m212 : Mm, m212 = zr m209 S205.length → ∀ b213 : Nat, b213 = S205.length →
  ∀ m215 : Mm, m215 = stR m212 a0 61 (some b213) →
  CL S211 m215 ∧ S211.length < 100000 ∧
  ∀ S217 : Ss, S217 = S211 ++ [(53, 4001)] → ∀ m218 : Mm, m218 = zr m215 S211.length → ∀ b219 : Nat, b219 = S211.length →
  ∀ m221 : Mm, m221 = stR m218 a0 67 (some b219) →
  CL S217 m221 ∧ S217.length < 100000 ∧
  ∀ S223 : Ss, S223 = S217 ++ [(50, 8)] → ∀ m224 : Mm, m224 = zr m221 S217.length → ∀ b225 : Nat, b225 = S217.length →
  ∀ m227 : Mm, m227 = stR m224 a0 68 (some b225) →
  CL S223 m227 ∧ S223.length < 100000 ∧
  ∀ S229 : Ss, S229 = S223 ++ [(50, 8)] → ∀ m230 : Mm, m230 = zr m227 S223.length → ∀ b231 : Nat, b231 = S223.length →
  ∀ m233 : Mm, m233 = stR m230 a0 69 (some b231) →
  CL S229 m233 ∧ S229.length < 100000 ∧
  ∀ S235 : Ss, S235 = S229 ++ [(50, 12)] → ∀ m236 : Mm, m236 = zr m233 S229.length → ∀ b237 : Nat, b237 = S229.length →
  ∀ m239 : Mm, m239 = stR m236 a0 71 (some b237) →
  CL S235 m239 ∧ S235.length < 100000 ∧
  ∀ S241 : Ss, S241 = S235 ++ [(50, 12)] → ∀ m242 : Mm, m242 = zr m239 S235.length → ∀ b243 : Nat, b243 = S235.length →
  ∀ m245 : Mm, m245 = stR m242 a0 72 (some b243) →
  CL S241 m245 ∧ S241.length < 100000 ∧
  ∀ S247 : Ss, S247 = S241 ++ [(50, 12)] → ∀ m248 : Mm, m248 = zr m245 S241.length → ∀ b249 : Nat, b249 = S241.length →
  ∀ m251 : Mm, m251 = stR m248 a0 73 (some b249) →
  CL S247 m251 ∧ S247.length < 100000 ∧
  ∀ S253 : Ss, S253 = S247 ++ [(50, 12)] → ∀ m254 : Mm, m254 = zr m251 S247.length → ∀ b255 : Nat, b255 = S247.length →
  ∀ m257 : Mm, m257 = stR m254 a0 75 (some b255) →
  CL S253 m257 ∧ S253.length < 100000 ∧
  ∀ S259 : Ss, S259 = S253 ++ [(50, 12)] → ∀ m260 : Mm, m260 = zr m257 S253.length → ∀ b261 : Nat, b261 = S253.length →
  ∀ m263 : Mm, m263 = stR m260 a0 76 (some b261) →
  CL S259 m263 ∧ S259.length < 100000 ∧
  ∀ S265 : Ss, S265 = S259 ++ [(50, 12)] → ∀ m266 : Mm, m266 = zr m263 S259.length → ∀ b267 : Nat, b267 = S259.length →
  ∀ m269 : Mm, m269 = stR m266 a0 77 (some b267) →
  CL S265 m269 ∧ S265.length < 100000 ∧
  ∀ S271 : Ss, S271 = S265 ++ [(50, 12)] → ∀ m272 : Mm, m272 = zr m269 S265.length → ∀ b273 : Nat, b273 = S265.length →
  ∀ m275 : Mm, m275 = stR m272 a0 78 (some b273) →
  CL S271 m275 ∧ S271.length < 100000 ∧
  ∀ S277 : Ss, S277 = S271 ++ [(50, 72)] → ∀ m278 : Mm, m278 = zr m275 S271.length → ∀ b279 : Nat, b279 = S271.length →
  ∀ m281 : Mm, m281 = stR m278 a0 79 (some b279) →
  CL S277 m281 ∧ S277.length < 100000 ∧
  ∀ S283 : Ss, S283 = S277 ++ [(52, 3)] → ∀ m284 : Mm, m284 = zr m281 S277.length → ∀ b285 : Nat, b285 = S277.length →
  ∀ m287 : Mm, m287 = stR m284 a0 80 (some b285) →
  CL S283 m287 ∧ S283.length < 100000 ∧
  ∀ S289 : Ss, S289 = S283 ++ [(53, 3)] → ∀ m290 : Mm, m290 = zr m287 S283.length → ∀ b291 : Nat, b291 = S283.length →
  ∀ m293 : Mm, m293 = stR m290 a0 81 (some b291) →
  CL S289 m293 ∧ S289.length < 100000 ∧
  ∀ S295 : Ss, S295 = S289 ++ [(53, 3)] → ∀ m296 : Mm, m296 = zr m293 S289.length → ∀ b297 : Nat, b297 = S289.length →
  ∀ m299 : Mm, m299 = stR m296 a0 82 (some b297) →
  CL S295 m299 ∧ S295.length < 100000 ∧
  ∀ S301 : Ss, S301 = S295 ++ [(50, 3)] → ∀ m302 : Mm, m302 = zr m299 S295.length → ∀ b303 : Nat, b303 = S295.length →
  ∀ m305 : Mm, m305 = stR m302 a0 83 (some b303) →
  CL S301 m305 ∧ S301.length < 100000 ∧
  ∀ S307 : Ss, S307 = S301 ++ [(50, 3)] → ∀ m308 : Mm, m308 = zr m305 S301.length → ∀ b309 : Nat, b309 = S301.length →
  ∀ m311 : Mm, m311 = stR m308 a0 84 (some b309) →
  CL S307 m311 ∧ S307.length < 100000 ∧
  ∀ S313 : Ss, S313 = S307 ++ [(50, 12)] → ∀ m314 : Mm, m314 = zr m311 S307.length → ∀ b315 : Nat, b315 = S307.length →
  ∀ m317 : Mm, m317 = stR m314 a0 85 (some b315) →
  K S313 m317
set_option maxHeartbeats 4000000 in
set_option maxRecDepth 100000 in
theorem ok_X11_init {l : Launch} {g : Gg} {S : Ss} {a0 : Nat} {M : Mm} {K : Ss → Mm → Prop} (hs0 : S[a0]? = some (10, 0)) (hf : f_X11_init S a0 M K) : MTC l g S yX11_init cX11_init 1 1 48 319235 [.ref (ad g a0)] M K := by
  refine MTC.of (by decide +kernel) (Nat.le_of_ble_eq_true rfl) ?_
  intro p e s m below meth c ls E hin hN hw hR hS hl
  have hl : lv_has ls 1 [(0, .ref (ad g a0))] := hl
  generalize ([.ref (ad g a0)] : List Value).toArray = args at E ⊢
  have E : EN p s m args meth c cX11_init 1 none RX11 g := E
  have hin : meth.name = "<init>" := hin
  have hbs := rp_bs hR hs0
  have exA : EX g g S := EX.rf
  have pxA : PX S S := PX.rf
  unfold f_X11_init at hf
  refine lv_aload_n E.1 E.2.1 dX11_init_0 rfl (lv_at hl 0 rfl) ?_
  refine hw_obj E hl loX11_536 (Nat.le_of_ble_eq_true rfl) (Nat.le_of_ble_eq_true rfl) (Nat.le_of_ble_eq_true rfl) dX11_init_1 ?_
  refine lv_aload_n E.1 E.2.1 dX11_init_4 rfl (lv_at hl 0 rfl) ?_
  refine lv_bipush (v := 64) E.1 E.2.1 dX11_init_5 (by decide) ?_
  obtain ⟨hcl, hln, hf⟩ := hf
  refine hw_newa53 E hR hS hw hbs hcl hln 64 (by decide) (by decide) (by decide) lar53 (Nat.le_of_ble_eq_true rfl) (Nat.le_of_ble_eq_true rfl) dX11_init_7 (fun g1 S2 m3 H ex5 eS2 em3 hR hS => ?_)
  obtain ⟨b4, eb4⟩ : ∃ y, y = S.length := ⟨_, rfl⟩
  rw [← eb4]
  replace hf := hf S2 eS2 m3 em3 b4 eb4
  have hb4 := ex_last eS2 eb4
  have px : PX S S2 := ⟨_, eS2⟩
  have ea := ex5.ad hs0
  (try rw [← ea] at hl)
  (try rw [← ea])
  have hs0 := px.at hs0
  have E := E.ex ex5
  have hw : ad g1 100000 < s.heap.size := by rw [ex5.2.2.2.1]; exact hw
  have hbs : g1.1 ≤ s.heap.size := by rw [ex5.1]; exact hbs
  have exA := exA.tr pxA ex5
  have pxA := pxA.tr px
  refine hw_putFR (o := (some b4)) E hin hR hS hw cI10 hs0 2 (by decide) lfX11_7 rfl rfl rfl dX11_init_9 (fun m6 H locs em6 hR hS => ?_)
  replace hf := hf m6 em6
  refine lv_aload_n E.1 E.2.1 dX11_init_12 rfl (lv_at hl 0 rfl) ?_
  refine lv_bipush (v := 100) E.1 E.2.1 dX11_init_13 (by decide) ?_
  obtain ⟨hcl, hln, hf⟩ := hf
  refine hw_newa50 E hR hS hw hbs hcl hln 100 (by decide) (by decide) (by decide) lar50 (Nat.le_of_ble_eq_true rfl) (Nat.le_of_ble_eq_true rfl) dX11_init_15 (fun g7 S8 m9 H ex11 eS8 em9 hR hS => ?_)
  obtain ⟨b10, eb10⟩ : ∃ y, y = S2.length := ⟨_, rfl⟩
  rw [← eb10]
  replace hf := hf S8 eS8 m9 em9 b10 eb10
  have hb10 := ex_last eS8 eb10
  have px : PX S2 S8 := ⟨_, eS8⟩
  have ea := ex11.ad hs0
  (try rw [← ea] at hl)
  (try rw [← ea])
  have hs0 := px.at hs0
  have hb4 := px.at hb4
  have E := E.ex ex11
  have hw : ad g7 100000 < s.heap.size := by rw [ex11.2.2.2.1]; exact hw
  have hbs : g7.1 ≤ s.heap.size := by rw [ex11.1]; exact hbs
  have exA := exA.tr pxA ex11
  have pxA := pxA.tr px
  refine hw_putFR (o := (some b10)) E hin hR hS hw cI10 hs0 3 (by decide) lfX11_17 rfl rfl rfl dX11_init_17 (fun m12 H locs em12 hR hS => ?_)
  replace hf := hf m12 em12
  refine lv_aload_n E.1 E.2.1 dX11_init_20 rfl (lv_at hl 0 rfl) ?_
  refine lv_bipush (v := 90) E.1 E.2.1 dX11_init_21 (by decide) ?_
  obtain ⟨hcl, hln, hf⟩ := hf
  refine hw_newa50 E hR hS hw hbs hcl hln 90 (by decide) (by decide) (by decide) lar50 (Nat.le_of_ble_eq_true rfl) (Nat.le_of_ble_eq_true rfl) dX11_init_23 (fun g13 S14 m15 H ex17 eS14 em15 hR hS => ?_)
  obtain ⟨b16, eb16⟩ : ∃ y, y = S8.length := ⟨_, rfl⟩
  rw [← eb16]
  replace hf := hf S14 eS14 m15 em15 b16 eb16
  have hb16 := ex_last eS14 eb16
  have px : PX S8 S14 := ⟨_, eS14⟩
  have ea := ex17.ad hs0
  (try rw [← ea] at hl)
  (try rw [← ea])
  have hs0 := px.at hs0
  have hb10 := px.at hb10
  have hb4 := px.at hb4
  have E := E.ex ex17
  have hw : ad g13 100000 < s.heap.size := by rw [ex17.2.2.2.1]; exact hw
  have hbs : g13.1 ≤ s.heap.size := by rw [ex17.1]; exact hbs
  have exA := exA.tr pxA ex17
  have pxA := pxA.tr px
  refine hw_putFR (o := (some b16)) E hin hR hS hw cI10 hs0 9 (by decide) lfX11_107 rfl rfl rfl dX11_init_25 (fun m18 H locs em18 hR hS => ?_)
  replace hf := hf m18 em18
  refine lv_aload_n E.1 E.2.1 dX11_init_28 rfl (lv_at hl 0 rfl) ?_
  refine lv_bipush (v := 90) E.1 E.2.1 dX11_init_29 (by decide) ?_
  obtain ⟨hcl, hln, hf⟩ := hf
  refine hw_newa50 E hR hS hw hbs hcl hln 90 (by decide) (by decide) (by decide) lar50 (Nat.le_of_ble_eq_true rfl) (Nat.le_of_ble_eq_true rfl) dX11_init_31 (fun g19 S20 m21 H ex23 eS20 em21 hR hS => ?_)
  obtain ⟨b22, eb22⟩ : ∃ y, y = S14.length := ⟨_, rfl⟩
  rw [← eb22]
  replace hf := hf S20 eS20 m21 em21 b22 eb22
  have hb22 := ex_last eS20 eb22
  have px : PX S14 S20 := ⟨_, eS20⟩
  have ea := ex23.ad hs0
  (try rw [← ea] at hl)
  (try rw [← ea])
  have hs0 := px.at hs0
  have hb10 := px.at hb10
  have hb16 := px.at hb16
  have hb4 := px.at hb4
  have E := E.ex ex23
  have hw : ad g19 100000 < s.heap.size := by rw [ex23.2.2.2.1]; exact hw
  have hbs : g19.1 ≤ s.heap.size := by rw [ex23.1]; exact hbs
  have exA := exA.tr pxA ex23
  have pxA := pxA.tr px
  refine hw_putFR (o := (some b22)) E hin hR hS hw cI10 hs0 10 (by decide) lfX11_104 rfl rfl rfl dX11_init_33 (fun m24 H locs em24 hR hS => ?_)
  replace hf := hf m24 em24
  refine lv_aload_n E.1 E.2.1 dX11_init_36 rfl (lv_at hl 0 rfl) ?_
  refine lv_sipush (v := 5760) E.1 E.2.1 dX11_init_37 (by decide) ?_
  obtain ⟨hcl, hln, hf⟩ := hf
  refine hw_newa50 E hR hS hw hbs hcl hln 5760 (by decide) (by decide) (by decide) lar50 (Nat.le_of_ble_eq_true rfl) (Nat.le_of_ble_eq_true rfl) dX11_init_40 (fun g25 S26 m27 H ex29 eS26 em27 hR hS => ?_)
  obtain ⟨b28, eb28⟩ : ∃ y, y = S20.length := ⟨_, rfl⟩
  rw [← eb28]
  replace hf := hf S26 eS26 m27 em27 b28 eb28
  have hb28 := ex_last eS26 eb28
  have px : PX S20 S26 := ⟨_, eS26⟩
  have ea := ex29.ad hs0
  (try rw [← ea] at hl)
  (try rw [← ea])
  have hs0 := px.at hs0
  have hb10 := px.at hb10
  have hb16 := px.at hb16
  have hb22 := px.at hb22
  have hb4 := px.at hb4
  have E := E.ex ex29
  have hw : ad g25 100000 < s.heap.size := by rw [ex29.2.2.2.1]; exact hw
  have hbs : g25.1 ≤ s.heap.size := by rw [ex29.1]; exact hbs
  have exA := exA.tr pxA ex29
  have pxA := pxA.tr px
  refine hw_putFR (o := (some b28)) E hin hR hS hw cI10 hs0 11 (by decide) lfX11_43 rfl rfl rfl dX11_init_42 (fun m30 H locs em30 hR hS => ?_)
  replace hf := hf m30 em30
  refine lv_aload_n E.1 E.2.1 dX11_init_45 rfl (lv_at hl 0 rfl) ?_
  refine lv_bipush (v := 90) E.1 E.2.1 dX11_init_46 (by decide) ?_
  obtain ⟨hcl, hln, hf⟩ := hf
  refine hw_newa50 E hR hS hw hbs hcl hln 90 (by decide) (by decide) (by decide) lar50 (Nat.le_of_ble_eq_true rfl) (Nat.le_of_ble_eq_true rfl) dX11_init_48 (fun g31 S32 m33 H ex35 eS32 em33 hR hS => ?_)
  obtain ⟨b34, eb34⟩ : ∃ y, y = S26.length := ⟨_, rfl⟩
  rw [← eb34]
  replace hf := hf S32 eS32 m33 em33 b34 eb34
  have hb34 := ex_last eS32 eb34
  have px : PX S26 S32 := ⟨_, eS32⟩
  have ea := ex35.ad hs0
  (try rw [← ea] at hl)
  (try rw [← ea])
  have hs0 := px.at hs0
  have hb10 := px.at hb10
  have hb16 := px.at hb16
  have hb22 := px.at hb22
  have hb28 := px.at hb28
  have hb4 := px.at hb4
  have E := E.ex ex35
  have hw : ad g31 100000 < s.heap.size := by rw [ex35.2.2.2.1]; exact hw
  have hbs : g31.1 ≤ s.heap.size := by rw [ex35.1]; exact hbs
  have exA := exA.tr pxA ex35
  have pxA := pxA.tr px
  refine hw_putFR (o := (some b34)) E hin hR hS hw cI10 hs0 12 (by decide) lfX11_49 rfl rfl rfl dX11_init_50 (fun m36 H locs em36 hR hS => ?_)
  replace hf := hf m36 em36
  refine lv_aload_n E.1 E.2.1 dX11_init_53 rfl (lv_at hl 0 rfl) ?_
  refine lv_bipush (v := 64) E.1 E.2.1 dX11_init_54 (by decide) ?_
  obtain ⟨hcl, hln, hf⟩ := hf
  refine hw_newa50 E hR hS hw hbs hcl hln 64 (by decide) (by decide) (by decide) lar50 (Nat.le_of_ble_eq_true rfl) (Nat.le_of_ble_eq_true rfl) dX11_init_56 (fun g37 S38 m39 H ex41 eS38 em39 hR hS => ?_)
  obtain ⟨b40, eb40⟩ : ∃ y, y = S32.length := ⟨_, rfl⟩
  rw [← eb40]
  replace hf := hf S38 eS38 m39 em39 b40 eb40
  have hb40 := ex_last eS38 eb40
  have px : PX S32 S38 := ⟨_, eS38⟩
  have ea := ex41.ad hs0
  (try rw [← ea] at hl)
  (try rw [← ea])
  have hs0 := px.at hs0
  have hb10 := px.at hb10
  have hb16 := px.at hb16
  have hb22 := px.at hb22
  have hb28 := px.at hb28
  have hb34 := px.at hb34
  have hb4 := px.at hb4
  have E := E.ex ex41
  have hw : ad g37 100000 < s.heap.size := by rw [ex41.2.2.2.1]; exact hw
  have hbs : g37.1 ≤ s.heap.size := by rw [ex41.1]; exact hbs
  have exA := exA.tr pxA ex41
  have pxA := pxA.tr px
  refine hw_putFR (o := (some b40)) E hin hR hS hw cI10 hs0 14 (by decide) lfX11_185 rfl rfl rfl dX11_init_58 (fun m42 H locs em42 hR hS => ?_)
  replace hf := hf m42 em42
  refine lv_aload_n E.1 E.2.1 dX11_init_61 rfl (lv_at hl 0 rfl) ?_
  refine lv_iconst (v := 4) E.1 E.2.1 dX11_init_62 (by decide) ?_
  obtain ⟨hcl, hln, hf⟩ := hf
  refine hw_newa50 E hR hS hw hbs hcl hln 4 (by decide) (by decide) (by decide) lar50 (Nat.le_of_ble_eq_true rfl) (Nat.le_of_ble_eq_true rfl) dX11_init_63 (fun g43 S44 m45 H ex47 eS44 em45 hR hS => ?_)
  obtain ⟨b46, eb46⟩ : ∃ y, y = S38.length := ⟨_, rfl⟩
  rw [← eb46]
  replace hf := hf S44 eS44 m45 em45 b46 eb46
  have hb46 := ex_last eS44 eb46
  have px : PX S38 S44 := ⟨_, eS44⟩
  have ea := ex47.ad hs0
  (try rw [← ea] at hl)
  (try rw [← ea])
  have hs0 := px.at hs0
  have hb10 := px.at hb10
  have hb16 := px.at hb16
  have hb22 := px.at hb22
  have hb28 := px.at hb28
  have hb34 := px.at hb34
  have hb4 := px.at hb4
  have hb40 := px.at hb40
  have E := E.ex ex47
  have hw : ad g43 100000 < s.heap.size := by rw [ex47.2.2.2.1]; exact hw
  have hbs : g43.1 ≤ s.heap.size := by rw [ex47.1]; exact hbs
  have exA := exA.tr pxA ex47
  have pxA := pxA.tr px
  refine hw_putFR (o := (some b46)) E hin hR hS hw cI10 hs0 16 (by decide) lfX11_142 rfl rfl rfl dX11_init_65 (fun m48 H locs em48 hR hS => ?_)
  replace hf := hf m48 em48
  refine lv_aload_n E.1 E.2.1 dX11_init_68 rfl (lv_at hl 0 rfl) ?_
  refine lv_sipush (v := 240) E.1 E.2.1 dX11_init_69 (by decide) ?_
  obtain ⟨hcl, hln, hf⟩ := hf
  refine hw_newa50 E hR hS hw hbs hcl hln 240 (by decide) (by decide) (by decide) lar50 (Nat.le_of_ble_eq_true rfl) (Nat.le_of_ble_eq_true rfl) dX11_init_72 (fun g49 S50 m51 H ex53 eS50 em51 hR hS => ?_)
  obtain ⟨b52, eb52⟩ : ∃ y, y = S44.length := ⟨_, rfl⟩
  rw [← eb52]
  replace hf := hf S50 eS50 m51 em51 b52 eb52
  have hb52 := ex_last eS50 eb52
  have px : PX S44 S50 := ⟨_, eS50⟩
  have ea := ex53.ad hs0
  (try rw [← ea] at hl)
  (try rw [← ea])
  have hs0 := px.at hs0
  have hb10 := px.at hb10
  have hb16 := px.at hb16
  have hb22 := px.at hb22
  have hb28 := px.at hb28
  have hb34 := px.at hb34
  have hb4 := px.at hb4
  have hb40 := px.at hb40
  have hb46 := px.at hb46
  have E := E.ex ex53
  have hw : ad g49 100000 < s.heap.size := by rw [ex53.2.2.2.1]; exact hw
  have hbs : g49.1 ≤ s.heap.size := by rw [ex53.1]; exact hbs
  have exA := exA.tr pxA ex53
  have pxA := pxA.tr px
  refine hw_putFR (o := (some b52)) E hin hR hS hw cI10 hs0 17 (by decide) lfX11_136 rfl rfl rfl dX11_init_74 (fun m54 H locs em54 hR hS => ?_)
  replace hf := hf m54 em54
  refine lv_aload_n E.1 E.2.1 dX11_init_77 rfl (lv_at hl 0 rfl) ?_
  refine lv_iconst (v := 4) E.1 E.2.1 dX11_init_78 (by decide) ?_
  obtain ⟨hcl, hln, hf⟩ := hf
  refine hw_newa50 E hR hS hw hbs hcl hln 4 (by decide) (by decide) (by decide) lar50 (Nat.le_of_ble_eq_true rfl) (Nat.le_of_ble_eq_true rfl) dX11_init_79 (fun g55 S56 m57 H ex59 eS56 em57 hR hS => ?_)
  obtain ⟨b58, eb58⟩ : ∃ y, y = S50.length := ⟨_, rfl⟩
  rw [← eb58]
  replace hf := hf S56 eS56 m57 em57 b58 eb58
  have hb58 := ex_last eS56 eb58
  have px : PX S50 S56 := ⟨_, eS56⟩
  have ea := ex59.ad hs0
  (try rw [← ea] at hl)
  (try rw [← ea])
  have hs0 := px.at hs0
  have hb10 := px.at hb10
  have hb16 := px.at hb16
  have hb22 := px.at hb22
  have hb28 := px.at hb28
  have hb34 := px.at hb34
  have hb4 := px.at hb4
  have hb40 := px.at hb40
  have hb46 := px.at hb46
  have hb52 := px.at hb52
  have E := E.ex ex59
  have hw : ad g55 100000 < s.heap.size := by rw [ex59.2.2.2.1]; exact hw
  have hbs : g55.1 ≤ s.heap.size := by rw [ex59.1]; exact hbs
  have exA := exA.tr pxA ex59
  have pxA := pxA.tr px
  refine hw_putFR (o := (some b58)) E hin hR hS hw cI10 hs0 18 (by decide) lfX11_139 rfl rfl rfl dX11_init_81 (fun m60 H locs em60 hR hS => ?_)
  replace hf := hf m60 em60
  refine lv_aload_n E.1 E.2.1 dX11_init_84 rfl (lv_at hl 0 rfl) ?_
  refine lv_bipush (v := 8) E.1 E.2.1 dX11_init_85 (by decide) ?_
  obtain ⟨hcl, hln, hf⟩ := hf
  refine hw_newa50 E hR hS hw hbs hcl hln 8 (by decide) (by decide) (by decide) lar50 (Nat.le_of_ble_eq_true rfl) (Nat.le_of_ble_eq_true rfl) dX11_init_87 (fun g61 S62 m63 H ex65 eS62 em63 hR hS => ?_)
  obtain ⟨b64, eb64⟩ : ∃ y, y = S56.length := ⟨_, rfl⟩
  rw [← eb64]
  replace hf := hf S62 eS62 m63 em63 b64 eb64
  have hb64 := ex_last eS62 eb64
  have px : PX S56 S62 := ⟨_, eS62⟩
  have ea := ex65.ad hs0
  (try rw [← ea] at hl)
  (try rw [← ea])
  have hs0 := px.at hs0
  have hb10 := px.at hb10
  have hb16 := px.at hb16
  have hb22 := px.at hb22
  have hb28 := px.at hb28
  have hb34 := px.at hb34
  have hb4 := px.at hb4
  have hb40 := px.at hb40
  have hb46 := px.at hb46
  have hb52 := px.at hb52
  have hb58 := px.at hb58
  have E := E.ex ex65
  have hw : ad g61 100000 < s.heap.size := by rw [ex65.2.2.2.1]; exact hw
  have hbs : g61.1 ≤ s.heap.size := by rw [ex65.1]; exact hbs
  have exA := exA.tr pxA ex65
  have pxA := pxA.tr px
  refine hw_putFR (o := (some b64)) E hin hR hS hw cI10 hs0 22 (by decide) lfX11_164 rfl rfl rfl dX11_init_89 (fun m66 H locs em66 hR hS => ?_)
  replace hf := hf m66 em66
  refine lv_aload_n E.1 E.2.1 dX11_init_92 rfl (lv_at hl 0 rfl) ?_
  refine lv_iconst (v := 4) E.1 E.2.1 dX11_init_93 (by decide) ?_
  obtain ⟨hcl, hln, hf⟩ := hf
  refine hw_newa50 E hR hS hw hbs hcl hln 4 (by decide) (by decide) (by decide) lar50 (Nat.le_of_ble_eq_true rfl) (Nat.le_of_ble_eq_true rfl) dX11_init_94 (fun g67 S68 m69 H ex71 eS68 em69 hR hS => ?_)
  obtain ⟨b70, eb70⟩ : ∃ y, y = S62.length := ⟨_, rfl⟩
  rw [← eb70]
  replace hf := hf S68 eS68 m69 em69 b70 eb70
  have hb70 := ex_last eS68 eb70
  have px : PX S62 S68 := ⟨_, eS68⟩
  have ea := ex71.ad hs0
  (try rw [← ea] at hl)
  (try rw [← ea])
  have hs0 := px.at hs0
  have hb10 := px.at hb10
  have hb16 := px.at hb16
  have hb22 := px.at hb22
  have hb28 := px.at hb28
  have hb34 := px.at hb34
  have hb4 := px.at hb4
  have hb40 := px.at hb40
  have hb46 := px.at hb46
  have hb52 := px.at hb52
  have hb58 := px.at hb58
  have hb64 := px.at hb64
  have E := E.ex ex71
  have hw : ad g67 100000 < s.heap.size := by rw [ex71.2.2.2.1]; exact hw
  have hbs : g67.1 ≤ s.heap.size := by rw [ex71.1]; exact hbs
  have exA := exA.tr pxA ex71
  have pxA := pxA.tr px
  refine hw_putFR (o := (some b70)) E hin hR hS hw cI10 hs0 23 (by decide) lfX11_170 rfl rfl rfl dX11_init_96 (fun m72 H locs em72 hR hS => ?_)
  replace hf := hf m72 em72
  refine lv_aload_n E.1 E.2.1 dX11_init_99 rfl (lv_at hl 0 rfl) ?_
  refine lv_iconst (v := 4) E.1 E.2.1 dX11_init_100 (by decide) ?_
  obtain ⟨hcl, hln, hf⟩ := hf
  refine hw_newa50 E hR hS hw hbs hcl hln 4 (by decide) (by decide) (by decide) lar50 (Nat.le_of_ble_eq_true rfl) (Nat.le_of_ble_eq_true rfl) dX11_init_101 (fun g73 S74 m75 H ex77 eS74 em75 hR hS => ?_)
  obtain ⟨b76, eb76⟩ : ∃ y, y = S68.length := ⟨_, rfl⟩
  rw [← eb76]
  replace hf := hf S74 eS74 m75 em75 b76 eb76
  have hb76 := ex_last eS74 eb76
  have px : PX S68 S74 := ⟨_, eS74⟩
  have ea := ex77.ad hs0
  (try rw [← ea] at hl)
  (try rw [← ea])
  have hs0 := px.at hs0
  have hb10 := px.at hb10
  have hb16 := px.at hb16
  have hb22 := px.at hb22
  have hb28 := px.at hb28
  have hb34 := px.at hb34
  have hb4 := px.at hb4
  have hb40 := px.at hb40
  have hb46 := px.at hb46
  have hb52 := px.at hb52
  have hb58 := px.at hb58
  have hb64 := px.at hb64
  have hb70 := px.at hb70
  have E := E.ex ex77
  have hw : ad g73 100000 < s.heap.size := by rw [ex77.2.2.2.1]; exact hw
  have hbs : g73.1 ≤ s.heap.size := by rw [ex77.1]; exact hbs
  have exA := exA.tr pxA ex77
  have pxA := pxA.tr px
  refine hw_putFR (o := (some b76)) E hin hR hS hw cI10 hs0 24 (by decide) lfX11_167 rfl rfl rfl dX11_init_103 (fun m78 H locs em78 hR hS => ?_)
  replace hf := hf m78 em78
  refine lv_aload_n E.1 E.2.1 dX11_init_106 rfl (lv_at hl 0 rfl) ?_
  refine lv_iconst (v := 4) E.1 E.2.1 dX11_init_107 (by decide) ?_
  obtain ⟨hcl, hln, hf⟩ := hf
  refine hw_newa50 E hR hS hw hbs hcl hln 4 (by decide) (by decide) (by decide) lar50 (Nat.le_of_ble_eq_true rfl) (Nat.le_of_ble_eq_true rfl) dX11_init_108 (fun g79 S80 m81 H ex83 eS80 em81 hR hS => ?_)
  obtain ⟨b82, eb82⟩ : ∃ y, y = S74.length := ⟨_, rfl⟩
  rw [← eb82]
  replace hf := hf S80 eS80 m81 em81 b82 eb82
  have hb82 := ex_last eS80 eb82
  have px : PX S74 S80 := ⟨_, eS80⟩
  have ea := ex83.ad hs0
  (try rw [← ea] at hl)
  (try rw [← ea])
  have hs0 := px.at hs0
  have hb10 := px.at hb10
  have hb16 := px.at hb16
  have hb22 := px.at hb22
  have hb28 := px.at hb28
  have hb34 := px.at hb34
  have hb4 := px.at hb4
  have hb40 := px.at hb40
  have hb46 := px.at hb46
  have hb52 := px.at hb52
  have hb58 := px.at hb58
  have hb64 := px.at hb64
  have hb70 := px.at hb70
  have hb76 := px.at hb76
  have E := E.ex ex83
  have hw : ad g79 100000 < s.heap.size := by rw [ex83.2.2.2.1]; exact hw
  have hbs : g79.1 ≤ s.heap.size := by rw [ex83.1]; exact hbs
  have exA := exA.tr pxA ex83
  have pxA := pxA.tr px
  refine hw_putFR (o := (some b82)) E hin hR hS hw cI10 hs0 25 (by decide) lfX11_145 rfl rfl rfl dX11_init_110 (fun m84 H locs em84 hR hS => ?_)
  replace hf := hf m84 em84
  refine lv_aload_n E.1 E.2.1 dX11_init_113 rfl (lv_at hl 0 rfl) ?_
  refine lv_iconst (v := 4) E.1 E.2.1 dX11_init_114 (by decide) ?_
  obtain ⟨hcl, hln, hf⟩ := hf
  refine hw_newa50 E hR hS hw hbs hcl hln 4 (by decide) (by decide) (by decide) lar50 (Nat.le_of_ble_eq_true rfl) (Nat.le_of_ble_eq_true rfl) dX11_init_115 (fun g85 S86 m87 H ex89 eS86 em87 hR hS => ?_)
  obtain ⟨b88, eb88⟩ : ∃ y, y = S80.length := ⟨_, rfl⟩
  rw [← eb88]
  replace hf := hf S86 eS86 m87 em87 b88 eb88
  have hb88 := ex_last eS86 eb88
  have px : PX S80 S86 := ⟨_, eS86⟩
  have ea := ex89.ad hs0
  (try rw [← ea] at hl)
  (try rw [← ea])
  have hs0 := px.at hs0
  have hb10 := px.at hb10
  have hb16 := px.at hb16
  have hb22 := px.at hb22
  have hb28 := px.at hb28
  have hb34 := px.at hb34
  have hb4 := px.at hb4
  have hb40 := px.at hb40
  have hb46 := px.at hb46
  have hb52 := px.at hb52
  have hb58 := px.at hb58
  have hb64 := px.at hb64
  have hb70 := px.at hb70
  have hb76 := px.at hb76
  have hb82 := px.at hb82
  have E := E.ex ex89
  have hw : ad g85 100000 < s.heap.size := by rw [ex89.2.2.2.1]; exact hw
  have hbs : g85.1 ≤ s.heap.size := by rw [ex89.1]; exact hbs
  have exA := exA.tr pxA ex89
  have pxA := pxA.tr px
  refine lv_dup E.1 E.2.1 dX11_init_117 rfl ?_
  refine lv_iconst (v := 0) E.1 E.2.1 dX11_init_118 (by decide) ?_
  refine lv_iconst (v := 3) E.1 E.2.1 dX11_init_119 (by decide) ?_
  obtain ⟨i91n, i91s, i91, hf⟩ := hf
  refine hw_iast E hR hS hw i91s i91 dX11_init_120 (fun m90 H locs em90 hR hS => ?_)
  replace hf := hf m90 em90
  refine lv_dup E.1 E.2.1 dX11_init_121 rfl ?_
  refine lv_iconst (v := 1) E.1 E.2.1 dX11_init_122 (by decide) ?_
  refine lv_iconst (v := 3) E.1 E.2.1 dX11_init_123 (by decide) ?_
  obtain ⟨i93n, i93s, i93, hf⟩ := hf
  refine hw_iast E hR hS hw i93s i93 dX11_init_124 (fun m92 H locs em92 hR hS => ?_)
  replace hf := hf m92 em92
  refine lv_dup E.1 E.2.1 dX11_init_125 rfl ?_
  refine lv_iconst (v := 2) E.1 E.2.1 dX11_init_126 (by decide) ?_
  refine lv_iconst (v := 3) E.1 E.2.1 dX11_init_127 (by decide) ?_
  obtain ⟨i95n, i95s, i95, hf⟩ := hf
  refine hw_iast E hR hS hw i95s i95 dX11_init_128 (fun m94 H locs em94 hR hS => ?_)
  replace hf := hf m94 em94
  refine lv_dup E.1 E.2.1 dX11_init_129 rfl ?_
  refine lv_iconst (v := 3) E.1 E.2.1 dX11_init_130 (by decide) ?_
  refine lv_iconst (v := 3) E.1 E.2.1 dX11_init_131 (by decide) ?_
  obtain ⟨i97n, i97s, i97, hf⟩ := hf
  refine hw_iast E hR hS hw i97s i97 dX11_init_132 (fun m96 H locs em96 hR hS => ?_)
  replace hf := hf m96 em96
  refine hw_putFR (o := (some b88)) E hin hR hS hw cI10 hs0 26 (by decide) lfX11_217 rfl rfl rfl dX11_init_133 (fun m98 H locs em98 hR hS => ?_)
  replace hf := hf m98 em98
  refine lv_aload_n E.1 E.2.1 dX11_init_136 rfl (lv_at hl 0 rfl) ?_
  refine lv_iconst (v := 2) E.1 E.2.1 dX11_init_137 (by decide) ?_
  refine hw_putI E hR hS hw cI10 hs0 27 (by decide) lfX11_239 rfl (Or.inl rfl) dX11_init_138 (fun m99 H locs em99 hR hS => ?_)
  replace hf := hf m99 em99
  refine lv_aload_n E.1 E.2.1 dX11_init_141 rfl (lv_at hl 0 rfl) ?_
  refine lv_iconst (v := 5) E.1 E.2.1 dX11_init_142 (by decide) ?_
  obtain ⟨hcl, hln, hf⟩ := hf
  refine hw_newa50 E hR hS hw hbs hcl hln 5 (by decide) (by decide) (by decide) lar50 (Nat.le_of_ble_eq_true rfl) (Nat.le_of_ble_eq_true rfl) dX11_init_143 (fun g100 S101 m102 H ex104 eS101 em102 hR hS => ?_)
  obtain ⟨b103, eb103⟩ : ∃ y, y = S86.length := ⟨_, rfl⟩
  rw [← eb103]
  replace hf := hf S101 eS101 m102 em102 b103 eb103
  have hb103 := ex_last eS101 eb103
  have px : PX S86 S101 := ⟨_, eS101⟩
  have ea := ex104.ad hs0
  (try rw [← ea] at hl)
  (try rw [← ea])
  have hs0 := px.at hs0
  have hb10 := px.at hb10
  have hb16 := px.at hb16
  have hb22 := px.at hb22
  have hb28 := px.at hb28
  have hb34 := px.at hb34
  have hb4 := px.at hb4
  have hb40 := px.at hb40
  have hb46 := px.at hb46
  have hb52 := px.at hb52
  have hb58 := px.at hb58
  have hb64 := px.at hb64
  have hb70 := px.at hb70
  have hb76 := px.at hb76
  have hb82 := px.at hb82
  have hb88 := px.at hb88
  have E := E.ex ex104
  have hw : ad g100 100000 < s.heap.size := by rw [ex104.2.2.2.1]; exact hw
  have hbs : g100.1 ≤ s.heap.size := by rw [ex104.1]; exact hbs
  have exA := exA.tr pxA ex104
  have pxA := pxA.tr px
  refine hw_putFR (o := (some b103)) E hin hR hS hw cI10 hs0 35 (by decide) lfX11_208 rfl rfl rfl dX11_init_145 (fun m105 H locs em105 hR hS => ?_)
  replace hf := hf m105 em105
  refine lv_aload_n E.1 E.2.1 dX11_init_148 rfl (lv_at hl 0 rfl) ?_
  refine lv_iconst (v := 5) E.1 E.2.1 dX11_init_149 (by decide) ?_
  obtain ⟨hcl, hln, hf⟩ := hf
  refine hw_newa50 E hR hS hw hbs hcl hln 5 (by decide) (by decide) (by decide) lar50 (Nat.le_of_ble_eq_true rfl) (Nat.le_of_ble_eq_true rfl) dX11_init_150 (fun g106 S107 m108 H ex110 eS107 em108 hR hS => ?_)
  obtain ⟨b109, eb109⟩ : ∃ y, y = S101.length := ⟨_, rfl⟩
  rw [← eb109]
  replace hf := hf S107 eS107 m108 em108 b109 eb109
  have hb109 := ex_last eS107 eb109
  have px : PX S101 S107 := ⟨_, eS107⟩
  have ea := ex110.ad hs0
  (try rw [← ea] at hl)
  (try rw [← ea])
  have hs0 := px.at hs0
  have hb10 := px.at hb10
  have hb103 := px.at hb103
  have hb16 := px.at hb16
  have hb22 := px.at hb22
  have hb28 := px.at hb28
  have hb34 := px.at hb34
  have hb4 := px.at hb4
  have hb40 := px.at hb40
  have hb46 := px.at hb46
  have hb52 := px.at hb52
  have hb58 := px.at hb58
  have hb64 := px.at hb64
  have hb70 := px.at hb70
  have hb76 := px.at hb76
  have hb82 := px.at hb82
  have hb88 := px.at hb88
  have E := E.ex ex110
  have hw : ad g106 100000 < s.heap.size := by rw [ex110.2.2.2.1]; exact hw
  have hbs : g106.1 ≤ s.heap.size := by rw [ex110.1]; exact hbs
  have exA := exA.tr pxA ex110
  have pxA := pxA.tr px
  refine hw_putFR (o := (some b109)) E hin hR hS hw cI10 hs0 36 (by decide) lfX11_211 rfl rfl rfl dX11_init_152 (fun m111 H locs em111 hR hS => ?_)
  replace hf := hf m111 em111
  refine lv_aload_n E.1 E.2.1 dX11_init_155 rfl (lv_at hl 0 rfl) ?_
  refine lv_sipush (v := 4001) E.1 E.2.1 dX11_init_156 (by decide) ?_
  obtain ⟨hcl, hln, hf⟩ := hf
  refine hw_newa53 E hR hS hw hbs hcl hln 4001 (by decide) (by decide) (by decide) lar53 (Nat.le_of_ble_eq_true rfl) (Nat.le_of_ble_eq_true rfl) dX11_init_159 (fun g112 S113 m114 H ex116 eS113 em114 hR hS => ?_)
  obtain ⟨b115, eb115⟩ : ∃ y, y = S107.length := ⟨_, rfl⟩
  rw [← eb115]
  replace hf := hf S113 eS113 m114 em114 b115 eb115
  have hb115 := ex_last eS113 eb115
  have px : PX S107 S113 := ⟨_, eS113⟩
  have ea := ex116.ad hs0
  (try rw [← ea] at hl)
  (try rw [← ea])
  have hs0 := px.at hs0
  have hb10 := px.at hb10
  have hb103 := px.at hb103
  have hb109 := px.at hb109
  have hb16 := px.at hb16
  have hb22 := px.at hb22
  have hb28 := px.at hb28
  have hb34 := px.at hb34
  have hb4 := px.at hb4
  have hb40 := px.at hb40
  have hb46 := px.at hb46
  have hb52 := px.at hb52
  have hb58 := px.at hb58
  have hb64 := px.at hb64
  have hb70 := px.at hb70
  have hb76 := px.at hb76
  have hb82 := px.at hb82
  have hb88 := px.at hb88
  have E := E.ex ex116
  have hw : ad g112 100000 < s.heap.size := by rw [ex116.2.2.2.1]; exact hw
  have hbs : g112.1 ≤ s.heap.size := by rw [ex116.1]; exact hbs
  have exA := exA.tr pxA ex116
  have pxA := pxA.tr px
  refine hw_putFR (o := (some b115)) E hin hR hS hw cI10 hs0 38 (by decide) lfX11_312 rfl rfl rfl dX11_init_161 (fun m117 H locs em117 hR hS => ?_)
  replace hf := hf m117 em117
  refine lv_aload_n E.1 E.2.1 dX11_init_164 rfl (lv_at hl 0 rfl) ?_
  refine lv_sipush (v := 4001) E.1 E.2.1 dX11_init_165 (by decide) ?_
  obtain ⟨hcl, hln, hf⟩ := hf
  refine hw_newa53 E hR hS hw hbs hcl hln 4001 (by decide) (by decide) (by decide) lar53 (Nat.le_of_ble_eq_true rfl) (Nat.le_of_ble_eq_true rfl) dX11_init_168 (fun g118 S119 m120 H ex122 eS119 em120 hR hS => ?_)
  obtain ⟨b121, eb121⟩ : ∃ y, y = S113.length := ⟨_, rfl⟩
  rw [← eb121]
  replace hf := hf S119 eS119 m120 em120 b121 eb121
  have hb121 := ex_last eS119 eb121
  have px : PX S113 S119 := ⟨_, eS119⟩
  have ea := ex122.ad hs0
  (try rw [← ea] at hl)
  (try rw [← ea])
  have hs0 := px.at hs0
  have hb10 := px.at hb10
  have hb103 := px.at hb103
  have hb109 := px.at hb109
  have hb115 := px.at hb115
  have hb16 := px.at hb16
  have hb22 := px.at hb22
  have hb28 := px.at hb28
  have hb34 := px.at hb34
  have hb4 := px.at hb4
  have hb40 := px.at hb40
  have hb46 := px.at hb46
  have hb52 := px.at hb52
  have hb58 := px.at hb58
  have hb64 := px.at hb64
  have hb70 := px.at hb70
  have hb76 := px.at hb76
  have hb82 := px.at hb82
  have hb88 := px.at hb88
  have E := E.ex ex122
  have hw : ad g118 100000 < s.heap.size := by rw [ex122.2.2.2.1]; exact hw
  have hbs : g118.1 ≤ s.heap.size := by rw [ex122.1]; exact hbs
  have exA := exA.tr pxA ex122
  have pxA := pxA.tr px
  refine hw_putFR (o := (some b121)) E hin hR hS hw cI10 hs0 39 (by decide) lfX11_315 rfl rfl rfl dX11_init_170 (fun m123 H locs em123 hR hS => ?_)
  replace hf := hf m123 em123
  refine lv_aload_n E.1 E.2.1 dX11_init_173 rfl (lv_at hl 0 rfl) ?_
  refine lv_sipush (v := 4001) E.1 E.2.1 dX11_init_174 (by decide) ?_
  obtain ⟨hcl, hln, hf⟩ := hf
  refine hw_newa50 E hR hS hw hbs hcl hln 4001 (by decide) (by decide) (by decide) lar50 (Nat.le_of_ble_eq_true rfl) (Nat.le_of_ble_eq_true rfl) dX11_init_177 (fun g124 S125 m126 H ex128 eS125 em126 hR hS => ?_)
  obtain ⟨b127, eb127⟩ : ∃ y, y = S119.length := ⟨_, rfl⟩
  rw [← eb127]
  replace hf := hf S125 eS125 m126 em126 b127 eb127
  have hb127 := ex_last eS125 eb127
  have px : PX S119 S125 := ⟨_, eS125⟩
  have ea := ex128.ad hs0
  (try rw [← ea] at hl)
  (try rw [← ea])
  have hs0 := px.at hs0
  have hb10 := px.at hb10
  have hb103 := px.at hb103
  have hb109 := px.at hb109
  have hb115 := px.at hb115
  have hb121 := px.at hb121
  have hb16 := px.at hb16
  have hb22 := px.at hb22
  have hb28 := px.at hb28
  have hb34 := px.at hb34
  have hb4 := px.at hb4
  have hb40 := px.at hb40
  have hb46 := px.at hb46
  have hb52 := px.at hb52
  have hb58 := px.at hb58
  have hb64 := px.at hb64
  have hb70 := px.at hb70
  have hb76 := px.at hb76
  have hb82 := px.at hb82
  have hb88 := px.at hb88
  have E := E.ex ex128
  have hw : ad g124 100000 < s.heap.size := by rw [ex128.2.2.2.1]; exact hw
  have hbs : g124.1 ≤ s.heap.size := by rw [ex128.1]; exact hbs
  have exA := exA.tr pxA ex128
  have pxA := pxA.tr px
  refine hw_putFR (o := (some b127)) E hin hR hS hw cI10 hs0 40 (by decide) lfX11_330 rfl rfl rfl dX11_init_179 (fun m129 H locs em129 hR hS => ?_)
  replace hf := hf m129 em129
  refine lv_aload_n E.1 E.2.1 dX11_init_182 rfl (lv_at hl 0 rfl) ?_
  refine lv_sipush (v := 4001) E.1 E.2.1 dX11_init_183 (by decide) ?_
  obtain ⟨hcl, hln, hf⟩ := hf
  refine hw_newa50 E hR hS hw hbs hcl hln 4001 (by decide) (by decide) (by decide) lar50 (Nat.le_of_ble_eq_true rfl) (Nat.le_of_ble_eq_true rfl) dX11_init_186 (fun g130 S131 m132 H ex134 eS131 em132 hR hS => ?_)
  obtain ⟨b133, eb133⟩ : ∃ y, y = S125.length := ⟨_, rfl⟩
  rw [← eb133]
  replace hf := hf S131 eS131 m132 em132 b133 eb133
  have hb133 := ex_last eS131 eb133
  have px : PX S125 S131 := ⟨_, eS131⟩
  have ea := ex134.ad hs0
  (try rw [← ea] at hl)
  (try rw [← ea])
  have hs0 := px.at hs0
  have hb10 := px.at hb10
  have hb103 := px.at hb103
  have hb109 := px.at hb109
  have hb115 := px.at hb115
  have hb121 := px.at hb121
  have hb127 := px.at hb127
  have hb16 := px.at hb16
  have hb22 := px.at hb22
  have hb28 := px.at hb28
  have hb34 := px.at hb34
  have hb4 := px.at hb4
  have hb40 := px.at hb40
  have hb46 := px.at hb46
  have hb52 := px.at hb52
  have hb58 := px.at hb58
  have hb64 := px.at hb64
  have hb70 := px.at hb70
  have hb76 := px.at hb76
  have hb82 := px.at hb82
  have hb88 := px.at hb88
  have E := E.ex ex134
  have hw : ad g130 100000 < s.heap.size := by rw [ex134.2.2.2.1]; exact hw
  have hbs : g130.1 ≤ s.heap.size := by rw [ex134.1]; exact hbs
  have exA := exA.tr pxA ex134
  have pxA := pxA.tr px
  refine hw_putFR (o := (some b133)) E hin hR hS hw cI10 hs0 41 (by decide) lfX11_336 rfl rfl rfl dX11_init_188 (fun m135 H locs em135 hR hS => ?_)
  replace hf := hf m135 em135
  refine lv_aload_n E.1 E.2.1 dX11_init_191 rfl (lv_at hl 0 rfl) ?_
  refine lv_sipush (v := 4001) E.1 E.2.1 dX11_init_192 (by decide) ?_
  obtain ⟨hcl, hln, hf⟩ := hf
  refine hw_newa50 E hR hS hw hbs hcl hln 4001 (by decide) (by decide) (by decide) lar50 (Nat.le_of_ble_eq_true rfl) (Nat.le_of_ble_eq_true rfl) dX11_init_195 (fun g136 S137 m138 H ex140 eS137 em138 hR hS => ?_)
  obtain ⟨b139, eb139⟩ : ∃ y, y = S131.length := ⟨_, rfl⟩
  rw [← eb139]
  replace hf := hf S137 eS137 m138 em138 b139 eb139
  have hb139 := ex_last eS137 eb139
  have px : PX S131 S137 := ⟨_, eS137⟩
  have ea := ex140.ad hs0
  (try rw [← ea] at hl)
  (try rw [← ea])
  have hs0 := px.at hs0
  have hb10 := px.at hb10
  have hb103 := px.at hb103
  have hb109 := px.at hb109
  have hb115 := px.at hb115
  have hb121 := px.at hb121
  have hb127 := px.at hb127
  have hb133 := px.at hb133
  have hb16 := px.at hb16
  have hb22 := px.at hb22
  have hb28 := px.at hb28
  have hb34 := px.at hb34
  have hb4 := px.at hb4
  have hb40 := px.at hb40
  have hb46 := px.at hb46
  have hb52 := px.at hb52
  have hb58 := px.at hb58
  have hb64 := px.at hb64
  have hb70 := px.at hb70
  have hb76 := px.at hb76
  have hb82 := px.at hb82
  have hb88 := px.at hb88
  have E := E.ex ex140
  have hw : ad g136 100000 < s.heap.size := by rw [ex140.2.2.2.1]; exact hw
  have hbs : g136.1 ≤ s.heap.size := by rw [ex140.1]; exact hbs
  have exA := exA.tr pxA ex140
  have pxA := pxA.tr px
  refine hw_putFR (o := (some b139)) E hin hR hS hw cI10 hs0 42 (by decide) lfX11_327 rfl rfl rfl dX11_init_197 (fun m141 H locs em141 hR hS => ?_)
  replace hf := hf m141 em141
  refine lv_aload_n E.1 E.2.1 dX11_init_200 rfl (lv_at hl 0 rfl) ?_
  refine lv_sipush (v := 16384) E.1 E.2.1 dX11_init_201 (by decide) ?_
  obtain ⟨hcl, hln, hf⟩ := hf
  refine hw_newa50 E hR hS hw hbs hcl hln 16384 (by decide) (by decide) (by decide) lar50 (Nat.le_of_ble_eq_true rfl) (Nat.le_of_ble_eq_true rfl) dX11_init_204 (fun g142 S143 m144 H ex146 eS143 em144 hR hS => ?_)
  obtain ⟨b145, eb145⟩ : ∃ y, y = S137.length := ⟨_, rfl⟩
  rw [← eb145]
  replace hf := hf S143 eS143 m144 em144 b145 eb145
  have hb145 := ex_last eS143 eb145
  have px : PX S137 S143 := ⟨_, eS143⟩
  have ea := ex146.ad hs0
  (try rw [← ea] at hl)
  (try rw [← ea])
  have hs0 := px.at hs0
  have hb10 := px.at hb10
  have hb103 := px.at hb103
  have hb109 := px.at hb109
  have hb115 := px.at hb115
  have hb121 := px.at hb121
  have hb127 := px.at hb127
  have hb133 := px.at hb133
  have hb139 := px.at hb139
  have hb16 := px.at hb16
  have hb22 := px.at hb22
  have hb28 := px.at hb28
  have hb34 := px.at hb34
  have hb4 := px.at hb4
  have hb40 := px.at hb40
  have hb46 := px.at hb46
  have hb52 := px.at hb52
  have hb58 := px.at hb58
  have hb64 := px.at hb64
  have hb70 := px.at hb70
  have hb76 := px.at hb76
  have hb82 := px.at hb82
  have hb88 := px.at hb88
  have E := E.ex ex146
  have hw : ad g142 100000 < s.heap.size := by rw [ex146.2.2.2.1]; exact hw
  have hbs : g142.1 ≤ s.heap.size := by rw [ex146.1]; exact hbs
  have exA := exA.tr pxA ex146
  have pxA := pxA.tr px
  refine hw_putFR (o := (some b145)) E hin hR hS hw cI10 hs0 43 (by decide) lfX11_299 rfl rfl rfl dX11_init_206 (fun m147 H locs em147 hR hS => ?_)
  replace hf := hf m147 em147
  refine lv_aload_n E.1 E.2.1 dX11_init_209 rfl (lv_at hl 0 rfl) ?_
  refine lv_sipush (v := 16004) E.1 E.2.1 dX11_init_210 (by decide) ?_
  obtain ⟨hcl, hln, hf⟩ := hf
  refine hw_newa53 E hR hS hw hbs hcl hln 16004 (by decide) (by decide) (by decide) lar53 (Nat.le_of_ble_eq_true rfl) (Nat.le_of_ble_eq_true rfl) dX11_init_213 (fun g148 S149 m150 H ex152 eS149 em150 hR hS => ?_)
  obtain ⟨b151, eb151⟩ : ∃ y, y = S143.length := ⟨_, rfl⟩
  rw [← eb151]
  replace hf := hf S149 eS149 m150 em150 b151 eb151
  have hb151 := ex_last eS149 eb151
  have px : PX S143 S149 := ⟨_, eS149⟩
  have ea := ex152.ad hs0
  (try rw [← ea] at hl)
  (try rw [← ea])
  have hs0 := px.at hs0
  have hb10 := px.at hb10
  have hb103 := px.at hb103
  have hb109 := px.at hb109
  have hb115 := px.at hb115
  have hb121 := px.at hb121
  have hb127 := px.at hb127
  have hb133 := px.at hb133
  have hb139 := px.at hb139
  have hb145 := px.at hb145
  have hb16 := px.at hb16
  have hb22 := px.at hb22
  have hb28 := px.at hb28
  have hb34 := px.at hb34
  have hb4 := px.at hb4
  have hb40 := px.at hb40
  have hb46 := px.at hb46
  have hb52 := px.at hb52
  have hb58 := px.at hb58
  have hb64 := px.at hb64
  have hb70 := px.at hb70
  have hb76 := px.at hb76
  have hb82 := px.at hb82
  have hb88 := px.at hb88
  have E := E.ex ex152
  have hw : ad g148 100000 < s.heap.size := by rw [ex152.2.2.2.1]; exact hw
  have hbs : g148.1 ≤ s.heap.size := by rw [ex152.1]; exact hbs
  have exA := exA.tr pxA ex152
  have pxA := pxA.tr px
  refine hw_putFR (o := (some b151)) E hin hR hS hw cI10 hs0 53 (by decide) lfX11_381 rfl rfl rfl dX11_init_215 (fun m153 H locs em153 hR hS => ?_)
  replace hf := hf m153 em153
  refine lv_aload_n E.1 E.2.1 dX11_init_218 rfl (lv_at hl 0 rfl) ?_
  refine lv_sipush (v := 16004) E.1 E.2.1 dX11_init_219 (by decide) ?_
  obtain ⟨hcl, hln, hf⟩ := hf
  refine hw_newa53 E hR hS hw hbs hcl hln 16004 (by decide) (by decide) (by decide) lar53 (Nat.le_of_ble_eq_true rfl) (Nat.le_of_ble_eq_true rfl) dX11_init_222 (fun g154 S155 m156 H ex158 eS155 em156 hR hS => ?_)
  obtain ⟨b157, eb157⟩ : ∃ y, y = S149.length := ⟨_, rfl⟩
  rw [← eb157]
  replace hf := hf S155 eS155 m156 em156 b157 eb157
  have hb157 := ex_last eS155 eb157
  have px : PX S149 S155 := ⟨_, eS155⟩
  have ea := ex158.ad hs0
  (try rw [← ea] at hl)
  (try rw [← ea])
  have hs0 := px.at hs0
  have hb10 := px.at hb10
  have hb103 := px.at hb103
  have hb109 := px.at hb109
  have hb115 := px.at hb115
  have hb121 := px.at hb121
  have hb127 := px.at hb127
  have hb133 := px.at hb133
  have hb139 := px.at hb139
  have hb145 := px.at hb145
  have hb151 := px.at hb151
  have hb16 := px.at hb16
  have hb22 := px.at hb22
  have hb28 := px.at hb28
  have hb34 := px.at hb34
  have hb4 := px.at hb4
  have hb40 := px.at hb40
  have hb46 := px.at hb46
  have hb52 := px.at hb52
  have hb58 := px.at hb58
  have hb64 := px.at hb64
  have hb70 := px.at hb70
  have hb76 := px.at hb76
  have hb82 := px.at hb82
  have hb88 := px.at hb88
  have E := E.ex ex158
  have hw : ad g154 100000 < s.heap.size := by rw [ex158.2.2.2.1]; exact hw
  have hbs : g154.1 ≤ s.heap.size := by rw [ex158.1]; exact hbs
  have exA := exA.tr pxA ex158
  have pxA := pxA.tr px
  refine hw_putFR (o := (some b157)) E hin hR hS hw cI10 hs0 54 (by decide) lfX11_384 rfl rfl rfl dX11_init_224 (fun m159 H locs em159 hR hS => ?_)
  replace hf := hf m159 em159
  refine lv_aload_n E.1 E.2.1 dX11_init_227 rfl (lv_at hl 0 rfl) ?_
  refine lv_ldcw (v := 80020) E.1 E.2.1 E.2.2.2.2.1 (E.2.2.2.2.2.1 _ lcX11_541) dX11_init_228 ?_
  obtain ⟨hcl, hln, hf⟩ := hf
  refine hw_newa50 E hR hS hw hbs hcl hln 80020 (by decide) (by decide) (by decide) lar50 (Nat.le_of_ble_eq_true rfl) (Nat.le_of_ble_eq_true rfl) dX11_init_231 (fun g160 S161 m162 H ex164 eS161 em162 hR hS => ?_)
  obtain ⟨b163, eb163⟩ : ∃ y, y = S155.length := ⟨_, rfl⟩
  rw [← eb163]
  replace hf := hf S161 eS161 m162 em162 b163 eb163
  have hb163 := ex_last eS161 eb163
  have px : PX S155 S161 := ⟨_, eS161⟩
  have ea := ex164.ad hs0
  (try rw [← ea] at hl)
  (try rw [← ea])
  have hs0 := px.at hs0
  have hb10 := px.at hb10
  have hb103 := px.at hb103
  have hb109 := px.at hb109
  have hb115 := px.at hb115
  have hb121 := px.at hb121
  have hb127 := px.at hb127
  have hb133 := px.at hb133
  have hb139 := px.at hb139
  have hb145 := px.at hb145
  have hb151 := px.at hb151
  have hb157 := px.at hb157
  have hb16 := px.at hb16
  have hb22 := px.at hb22
  have hb28 := px.at hb28
  have hb34 := px.at hb34
  have hb4 := px.at hb4
  have hb40 := px.at hb40
  have hb46 := px.at hb46
  have hb52 := px.at hb52
  have hb58 := px.at hb58
  have hb64 := px.at hb64
  have hb70 := px.at hb70
  have hb76 := px.at hb76
  have hb82 := px.at hb82
  have hb88 := px.at hb88
  have E := E.ex ex164
  have hw : ad g160 100000 < s.heap.size := by rw [ex164.2.2.2.1]; exact hw
  have hbs : g160.1 ≤ s.heap.size := by rw [ex164.1]; exact hbs
  have exA := exA.tr pxA ex164
  have pxA := pxA.tr px
  refine hw_putFR (o := (some b163)) E hin hR hS hw cI10 hs0 55 (by decide) lfX11_371 rfl rfl rfl dX11_init_233 (fun m165 H locs em165 hR hS => ?_)
  replace hf := hf m165 em165
  refine lv_aload_n E.1 E.2.1 dX11_init_236 rfl (lv_at hl 0 rfl) ?_
  refine lv_ldcw (v := 80020) E.1 E.2.1 E.2.2.2.2.1 (E.2.2.2.2.2.1 _ lcX11_541) dX11_init_237 ?_
  obtain ⟨hcl, hln, hf⟩ := hf
  refine hw_newa52 E hR hS hw hbs hcl hln 80020 (by decide) (by decide) (by decide) lar52 (Nat.le_of_ble_eq_true rfl) (Nat.le_of_ble_eq_true rfl) dX11_init_240 (fun g166 S167 m168 H ex170 eS167 em168 hR hS => ?_)
  obtain ⟨b169, eb169⟩ : ∃ y, y = S161.length := ⟨_, rfl⟩
  rw [← eb169]
  replace hf := hf S167 eS167 m168 em168 b169 eb169
  have hb169 := ex_last eS167 eb169
  have px : PX S161 S167 := ⟨_, eS167⟩
  have ea := ex170.ad hs0
  (try rw [← ea] at hl)
  (try rw [← ea])
  have hs0 := px.at hs0
  have hb10 := px.at hb10
  have hb103 := px.at hb103
  have hb109 := px.at hb109
  have hb115 := px.at hb115
  have hb121 := px.at hb121
  have hb127 := px.at hb127
  have hb133 := px.at hb133
  have hb139 := px.at hb139
  have hb145 := px.at hb145
  have hb151 := px.at hb151
  have hb157 := px.at hb157
  have hb16 := px.at hb16
  have hb163 := px.at hb163
  have hb22 := px.at hb22
  have hb28 := px.at hb28
  have hb34 := px.at hb34
  have hb4 := px.at hb4
  have hb40 := px.at hb40
  have hb46 := px.at hb46
  have hb52 := px.at hb52
  have hb58 := px.at hb58
  have hb64 := px.at hb64
  have hb70 := px.at hb70
  have hb76 := px.at hb76
  have hb82 := px.at hb82
  have hb88 := px.at hb88
  have E := E.ex ex170
  have hw : ad g166 100000 < s.heap.size := by rw [ex170.2.2.2.1]; exact hw
  have hbs : g166.1 ≤ s.heap.size := by rw [ex170.1]; exact hbs
  have exA := exA.tr pxA ex170
  have pxA := pxA.tr px
  refine hw_putFR (o := (some b169)) E hin hR hS hw cI10 hs0 56 (by decide) lfX11_374 rfl rfl rfl dX11_init_242 (fun m171 H locs em171 hR hS => ?_)
  replace hf := hf m171 em171
  refine lv_aload_n E.1 E.2.1 dX11_init_245 rfl (lv_at hl 0 rfl) ?_
  refine lv_ldcw (v := 80020) E.1 E.2.1 E.2.2.2.2.1 (E.2.2.2.2.2.1 _ lcX11_541) dX11_init_246 ?_
  obtain ⟨hcl, hln, hf⟩ := hf
  refine hw_newa50 E hR hS hw hbs hcl hln 80020 (by decide) (by decide) (by decide) lar50 (Nat.le_of_ble_eq_true rfl) (Nat.le_of_ble_eq_true rfl) dX11_init_249 (fun g172 S173 m174 H ex176 eS173 em174 hR hS => ?_)
  obtain ⟨b175, eb175⟩ : ∃ y, y = S167.length := ⟨_, rfl⟩
  rw [← eb175]
  replace hf := hf S173 eS173 m174 em174 b175 eb175
  have hb175 := ex_last eS173 eb175
  have px : PX S167 S173 := ⟨_, eS173⟩
  have ea := ex176.ad hs0
  (try rw [← ea] at hl)
  (try rw [← ea])
  have hs0 := px.at hs0
  have hb10 := px.at hb10
  have hb103 := px.at hb103
  have hb109 := px.at hb109
  have hb115 := px.at hb115
  have hb121 := px.at hb121
  have hb127 := px.at hb127
  have hb133 := px.at hb133
  have hb139 := px.at hb139
  have hb145 := px.at hb145
  have hb151 := px.at hb151
  have hb157 := px.at hb157
  have hb16 := px.at hb16
  have hb163 := px.at hb163
  have hb169 := px.at hb169
  have hb22 := px.at hb22
  have hb28 := px.at hb28
  have hb34 := px.at hb34
  have hb4 := px.at hb4
  have hb40 := px.at hb40
  have hb46 := px.at hb46
  have hb52 := px.at hb52
  have hb58 := px.at hb58
  have hb64 := px.at hb64
  have hb70 := px.at hb70
  have hb76 := px.at hb76
  have hb82 := px.at hb82
  have hb88 := px.at hb88
  have E := E.ex ex176
  have hw : ad g172 100000 < s.heap.size := by rw [ex176.2.2.2.1]; exact hw
  have hbs : g172.1 ≤ s.heap.size := by rw [ex176.1]; exact hbs
  have exA := exA.tr pxA ex176
  have pxA := pxA.tr px
  refine hw_putFR (o := (some b175)) E hin hR hS hw cI10 hs0 57 (by decide) lfX11_378 rfl rfl rfl dX11_init_251 (fun m177 H locs em177 hR hS => ?_)
  replace hf := hf m177 em177
  refine lv_aload_n E.1 E.2.1 dX11_init_254 rfl (lv_at hl 0 rfl) ?_
  refine lv_bipush (v := 10) E.1 E.2.1 dX11_init_255 (by decide) ?_
  obtain ⟨hcl, hln, hf⟩ := hf
  refine hw_newa50 E hR hS hw hbs hcl hln 10 (by decide) (by decide) (by decide) lar50 (Nat.le_of_ble_eq_true rfl) (Nat.le_of_ble_eq_true rfl) dX11_init_257 (fun g178 S179 m180 H ex182 eS179 em180 hR hS => ?_)
  obtain ⟨b181, eb181⟩ : ∃ y, y = S173.length := ⟨_, rfl⟩
  rw [← eb181]
  replace hf := hf S179 eS179 m180 em180 b181 eb181
  have hb181 := ex_last eS179 eb181
  have px : PX S173 S179 := ⟨_, eS179⟩
  have ea := ex182.ad hs0
  (try rw [← ea] at hl)
  (try rw [← ea])
  have hs0 := px.at hs0
  have hb10 := px.at hb10
  have hb103 := px.at hb103
  have hb109 := px.at hb109
  have hb115 := px.at hb115
  have hb121 := px.at hb121
  have hb127 := px.at hb127
  have hb133 := px.at hb133
  have hb139 := px.at hb139
  have hb145 := px.at hb145
  have hb151 := px.at hb151
  have hb157 := px.at hb157
  have hb16 := px.at hb16
  have hb163 := px.at hb163
  have hb169 := px.at hb169
  have hb175 := px.at hb175
  have hb22 := px.at hb22
  have hb28 := px.at hb28
  have hb34 := px.at hb34
  have hb4 := px.at hb4
  have hb40 := px.at hb40
  have hb46 := px.at hb46
  have hb52 := px.at hb52
  have hb58 := px.at hb58
  have hb64 := px.at hb64
  have hb70 := px.at hb70
  have hb76 := px.at hb76
  have hb82 := px.at hb82
  have hb88 := px.at hb88
  have E := E.ex ex182
  have hw : ad g178 100000 < s.heap.size := by rw [ex182.2.2.2.1]; exact hw
  have hbs : g178.1 ≤ s.heap.size := by rw [ex182.1]; exact hbs
  have exA := exA.tr pxA ex182
  have pxA := pxA.tr px
  refine lv_dup E.1 E.2.1 dX11_init_259 rfl ?_
  refine lv_iconst (v := 0) E.1 E.2.1 dX11_init_260 (by decide) ?_
  refine lv_iconst (v := 1) E.1 E.2.1 dX11_init_261 (by decide) ?_
  obtain ⟨i184n, i184s, i184, hf⟩ := hf
  refine hw_iast E hR hS hw i184s i184 dX11_init_262 (fun m183 H locs em183 hR hS => ?_)
  replace hf := hf m183 em183
  refine lv_dup E.1 E.2.1 dX11_init_263 rfl ?_
  refine lv_iconst (v := 1) E.1 E.2.1 dX11_init_264 (by decide) ?_
  refine lv_iconst (v := 1) E.1 E.2.1 dX11_init_265 (by decide) ?_
  obtain ⟨i186n, i186s, i186, hf⟩ := hf
  refine hw_iast E hR hS hw i186s i186 dX11_init_266 (fun m185 H locs em185 hR hS => ?_)
  replace hf := hf m185 em185
  refine lv_dup E.1 E.2.1 dX11_init_267 rfl ?_
  refine lv_iconst (v := 2) E.1 E.2.1 dX11_init_268 (by decide) ?_
  refine lv_iconst (v := 1) E.1 E.2.1 dX11_init_269 (by decide) ?_
  obtain ⟨i188n, i188s, i188, hf⟩ := hf
  refine hw_iast E hR hS hw i188s i188 dX11_init_270 (fun m187 H locs em187 hR hS => ?_)
  replace hf := hf m187 em187
  refine lv_dup E.1 E.2.1 dX11_init_271 rfl ?_
  refine lv_iconst (v := 3) E.1 E.2.1 dX11_init_272 (by decide) ?_
  refine lv_iconst (v := 1) E.1 E.2.1 dX11_init_273 (by decide) ?_
  obtain ⟨i190n, i190s, i190, hf⟩ := hf
  refine hw_iast E hR hS hw i190s i190 dX11_init_274 (fun m189 H locs em189 hR hS => ?_)
  replace hf := hf m189 em189
  refine lv_dup E.1 E.2.1 dX11_init_275 rfl ?_
  refine lv_iconst (v := 4) E.1 E.2.1 dX11_init_276 (by decide) ?_
  refine lv_iconst (v := 1) E.1 E.2.1 dX11_init_277 (by decide) ?_
  obtain ⟨i192n, i192s, i192, hf⟩ := hf
  refine hw_iast E hR hS hw i192s i192 dX11_init_278 (fun m191 H locs em191 hR hS => ?_)
  replace hf := hf m191 em191
  refine lv_dup E.1 E.2.1 dX11_init_279 rfl ?_
  refine lv_iconst (v := 5) E.1 E.2.1 dX11_init_280 (by decide) ?_
  refine lv_iconst (v := 1) E.1 E.2.1 dX11_init_281 (by decide) ?_
  obtain ⟨i194n, i194s, i194, hf⟩ := hf
  refine hw_iast E hR hS hw i194s i194 dX11_init_282 (fun m193 H locs em193 hR hS => ?_)
  replace hf := hf m193 em193
  refine lv_dup E.1 E.2.1 dX11_init_283 rfl ?_
  refine lv_bipush (v := 6) E.1 E.2.1 dX11_init_284 (by decide) ?_
  refine lv_iconst (v := 1) E.1 E.2.1 dX11_init_286 (by decide) ?_
  obtain ⟨i196n, i196s, i196, hf⟩ := hf
  refine hw_iast E hR hS hw i196s i196 dX11_init_287 (fun m195 H locs em195 hR hS => ?_)
  replace hf := hf m195 em195
  refine lv_dup E.1 E.2.1 dX11_init_288 rfl ?_
  refine lv_bipush (v := 7) E.1 E.2.1 dX11_init_289 (by decide) ?_
  refine lv_iconst (v := 1) E.1 E.2.1 dX11_init_291 (by decide) ?_
  obtain ⟨i198n, i198s, i198, hf⟩ := hf
  refine hw_iast E hR hS hw i198s i198 dX11_init_292 (fun m197 H locs em197 hR hS => ?_)
  replace hf := hf m197 em197
  refine lv_dup E.1 E.2.1 dX11_init_293 rfl ?_
  refine lv_bipush (v := 8) E.1 E.2.1 dX11_init_294 (by decide) ?_
  refine lv_iconst (v := 1) E.1 E.2.1 dX11_init_296 (by decide) ?_
  obtain ⟨i200n, i200s, i200, hf⟩ := hf
  refine hw_iast E hR hS hw i200s i200 dX11_init_297 (fun m199 H locs em199 hR hS => ?_)
  replace hf := hf m199 em199
  refine lv_dup E.1 E.2.1 dX11_init_298 rfl ?_
  refine lv_bipush (v := 9) E.1 E.2.1 dX11_init_299 (by decide) ?_
  refine lv_iconst (v := 1) E.1 E.2.1 dX11_init_301 (by decide) ?_
  obtain ⟨i202n, i202s, i202, hf⟩ := hf
  refine hw_iast E hR hS hw i202s i202 dX11_init_302 (fun m201 H locs em201 hR hS => ?_)
  replace hf := hf m201 em201
  refine hw_putFR (o := (some b181)) E hin hR hS hw cI10 hs0 58 (by decide) lfX11_387 rfl rfl rfl dX11_init_303 (fun m203 H locs em203 hR hS => ?_)
  replace hf := hf m203 em203
  refine lv_aload_n E.1 E.2.1 dX11_init_306 rfl (lv_at hl 0 rfl) ?_
  refine lv_bipush (v := 20) E.1 E.2.1 dX11_init_307 (by decide) ?_
  obtain ⟨hcl, hln, hf⟩ := hf
  refine hw_newa50 E hR hS hw hbs hcl hln 20 (by decide) (by decide) (by decide) lar50 (Nat.le_of_ble_eq_true rfl) (Nat.le_of_ble_eq_true rfl) dX11_init_309 (fun g204 S205 m206 H ex208 eS205 em206 hR hS => ?_)
  obtain ⟨b207, eb207⟩ : ∃ y, y = S179.length := ⟨_, rfl⟩
  rw [← eb207]
  replace hf := hf S205 eS205 m206 em206 b207 eb207
  have hb207 := ex_last eS205 eb207
  have px : PX S179 S205 := ⟨_, eS205⟩
  have ea := ex208.ad hs0
  (try rw [← ea] at hl)
  (try rw [← ea])
  have hs0 := px.at hs0
  have hb10 := px.at hb10
  have hb103 := px.at hb103
  have hb109 := px.at hb109
  have hb115 := px.at hb115
  have hb121 := px.at hb121
  have hb127 := px.at hb127
  have hb133 := px.at hb133
  have hb139 := px.at hb139
  have hb145 := px.at hb145
  have hb151 := px.at hb151
  have hb157 := px.at hb157
  have hb16 := px.at hb16
  have hb163 := px.at hb163
  have hb169 := px.at hb169
  have hb175 := px.at hb175
  have hb181 := px.at hb181
  have hb22 := px.at hb22
  have hb28 := px.at hb28
  have hb34 := px.at hb34
  have hb4 := px.at hb4
  have hb40 := px.at hb40
  have hb46 := px.at hb46
  have hb52 := px.at hb52
  have hb58 := px.at hb58
  have hb64 := px.at hb64
  have hb70 := px.at hb70
  have hb76 := px.at hb76
  have hb82 := px.at hb82
  have hb88 := px.at hb88
  have E := E.ex ex208
  have hw : ad g204 100000 < s.heap.size := by rw [ex208.2.2.2.1]; exact hw
  have hbs : g204.1 ≤ s.heap.size := by rw [ex208.1]; exact hbs
  have exA := exA.tr pxA ex208
  have pxA := pxA.tr px
  refine hw_putFR (o := (some b207)) E hin hR hS hw cI10 hs0 59 (by decide) lfX11_431 rfl rfl rfl dX11_init_311 (fun m209 H locs em209 hR hS => ?_)
  replace hf := hf m209 em209
  refine lv_aload_n E.1 E.2.1 dX11_init_314 rfl (lv_at hl 0 rfl) ?_
  refine lv_bipush (v := 8) E.1 E.2.1 dX11_init_315 (by decide) ?_
  obtain ⟨hcl, hln, hf⟩ := hf
  refine hw_newa50 E hR hS hw hbs hcl hln 8 (by decide) (by decide) (by decide) lar50 (Nat.le_of_ble_eq_true rfl) (Nat.le_of_ble_eq_true rfl) dX11_init_317 (fun g210 S211 m212 H ex214 eS211 em212 hR hS => ?_)
  obtain ⟨b213, eb213⟩ : ∃ y, y = S205.length := ⟨_, rfl⟩
  rw [← eb213]
  replace hf := hf S211 eS211 m212 em212 b213 eb213
  have hb213 := ex_last eS211 eb213
  have px : PX S205 S211 := ⟨_, eS211⟩
  have ea := ex214.ad hs0
  (try rw [← ea] at hl)
  (try rw [← ea])
  have hs0 := px.at hs0
  have hb10 := px.at hb10
  have hb103 := px.at hb103
  have hb109 := px.at hb109
  have hb115 := px.at hb115
  have hb121 := px.at hb121
  have hb127 := px.at hb127
  have hb133 := px.at hb133
  have hb139 := px.at hb139
  have hb145 := px.at hb145
  have hb151 := px.at hb151
  have hb157 := px.at hb157
  have hb16 := px.at hb16
  have hb163 := px.at hb163
  have hb169 := px.at hb169
  have hb175 := px.at hb175
  have hb181 := px.at hb181
  have hb207 := px.at hb207
  have hb22 := px.at hb22
  have hb28 := px.at hb28
  have hb34 := px.at hb34
  have hb4 := px.at hb4
  have hb40 := px.at hb40
  have hb46 := px.at hb46
  have hb52 := px.at hb52
  have hb58 := px.at hb58
  have hb64 := px.at hb64
  have hb70 := px.at hb70
  have hb76 := px.at hb76
  have hb82 := px.at hb82
  have hb88 := px.at hb88
  have E := E.ex ex214
  have hw : ad g210 100000 < s.heap.size := by rw [ex214.2.2.2.1]; exact hw
  have hbs : g210.1 ≤ s.heap.size := by rw [ex214.1]; exact hbs
  have exA := exA.tr pxA ex214
  have pxA := pxA.tr px
  refine hw_putFR (o := (some b213)) E hin hR hS hw cI10 hs0 61 (by decide) lfX11_445 rfl rfl rfl dX11_init_319 (fun m215 H locs em215 hR hS => ?_)
  replace hf := hf m215 em215
  refine lv_aload_n E.1 E.2.1 dX11_init_322 rfl (lv_at hl 0 rfl) ?_
  refine lv_sipush (v := 4001) E.1 E.2.1 dX11_init_323 (by decide) ?_
  obtain ⟨hcl, hln, hf⟩ := hf
  refine hw_newa53 E hR hS hw hbs hcl hln 4001 (by decide) (by decide) (by decide) lar53 (Nat.le_of_ble_eq_true rfl) (Nat.le_of_ble_eq_true rfl) dX11_init_326 (fun g216 S217 m218 H ex220 eS217 em218 hR hS => ?_)
  obtain ⟨b219, eb219⟩ : ∃ y, y = S211.length := ⟨_, rfl⟩
  rw [← eb219]
  replace hf := hf S217 eS217 m218 em218 b219 eb219
  have hb219 := ex_last eS217 eb219
  have px : PX S211 S217 := ⟨_, eS217⟩
  have ea := ex220.ad hs0
  (try rw [← ea] at hl)
  (try rw [← ea])
  have hs0 := px.at hs0
  have hb10 := px.at hb10
  have hb103 := px.at hb103
  have hb109 := px.at hb109
  have hb115 := px.at hb115
  have hb121 := px.at hb121
  have hb127 := px.at hb127
  have hb133 := px.at hb133
  have hb139 := px.at hb139
  have hb145 := px.at hb145
  have hb151 := px.at hb151
  have hb157 := px.at hb157
  have hb16 := px.at hb16
  have hb163 := px.at hb163
  have hb169 := px.at hb169
  have hb175 := px.at hb175
  have hb181 := px.at hb181
  have hb207 := px.at hb207
  have hb213 := px.at hb213
  have hb22 := px.at hb22
  have hb28 := px.at hb28
  have hb34 := px.at hb34
  have hb4 := px.at hb4
  have hb40 := px.at hb40
  have hb46 := px.at hb46
  have hb52 := px.at hb52
  have hb58 := px.at hb58
  have hb64 := px.at hb64
  have hb70 := px.at hb70
  have hb76 := px.at hb76
  have hb82 := px.at hb82
  have hb88 := px.at hb88
  have E := E.ex ex220
  have hw : ad g216 100000 < s.heap.size := by rw [ex220.2.2.2.1]; exact hw
  have hbs : g216.1 ≤ s.heap.size := by rw [ex220.1]; exact hbs
  have exA := exA.tr pxA ex220
  have pxA := pxA.tr px
  refine hw_putFR (o := (some b219)) E hin hR hS hw cI10 hs0 67 (by decide) lfX11_448 rfl rfl rfl dX11_init_328 (fun m221 H locs em221 hR hS => ?_)
  replace hf := hf m221 em221
  refine lv_aload_n E.1 E.2.1 dX11_init_331 rfl (lv_at hl 0 rfl) ?_
  refine lv_bipush (v := 8) E.1 E.2.1 dX11_init_332 (by decide) ?_
  obtain ⟨hcl, hln, hf⟩ := hf
  refine hw_newa50 E hR hS hw hbs hcl hln 8 (by decide) (by decide) (by decide) lar50 (Nat.le_of_ble_eq_true rfl) (Nat.le_of_ble_eq_true rfl) dX11_init_334 (fun g222 S223 m224 H ex226 eS223 em224 hR hS => ?_)
  obtain ⟨b225, eb225⟩ : ∃ y, y = S217.length := ⟨_, rfl⟩
  rw [← eb225]
  replace hf := hf S223 eS223 m224 em224 b225 eb225
  have hb225 := ex_last eS223 eb225
  have px : PX S217 S223 := ⟨_, eS223⟩
  have ea := ex226.ad hs0
  (try rw [← ea] at hl)
  (try rw [← ea])
  have hs0 := px.at hs0
  have hb10 := px.at hb10
  have hb103 := px.at hb103
  have hb109 := px.at hb109
  have hb115 := px.at hb115
  have hb121 := px.at hb121
  have hb127 := px.at hb127
  have hb133 := px.at hb133
  have hb139 := px.at hb139
  have hb145 := px.at hb145
  have hb151 := px.at hb151
  have hb157 := px.at hb157
  have hb16 := px.at hb16
  have hb163 := px.at hb163
  have hb169 := px.at hb169
  have hb175 := px.at hb175
  have hb181 := px.at hb181
  have hb207 := px.at hb207
  have hb213 := px.at hb213
  have hb219 := px.at hb219
  have hb22 := px.at hb22
  have hb28 := px.at hb28
  have hb34 := px.at hb34
  have hb4 := px.at hb4
  have hb40 := px.at hb40
  have hb46 := px.at hb46
  have hb52 := px.at hb52
  have hb58 := px.at hb58
  have hb64 := px.at hb64
  have hb70 := px.at hb70
  have hb76 := px.at hb76
  have hb82 := px.at hb82
  have hb88 := px.at hb88
  have E := E.ex ex226
  have hw : ad g222 100000 < s.heap.size := by rw [ex226.2.2.2.1]; exact hw
  have hbs : g222.1 ≤ s.heap.size := by rw [ex226.1]; exact hbs
  have exA := exA.tr pxA ex226
  have pxA := pxA.tr px
  refine hw_putFR (o := (some b225)) E hin hR hS hw cI10 hs0 68 (by decide) lfX11_469 rfl rfl rfl dX11_init_336 (fun m227 H locs em227 hR hS => ?_)
  replace hf := hf m227 em227
  refine lv_aload_n E.1 E.2.1 dX11_init_339 rfl (lv_at hl 0 rfl) ?_
  refine lv_bipush (v := 8) E.1 E.2.1 dX11_init_340 (by decide) ?_
  obtain ⟨hcl, hln, hf⟩ := hf
  refine hw_newa50 E hR hS hw hbs hcl hln 8 (by decide) (by decide) (by decide) lar50 (Nat.le_of_ble_eq_true rfl) (Nat.le_of_ble_eq_true rfl) dX11_init_342 (fun g228 S229 m230 H ex232 eS229 em230 hR hS => ?_)
  obtain ⟨b231, eb231⟩ : ∃ y, y = S223.length := ⟨_, rfl⟩
  rw [← eb231]
  replace hf := hf S229 eS229 m230 em230 b231 eb231
  have hb231 := ex_last eS229 eb231
  have px : PX S223 S229 := ⟨_, eS229⟩
  have ea := ex232.ad hs0
  (try rw [← ea] at hl)
  (try rw [← ea])
  have hs0 := px.at hs0
  have hb10 := px.at hb10
  have hb103 := px.at hb103
  have hb109 := px.at hb109
  have hb115 := px.at hb115
  have hb121 := px.at hb121
  have hb127 := px.at hb127
  have hb133 := px.at hb133
  have hb139 := px.at hb139
  have hb145 := px.at hb145
  have hb151 := px.at hb151
  have hb157 := px.at hb157
  have hb16 := px.at hb16
  have hb163 := px.at hb163
  have hb169 := px.at hb169
  have hb175 := px.at hb175
  have hb181 := px.at hb181
  have hb207 := px.at hb207
  have hb213 := px.at hb213
  have hb219 := px.at hb219
  have hb22 := px.at hb22
  have hb225 := px.at hb225
  have hb28 := px.at hb28
  have hb34 := px.at hb34
  have hb4 := px.at hb4
  have hb40 := px.at hb40
  have hb46 := px.at hb46
  have hb52 := px.at hb52
  have hb58 := px.at hb58
  have hb64 := px.at hb64
  have hb70 := px.at hb70
  have hb76 := px.at hb76
  have hb82 := px.at hb82
  have hb88 := px.at hb88
  have E := E.ex ex232
  have hw : ad g228 100000 < s.heap.size := by rw [ex232.2.2.2.1]; exact hw
  have hbs : g228.1 ≤ s.heap.size := by rw [ex232.1]; exact hbs
  have exA := exA.tr pxA ex232
  have pxA := pxA.tr px
  refine hw_putFR (o := (some b231)) E hin hR hS hw cI10 hs0 69 (by decide) lfX11_472 rfl rfl rfl dX11_init_344 (fun m233 H locs em233 hR hS => ?_)
  replace hf := hf m233 em233
  refine lv_aload_n E.1 E.2.1 dX11_init_347 rfl (lv_at hl 0 rfl) ?_
  refine lv_bipush (v := 12) E.1 E.2.1 dX11_init_348 (by decide) ?_
  obtain ⟨hcl, hln, hf⟩ := hf
  refine hw_newa50 E hR hS hw hbs hcl hln 12 (by decide) (by decide) (by decide) lar50 (Nat.le_of_ble_eq_true rfl) (Nat.le_of_ble_eq_true rfl) dX11_init_350 (fun g234 S235 m236 H ex238 eS235 em236 hR hS => ?_)
  obtain ⟨b237, eb237⟩ : ∃ y, y = S229.length := ⟨_, rfl⟩
  rw [← eb237]
  replace hf := hf S235 eS235 m236 em236 b237 eb237
  have hb237 := ex_last eS235 eb237
  have px : PX S229 S235 := ⟨_, eS235⟩
  have ea := ex238.ad hs0
  (try rw [← ea] at hl)
  (try rw [← ea])
  have hs0 := px.at hs0
  have hb10 := px.at hb10
  have hb103 := px.at hb103
  have hb109 := px.at hb109
  have hb115 := px.at hb115
  have hb121 := px.at hb121
  have hb127 := px.at hb127
  have hb133 := px.at hb133
  have hb139 := px.at hb139
  have hb145 := px.at hb145
  have hb151 := px.at hb151
  have hb157 := px.at hb157
  have hb16 := px.at hb16
  have hb163 := px.at hb163
  have hb169 := px.at hb169
  have hb175 := px.at hb175
  have hb181 := px.at hb181
  have hb207 := px.at hb207
  have hb213 := px.at hb213
  have hb219 := px.at hb219
  have hb22 := px.at hb22
  have hb225 := px.at hb225
  have hb231 := px.at hb231
  have hb28 := px.at hb28
  have hb34 := px.at hb34
  have hb4 := px.at hb4
  have hb40 := px.at hb40
  have hb46 := px.at hb46
  have hb52 := px.at hb52
  have hb58 := px.at hb58
  have hb64 := px.at hb64
  have hb70 := px.at hb70
  have hb76 := px.at hb76
  have hb82 := px.at hb82
  have hb88 := px.at hb88
  have E := E.ex ex238
  have hw : ad g234 100000 < s.heap.size := by rw [ex238.2.2.2.1]; exact hw
  have hbs : g234.1 ≤ s.heap.size := by rw [ex238.1]; exact hbs
  have exA := exA.tr pxA ex238
  have pxA := pxA.tr px
  refine hw_putFR (o := (some b237)) E hin hR hS hw cI10 hs0 71 (by decide) lfX11_480 rfl rfl rfl dX11_init_352 (fun m239 H locs em239 hR hS => ?_)
  replace hf := hf m239 em239
  refine lv_aload_n E.1 E.2.1 dX11_init_355 rfl (lv_at hl 0 rfl) ?_
  refine lv_bipush (v := 12) E.1 E.2.1 dX11_init_356 (by decide) ?_
  obtain ⟨hcl, hln, hf⟩ := hf
  refine hw_newa50 E hR hS hw hbs hcl hln 12 (by decide) (by decide) (by decide) lar50 (Nat.le_of_ble_eq_true rfl) (Nat.le_of_ble_eq_true rfl) dX11_init_358 (fun g240 S241 m242 H ex244 eS241 em242 hR hS => ?_)
  obtain ⟨b243, eb243⟩ : ∃ y, y = S235.length := ⟨_, rfl⟩
  rw [← eb243]
  replace hf := hf S241 eS241 m242 em242 b243 eb243
  have hb243 := ex_last eS241 eb243
  have px : PX S235 S241 := ⟨_, eS241⟩
  have ea := ex244.ad hs0
  (try rw [← ea] at hl)
  (try rw [← ea])
  have hs0 := px.at hs0
  have hb10 := px.at hb10
  have hb103 := px.at hb103
  have hb109 := px.at hb109
  have hb115 := px.at hb115
  have hb121 := px.at hb121
  have hb127 := px.at hb127
  have hb133 := px.at hb133
  have hb139 := px.at hb139
  have hb145 := px.at hb145
  have hb151 := px.at hb151
  have hb157 := px.at hb157
  have hb16 := px.at hb16
  have hb163 := px.at hb163
  have hb169 := px.at hb169
  have hb175 := px.at hb175
  have hb181 := px.at hb181
  have hb207 := px.at hb207
  have hb213 := px.at hb213
  have hb219 := px.at hb219
  have hb22 := px.at hb22
  have hb225 := px.at hb225
  have hb231 := px.at hb231
  have hb237 := px.at hb237
  have hb28 := px.at hb28
  have hb34 := px.at hb34
  have hb4 := px.at hb4
  have hb40 := px.at hb40
  have hb46 := px.at hb46
  have hb52 := px.at hb52
  have hb58 := px.at hb58
  have hb64 := px.at hb64
  have hb70 := px.at hb70
  have hb76 := px.at hb76
  have hb82 := px.at hb82
  have hb88 := px.at hb88
  have E := E.ex ex244
  have hw : ad g240 100000 < s.heap.size := by rw [ex244.2.2.2.1]; exact hw
  have hbs : g240.1 ≤ s.heap.size := by rw [ex244.1]; exact hbs
  have exA := exA.tr pxA ex244
  have pxA := pxA.tr px
  refine hw_putFR (o := (some b243)) E hin hR hS hw cI10 hs0 72 (by decide) lfX11_483 rfl rfl rfl dX11_init_360 (fun m245 H locs em245 hR hS => ?_)
  replace hf := hf m245 em245
  refine lv_aload_n E.1 E.2.1 dX11_init_363 rfl (lv_at hl 0 rfl) ?_
  refine lv_bipush (v := 12) E.1 E.2.1 dX11_init_364 (by decide) ?_
  obtain ⟨hcl, hln, hf⟩ := hf
  refine hw_newa50 E hR hS hw hbs hcl hln 12 (by decide) (by decide) (by decide) lar50 (Nat.le_of_ble_eq_true rfl) (Nat.le_of_ble_eq_true rfl) dX11_init_366 (fun g246 S247 m248 H ex250 eS247 em248 hR hS => ?_)
  obtain ⟨b249, eb249⟩ : ∃ y, y = S241.length := ⟨_, rfl⟩
  rw [← eb249]
  replace hf := hf S247 eS247 m248 em248 b249 eb249
  have hb249 := ex_last eS247 eb249
  have px : PX S241 S247 := ⟨_, eS247⟩
  have ea := ex250.ad hs0
  (try rw [← ea] at hl)
  (try rw [← ea])
  have hs0 := px.at hs0
  have hb10 := px.at hb10
  have hb103 := px.at hb103
  have hb109 := px.at hb109
  have hb115 := px.at hb115
  have hb121 := px.at hb121
  have hb127 := px.at hb127
  have hb133 := px.at hb133
  have hb139 := px.at hb139
  have hb145 := px.at hb145
  have hb151 := px.at hb151
  have hb157 := px.at hb157
  have hb16 := px.at hb16
  have hb163 := px.at hb163
  have hb169 := px.at hb169
  have hb175 := px.at hb175
  have hb181 := px.at hb181
  have hb207 := px.at hb207
  have hb213 := px.at hb213
  have hb219 := px.at hb219
  have hb22 := px.at hb22
  have hb225 := px.at hb225
  have hb231 := px.at hb231
  have hb237 := px.at hb237
  have hb243 := px.at hb243
  have hb28 := px.at hb28
  have hb34 := px.at hb34
  have hb4 := px.at hb4
  have hb40 := px.at hb40
  have hb46 := px.at hb46
  have hb52 := px.at hb52
  have hb58 := px.at hb58
  have hb64 := px.at hb64
  have hb70 := px.at hb70
  have hb76 := px.at hb76
  have hb82 := px.at hb82
  have hb88 := px.at hb88
  have E := E.ex ex250
  have hw : ad g246 100000 < s.heap.size := by rw [ex250.2.2.2.1]; exact hw
  have hbs : g246.1 ≤ s.heap.size := by rw [ex250.1]; exact hbs
  have exA := exA.tr pxA ex250
  have pxA := pxA.tr px
  refine hw_putFR (o := (some b249)) E hin hR hS hw cI10 hs0 73 (by decide) lfX11_486 rfl rfl rfl dX11_init_368 (fun m251 H locs em251 hR hS => ?_)
  replace hf := hf m251 em251
  refine lv_aload_n E.1 E.2.1 dX11_init_371 rfl (lv_at hl 0 rfl) ?_
  refine lv_bipush (v := 12) E.1 E.2.1 dX11_init_372 (by decide) ?_
  obtain ⟨hcl, hln, hf⟩ := hf
  refine hw_newa50 E hR hS hw hbs hcl hln 12 (by decide) (by decide) (by decide) lar50 (Nat.le_of_ble_eq_true rfl) (Nat.le_of_ble_eq_true rfl) dX11_init_374 (fun g252 S253 m254 H ex256 eS253 em254 hR hS => ?_)
  obtain ⟨b255, eb255⟩ : ∃ y, y = S247.length := ⟨_, rfl⟩
  rw [← eb255]
  replace hf := hf S253 eS253 m254 em254 b255 eb255
  have hb255 := ex_last eS253 eb255
  have px : PX S247 S253 := ⟨_, eS253⟩
  have ea := ex256.ad hs0
  (try rw [← ea] at hl)
  (try rw [← ea])
  have hs0 := px.at hs0
  have hb10 := px.at hb10
  have hb103 := px.at hb103
  have hb109 := px.at hb109
  have hb115 := px.at hb115
  have hb121 := px.at hb121
  have hb127 := px.at hb127
  have hb133 := px.at hb133
  have hb139 := px.at hb139
  have hb145 := px.at hb145
  have hb151 := px.at hb151
  have hb157 := px.at hb157
  have hb16 := px.at hb16
  have hb163 := px.at hb163
  have hb169 := px.at hb169
  have hb175 := px.at hb175
  have hb181 := px.at hb181
  have hb207 := px.at hb207
  have hb213 := px.at hb213
  have hb219 := px.at hb219
  have hb22 := px.at hb22
  have hb225 := px.at hb225
  have hb231 := px.at hb231
  have hb237 := px.at hb237
  have hb243 := px.at hb243
  have hb249 := px.at hb249
  have hb28 := px.at hb28
  have hb34 := px.at hb34
  have hb4 := px.at hb4
  have hb40 := px.at hb40
  have hb46 := px.at hb46
  have hb52 := px.at hb52
  have hb58 := px.at hb58
  have hb64 := px.at hb64
  have hb70 := px.at hb70
  have hb76 := px.at hb76
  have hb82 := px.at hb82
  have hb88 := px.at hb88
  have E := E.ex ex256
  have hw : ad g252 100000 < s.heap.size := by rw [ex256.2.2.2.1]; exact hw
  have hbs : g252.1 ≤ s.heap.size := by rw [ex256.1]; exact hbs
  have exA := exA.tr pxA ex256
  have pxA := pxA.tr px
  refine hw_putFR (o := (some b255)) E hin hR hS hw cI10 hs0 75 (by decide) lfX11_494 rfl rfl rfl dX11_init_376 (fun m257 H locs em257 hR hS => ?_)
  replace hf := hf m257 em257
  refine lv_aload_n E.1 E.2.1 dX11_init_379 rfl (lv_at hl 0 rfl) ?_
  refine lv_bipush (v := 12) E.1 E.2.1 dX11_init_380 (by decide) ?_
  obtain ⟨hcl, hln, hf⟩ := hf
  refine hw_newa50 E hR hS hw hbs hcl hln 12 (by decide) (by decide) (by decide) lar50 (Nat.le_of_ble_eq_true rfl) (Nat.le_of_ble_eq_true rfl) dX11_init_382 (fun g258 S259 m260 H ex262 eS259 em260 hR hS => ?_)
  obtain ⟨b261, eb261⟩ : ∃ y, y = S253.length := ⟨_, rfl⟩
  rw [← eb261]
  replace hf := hf S259 eS259 m260 em260 b261 eb261
  have hb261 := ex_last eS259 eb261
  have px : PX S253 S259 := ⟨_, eS259⟩
  have ea := ex262.ad hs0
  (try rw [← ea] at hl)
  (try rw [← ea])
  have hs0 := px.at hs0
  have hb10 := px.at hb10
  have hb103 := px.at hb103
  have hb109 := px.at hb109
  have hb115 := px.at hb115
  have hb121 := px.at hb121
  have hb127 := px.at hb127
  have hb133 := px.at hb133
  have hb139 := px.at hb139
  have hb145 := px.at hb145
  have hb151 := px.at hb151
  have hb157 := px.at hb157
  have hb16 := px.at hb16
  have hb163 := px.at hb163
  have hb169 := px.at hb169
  have hb175 := px.at hb175
  have hb181 := px.at hb181
  have hb207 := px.at hb207
  have hb213 := px.at hb213
  have hb219 := px.at hb219
  have hb22 := px.at hb22
  have hb225 := px.at hb225
  have hb231 := px.at hb231
  have hb237 := px.at hb237
  have hb243 := px.at hb243
  have hb249 := px.at hb249
  have hb255 := px.at hb255
  have hb28 := px.at hb28
  have hb34 := px.at hb34
  have hb4 := px.at hb4
  have hb40 := px.at hb40
  have hb46 := px.at hb46
  have hb52 := px.at hb52
  have hb58 := px.at hb58
  have hb64 := px.at hb64
  have hb70 := px.at hb70
  have hb76 := px.at hb76
  have hb82 := px.at hb82
  have hb88 := px.at hb88
  have E := E.ex ex262
  have hw : ad g258 100000 < s.heap.size := by rw [ex262.2.2.2.1]; exact hw
  have hbs : g258.1 ≤ s.heap.size := by rw [ex262.1]; exact hbs
  have exA := exA.tr pxA ex262
  have pxA := pxA.tr px
  refine hw_putFR (o := (some b261)) E hin hR hS hw cI10 hs0 76 (by decide) lfX11_497 rfl rfl rfl dX11_init_384 (fun m263 H locs em263 hR hS => ?_)
  replace hf := hf m263 em263
  refine lv_aload_n E.1 E.2.1 dX11_init_387 rfl (lv_at hl 0 rfl) ?_
  refine lv_bipush (v := 12) E.1 E.2.1 dX11_init_388 (by decide) ?_
  obtain ⟨hcl, hln, hf⟩ := hf
  refine hw_newa50 E hR hS hw hbs hcl hln 12 (by decide) (by decide) (by decide) lar50 (Nat.le_of_ble_eq_true rfl) (Nat.le_of_ble_eq_true rfl) dX11_init_390 (fun g264 S265 m266 H ex268 eS265 em266 hR hS => ?_)
  obtain ⟨b267, eb267⟩ : ∃ y, y = S259.length := ⟨_, rfl⟩
  rw [← eb267]
  replace hf := hf S265 eS265 m266 em266 b267 eb267
  have hb267 := ex_last eS265 eb267
  have px : PX S259 S265 := ⟨_, eS265⟩
  have ea := ex268.ad hs0
  (try rw [← ea] at hl)
  (try rw [← ea])
  have hs0 := px.at hs0
  have hb10 := px.at hb10
  have hb103 := px.at hb103
  have hb109 := px.at hb109
  have hb115 := px.at hb115
  have hb121 := px.at hb121
  have hb127 := px.at hb127
  have hb133 := px.at hb133
  have hb139 := px.at hb139
  have hb145 := px.at hb145
  have hb151 := px.at hb151
  have hb157 := px.at hb157
  have hb16 := px.at hb16
  have hb163 := px.at hb163
  have hb169 := px.at hb169
  have hb175 := px.at hb175
  have hb181 := px.at hb181
  have hb207 := px.at hb207
  have hb213 := px.at hb213
  have hb219 := px.at hb219
  have hb22 := px.at hb22
  have hb225 := px.at hb225
  have hb231 := px.at hb231
  have hb237 := px.at hb237
  have hb243 := px.at hb243
  have hb249 := px.at hb249
  have hb255 := px.at hb255
  have hb261 := px.at hb261
  have hb28 := px.at hb28
  have hb34 := px.at hb34
  have hb4 := px.at hb4
  have hb40 := px.at hb40
  have hb46 := px.at hb46
  have hb52 := px.at hb52
  have hb58 := px.at hb58
  have hb64 := px.at hb64
  have hb70 := px.at hb70
  have hb76 := px.at hb76
  have hb82 := px.at hb82
  have hb88 := px.at hb88
  have E := E.ex ex268
  have hw : ad g264 100000 < s.heap.size := by rw [ex268.2.2.2.1]; exact hw
  have hbs : g264.1 ≤ s.heap.size := by rw [ex268.1]; exact hbs
  have exA := exA.tr pxA ex268
  have pxA := pxA.tr px
  refine hw_putFR (o := (some b267)) E hin hR hS hw cI10 hs0 77 (by decide) lfX11_500 rfl rfl rfl dX11_init_392 (fun m269 H locs em269 hR hS => ?_)
  replace hf := hf m269 em269
  refine lv_aload_n E.1 E.2.1 dX11_init_395 rfl (lv_at hl 0 rfl) ?_
  refine lv_bipush (v := 12) E.1 E.2.1 dX11_init_396 (by decide) ?_
  obtain ⟨hcl, hln, hf⟩ := hf
  refine hw_newa50 E hR hS hw hbs hcl hln 12 (by decide) (by decide) (by decide) lar50 (Nat.le_of_ble_eq_true rfl) (Nat.le_of_ble_eq_true rfl) dX11_init_398 (fun g270 S271 m272 H ex274 eS271 em272 hR hS => ?_)
  obtain ⟨b273, eb273⟩ : ∃ y, y = S265.length := ⟨_, rfl⟩
  rw [← eb273]
  replace hf := hf S271 eS271 m272 em272 b273 eb273
  have hb273 := ex_last eS271 eb273
  have px : PX S265 S271 := ⟨_, eS271⟩
  have ea := ex274.ad hs0
  (try rw [← ea] at hl)
  (try rw [← ea])
  have hs0 := px.at hs0
  have hb10 := px.at hb10
  have hb103 := px.at hb103
  have hb109 := px.at hb109
  have hb115 := px.at hb115
  have hb121 := px.at hb121
  have hb127 := px.at hb127
  have hb133 := px.at hb133
  have hb139 := px.at hb139
  have hb145 := px.at hb145
  have hb151 := px.at hb151
  have hb157 := px.at hb157
  have hb16 := px.at hb16
  have hb163 := px.at hb163
  have hb169 := px.at hb169
  have hb175 := px.at hb175
  have hb181 := px.at hb181
  have hb207 := px.at hb207
  have hb213 := px.at hb213
  have hb219 := px.at hb219
  have hb22 := px.at hb22
  have hb225 := px.at hb225
  have hb231 := px.at hb231
  have hb237 := px.at hb237
  have hb243 := px.at hb243
  have hb249 := px.at hb249
  have hb255 := px.at hb255
  have hb261 := px.at hb261
  have hb267 := px.at hb267
  have hb28 := px.at hb28
  have hb34 := px.at hb34
  have hb4 := px.at hb4
  have hb40 := px.at hb40
  have hb46 := px.at hb46
  have hb52 := px.at hb52
  have hb58 := px.at hb58
  have hb64 := px.at hb64
  have hb70 := px.at hb70
  have hb76 := px.at hb76
  have hb82 := px.at hb82
  have hb88 := px.at hb88
  have E := E.ex ex274
  have hw : ad g270 100000 < s.heap.size := by rw [ex274.2.2.2.1]; exact hw
  have hbs : g270.1 ≤ s.heap.size := by rw [ex274.1]; exact hbs
  have exA := exA.tr pxA ex274
  have pxA := pxA.tr px
  refine hw_putFR (o := (some b273)) E hin hR hS hw cI10 hs0 78 (by decide) lfX11_503 rfl rfl rfl dX11_init_400 (fun m275 H locs em275 hR hS => ?_)
  replace hf := hf m275 em275
  refine lv_aload_n E.1 E.2.1 dX11_init_403 rfl (lv_at hl 0 rfl) ?_
  refine lv_bipush (v := 72) E.1 E.2.1 dX11_init_404 (by decide) ?_
  obtain ⟨hcl, hln, hf⟩ := hf
  refine hw_newa50 E hR hS hw hbs hcl hln 72 (by decide) (by decide) (by decide) lar50 (Nat.le_of_ble_eq_true rfl) (Nat.le_of_ble_eq_true rfl) dX11_init_406 (fun g276 S277 m278 H ex280 eS277 em278 hR hS => ?_)
  obtain ⟨b279, eb279⟩ : ∃ y, y = S271.length := ⟨_, rfl⟩
  rw [← eb279]
  replace hf := hf S277 eS277 m278 em278 b279 eb279
  have hb279 := ex_last eS277 eb279
  have px : PX S271 S277 := ⟨_, eS277⟩
  have ea := ex280.ad hs0
  (try rw [← ea] at hl)
  (try rw [← ea])
  have hs0 := px.at hs0
  have hb10 := px.at hb10
  have hb103 := px.at hb103
  have hb109 := px.at hb109
  have hb115 := px.at hb115
  have hb121 := px.at hb121
  have hb127 := px.at hb127
  have hb133 := px.at hb133
  have hb139 := px.at hb139
  have hb145 := px.at hb145
  have hb151 := px.at hb151
  have hb157 := px.at hb157
  have hb16 := px.at hb16
  have hb163 := px.at hb163
  have hb169 := px.at hb169
  have hb175 := px.at hb175
  have hb181 := px.at hb181
  have hb207 := px.at hb207
  have hb213 := px.at hb213
  have hb219 := px.at hb219
  have hb22 := px.at hb22
  have hb225 := px.at hb225
  have hb231 := px.at hb231
  have hb237 := px.at hb237
  have hb243 := px.at hb243
  have hb249 := px.at hb249
  have hb255 := px.at hb255
  have hb261 := px.at hb261
  have hb267 := px.at hb267
  have hb273 := px.at hb273
  have hb28 := px.at hb28
  have hb34 := px.at hb34
  have hb4 := px.at hb4
  have hb40 := px.at hb40
  have hb46 := px.at hb46
  have hb52 := px.at hb52
  have hb58 := px.at hb58
  have hb64 := px.at hb64
  have hb70 := px.at hb70
  have hb76 := px.at hb76
  have hb82 := px.at hb82
  have hb88 := px.at hb88
  have E := E.ex ex280
  have hw : ad g276 100000 < s.heap.size := by rw [ex280.2.2.2.1]; exact hw
  have hbs : g276.1 ≤ s.heap.size := by rw [ex280.1]; exact hbs
  have exA := exA.tr pxA ex280
  have pxA := pxA.tr px
  refine hw_putFR (o := (some b279)) E hin hR hS hw cI10 hs0 79 (by decide) lfX11_506 rfl rfl rfl dX11_init_408 (fun m281 H locs em281 hR hS => ?_)
  replace hf := hf m281 em281
  refine lv_aload_n E.1 E.2.1 dX11_init_411 rfl (lv_at hl 0 rfl) ?_
  refine lv_iconst (v := 3) E.1 E.2.1 dX11_init_412 (by decide) ?_
  obtain ⟨hcl, hln, hf⟩ := hf
  refine hw_newa52 E hR hS hw hbs hcl hln 3 (by decide) (by decide) (by decide) lar52 (Nat.le_of_ble_eq_true rfl) (Nat.le_of_ble_eq_true rfl) dX11_init_413 (fun g282 S283 m284 H ex286 eS283 em284 hR hS => ?_)
  obtain ⟨b285, eb285⟩ : ∃ y, y = S277.length := ⟨_, rfl⟩
  rw [← eb285]
  replace hf := hf S283 eS283 m284 em284 b285 eb285
  have hb285 := ex_last eS283 eb285
  have px : PX S277 S283 := ⟨_, eS283⟩
  have ea := ex286.ad hs0
  (try rw [← ea] at hl)
  (try rw [← ea])
  have hs0 := px.at hs0
  have hb10 := px.at hb10
  have hb103 := px.at hb103
  have hb109 := px.at hb109
  have hb115 := px.at hb115
  have hb121 := px.at hb121
  have hb127 := px.at hb127
  have hb133 := px.at hb133
  have hb139 := px.at hb139
  have hb145 := px.at hb145
  have hb151 := px.at hb151
  have hb157 := px.at hb157
  have hb16 := px.at hb16
  have hb163 := px.at hb163
  have hb169 := px.at hb169
  have hb175 := px.at hb175
  have hb181 := px.at hb181
  have hb207 := px.at hb207
  have hb213 := px.at hb213
  have hb219 := px.at hb219
  have hb22 := px.at hb22
  have hb225 := px.at hb225
  have hb231 := px.at hb231
  have hb237 := px.at hb237
  have hb243 := px.at hb243
  have hb249 := px.at hb249
  have hb255 := px.at hb255
  have hb261 := px.at hb261
  have hb267 := px.at hb267
  have hb273 := px.at hb273
  have hb279 := px.at hb279
  have hb28 := px.at hb28
  have hb34 := px.at hb34
  have hb4 := px.at hb4
  have hb40 := px.at hb40
  have hb46 := px.at hb46
  have hb52 := px.at hb52
  have hb58 := px.at hb58
  have hb64 := px.at hb64
  have hb70 := px.at hb70
  have hb76 := px.at hb76
  have hb82 := px.at hb82
  have hb88 := px.at hb88
  have E := E.ex ex286
  have hw : ad g282 100000 < s.heap.size := by rw [ex286.2.2.2.1]; exact hw
  have hbs : g282.1 ≤ s.heap.size := by rw [ex286.1]; exact hbs
  have exA := exA.tr pxA ex286
  have pxA := pxA.tr px
  refine hw_putFR (o := (some b285)) E hin hR hS hw cI10 hs0 80 (by decide) lfX11_516 rfl rfl rfl dX11_init_415 (fun m287 H locs em287 hR hS => ?_)
  replace hf := hf m287 em287
  refine lv_aload_n E.1 E.2.1 dX11_init_418 rfl (lv_at hl 0 rfl) ?_
  refine lv_iconst (v := 3) E.1 E.2.1 dX11_init_419 (by decide) ?_
  obtain ⟨hcl, hln, hf⟩ := hf
  refine hw_newa53 E hR hS hw hbs hcl hln 3 (by decide) (by decide) (by decide) lar53 (Nat.le_of_ble_eq_true rfl) (Nat.le_of_ble_eq_true rfl) dX11_init_420 (fun g288 S289 m290 H ex292 eS289 em290 hR hS => ?_)
  obtain ⟨b291, eb291⟩ : ∃ y, y = S283.length := ⟨_, rfl⟩
  rw [← eb291]
  replace hf := hf S289 eS289 m290 em290 b291 eb291
  have hb291 := ex_last eS289 eb291
  have px : PX S283 S289 := ⟨_, eS289⟩
  have ea := ex292.ad hs0
  (try rw [← ea] at hl)
  (try rw [← ea])
  have hs0 := px.at hs0
  have hb10 := px.at hb10
  have hb103 := px.at hb103
  have hb109 := px.at hb109
  have hb115 := px.at hb115
  have hb121 := px.at hb121
  have hb127 := px.at hb127
  have hb133 := px.at hb133
  have hb139 := px.at hb139
  have hb145 := px.at hb145
  have hb151 := px.at hb151
  have hb157 := px.at hb157
  have hb16 := px.at hb16
  have hb163 := px.at hb163
  have hb169 := px.at hb169
  have hb175 := px.at hb175
  have hb181 := px.at hb181
  have hb207 := px.at hb207
  have hb213 := px.at hb213
  have hb219 := px.at hb219
  have hb22 := px.at hb22
  have hb225 := px.at hb225
  have hb231 := px.at hb231
  have hb237 := px.at hb237
  have hb243 := px.at hb243
  have hb249 := px.at hb249
  have hb255 := px.at hb255
  have hb261 := px.at hb261
  have hb267 := px.at hb267
  have hb273 := px.at hb273
  have hb279 := px.at hb279
  have hb28 := px.at hb28
  have hb285 := px.at hb285
  have hb34 := px.at hb34
  have hb4 := px.at hb4
  have hb40 := px.at hb40
  have hb46 := px.at hb46
  have hb52 := px.at hb52
  have hb58 := px.at hb58
  have hb64 := px.at hb64
  have hb70 := px.at hb70
  have hb76 := px.at hb76
  have hb82 := px.at hb82
  have hb88 := px.at hb88
  have E := E.ex ex292
  have hw : ad g288 100000 < s.heap.size := by rw [ex292.2.2.2.1]; exact hw
  have hbs : g288.1 ≤ s.heap.size := by rw [ex292.1]; exact hbs
  have exA := exA.tr pxA ex292
  have pxA := pxA.tr px
  refine hw_putFR (o := (some b291)) E hin hR hS hw cI10 hs0 81 (by decide) lfX11_521 rfl rfl rfl dX11_init_422 (fun m293 H locs em293 hR hS => ?_)
  replace hf := hf m293 em293
  refine lv_aload_n E.1 E.2.1 dX11_init_425 rfl (lv_at hl 0 rfl) ?_
  refine lv_iconst (v := 3) E.1 E.2.1 dX11_init_426 (by decide) ?_
  obtain ⟨hcl, hln, hf⟩ := hf
  refine hw_newa53 E hR hS hw hbs hcl hln 3 (by decide) (by decide) (by decide) lar53 (Nat.le_of_ble_eq_true rfl) (Nat.le_of_ble_eq_true rfl) dX11_init_427 (fun g294 S295 m296 H ex298 eS295 em296 hR hS => ?_)
  obtain ⟨b297, eb297⟩ : ∃ y, y = S289.length := ⟨_, rfl⟩
  rw [← eb297]
  replace hf := hf S295 eS295 m296 em296 b297 eb297
  have hb297 := ex_last eS295 eb297
  have px : PX S289 S295 := ⟨_, eS295⟩
  have ea := ex298.ad hs0
  (try rw [← ea] at hl)
  (try rw [← ea])
  have hs0 := px.at hs0
  have hb10 := px.at hb10
  have hb103 := px.at hb103
  have hb109 := px.at hb109
  have hb115 := px.at hb115
  have hb121 := px.at hb121
  have hb127 := px.at hb127
  have hb133 := px.at hb133
  have hb139 := px.at hb139
  have hb145 := px.at hb145
  have hb151 := px.at hb151
  have hb157 := px.at hb157
  have hb16 := px.at hb16
  have hb163 := px.at hb163
  have hb169 := px.at hb169
  have hb175 := px.at hb175
  have hb181 := px.at hb181
  have hb207 := px.at hb207
  have hb213 := px.at hb213
  have hb219 := px.at hb219
  have hb22 := px.at hb22
  have hb225 := px.at hb225
  have hb231 := px.at hb231
  have hb237 := px.at hb237
  have hb243 := px.at hb243
  have hb249 := px.at hb249
  have hb255 := px.at hb255
  have hb261 := px.at hb261
  have hb267 := px.at hb267
  have hb273 := px.at hb273
  have hb279 := px.at hb279
  have hb28 := px.at hb28
  have hb285 := px.at hb285
  have hb291 := px.at hb291
  have hb34 := px.at hb34
  have hb4 := px.at hb4
  have hb40 := px.at hb40
  have hb46 := px.at hb46
  have hb52 := px.at hb52
  have hb58 := px.at hb58
  have hb64 := px.at hb64
  have hb70 := px.at hb70
  have hb76 := px.at hb76
  have hb82 := px.at hb82
  have hb88 := px.at hb88
  have E := E.ex ex298
  have hw : ad g294 100000 < s.heap.size := by rw [ex298.2.2.2.1]; exact hw
  have hbs : g294.1 ≤ s.heap.size := by rw [ex298.1]; exact hbs
  have exA := exA.tr pxA ex298
  have pxA := pxA.tr px
  refine hw_putFR (o := (some b297)) E hin hR hS hw cI10 hs0 82 (by decide) lfX11_524 rfl rfl rfl dX11_init_429 (fun m299 H locs em299 hR hS => ?_)
  replace hf := hf m299 em299
  refine lv_aload_n E.1 E.2.1 dX11_init_432 rfl (lv_at hl 0 rfl) ?_
  refine lv_iconst (v := 3) E.1 E.2.1 dX11_init_433 (by decide) ?_
  obtain ⟨hcl, hln, hf⟩ := hf
  refine hw_newa50 E hR hS hw hbs hcl hln 3 (by decide) (by decide) (by decide) lar50 (Nat.le_of_ble_eq_true rfl) (Nat.le_of_ble_eq_true rfl) dX11_init_434 (fun g300 S301 m302 H ex304 eS301 em302 hR hS => ?_)
  obtain ⟨b303, eb303⟩ : ∃ y, y = S295.length := ⟨_, rfl⟩
  rw [← eb303]
  replace hf := hf S301 eS301 m302 em302 b303 eb303
  have hb303 := ex_last eS301 eb303
  have px : PX S295 S301 := ⟨_, eS301⟩
  have ea := ex304.ad hs0
  (try rw [← ea] at hl)
  (try rw [← ea])
  have hs0 := px.at hs0
  have hb10 := px.at hb10
  have hb103 := px.at hb103
  have hb109 := px.at hb109
  have hb115 := px.at hb115
  have hb121 := px.at hb121
  have hb127 := px.at hb127
  have hb133 := px.at hb133
  have hb139 := px.at hb139
  have hb145 := px.at hb145
  have hb151 := px.at hb151
  have hb157 := px.at hb157
  have hb16 := px.at hb16
  have hb163 := px.at hb163
  have hb169 := px.at hb169
  have hb175 := px.at hb175
  have hb181 := px.at hb181
  have hb207 := px.at hb207
  have hb213 := px.at hb213
  have hb219 := px.at hb219
  have hb22 := px.at hb22
  have hb225 := px.at hb225
  have hb231 := px.at hb231
  have hb237 := px.at hb237
  have hb243 := px.at hb243
  have hb249 := px.at hb249
  have hb255 := px.at hb255
  have hb261 := px.at hb261
  have hb267 := px.at hb267
  have hb273 := px.at hb273
  have hb279 := px.at hb279
  have hb28 := px.at hb28
  have hb285 := px.at hb285
  have hb291 := px.at hb291
  have hb297 := px.at hb297
  have hb34 := px.at hb34
  have hb4 := px.at hb4
  have hb40 := px.at hb40
  have hb46 := px.at hb46
  have hb52 := px.at hb52
  have hb58 := px.at hb58
  have hb64 := px.at hb64
  have hb70 := px.at hb70
  have hb76 := px.at hb76
  have hb82 := px.at hb82
  have hb88 := px.at hb88
  have E := E.ex ex304
  have hw : ad g300 100000 < s.heap.size := by rw [ex304.2.2.2.1]; exact hw
  have hbs : g300.1 ≤ s.heap.size := by rw [ex304.1]; exact hbs
  have exA := exA.tr pxA ex304
  have pxA := pxA.tr px
  refine hw_putFR (o := (some b303)) E hin hR hS hw cI10 hs0 83 (by decide) lfX11_527 rfl rfl rfl dX11_init_436 (fun m305 H locs em305 hR hS => ?_)
  replace hf := hf m305 em305
  refine lv_aload_n E.1 E.2.1 dX11_init_439 rfl (lv_at hl 0 rfl) ?_
  refine lv_iconst (v := 3) E.1 E.2.1 dX11_init_440 (by decide) ?_
  obtain ⟨hcl, hln, hf⟩ := hf
  refine hw_newa50 E hR hS hw hbs hcl hln 3 (by decide) (by decide) (by decide) lar50 (Nat.le_of_ble_eq_true rfl) (Nat.le_of_ble_eq_true rfl) dX11_init_441 (fun g306 S307 m308 H ex310 eS307 em308 hR hS => ?_)
  obtain ⟨b309, eb309⟩ : ∃ y, y = S301.length := ⟨_, rfl⟩
  rw [← eb309]
  replace hf := hf S307 eS307 m308 em308 b309 eb309
  have hb309 := ex_last eS307 eb309
  have px : PX S301 S307 := ⟨_, eS307⟩
  have ea := ex310.ad hs0
  (try rw [← ea] at hl)
  (try rw [← ea])
  have hs0 := px.at hs0
  have hb10 := px.at hb10
  have hb103 := px.at hb103
  have hb109 := px.at hb109
  have hb115 := px.at hb115
  have hb121 := px.at hb121
  have hb127 := px.at hb127
  have hb133 := px.at hb133
  have hb139 := px.at hb139
  have hb145 := px.at hb145
  have hb151 := px.at hb151
  have hb157 := px.at hb157
  have hb16 := px.at hb16
  have hb163 := px.at hb163
  have hb169 := px.at hb169
  have hb175 := px.at hb175
  have hb181 := px.at hb181
  have hb207 := px.at hb207
  have hb213 := px.at hb213
  have hb219 := px.at hb219
  have hb22 := px.at hb22
  have hb225 := px.at hb225
  have hb231 := px.at hb231
  have hb237 := px.at hb237
  have hb243 := px.at hb243
  have hb249 := px.at hb249
  have hb255 := px.at hb255
  have hb261 := px.at hb261
  have hb267 := px.at hb267
  have hb273 := px.at hb273
  have hb279 := px.at hb279
  have hb28 := px.at hb28
  have hb285 := px.at hb285
  have hb291 := px.at hb291
  have hb297 := px.at hb297
  have hb303 := px.at hb303
  have hb34 := px.at hb34
  have hb4 := px.at hb4
  have hb40 := px.at hb40
  have hb46 := px.at hb46
  have hb52 := px.at hb52
  have hb58 := px.at hb58
  have hb64 := px.at hb64
  have hb70 := px.at hb70
  have hb76 := px.at hb76
  have hb82 := px.at hb82
  have hb88 := px.at hb88
  have E := E.ex ex310
  have hw : ad g306 100000 < s.heap.size := by rw [ex310.2.2.2.1]; exact hw
  have hbs : g306.1 ≤ s.heap.size := by rw [ex310.1]; exact hbs
  have exA := exA.tr pxA ex310
  have pxA := pxA.tr px
  refine hw_putFR (o := (some b309)) E hin hR hS hw cI10 hs0 84 (by decide) lfX11_530 rfl rfl rfl dX11_init_443 (fun m311 H locs em311 hR hS => ?_)
  replace hf := hf m311 em311
  refine lv_aload_n E.1 E.2.1 dX11_init_446 rfl (lv_at hl 0 rfl) ?_
  refine lv_bipush (v := 12) E.1 E.2.1 dX11_init_447 (by decide) ?_
  obtain ⟨hcl, hln, hf⟩ := hf
  refine hw_newa50 E hR hS hw hbs hcl hln 12 (by decide) (by decide) (by decide) lar50 (Nat.le_of_ble_eq_true rfl) (Nat.le_of_ble_eq_true rfl) dX11_init_449 (fun g312 S313 m314 H ex316 eS313 em314 hR hS => ?_)
  obtain ⟨b315, eb315⟩ : ∃ y, y = S307.length := ⟨_, rfl⟩
  rw [← eb315]
  replace hf := hf S313 eS313 m314 em314 b315 eb315
  have hb315 := ex_last eS313 eb315
  have px : PX S307 S313 := ⟨_, eS313⟩
  have ea := ex316.ad hs0
  (try rw [← ea] at hl)
  (try rw [← ea])
  have hs0 := px.at hs0
  have hb10 := px.at hb10
  have hb103 := px.at hb103
  have hb109 := px.at hb109
  have hb115 := px.at hb115
  have hb121 := px.at hb121
  have hb127 := px.at hb127
  have hb133 := px.at hb133
  have hb139 := px.at hb139
  have hb145 := px.at hb145
  have hb151 := px.at hb151
  have hb157 := px.at hb157
  have hb16 := px.at hb16
  have hb163 := px.at hb163
  have hb169 := px.at hb169
  have hb175 := px.at hb175
  have hb181 := px.at hb181
  have hb207 := px.at hb207
  have hb213 := px.at hb213
  have hb219 := px.at hb219
  have hb22 := px.at hb22
  have hb225 := px.at hb225
  have hb231 := px.at hb231
  have hb237 := px.at hb237
  have hb243 := px.at hb243
  have hb249 := px.at hb249
  have hb255 := px.at hb255
  have hb261 := px.at hb261
  have hb267 := px.at hb267
  have hb273 := px.at hb273
  have hb279 := px.at hb279
  have hb28 := px.at hb28
  have hb285 := px.at hb285
  have hb291 := px.at hb291
  have hb297 := px.at hb297
  have hb303 := px.at hb303
  have hb309 := px.at hb309
  have hb34 := px.at hb34
  have hb4 := px.at hb4
  have hb40 := px.at hb40
  have hb46 := px.at hb46
  have hb52 := px.at hb52
  have hb58 := px.at hb58
  have hb64 := px.at hb64
  have hb70 := px.at hb70
  have hb76 := px.at hb76
  have hb82 := px.at hb82
  have hb88 := px.at hb88
  have E := E.ex ex316
  have hw : ad g312 100000 < s.heap.size := by rw [ex316.2.2.2.1]; exact hw
  have hbs : g312.1 ≤ s.heap.size := by rw [ex316.1]; exact hbs
  have exA := exA.tr pxA ex316
  have pxA := pxA.tr px
  refine hw_putFR (o := (some b315)) E hin hR hS hw cI10 hs0 85 (by decide) lfX11_533 rfl rfl rfl dX11_init_451 (fun m317 H locs em317 hR hS => ?_)
  replace hf := hf m317 em317
  refine W.widen (k := 48) (n := 319235) (Nat.le_of_ble_eq_true rfl) (Nat.le_of_ble_eq_true rfl) ?_
  exact hw_vretC E exA pxA hR hS hf dX11_init_454
