/-! weights of runs: powers, what the calls share -/
theorem pow_mono1 {b i n : Nat} (hb : 0 < b) (h : i ≤ n) : b ^ i ≤ b ^ n := Nat.pow_le_pow_right hb h
theorem powL {S : Ss} {b n : Nat} {M : Mm} {EK K : Int64 → Mm → Prop} (hb : b < 1000) (hn : n ≤ 20) (h1 : b ^ n ≤ 10 ^ 12 → EK (lN (b ^ n)) M) (h2 : 10 ^ 12 < b ^ n → ∀ p, 10 ^ 12 < p → p < 2 ^ 62 → EK (lN p) M) :
    ∀ (r i : Nat), i + r = n → b ^ i < 2 ^ 62 → f_X10_power_L5 S (nI b) (nI n) EK K (r + 1) (lN (b ^ i)) (nI i) M
  | 0, i, hi, hp => by
    unfold f_X10_power_L5 f_X10_power_B5
    have e : i = n := by omega
    subst e
    refine ⟨fun _ => ?_, fun z => absurd (nI_le (Nat.le_refl _) (by omega)) z⟩
    rcases Nat.lt_or_ge (10 ^ 12) (b ^ i) with z | z
    · exact h2 z _ z hp
    · exact h1 z
  | r + 1, i, hi, hp => by
    unfold f_X10_power_L5 f_X10_power_B5
    refine ⟨fun z => absurd z (nI_ge (by omega) (by omega)), fun _ => ?_⟩
    rw [show (1000000000000 : Int64) = lN (10 ^ 12) from rfl, pk_lLT (by decide) (by omega)]
    refine ⟨fun z => h2 ?_ _ z hp, fun z => ?_⟩
    · have hb0 : 0 < b := by
        refine Nat.pos_of_ne_zero (fun e => ?_)
        rw [e] at z
        have : 0 ^ i ≤ 1 := by
          rcases Nat.eq_zero_or_pos i with q | q
          · rw [q]; exact Nat.le_refl _
          · rw [Nat.zero_pow q]; omega
        omega
      exact Nat.lt_of_lt_of_le z (pow_mono1 hb0 (by omega))
    · simp only [forall_eq, nI_1]
      rw [nI_l (by omega), lN_mul, ← Nat.pow_succ]
      refine powL hb hn h1 h2 r (i + 1) (by omega) ?_
      rw [Nat.pow_succ]
      have : b ^ i * b ≤ 10 ^ 12 * 1000 := Nat.mul_le_mul (by omega) (by omega)
      omega
theorem power_ok {S : Ss} {b n : Nat} {M : Mm} {K : Int64 → Mm → Prop} (hb : b < 1000) (hn : n ≤ 20) (h1 : b ^ n ≤ 10 ^ 12 → K (lN (b ^ n)) M) (h2 : 10 ^ 12 < b ^ n → ∀ p, 10 ^ 12 < p → p < 2 ^ 62 → K (lN p) M) : f_X10_power S (nI b) (nI n) M K := by
  unfold f_X10_power
  exact ⟨n + 1, powL (K := K) hb hn h1 h2 n 0 (by omega) (by rw [Nat.pow_zero]; decide)⟩
theorem powM {S : Ss} {b n : Nat} {M : Mm} {EK K : Int64 → Mm → Prop} (hb : b < 1000) (hn : n ≤ 20) (h1 : b ^ n ≤ 10 ^ 12 → EK (lN (b ^ n)) M) (h2 : 10 ^ 12 < b ^ n → K (lN (10 ^ 12 + 1)) M) :
    ∀ (r i : Nat), i + r = n → b ^ i ≤ 10 ^ 12 → f_X11_power_L5 S (lN b) (nI n) EK K (r + 1) (lN (b ^ i)) (nI i) M
  | 0, i, hi, hp => by
    unfold f_X11_power_L5 f_X11_power_B5
    have e : i = n := by omega
    subst e
    exact ⟨fun _ => h1 hp, fun z => absurd (nI_le (Nat.le_refl _) (by omega)) z⟩
  | r + 1, i, hi, hp => by
    unfold f_X11_power_L5 f_X11_power_B5
    refine ⟨fun z => absurd z (nI_ge (by omega) (by omega)), fun _ => ?_⟩
    simp only [forall_eq, nI_1]
    have hm : b ^ i * b ≤ 10 ^ 12 * 1000 := Nat.mul_le_mul hp (by omega)
    rw [lN_mul, show (1000000000000 : Int64) = lN (10 ^ 12) from rfl, pk_lLE (by omega) (by decide), ← Nat.pow_succ]
    refine ⟨fun z => powM hb hn h1 h2 r (i + 1) (by omega) z, fun z => h2 ?_⟩
    have hb0 : 0 < b := by
      refine Nat.pos_of_ne_zero (fun e => z ?_)
      rw [e, Nat.zero_pow (by omega)]; omega
    exact Nat.lt_of_lt_of_le (Nat.lt_of_not_le z) (pow_mono1 hb0 (by omega))
theorem powerM_ok {S : Ss} {b n : Nat} {x : Int64} {M : Mm} {K : Int64 → Mm → Prop} (hx : x = lN b) (hb : b < 1000) (hn : n ≤ 20) (h1 : b ^ n ≤ 10 ^ 12 → K (lN (b ^ n)) M) (h2 : 10 ^ 12 < b ^ n → K (lN (10 ^ 12 + 1)) M) : f_X11_power S x (nI n) M K := by
  unfold f_X11_power
  subst hx
  exact ⟨n + 1, powM (K := K) hb hn h1 h2 n 0 (by omega) (by rw [Nat.pow_zero]; decide)⟩
theorem tell2_ok {x y : Int64} {M : Mm} {K : Mm → Prop} (hF : FX M) (hK : ∀ M', Fr dTd eTd M M' → M'.1 116 1 = nI 2 → M'.2.1 117 0 = x → M'.2.1 117 1 = y → K M') : f_X7_tellTwo S0 116 x y M K := by
  unfold f_X7_tellTwo
  simp only [forall_eq]
  have f1 : Fr dTd eTd M (stI M 116 1 0) := Fr_I rfl (Fr_refl _ _ _)
  refine tlN (k := 0) (FX_fr f1 hF) rI_eq (by omega) (fun M2 f2 q1 q2 q3 => ?_)
  refine tlN (k := 1) (FX_fr f2 (FX_fr f1 hF)) q1 (by omega) (fun M3 f3 u1 u2 u3 => hK M3 (Fr_tr f1 (Fr_tr f2 f3)) u1 ?_ u3)
  rw [u2 0 (by omega)]; exact q3
/-- memories that differ by a call over runs, the rows of ways swapped or not -/
def Fw (M M' : Mm) : Prop := (∀ b j, dRun b j = false → M'.1 b j = M.1 b j) ∧ (∀ b, eRun b = false → M'.2.1 b = M.2.1 b) ∧ ∀ b j, ¬ (b = 10 ∧ (j = 8 ∨ j = 9)) → M'.2.2 b j = M.2.2 b j
theorem Fw_fr {M M' : Mm} (h : Fr dRun eRun M M') : Fw M M' := ⟨h.1, h.2.1, fun b j _ => by rw [h.2.2]⟩
theorem Fw_tr {M M' M'' : Mm} (h : Fw M M') (h' : Fw M' M'') : Fw M M'' := ⟨fun b j d => (h'.1 b j d).trans (h.1 b j d), fun b d => (h'.2.1 b d).trans (h.2.1 b d), fun b j d => (h'.2.2 b j d).trans (h.2.2 b j d)⟩
theorem Fw_sw {M M' : Mm} (h : SWp M M') : Fw M M' := ⟨fun b j _ => by rw [h.1], fun b d => h.2.1 b (by rintro rfl; exact absurd d (by decide)) (by rintro rfl; exact absurd d (by decide)), h.2.2⟩
theorem V_sw {M M' : Mm} (h : V M) (h1 : M'.1 = M.1) (h2 : M'.2.1 = M.2.1) (hr : ∀ b j, ¬ (b = 10 ∧ (j = 8 ∨ j = 9)) → M'.2.2 b j = M.2.2 b j) (hw : V_walk M') : V M' := by
  obtain ⟨g1, g2, g3, g4, g5, g6, g7, g8, g9, g10, g11, g12, g13, g14, g15, g16, g17, g18, g19⟩ := h
  have R : ∀ a, a ≠ 10 → M'.2.2 a = M.2.2 a := fun a ha => funext fun j => hr a j (by omega)
  have e : ∀ a, M'.1 a = M.1 a := fun a => by rw [h1]
  have i : ∀ a j, M'.1 a j = M.1 a j := fun a j => by rw [h1]
  have jj : ∀ a, M'.2.1 a = M.2.1 a := fun a => by rw [h2]
  refine ⟨FX_sw hr g1, V_txt_ag (i _ _) (i _ _) (e _) (e _) g2, V_typ_ag (i _ _) (i _ _) (e _) (e _) g3, V_spd_ag (e _) (e _) g4, V_key_ag (i _ _) (i _ _) g5, V_wgt_ag (e _) (e _) (e _) (e _) g6, V_told_ag (i _ _) (i _ _) (jj _) (jj _) g7, V_last_ag (i _ _) (i _ _) (e _) (i _ _) (i _ _) (i _ _) (i _ _) g8, V_cnt_ag (i _ _) (i _ _) (i _ _) (i _ _) (i _ _) (i _ _) (i _ _) (i _ _) (i _ _) g9, ⟨?_, fun j hj => by rw [R 17 (by omega)]; exact g10.2 j hj⟩, V_task_ag (R _ (by omega)) (fun a _ => e a) (i _ _) (e _) (e _) (e _) (e _) (e _) (e _) (e _) g11, V_must_ag (by rw [R 11 (by omega)]) (fun a _ => e a) (i _ _) (e _) (e _) g12, V_bolt_ag (R _ (by omega)) (fun a _ => e a) (i _ _) (e _) (e _) g13, V_ptch_ag (R _ (by omega)) (fun a _ => e a) (i _ _) (i _ _) (e _) (e _) (e _) (e _) (e _) (e _) (e _) (e _) g14, V_now_ag (e _) (e _) (e _) (e _) (jj _) (i _ _) (e _) g15, V_kept_ag (fun a _ _ => ⟨e a, jj a⟩) (fun a _ _ => ⟨e a, jj a⟩) (i _ _) (i _ _) (e _) g16, hw, V_hous_ag (e _) (i _ _) (i _ _) (fun a _ _ => e a) (fun a _ _ => e a) g18, V_tell_ag (e _) (fun a _ _ => e a) g19⟩
  have ep : plc M' = plc M := by
    unfold plc
    rw [R 1 (by omega), R 11 (by omega), R 12 (by omega), R 13 (by omega), R 14 (by omega)]
  rw [ep]; exact g10.1
theorem V_runW {M M' : Mm} {A B : Nat} {F : F4} (hV : V M) (fw : Fw M M') (h33 : M'.1 142 33 = 0) (hm : MO M 113 A B F) (hs : MS M' A B) (hf : MF M' F) (hw : V_walk M') (ht : V_told M') : V M' := by
  have v2 : V (M'.1, M'.2.1, M.2.2) := V_run (M' := (M'.1, M'.2.1, M.2.2)) hV ⟨fw.1, fw.2.1, rfl⟩ h33 hm hs hf ⟨hw.1, hV.2.2.2.2.2.2.2.2.2.2.2.2.2.2.2.2.1.2⟩ ht
  exact V_sw v2 rfl rfl fw.2.2 hw
def PW (C : Cf) (ky A B : Nat) (F : F4) (mu : Option (List Nat)) (M M1 : Mm) : Prop := Fw M M1 ∧ FX M1 ∧ CM M1 C ∧ M1.1 142 27 = nI ky ∧ MS M1 A B ∧ MF M1 F ∧ mM M1 mu ∧ V_walk M1
theorem PW_pm {C : Cf} {ky A B : Nat} {F : F4} {mu : Option (List Nat)} {M M1 : Mm} (h : PM C ky A B F mu M M1) : PW C ky A B F mu M M1 := ⟨Fw_fr h.1, h.2⟩
theorem PW_sw {C : Cf} {ky A B : Nat} {F : F4} {mu : Option (List Nat)} {M M1 M2 : Mm} (h : PW C ky A B F mu M M1) (s : SWp M1 M2) (hw : ∃ X Y, wy M2 X Y) : PW C ky A B F mu M M2 := by
  obtain ⟨p1, p2, p3, p4, p5, p6, p7, p8⟩ := h
  refine ⟨Fw_tr p1 (Fw_sw s), FX_sw s.2.2 p2, CM_ag (by rw [s.1]) (by rw [s.1]) (by rw [s.1]) (by rw [s.1]) (by rw [s.1]) (by rw [s.1]) (by rw [s.1]) (by rw [s.1]) (by rw [s.1]) (by rw [s.1]) (by rw [s.1]) (by rw [s.1]) (by rw [s.1]) p3, by rw [s.1]; exact p4, MS_ag (by rw [s.1]) (by rw [s.1]) (by rw [s.1]) (by rw [s.1]) p5, ⟨by rw [s.1]; exact p6.1, by rw [s.1]; exact p6.2.1, by rw [s.1]; exact p6.2.2.1, by rw [s.1]; exact p6.2.2.2⟩, mM_ag (by rw [s.1]) (by rw [s.1]) (by rw [s.1]) p7, ?_⟩
  obtain ⟨X, Y, w1, w2, w3⟩ := hw
  refine ⟨by rw [s.1]; exact p8.1, ?_⟩
  rcases w3 with ⟨rfl, rfl⟩ | ⟨rfl, rfl⟩
  · exact Or.inl ⟨w1, w2⟩
  · exact Or.inr ⟨w1, w2⟩
theorem PW_td {C : Cf} {ky A B : Nat} {F : F4} {mu : Option (List Nat)} {M M1 M2 : Mm} (h : PW C ky A B F mu M M1) (f : Fr dTd eTd M1 M2) : PW C ky A B F mu M M2 := by
  obtain ⟨p1, p2, p3, p4, p5, p6, p7, p8⟩ := h
  exact ⟨Fw_tr p1 (Fw_fr (dTd_run f)), FX_fr f p2, CM_dTd f p3, (f.1 _ _ rfl).trans p4, MS_dTd f p5, ⟨(f.1 _ _ rfl).trans p6.1, (f.1 _ _ rfl).trans p6.2.1, (f.1 _ _ rfl).trans p6.2.2.1, (f.1 _ _ rfl).trans p6.2.2.2⟩, mM_ag (Fr_row f _ fun _ => rfl) (Fr_row f _ fun _ => rfl) (f.1 _ _ rfl) p7, walk_fr f rfl (fun _ => rfl) (fun _ => rfl) p8⟩
/-- the steps of a walk, as the theory of weights takes them -/
theorem wx_G {C : Cf} {ky w A0 B0 n mo : Nat} {mu : Option (List Nat)} {so : Nat → Nat → F4 → Nat → Bool} {M : Mm} (hX : WX C ky w A0 B0 mo mu so M (Ed C ky w A0 B0 n * w)) : ∃ G : Gx, (∀ k, k < Ed C ky w A0 B0 n * w → ld C ky w A0 B0 k (gT G k) ∧ gB G k = pB C ky w A0 B0 mu k ∧ gS G k = pS C ky w A0 B0 so k ∧ M.1 110 k = nI (4 * gT G k + bts (gB G k) (gS G k)) ∧ gT G k < (bf C ky w A0 B0 (Ed C ky w A0 B0 n * w)).length) := by
  have ch : ∀ k, ∃ t, k < Ed C ky w A0 B0 n * w → ld C ky w A0 B0 k t ∧ M.1 110 k = nI (4 * t + bts (pB C ky w A0 B0 mu k) (pS C ky w A0 B0 so k)) := by
    intro k
    by_cases hk : k < Ed C ky w A0 B0 n * w
    · obtain ⟨t, h⟩ := hX.2.1 k hk
      exact ⟨t, fun _ => h⟩
    · exact ⟨0, fun z => absurd z hk⟩
  obtain ⟨tg, htg⟩ := Classical.skolem.mp ch
  refine ⟨(tg, pB C ky w A0 B0 mu, pS C ky w A0 B0 so), fun k hk => ⟨(htg k hk).1, rfl, rfl, (htg k hk).2, ?_⟩⟩
  have h1 := (htg k hk).1.1
  have h2 := bf_mono (C := C) (ky := ky) (w := w) (A0 := A0) (B0 := B0) (show k + 1 ≤ Ed C ky w A0 B0 n * w by omega)
  exact Nat.lt_of_lt_of_le h1 h2
theorem G_LY {C : Cf} {ky w A0 B0 n : Nat} {G : Gx} (h : ∀ k, k < Ed C ky w A0 B0 n * w → ld C ky w A0 B0 k (gT G k)) : LY G w (bf C ky w A0 B0 (Ed C ky w A0 B0 n * w)).length n (Ed C ky w A0 B0) := by
  refine ⟨?_, fun d hd k hk => ?_, fun d => Ed_mono d, Ed_succ⟩
  · rw [Ed_succ]; exact bf_len _
  · have h1 : Ed C ky w A0 B0 (d + 1) * w ≤ Ed C ky w A0 B0 n * w := Nat.mul_le_mul_right w (Ed_le (by omega))
    have h2 := (h k (by omega)).1
    have h3 := bf_mono (C := C) (ky := ky) (w := w) (A0 := A0) (B0 := B0) (show k + 1 ≤ Ed C ky w A0 B0 (d + 1) * w by omega)
    rw [Ed_succ (d := d + 1)]
    omega
/-- bounds of the weights -/
theorem WW_bd {b1 b2 : Bool} {G : Gx} {wt : Nat → Nat} {w N n : Nat} {ly : Nat → Nat} (hL : LY G w N n ly) (hN : 0 < N) (hb : (sumTo wt w) ^ n ≤ 10 ^ 12) : ∀ d, d ≤ n → ∀ s, s < N → WW b1 b2 G wt w N d s < 2 ^ 62 := by
  intro d hd s hs
  have h1 := WW_le (b1 := b1) (b2 := b2) (G := G) (wt := wt) (w := w) (N := N) d s
  have h2 := sum_mem (f := WW false false G wt w N d) N hs
  rw [WW_tot hL hN d hd] at h2
  have h3 : (sumTo wt w) ^ d ≤ 10 ^ 12 := by
    rcases Nat.eq_zero_or_pos (sumTo wt w) with e | e
    · rw [e]
      rcases Nat.eq_zero_or_pos d with q | q
      · rw [q]; decide
      · rw [Nat.zero_pow q]; decide
    · exact Nat.le_trans (pow_mono1 e hd) hb
  omega
/-- what the model's sums are, by the class's weights -/
theorem sum_11 {G : Gx} {wt : Nat → Nat} {w N n : Nat} (pk : Nat → Bool) (h0 : pk 0 = false) (h1 : pk 1 = true) (h2 : pk 2 = false) (h3 : pk 3 = true) : sumTo (fun s => sumTo (fun f => if pk f = true then MM G wt w N n s f else 0) 4) N + sumTo (WW true false G wt w N n) N = sumTo (WW false false G wt w N n) N := by
  rw [← sum_add]
  refine sum_ext N (fun s _ => ?_)
  rw [← MM_prj n s, ← MM_prj n s]
  show 0 + (if pk 0 = true then MM G wt w N n s 0 else 0) + (if pk 1 = true then MM G wt w N n s 1 else 0) + (if pk 2 = true then MM G wt w N n s 2 else 0) + (if pk 3 = true then MM G wt w N n s 3 else 0) + prj true false (MM G wt w N n s) = prj false false (MM G wt w N n s)
  unfold prj
  simp only [h0, h1, h2, h3, if_true, Bool.false_eq_true, if_false, Bool.or_false, Bool.or_self]
  omega
theorem sum_22 {G : Gx} {wt : Nat → Nat} {w N n : Nat} (pk : Nat → Bool) (h0 : pk 0 = false) (h1 : pk 1 = false) (h2 : pk 2 = true) (h3 : pk 3 = true) : sumTo (fun s => sumTo (fun f => if pk f = true then MM G wt w N n s f else 0) 4) N + sumTo (WW false true G wt w N n) N = sumTo (WW false false G wt w N n) N := by
  rw [← sum_add]
  refine sum_ext N (fun s _ => ?_)
  rw [← MM_prj n s, ← MM_prj n s]
  show 0 + (if pk 0 = true then MM G wt w N n s 0 else 0) + (if pk 1 = true then MM G wt w N n s 1 else 0) + (if pk 2 = true then MM G wt w N n s 2 else 0) + (if pk 3 = true then MM G wt w N n s 3 else 0) + prj false true (MM G wt w N n s) = prj false false (MM G wt w N n s)
  unfold prj
  simp only [h0, h1, h2, h3, if_true, Bool.false_eq_true, if_false, Bool.false_or, Bool.or_self]
  omega
theorem sum_33 {G : Gx} {wt : Nat → Nat} {w N n : Nat} (pk : Nat → Bool) (h0 : pk 0 = false) (h1 : pk 1 = false) (h2 : pk 2 = false) (h3 : pk 3 = true) : sumTo (fun s => sumTo (fun f => if pk f = true then MM G wt w N n s f else 0) 4) N + sumTo (WW false true G wt w N n) N + sumTo (WW true false G wt w N n) N = sumTo (WW false false G wt w N n) N + sumTo (WW true true G wt w N n) N := by
  rw [← sum_add, ← sum_add, ← sum_add]
  refine sum_ext N (fun s _ => ?_)
  rw [← MM_prj n s, ← MM_prj n s, ← MM_prj n s, ← MM_prj n s]
  show 0 + (if pk 0 = true then MM G wt w N n s 0 else 0) + (if pk 1 = true then MM G wt w N n s 1 else 0) + (if pk 2 = true then MM G wt w N n s 2 else 0) + (if pk 3 = true then MM G wt w N n s 3 else 0) + prj false true (MM G wt w N n s) + prj true false (MM G wt w N n s) = prj false false (MM G wt w N n s) + prj true true (MM G wt w N n s)
  unfold prj
  simp only [h0, h1, h2, h3, if_true, Bool.false_eq_true, if_false, Bool.false_or, Bool.or_false, Bool.or_self]
  omega
def pk1 : Nat → Bool := fun f => f == 1 || f == 3
def pk2 : Nat → Bool := fun f => f == 2 || f == 3
def pk3 : Nat → Bool := fun f => f == 3
theorem pk1_ok : ∀ f, f < 4 → (nI f &&& (1 : Int32) = 1 ↔ pk1 f = true) := by decide +kernel
theorem pk2_ok : ∀ f, f < 4 → (nI f &&& (2 : Int32) = 2 ↔ pk2 f = true) := by decide +kernel
theorem pk3_ok : ∀ f, f < 4 → (nI f &&& (3 : Int32) = 3 ↔ pk3 f = true) := by decide +kernel
theorem dQw_run {M M' : Mm} (h : Fr dQw eP M M') : Fr dRun eRun M M' :=
  Fr_mono (fun b j hd => by unfold dRun at hd; unfold dQw dQ; simp only [Bool.or_eq_false_iff, Bool.and_eq_false_iff, beq_eq_false_iff_ne, decide_eq_false_iff_not] at *; omega) (fun b hd => by unfold eRun at hd; unfold eP; simp only [Bool.or_eq_false_iff, Bool.and_eq_false_iff, beq_eq_false_iff_ne, decide_eq_false_iff_not] at *; omega) h
theorem SM_run {M M' : Mm} (h : SM M M') : Fr dRun eRun M M' := ⟨fun b j _ => by rw [h.1], fun b hd => h.2.2 b (by rintro rfl; exact absurd hd (by decide)) (by rintro rfl; exact absurd hd (by decide)), h.2.1⟩
theorem RM_run {M M' : Mm} {A B : Nat} {F : F4} (h1 : ∀ j, 47 ≤ j → j ≤ 50 → M'.1 142 j = M.1 142 j) (h2 : M'.2.1 142 = M.2.1 142) (hr : RM M A B F) : RM M' A B F := by
  obtain ⟨a1, a2, a3, a4, a5, a6⟩ := hr
  exact ⟨by rw [h2]; exact a1, by rw [h2]; exact a2, (h1 47 (by omega) (by omega)).trans a3, (h1 48 (by omega) (by omega)).trans a4, (h1 49 (by omega) (by omega)).trans a5, (h1 50 (by omega) (by omega)).trans a6⟩
