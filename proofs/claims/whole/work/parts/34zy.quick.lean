/-! quick -/
/-- the model among its weighings -/
def CX (C : Cf) (ky w A B n : Nat) (F : F4) (mu : Option (List Nat)) (M M3 m : Mm) : Prop := CMm C ky A B F M M3 m ∧ mM m mu ∧ WM m (bf C ky w A B (Ed C ky w A B n * w)) 0 ∧ WD m (bf C ky w A B (Ed C ky w A B n * w))
theorem wgS {C : Cf} {ky w A B n N : Nat} {F : F4} {mu : Option (List Nat)} {G : Gx} {wt : Nat → Nat} {x2 x3 : Int32} {M M3 m : Mm} {Z : Mm → Prop} (hx : CX C ky w A B n F mu M M3 m) (hky : ky < 5) (hw : w = cT C * (ky + 1)) (hT : 0 < cT C) (h0 : SI C A B) (hn : n ≤ 20) (hNe : N = (bf C ky w A B (Ed C ky w A B n * w)).length) (hle : N ≤ 4000) (hG : HG C ky w A B n mu (x2 + 1) G) (hH : HWt m ky w x3 wt) (hs : ∀ d, d < n → ∀ s, WW false false G wt w N d s ≠ 0 → s < Ed C ky w A B n) (hc : ∀ d, d < n → ∀ s, s < N → WW false false G wt w N d s < 2 ^ 63)
    (hZ : ∀ m', CX C ky w A B n F mu M M3 m' → m'.1 142 44 = nI N → (∀ t g, t < N → g < 4 → m'.2.1 166 (4 * t + g) = lN (MM G wt w N n t g)) → Z m') : f_X11_weighs S0 142 (nI n) x2 x3 m Z := by
  obtain ⟨⟨c1, c2, c3, c4, c5, c6, c7, c8, c9, c10⟩, hmu, hW, hD⟩ := hx
  refine weighs_ok (C := C) (A0 := A) (B0 := B) (N := N) (G := G) (wt := wt) ⟨c2, c5, c6⟩ hmu hky hw hT h0 hn hNe hle hG hW hD hH hs hc (fun M6 M7 f6 s7 W7 D7 v7 => hZ M7 ⟨⟨?_, FX_ag s7.2.1 (FX_fr f6 c2), ?_, ?_, ?_, ?_, ?_, ?_, fun td => ?_, ?_⟩, ?_, W7, D7⟩ (by rw [W7.1, ← hNe]) v7)
  · exact Fw_tr c1 (Fw_tr (Fw_fr (dQw_run f6)) (Fw_fr (SM_run s7)))
  · exact RM_run (fun j h1 h2 => by rw [s7.1]) (s7.2.2 142 (by omega) (by omega)) (RM_run (fun j h1 h2 => f6.1 142 j (by unfold dQw dQ; simp only [Bool.or_eq_false_iff, Bool.and_eq_false_iff, beq_eq_false_iff_ne, decide_eq_false_iff_not]; omega)) (f6.2.1 142 rfl) c3)
  · exact V_walk_ag (M := M6) (by rw [s7.1]) (by rw [s7.1]) (by rw [s7.1]) (by rw [s7.2.1]) (walk_fr f6 rfl (fun _ => rfl) (fun _ => rfl) c4)
  · exact CM_ag (M := M6) (by rw [s7.1]) (by rw [s7.1]) (by rw [s7.1]) (by rw [s7.1]) (by rw [s7.1]) (by rw [s7.1]) (by rw [s7.1]) (by rw [s7.1]) (by rw [s7.1]) (by rw [s7.1]) (by rw [s7.1]) (by rw [s7.1]) (by rw [s7.1]) (CM_dQw f6 c5)
  · rw [s7.1, f6.1 142 27 rfl]; exact c6
  · rw [s7.1, f6.1 116 1 rfl]; exact c7
  · rw [s7.2.2 117 (by omega) (by omega), f6.2.1 117 rfl]; exact c8
  · exact V_told_ag (M := M6) (by rw [s7.1]) (by rw [s7.1]) (s7.2.2 117 (by omega) (by omega)) (s7.2.2 143 (by omega) (by omega)) (told_fr f6 rfl rfl rfl rfl (c9 td))
  · rw [s7.1, Fr_row f6 _ (fun _ => rfl)]; exact c10
  · exact mM_ag (M := M6) (by rw [s7.1]) (by rw [s7.1]) (by rw [s7.1]) (mM_dQw f6 hmu)
theorem modX {C : Cf} {ky w A B n N : Nat} {F : F4} {mu : Option (List Nat)} {M M3 : Mm} {Z : Int32 → Mm → Prop} (hpm : PW C ky A B F mu M M3) (hky : ky < 5) (hw : w = cT C * (ky + 1)) (hT : 0 < cT C) (h0 : SI C A B) (hn : n ≤ 20) (hNe : N = (bf C ky w A B (Ed C ky w A B n * w)).length) (z0 : 4000 < N → ∀ m, CMm C ky A B F M M3 m → Z 0 m) (z1 : N ≤ 4000 → ∀ m, CX C ky w A B n F mu M M3 m → Z 1 m) :
    f_X11_remembers S0 142 (stI M3 142 0 0) (fun m10 => f_X11_explores S0 142 (nI n) (4000 : Int32) m10 Z) := by
  obtain ⟨q1, q2, q3, q4, q5, q6, q7, q8⟩ := hpm
  refine runM2 (ky := ky) (A := A) (B := B) (F := F) q2 q3 q4 q5 q6 (fun M4 f4 b4 r4 => ?_)
  have w4 : V_walk M4 := walk_fr f4 rfl (fun _ => rfl) (fun _ => rfl) q8
  have mm4 : mM M4 mu := mM_ag (Fr_row f4 _ fun _ => rfl) (Fr_row f4 _ fun _ => rfl) (f4.1 _ _ rfl) q7
  have fw4 : Fw M M4 := Fw_tr q1 (Fw_fr (dRm0_run f4))
  have cm : ∀ M5, Fr dQ eP M4 M5 → CMm C ky A B F M M3 M5 := by
    intro M5 f5
    refine ⟨Fw_tr fw4 (Fw_fr (dQ_run f5)), FX_fr f5 b4.1, RM_dQ f5 r4, walk_fr f5 rfl (fun _ => rfl) (fun _ => rfl) w4, CM_dQ f5 b4.2.1, (f5.1 142 27 rfl).trans b4.2.2, ?_, ?_, fun td => told_fr f5 rfl rfl rfl rfl (told_fr f4 rfl rfl rfl rfl td), ?_⟩
    · rw [f5.1 116 1 rfl, f4.1 116 1 rfl]
    · rw [f5.2.1 117 rfl, f4.2.1 117 rfl]
    · rw [Fr_row f5 _ (fun _ => rfl), Fr_row f4 _ (fun _ => rfl)]
  exact explores_ok (C := C) (w := w) (mo := 4000) b4 hky hw hT h0 r4.1 r4.2.1 hn (by omega) (by omega) (fun hle M5 f5 W5 D5 => z1 (by omega) M5 ⟨cm M5 f5, mM_dQ f5 mm4, W5, D5⟩) (fun hgt M5 f5 => z0 (by omega) M5 (cm M5 f5))
theorem div_sc {a g : Nat} (h : g ∣ a) : a / g * g = a := Nat.div_mul_cancel h
/-- scaling does not change what is more -/
theorem sg3_sc {s : Int32} {x y g : Nat} (hg : 0 < g) : sg3 s (x * g) (y * g) = sg3 s x y := by
  unfold sg3
  by_cases z1 : x < y
  · rw [if_pos z1, if_pos (Nat.mul_lt_mul_of_pos_right z1 hg)]
  · by_cases z2 : x = y
    · rw [if_neg z1, if_pos z2, z2, if_neg (by omega), if_pos rfl]
    · have : y * g < x * g := Nat.mul_lt_mul_of_pos_right (by omega) hg
      rw [if_neg z1, if_neg z2, if_neg (by omega), if_neg (by omega)]
theorem sg3_rd {a b c d ga gc : Nat} (h1 : ga ∣ a) (h2 : ga ∣ b) (h3 : gc ∣ c) (h4 : gc ∣ d) (p1 : 0 < ga) (p2 : 0 < gc) : sg3 1 (a / ga * (d / gc)) (c / gc * (b / ga)) = sg3 1 (a * d) (c * b) := by
  rw [← sg3_sc (g := ga * gc) (Nat.mul_pos p1 p2)]
  congr 1
  · calc a / ga * (d / gc) * (ga * gc) = (a / ga * ga) * (d / gc * gc) := by
          rw [Nat.mul_assoc, Nat.mul_assoc, Nat.mul_left_comm (d / gc) ga gc]
      _ = a * d := by rw [div_sc h1, div_sc h4]
  · calc c / gc * (b / ga) * (ga * gc) = (c / gc * gc) * (b / ga * ga) := by
          rw [Nat.mul_comm ga gc, Nat.mul_assoc, Nat.mul_assoc, Nat.mul_left_comm (b / ga) gc ga]
      _ = c * b := by rw [div_sc h3, div_sc h2]
/-- what holds, and what breaks -/
theorem sg3_fl {h0 h1 s0 s1 a0 a1 : Nat} (e0 : s0 + h0 = a0) (e1 : s1 + h1 = a1) : sg3 1 (s0 * a1) (s1 * a0) = - sg3 1 (h0 * a1) (h1 * a0) := by
  have q0 : s0 * a1 + h0 * a1 = a0 * a1 := by rw [← Nat.add_mul, e0]
  have q1 : s1 * a0 + h1 * a0 = a0 * a1 := by rw [← Nat.add_mul, e1, Nat.mul_comm]
  unfold sg3
  by_cases z1 : s0 * a1 < s1 * a0
  · rw [if_pos z1, if_neg (by omega), if_neg (by omega)]
  · by_cases z2 : s0 * a1 = s1 * a0
    · rw [if_neg z1, if_pos z2, if_neg (by omega), if_pos (by omega)]; rfl
    · rw [if_neg z1, if_neg z2, if_pos (by omega)]; rfl
def QK (n : Nat) (K : Mm → Prop) (a0 a1 : Nat) : Int32 → Mm → Prop := fun (r11 : Int32) (m10 : Mm) =>
          ((r11 = 0 →
          f_X11_quick S0 142 (nI n) m10 (AN (-3 : Int32) K)) ∧
         (¬ r11 = 0 →
          ((lN a0 = (0 : Int64) →
            f_X11_quick S0 142 (nI n) m10 (AN (-2 : Int32) K)) ∧
           (¬ lN a0 = (0 : Int64) →
            ((lN a1 = (0 : Int64) →
              f_X11_quick S0 142 (nI n) m10 (AN (-2 : Int32) K)) ∧
             (¬ lN a1 = (0 : Int64) →
              ∃ b15 : Nat, m10.2.2 0 1 = some b15 ∧
              ∃ b16 : Nat, m10.2.2 0 10 = some b16 ∧
              S0[b15]? = some (8, 0) ∧
              f_X9_weightWithout S0 b15 (1 : Int32) (nI n) b16 m10 (fun (r19 : Int64) (m17 : Mm) =>
                ∃ b20 : Nat, m17.2.2 0 1 = some b20 ∧
              ∃ b21 : Nat, m17.2.2 0 11 = some b21 ∧
              S0[b20]? = some (8, 0) ∧
              f_X9_weightWithout S0 b20 (1 : Int32) (nI n) b21 m17 (fun (r24 : Int64) (m22 : Mm) =>
                f_X10_comparedFractions S0 r19 (lN a0) r24 (lN a1) m22 (fun (r26 : Int32) (m25 : Mm) =>
                ((r26 = 0 →
                f_X11_quick S0 142 (nI n) m25 (AN (2 : Int32) K)) ∧
               (¬ r26 = 0 →
                ((0 ≤ r26 →
                  f_X11_quick S0 142 (nI n) m25 (AN (1 : Int32) K)) ∧
                 (¬ 0 ≤ r26 →
                  f_X11_quick S0 142 (nI n) m25 (AN (0 : Int32) K))))))))))))))
theorem op20 (p1 : Int32) (M : Mm) (K : Mm → Prop) (hV : V M) (hK : ∀ m, V m → K m) : OP20 p1 M K := by
  have hF := hV.1
  have ne1 : ¬ (1 : Int32) = 0 := by decide
  obtain ⟨C, mu, ky, A, B, F, hC, hCM, hmC, hmM, hky, k13, k27, hm, hs, hf, hsi⟩ := run_of hV
  have c1 := hC.1.1
  have htd : V_told M := hV.2.2.2.2.2.2.1
  have hwk : V_walk M := hV.2.2.2.2.2.2.2.2.2.2.2.2.2.2.2.2.1
  have hwg : V_wgt M := hV.2.2.2.2.2.1
  obtain ⟨w, hw⟩ : ∃ w, w = cT C * (ky + 1) := ⟨_, rfl⟩
  have hw20 : w ≤ 20 := by
    rw [hw]
    have : cT C * (ky + 1) ≤ 4 * 5 := Nat.mul_le_mul c1 (by omega)
    omega
  have hend : ∀ r, AN r K r (stI M 142 0 0) := fun r => an_ok rfl (hK _ (V_thr _ hV))
  show f_X10_quick S0 0 p1 M (fun r m1 => f_X11_quick S0 142 p1 m1 (AN r K))
  unfold f_X10_quick
  refine refuses_ok hF hC.2.1 c1 (fun g1 g2 g3 => ⟨fun _ => ?_, fun z => absurd rfl z⟩) (fun hx => ⟨fun z => absurd z (by decide), fun _ => ?_⟩)
  · obtain ⟨n, hn, rfl⟩ := nI_le' (n := 20) (by decide) rfl g1 g2
    obtain ⟨N, hN⟩ : ∃ N, N = (bf C ky w A B (Ed C ky w A B n * w)).length := ⟨_, rfl⟩
    have hNp : 0 < N := by rw [hN]; exact bf_len _
    obtain ⟨wk, hwkd⟩ : ∃ wk : Nat → Nat → Nat, ∀ q, wk q = ar M (131 + q) := ⟨fun q => ar M (131 + q), fun _ => rfl⟩
    have hwc : ∀ q, q < 2 → ∀ j, j < 5 → M.1 (131 + q) j = nI (wk q j) ∧ wk q j < 10 := fun q hq j hj => by
      obtain ⟨u1, u2, u3⟩ := wkf_of hwg q hq j hj
      rw [hwkd]; exact ⟨u1, u3⟩
    have hwm : ∀ q, q < 2 → ∀ j, j < 5 → M.1 171 (5 * q + j) = nI (wk q j) ∧ wk q j < 10 := fun q hq j hj => by
      obtain ⟨u1, u2, u3⟩ := wkf_of hwg q hq j hj
      rw [hwkd]; exact ⟨u2, u3⟩
    obtain ⟨bs, hbs⟩ : ∃ bs : Nat → Nat, ∀ q, bs q = cT C * sumTo (wk q) (ky + 1) := ⟨fun q => cT C * sumTo (wk q) (ky + 1), fun _ => rfl⟩
    obtain ⟨wt, hwt⟩ : ∃ wt : Nat → Nat → Nat, ∀ q m, wt q m = wk q (m % (ky + 1)) := ⟨fun q m => wk q (m % (ky + 1)), fun _ _ => rfl⟩
    have hsum : ∀ q, sumTo (wt q) w = bs q := fun q => by
      rw [hw, hbs, ← sum_per (by omega) (wk q) (cT C)]
      exact sum_ext _ (fun i _ => hwt q i)
    have hH : ∀ q, q < 2 → ∀ M3 : Mm, M3.1 171 = M.1 171 → HWt M3 ky w (nI q) (wt q) := fun q hq M3 e => Or.inr ⟨q, hq, rfl, fun m hm => by
      have hmd : m % (ky + 1) < ky + 1 := Nat.mod_lt _ (by omega)
      rw [e, hwt]; exact hwm q hq _ (by omega)⟩
    -- how the model begins
    have begin_ : ∀ (M1 : Mm) (r : Int32), FX M1 → M1.1 142 15 = nI (cT C) → M1.1 142 27 = nI ky → M1.1 171 = M.1 171 → ((10 ^ 12 < bs 0 ^ n ∨ 10 ^ 12 < bs 1 ^ n) → AN r K (-1) (stI M1 142 0 0)) → (bs 0 ^ n ≤ 10 ^ 12 → bs 1 ^ n ≤ 10 ^ 12 → f_X11_remembers S0 142 (stI M1 142 0 0) (fun m10 => f_X11_explores S0 142 (nI n) (4000 : Int32) m10 (fun r13 m12 => ((r13 = 0 → f_X11_quick_J94 S0 142 (nI n) r13 (0 : Int64) (0 : Int64) m12 (AN r K)) ∧ (¬ r13 = 0 → f_X11_weighs S0 142 (nI n) (-2) (0 : Int32) m12 (fun m40 => f_X11_sumOf S0 142 (1 : Int32) (1 : Int32) m40 (fun r42 m41 => f_X11_weighs S0 142 (nI n) (-2) (1 : Int32) m41 (fun m43 => f_X11_sumOf S0 142 (1 : Int32) (1 : Int32) m43 (fun r45 m44 => f_X11_quick_J94 S0 142 (nI n) r13 r42 r45 m44 (AN r K)))))))))) → f_X11_quick S0 142 (nI n) M1 (AN r K) := by
      intro M1 r hF1 e15 e27 e171 h2 h1
      unfold f_X11_quick
      simp only [forall_eq]
      refine isRun_ok (nt := cT C) e15 c1 (fun _ _ _ => ⟨fun z => absurd z (by decide), fun _ => ?_⟩) (fun q => (q.elim g1 (fun q => q.elim g2 (fun q => by omega))).elim)
      have e171' : (stI M1 142 0 0).1 171 = M.1 171 := e171
      have lt12 : ∀ p : Nat, p < 2 ^ 63 → ((1000000000000 : Int64) < lN p ↔ 10 ^ 12 < p) := fun p hp => by
        rw [show (1000000000000 : Int64) = lN (10 ^ 12) from rfl, pk_lLT (by decide) hp]
      refine aw_ok (T := cT C) (q := 0) (wk := wk 0) (fx_I hF1) e15 c1 e27 hky (by omega) hn (fun j hj => by rw [e171']; exact hwm 0 (by omega) j hj) (fun hp => ⟨fun z => absurd ((lt12 _ (by omega)).mp z) (by omega), fun _ => ?_⟩) (fun hp => ⟨fun _ => h2 (Or.inl (by rw [hbs]; exact hp)), fun z => absurd ((lt12 _ (by decide)).mpr (by decide)) z⟩)
      exact aw_ok (T := cT C) (q := 1) (wk := wk 1) (fx_I hF1) e15 c1 e27 hky (by omega) hn (fun j hj => by rw [e171']; exact hwm 1 (by omega) j hj) (fun hp' => ⟨fun _ => h1 (by rw [hbs]; exact hp) (by rw [hbs]; exact hp'), fun z => absurd ((le12 (by omega)).mpr hp') z⟩) (fun hp' => ⟨fun z => absurd ((le12 (by decide)).mp z) (by decide), fun _ => h2 (Or.inr (by rw [hbs]; exact hp'))⟩)
    -- behind the model's weighing, where there is nothing to compare
    have j94n : ∀ (r x3 : Int32) (y1 y2 : Int64) (M3 m : Mm), CMm C ky A B F M M3 m → M3.1 171 = M.1 171 → V_told M3 → ((x3 = 0 ∧ r = -3) ∨ (x3 = 1 ∧ (sumTo (wk 0) (ky + 1) = 0 ∨ sumTo (wk 1) (ky + 1) = 0) ∧ r = -2)) → f_X11_quick_J94 S0 142 (nI n) x3 y1 y2 m (AN r K) := by
      intro r x3 y1 y2 M3 m hcm e171 td3 hcase
      unfold f_X11_quick_J94
      refine backW hV hm hcm (fun m' f' hF' e15 e27 i116 i117 td i171 vv => ?_)
      have hwm' : ∀ q, q < 2 → ∀ j, j < 5 → m'.1 171 (5 * q + j) = nI (wk q j) ∧ wk q j < 10 := fun q hq j hj => by rw [i171, e171]; exact hwm q hq j hj
      have done : r = -3 ∨ r = -2 → ∀ r', r = r' → AN r K r' m' := fun _ r' e => an_ok e (hK _ (vv m' (Fr_refl _ _ _) (td td3)))
      have fin : ∀ z1 z2 : Int64, ((x3 = 0 → f_X11_quick_J134 S0 x3 m' (AN r K)) ∧ (¬ x3 = 0 → f_X11_isWeightless S0 142 (0 : Int32) m' (fun (r23 : Int32) (m22 : Mm) => ((r23 = 0 → f_X11_isWeightless S0 142 (1 : Int32) m22 (fun (r26 : Int32) (m25 : Mm) => ((r26 = 0 → f_X11_common S0 y1 z1 m25 (fun (r29 : Int64) (m28 : Mm) => f_X11_common S0 y2 z2 m28 (fun (r31 : Int64) (m30 : Mm) => ¬ r29 = 0 ∧ ¬ r29 = 0 ∧ ¬ r31 = 0 ∧ ¬ r31 = 0 ∧ f_X11_compares S0 (y1 / r29) (z1 / r29) (y2 / r31) (z2 / r31) m30 (fun (r37 : Int32) (m36 : Mm) => ((r37 ≤ 0 → ((0 ≤ r37 → (AN r K) (2 : Int32) m36) ∧ (¬ 0 ≤ r37 → (AN r K) (1 : Int32) m36))) ∧ (¬ r37 ≤ 0 → (AN r K) (0 : Int32) m36)))))) ∧ (¬ r26 = 0 → f_X11_quick_J134 S0 x3 m25 (AN r K))))) ∧ (¬ r23 = 0 → f_X11_quick_J134 S0 x3 m22 (AN r K)))))) := by
        intro z1 z2
        unfold f_X11_quick_J134
        rcases hcase with ⟨e3, er⟩ | ⟨e3, es, er⟩
        · exact ⟨fun _ => ⟨fun _ => done (Or.inl er) _ er, fun z => absurd e3 z⟩, fun z => absurd e3 z⟩
        · have dn : ((x3 = 0 → (AN r K) (-3 : Int32) m') ∧ (¬ x3 = 0 → (AN r K) (-2 : Int32) m')) := ⟨fun z => absurd z (by rw [e3]; decide), fun _ => done (Or.inr er) _ er⟩
          refine ⟨fun z => absurd z (by rw [e3]; decide), fun _ => iw_ok (q := 0) hF' e27 hky (by omega) (hwm' 0 (by omega)) (fun _ => ⟨fun z => absurd z ne1, fun _ => dn⟩) (fun n0 => ⟨fun _ => iw_ok (q := 1) hF' e27 hky (by omega) (hwm' 1 (by omega)) (fun _ => ⟨fun z => absurd z ne1, fun _ => dn⟩) (fun n1 => (es.elim n0 n1).elim), fun z => absurd rfl z⟩)⟩
      exact aw_ok (T := cT C) (q := 0) (wk := wk 0) hF' e15 c1 e27 hky (by omega) hn (hwm' 0 (by omega)) (fun _ => aw_ok (T := cT C) (q := 1) (wk := wk 1) hF' e15 c1 e27 hky (by omega) hn (hwm' 1 (by omega)) (fun _ => fin _ _) (fun _ => fin _ _)) (fun _ => aw_ok (T := cT C) (q := 1) (wk := wk 1) hF' e15 c1 e27 hky (by omega) hn (hwm' 1 (by omega)) (fun _ => fin _ _) (fun _ => fin _ _))
    have nofit : ∀ M1, Fr dE eG M M1 → V_walk M1 → 4000 < N → bs 0 ^ n ≤ 10 ^ 12 → bs 1 ^ n ≤ 10 ^ 12 → f_X11_quick S0 142 (nI n) M1 (AN (-3) K) := by
      intro M1 f1 w1 hgt hp0 hp1
      have pm := PM_1 hF hCM k27 hs hf hmM f1 w1
      have e171 : M1.1 171 = M.1 171 := Fr_row f1 _ (fun _ => rfl)
      exact begin_ M1 (-3) pm.2.1 pm.2.2.1.2.1 pm.2.2.2.1 e171 (fun q => by omega) (fun _ _ => modX (PW_pm pm) hky hw g3 hsi hn hN (fun _ m hcm => ⟨fun _ => j94n (-3) 0 0 0 M1 m hcm e171 (told_fr f1 rfl rfl rfl rfl htd) (Or.inl ⟨rfl, rfl⟩), fun z => absurd rfl z⟩) (fun q => by omega))
    -- a walk gone through: its steps
    have steps : ∀ M1, Fr dE eG M M1 → WX C ky w A B 4000 mu (fun _ _ _ _ => false) M1 (Ed C ky w A B n * w) → (∀ q, q < 2 → bs q ^ n ≤ 10 ^ 12) → ∃ G : Gx, N ≤ 4000 ∧ HG C ky w A B n mu (-2 + 1) G ∧ (∀ q, q < 2 → (∀ b1 b2 d, d < n → ∀ s, s < N → WW b1 b2 G (wt q) w N d s < 2 ^ 63) ∧ (∀ b1 b2 d, d < n → ∀ s, WW b1 b2 G (wt q) w N d s ≠ 0 → s < Ed C ky w A B n) ∧ WR M1 G w ky (cT C) N (Ed C ky w A B n) (131 + q) (wk q) ∧ sumTo (WW false false G (wt q) w N n) N = bs q ^ n) := by
      intro M1 f1 X1 hp
      obtain ⟨G, hG⟩ := wx_G X1
      have hN4 : N ≤ 4000 := by rw [hN]; exact X1.2.2.2.2
      have hLY := G_LY (fun k hk => (hG k hk).1)
      rw [← hN] at hLY
      refine ⟨G, hN4, fun k hk => ⟨(hG k hk).1, (hG k hk).2.1, ?_⟩, fun q hq => ⟨fun b1 b2 d hd s hs => Nat.lt_trans (WW_bd hLY hNp (by rw [hsum]; exact hp q hq) d (by omega) s hs) (by decide), fun b1 b2 d hd s h => Nat.lt_of_lt_of_le (WW_sup hLY d s (by omega) h) (Ed_le (by omega)), ?_, by rw [WW_tot hLY hNp n (Nat.le_refl _), hsum]⟩⟩
      · rw [(hG k hk).2.2.1]
        obtain ⟨-, -, u, u1, u2⟩ := nx_fg hC.1 hky hw g3 hsi hk
        rw [u2]
        have : ¬ nI u = (-2 + 1 : Int32) := fun e => absurd (show ¬ nI u < 0 from nI_pos (by omega)) (by rw [e]; decide)
        unfold pS
        simp only [this, decide_false]
      · rw [hN]
        refine WR_of (FX_fr f1 hF) (CC_dE f1 hC) ((f1.1 _ _ rfl).trans k13) hky hw X1 (fun k hk => (hG k hk).2.2.2) (shp13 hq) (fun j hj => ?_)
        have : M1.1 (131 + q) j = M.1 (131 + q) j := f1.1 _ _ (by unfold dE; simp only [Bool.or_eq_false_iff, Bool.and_eq_false_iff, beq_eq_false_iff_ne, decide_eq_false_iff_not]; omega)
        rw [this]; exact hwc q hq j hj
    -- the model's weighings, both hands
    have both : ∀ (M3 : Mm) (r : Int32) (G : Gx), PW C ky A B F mu M M3 → M3.1 171 = M.1 171 → N ≤ 4000 → HG C ky w A B n mu (-2 + 1) G → (∀ q, q < 2 → (∀ b1 b2 d, d < n → ∀ s, s < N → WW b1 b2 G (wt q) w N d s < 2 ^ 63) ∧ (∀ b1 b2 d, d < n → ∀ s, WW b1 b2 G (wt q) w N d s ≠ 0 → s < Ed C ky w A B n)) → bs 0 ^ n ≤ 10 ^ 12 → bs 1 ^ n ≤ 10 ^ 12 → (∀ m, CMm C ky A B F M M3 m → f_X11_quick_J94 S0 142 (nI n) 1 (lN (sumTo (fun s => sumTo (fun f => if pk1 f = true then MM G (wt 0) w N n s f else 0) 4) N)) (lN (sumTo (fun s => sumTo (fun f => if pk1 f = true then MM G (wt 1) w N n s f else 0) 4) N)) m (AN r K)) → f_X11_quick S0 142 (nI n) M3 (AN r K) := by
      intro M3 r G pw e171 hN4 hG hq hp0 hp1 hJ
      refine begin_ M3 r pw.2.1 pw.2.2.1.2.1 pw.2.2.2.1 e171 (fun q => by omega) (fun _ _ => modX pw hky hw g3 hsi hn hN (fun q => by omega) (fun _ m hx => ⟨fun z => absurd z ne1, fun _ => ?_⟩))
      refine wgS (G := G) (wt := wt 0) (N := N) hx hky hw g3 hsi hn hN hN4 hG (hH 0 (by omega) m (hx.1.2.2.2.2.2.2.2.2.2.trans e171)) ((hq 0 (by omega)).2 _ _) ((hq 0 (by omega)).1 _ _) (fun m1 hx1 h44 hv => ?_)
      refine sumOf_ok (N := N) (h := MM G (wt 0) w N n) pk1 pk1_ok hx1.1.2.1 h44 hN4 hv ?_
      refine wgS (G := G) (wt := wt 1) (N := N) hx1 hky hw g3 hsi hn hN hN4 hG (hH 1 (by omega) m1 (hx1.1.2.2.2.2.2.2.2.2.2.trans e171)) ((hq 1 (by omega)).2 _ _) ((hq 1 (by omega)).1 _ _) (fun m2 hx2 h44' hv' => ?_)
      refine sumOf_ok (N := N) (h := MM G (wt 1) w N n) pk1 pk1_ok hx2.1.2.1 h44' hN4 hv' ?_
      exact hJ m2 hx2.1
    -- the class
    have cls : ∀ (a0 a1 : Nat), a0 ≤ 10 ^ 12 → a1 ≤ 10 ^ 12 → ((sumTo (wk 0) (ky + 1) = 0 ∧ a0 = 0) ∨ (sumTo (wk 0) (ky + 1) ≠ 0 ∧ a0 = bs 0 ^ n)) → ((sumTo (wk 1) (ky + 1) = 0 ∧ a1 = 0) ∨ (sumTo (wk 1) (ky + 1) ≠ 0 ∧ a1 = bs 1 ^ n)) → f_X10_explored S0 0 (nI n) M (QK n K a0 a1) := by
      intro a0 a1 l0' l1' d0 d1
      have hp0 : bs 0 ^ n ≤ 10 ^ 12 := by
        rcases d0 with ⟨e, _⟩ | ⟨_, e⟩
        · rw [hbs, e, Nat.mul_zero]; exact pow0_le n
        · omega
      have hp1 : bs 1 ^ n ≤ 10 ^ 12 := by
        rcases d1 with ⟨e, _⟩ | ⟨_, e⟩
        · rw [hbs, e, Nat.mul_zero]; exact pow0_le n
        · omega
      have hpq : ∀ q, q < 2 → bs q ^ n ≤ 10 ^ 12 := fun q hq => by
        have : q = 0 ∨ q = 1 := by omega
        rcases this with rfl | rfl
        · exact hp0
        · exact hp1
      have pos : ∀ q, sumTo (wk q) (ky + 1) ≠ 0 → 0 < bs q ^ n := fun q h => Nat.pow_pos (by rw [hbs]; exact Nat.mul_pos g3 (by omega))
      unfold f_X10_explored QK
      simp only [fx_0_1 hF, fx_0_3 hF, ex_some, s0_10, s0_113, true_and]
      refine seekG (C := C) (w := w) (mo := 4000) (so := fun _ _ _ _ => false) hF hwk hC hmC k13 hky hw (Or.inl rfl) hm.2.2.1 hm.2.2.2.1 hsi (by omega) (by omega) hn (fun M' _ h12 _ => SO_0 h12) (fun hgt M1 f1 w1 => ⟨Or.inl rfl, fun _ => nofit M1 f1 w1 (by omega) hp0 hp1, fun z => absurd rfl z⟩) (fun M1 f1 w1 X1 T1 => ⟨Or.inr rfl, fun z => absurd z (by decide), fun _ => ?_⟩)
      obtain ⟨G, hN4, hG, hq⟩ := steps M1 f1 X1 hpq
      have hq' : ∀ q, q < 2 → (∀ b1 b2 d, d < n → ∀ s, s < N → WW b1 b2 G (wt q) w N d s < 2 ^ 63) ∧ (∀ b1 b2 d, d < n → ∀ s, WW b1 b2 G (wt q) w N d s ≠ 0 → s < Ed C ky w A B n) := fun q h => ⟨(hq q h).1, (hq q h).2.1⟩
      have pm := PM_1 hF hCM k27 hs hf hmM f1 w1
      have e171 : M1.1 171 = M.1 171 := Fr_row f1 _ (fun _ => rfl)
      have none_ : (sumTo (wk 0) (ky + 1) = 0 ∨ sumTo (wk 1) (ky + 1) = 0) → f_X11_quick S0 142 (nI n) M1 (AN (-2) K) := fun h => both M1 (-2) G (PW_pm pm) e171 hN4 hG hq' hp0 hp1 (fun m hcm => j94n (-2) 1 _ _ M1 m hcm e171 (told_fr f1 rfl rfl rfl rfl htd) (Or.inr ⟨rfl, h, rfl⟩))
      rw [l0 (by omega), l0 (by omega)]
      refine ⟨fun z => none_ (Or.inl ?_), fun z0 => ⟨fun z => none_ (Or.inr ?_), fun z1 => ?_⟩⟩
      · rcases d0 with ⟨e, _⟩ | ⟨ne, e⟩
        · exact e
        · have := pos 0 ne; omega
      · rcases d1 with ⟨e, _⟩ | ⟨ne, e⟩
        · exact e
        · have := pos 1 ne; omega
      · obtain ⟨n0, ea0⟩ : sumTo (wk 0) (ky + 1) ≠ 0 ∧ a0 = bs 0 ^ n := by
          rcases d0 with ⟨_, e⟩ | h
          · exact absurd e z0
          · exact h
        obtain ⟨n1, ea1⟩ : sumTo (wk 1) (ky + 1) ≠ 0 ∧ a1 = bs 1 ^ n := by
          rcases d1 with ⟨_, e⟩ | h
          · exact absurd e z1
          · exact h
        obtain ⟨bd0, sp0, R0, tot0⟩ := hq 0 (by omega)
        obtain ⟨bd1, sp1, R1, tot1⟩ := hq 1 (by omega)
        have hF1 := FX_fr f1 hF
        simp only [fx_0_1 hF1, fx_0_10 hF1, ex_some, s0_10, true_and]
        refine ww_ok (b1 := true) (b2 := false) (wt := wt 0) rfl R0 hNp (wy_of w1) hn (hwt 0) (sp0 _ _) (bd0 _ _) (fun M2 s2 wy2 => ?_)
        have hF2 := FX_sw s2.2.2 hF1
        simp only [fx_0_1 hF2, fx_0_11 hF2, ex_some, s0_10, true_and]
        refine ww_ok (b1 := true) (b2 := false) (wt := wt 1) rfl (WR_ag s2.1 hF2 R1) hNp wy2 hn (hwt 1) (sp1 _ _) (bd1 _ _) (fun M2' s2' wy2' => ?_)
        have s11 := sum_11 (G := G) (wt := wt 0) (w := w) (N := N) (n := n) pk1 rfl rfl rfl rfl
        have s12 := sum_11 (G := G) (wt := wt 1) (w := w) (N := N) (n := n) pk1 rfl rfl rfl rfl
        rw [tot0, ← ea0] at s11
        rw [tot1, ← ea1] at s12
        generalize sumTo (WW true false G (wt 0) w N n) N = H0 at s11
        generalize sumTo (WW true false G (wt 1) w N n) N = H1 at s12
        have pw := PW_sw (PW_sw (PW_pm pm) s2 wy2) s2' wy2'
        have e171' : M2'.1 171 = M.1 171 := by rw [s2'.1, s2.1]; exact e171
        have td' : V_told M2' := V_told_ag (M := M1) (by rw [s2'.1, s2.1]) (by rw [s2'.1, s2.1]) (by rw [s2'.2.1 117 (by omega) (by omega), s2.2.1 117 (by omega) (by omega)]) (by rw [s2'.2.1 143 (by omega) (by omega), s2.2.1 143 (by omega) (by omega)]) (told_fr f1 rfl rfl rfl rfl htd)
        -- the model's answer
        have mdl : ∀ r : Int32, (∀ c : Int32, c = - sg3 1 (H0 * a1) (H1 * a0) → ((c ≤ 0 → ((0 ≤ c → r = 2) ∧ (¬ 0 ≤ c → r = 1))) ∧ (¬ c ≤ 0 → r = 0))) → f_X11_quick S0 142 (nI n) M2' (AN r K) := by
          intro r hr
          refine both M2' r G pw e171' hN4 hG hq' hp0 hp1 (fun m hcm => ?_)
          generalize sumTo (fun s => sumTo (fun f => if pk1 f = true then MM G (wt 0) w N n s f else 0) 4) N = Q0 at s11
          generalize sumTo (fun s => sumTo (fun f => if pk1 f = true then MM G (wt 1) w N n s f else 0) 4) N = Q1 at s12
          unfold f_X11_quick_J94
          refine backW hV hm hcm (fun m' f' hF' e15 e27 i116 i117 td i171 vv => ?_)
          have hwm' : ∀ q, q < 2 → ∀ j, j < 5 → m'.1 171 (5 * q + j) = nI (wk q j) ∧ wk q j < 10 := fun q hq j hj => by rw [i171, e171']; exact hwm q hq j hj
          refine aw_ok (T := cT C) (q := 0) (wk := wk 0) hF' e15 c1 e27 hky (by omega) hn (hwm' 0 (by omega)) (fun _ => ?_) (fun q => by rw [← hbs] at q; omega)
          refine aw_ok (T := cT C) (q := 1) (wk := wk 1) hF' e15 c1 e27 hky (by omega) hn (hwm' 1 (by omega)) (fun _ => ⟨fun z => absurd z ne1, fun _ => ?_⟩) (fun q => by rw [← hbs] at q; omega)
          rw [← hbs, ← hbs, ← ea0, ← ea1]
          refine iw_ok (q := 0) hF' e27 hky (by omega) (hwm' 0 (by omega)) (fun z => absurd z n0) (fun _ => ⟨fun _ => ?_, fun z => absurd rfl z⟩)
          refine iw_ok (q := 1) hF' e27 hky (by omega) (hwm' 1 (by omega)) (fun z => absurd z n1) (fun _ => ⟨fun _ => ?_, fun z => absurd rfl z⟩)
          have p0 : 0 < a0 := by omega
          have p1 : 0 < a1 := by omega
          have gp0 : 0 < Nat.gcd Q0 a0 := Nat.gcd_pos_of_pos_right Q0 p0
          have gp1 : 0 < Nat.gcd Q1 a1 := Nat.gcd_pos_of_pos_right Q1 p1
          have gl0 : Nat.gcd Q0 a0 ≤ a0 := Nat.gcd_le_right Q0 p0
          have gl1 : Nat.gcd Q1 a1 ≤ a1 := Nat.gcd_le_right Q1 p1
          have ng0 : ¬ lN (Nat.gcd Q0 a0) = (0 : Int64) := fun z => by rw [l0 (by omega)] at z; omega
          have ng1 : ¬ lN (Nat.gcd Q1 a1) = (0 : Int64) := fun z => by rw [l0 (by omega)] at z; omega
          refine cm_ok (by omega) (by omega) (cm_ok (by omega) (by omega) ⟨ng0, ng0, ng1, ng1, ?_⟩)
          rw [pk_lDiv (by omega) gp0 (by omega), pk_lDiv (by omega) gp0 (by omega), pk_lDiv (by omega) gp1 (by omega), pk_lDiv (by omega) gp1 (by omega)]
          have q1 : Q0 / Nat.gcd Q0 a0 ≤ Q0 := Nat.div_le_self _ _
          have q2 : a0 / Nat.gcd Q0 a0 ≤ a0 := Nat.div_le_self _ _
          have q3 : Q1 / Nat.gcd Q1 a1 ≤ Q1 := Nat.div_le_self _ _
          have q4 : a1 / Nat.gcd Q1 a1 ≤ a1 := Nat.div_le_self _ _
          refine cp_ok (by omega) (by omega) (by omega) (by omega) (Nat.div_pos gl0 gp0) (Nat.div_pos gl1 gp1) ?_
          rw [sg3_rd (Nat.gcd_dvd_left _ _) (Nat.gcd_dvd_right _ _) (Nat.gcd_dvd_left _ _) (Nat.gcd_dvd_right _ _) gp0 gp1, sg3_fl s11 s12]
          obtain ⟨r1, r2⟩ := hr _ rfl
          have ok : ∀ r', r = r' → AN r K r' m' := fun r' e => an_ok e (hK _ (vv m' (Fr_refl _ _ _) (td td')))
          exact ⟨fun z => ⟨fun y => ok 2 ((r1 z).1 y), fun y => ok 1 ((r1 z).2 y)⟩, fun z => ok 0 (r2 z)⟩
        refine cf_ok (by omega) l0' (by omega) l1' (by omega) (by omega) ⟨fun z => mdl 2 (fun c hc => ?_), fun z => ⟨fun y => mdl 1 (fun c hc => ?_), fun y => mdl 0 (fun c hc => ?_)⟩⟩
        · rw [z] at hc; rw [hc]; exact ⟨fun _ => ⟨fun _ => rfl, fun q => absurd (by decide) q⟩, fun q => absurd (by decide) q⟩
        · have e : sg3 1 (H0 * a1) (H1 * a0) = 1 := by
            unfold sg3 at z y ⊢
            by_cases z1 : H0 * a1 < H1 * a0
            · rw [if_pos z1] at y; exact absurd y (by decide)
            · rw [if_neg z1] at z ⊢
              by_cases z2 : H0 * a1 = H1 * a0
              · rw [if_pos z2] at z; exact absurd rfl z
              · rw [if_neg z2]
          rw [e] at hc; rw [hc]; exact ⟨fun _ => ⟨fun q => absurd q (by decide), fun _ => rfl⟩, fun q => absurd (by decide) q⟩
        · have e : sg3 1 (H0 * a1) (H1 * a0) = -1 := by
            unfold sg3 at z y ⊢
            by_cases z1 : H0 * a1 < H1 * a0
            · rw [if_pos z1]
            · rw [if_neg z1] at z y
              by_cases z2 : H0 * a1 = H1 * a0
              · rw [if_pos z2] at z; exact absurd rfl z
              · rw [if_neg z2] at y; exact absurd (by decide) y
          rw [e] at hc; rw [hc]; exact ⟨fun q => absurd q (by decide), fun _ => rfl⟩
    have lt12 : ∀ p : Nat, p < 2 ^ 63 → ((1000000000000 : Int64) < lN p ↔ 10 ^ 12 < p) := fun p hp => by
      rw [show (1000000000000 : Int64) = lN (10 ^ 12) from rfl, pk_lLT (by decide) hp]
    have toobig : (10 ^ 12 < bs 0 ^ n ∨ 10 ^ 12 < bs 1 ^ n) → f_X11_quick S0 142 (nI n) M (AN (-1) K) := fun h => begin_ M (-1) hF hCM.2.1 k27 rfl (fun _ => hend _) (fun q1 q2 => by omega)
    -- both hands' weights of all
    have step2 : ∀ a0, a0 < 2 ^ 62 → (10 ^ 12 < a0 → 10 ^ 12 < bs 0 ^ n) → (a0 ≤ 10 ^ 12 → ((sumTo (wk 0) (ky + 1) = 0 ∧ a0 = 0) ∨ (sumTo (wk 0) (ky + 1) ≠ 0 ∧ a0 = bs 0 ^ n))) → ∀ a1, a1 < 2 ^ 62 → (10 ^ 12 < a1 → 10 ^ 12 < bs 1 ^ n) → (a1 ≤ 10 ^ 12 → ((sumTo (wk 1) (ky + 1) = 0 ∧ a1 = 0) ∨ (sumTo (wk 1) (ky + 1) ≠ 0 ∧ a1 = bs 1 ^ n))) → (((1000000000000 : Int64) < lN a0 → f_X11_quick S0 142 (nI n) M (AN (-1 : Int32) K)) ∧ (¬ (1000000000000 : Int64) < lN a0 → ((lN a1 ≤ (1000000000000 : Int64) → f_X10_explored S0 0 (nI n) M (QK n K a0 a1)) ∧ (¬ lN a1 ≤ (1000000000000 : Int64) → f_X11_quick S0 142 (nI n) M (AN (-1 : Int32) K))))) := by
      intro a0 b0 u0 v0 a1 b1 u1 v1
      rw [lt12 _ (by omega), le12 (by omega)]
      exact ⟨fun z => toobig (Or.inl (u0 z)), fun z => ⟨fun y => cls a0 a1 (by omega) y (v0 (by omega)) (v1 y), fun y => toobig (Or.inr (u1 (by omega)))⟩⟩
    refine woa_ok (T := cT C) (q := 0) (wk := wk 0) hF hC.2.1 c1 k13 hky (by omega) hn (hwc 0 (by omega)) (fun e00 => ?_) (fun ne0 hp0 => ?_) (fun ne0 hp0 p0 p01 p02 => ?_)
    · exact woa_ok (T := cT C) (q := 1) (n := n) (wk := wk 1) hF hC.2.1 c1 k13 hky (by omega) hn (hwc 1 (by omega)) (fun e0 => step2 _ (show 0 < 2 ^ 62 by decide) (fun z => absurd z (by omega)) (fun _ => Or.inl ⟨e00, rfl⟩) 0 (by decide) (fun z => by omega) (fun _ => Or.inl ⟨e0, rfl⟩)) (fun ne hp => step2 _ (show 0 < 2 ^ 62 by decide) (fun z => absurd z (by omega)) (fun _ => Or.inl ⟨e00, rfl⟩) _ (by omega) (fun z => by omega) (fun _ => Or.inr ⟨ne, by rw [hbs]⟩)) (fun ne hp p p1 p2 => step2 _ (show 0 < 2 ^ 62 by decide) (fun z => absurd z (by omega)) (fun _ => Or.inl ⟨e00, rfl⟩) p p2 (fun _ => by rw [hbs]; exact hp) (fun z => by omega))
    · exact woa_ok (T := cT C) (q := 1) (n := n) (wk := wk 1) hF hC.2.1 c1 k13 hky (by omega) hn (hwc 1 (by omega)) (fun e0 => step2 _ (show (cT C * sumTo (wk 0) (ky + 1)) ^ n < 2 ^ 62 by omega) (fun z => absurd z (by omega)) (fun _ => Or.inr ⟨ne0, by rw [hbs]⟩) 0 (by decide) (fun z => by omega) (fun _ => Or.inl ⟨e0, rfl⟩)) (fun ne hp => step2 _ (show (cT C * sumTo (wk 0) (ky + 1)) ^ n < 2 ^ 62 by omega) (fun z => absurd z (by omega)) (fun _ => Or.inr ⟨ne0, by rw [hbs]⟩) _ (by omega) (fun z => by omega) (fun _ => Or.inr ⟨ne, by rw [hbs]⟩)) (fun ne hp p p1 p2 => step2 _ (show (cT C * sumTo (wk 0) (ky + 1)) ^ n < 2 ^ 62 by omega) (fun z => absurd z (by omega)) (fun _ => Or.inr ⟨ne0, by rw [hbs]⟩) p p2 (fun _ => by rw [hbs]; exact hp) (fun z => by omega))
    · exact woa_ok (T := cT C) (q := 1) (n := n) (wk := wk 1) hF hC.2.1 c1 k13 hky (by omega) hn (hwc 1 (by omega)) (fun e0 => step2 _ p02 (fun _ => by rw [hbs]; exact hp0) (fun z => absurd z (by omega)) 0 (by decide) (fun z => by omega) (fun _ => Or.inl ⟨e0, rfl⟩)) (fun ne hp => step2 _ p02 (fun _ => by rw [hbs]; exact hp0) (fun z => absurd z (by omega)) _ (by omega) (fun z => by omega) (fun _ => Or.inr ⟨ne, by rw [hbs]⟩)) (fun ne hp p p1 p2 => step2 _ p02 (fun _ => by rw [hbs]; exact hp0) (fun z => absurd z (by omega)) p p2 (fun _ => by rw [hbs]; exact hp) (fun z => by omega))
  · unfold f_X11_quick
    simp only [forall_eq]
    refine isRun_ok (nt := cT C) hCM.2.1 c1 (fun a b c => ?_) (fun _ => ⟨fun _ => hend _, fun z => absurd rfl z⟩)
    exact (hx.elim a (fun w => w.elim b (fun w => by omega))).elim
