/-! reading an expression: the model's descent -/
theorem gP0 {N : Nat} {M : Mm} {K : Int32 → Mm → Prop} (h : f_X11_some S0 (fun a M K => g_P S0 N 0 a M K) (fun a M K => g_P S0 N 1 a M K) (fun a M K => g_P S0 N 2 a M K) (fun a M K => g_P S0 N 3 a M K) (fun a M K => g_P S0 N 4 a M K) (fun a M K => g_P S0 N 5 a M K) 142 M K) : g_P S0 (N + 1) 0 142 M K := by
  unfold g_P; rw [if_pos rfl]; exact h
theorem gP1 {N : Nat} {M : Mm} {K : Int32 → Mm → Prop} (h : f_X11_every S0 (fun a M K => g_P S0 N 0 a M K) (fun a M K => g_P S0 N 1 a M K) (fun a M K => g_P S0 N 2 a M K) (fun a M K => g_P S0 N 3 a M K) (fun a M K => g_P S0 N 4 a M K) (fun a M K => g_P S0 N 5 a M K) 142 M K) : g_P S0 (N + 1) 1 142 M K := by
  unfold g_P; rw [if_neg (by decide), if_pos rfl]; exact h
theorem gP2 {N : Nat} {M : Mm} {K : Int32 → Mm → Prop} (h : f_X11_compared S0 (fun a M K => g_P S0 N 0 a M K) (fun a M K => g_P S0 N 1 a M K) (fun a M K => g_P S0 N 2 a M K) (fun a M K => g_P S0 N 3 a M K) (fun a M K => g_P S0 N 4 a M K) (fun a M K => g_P S0 N 5 a M K) 142 M K) : g_P S0 (N + 1) 2 142 M K := by
  unfold g_P; rw [if_neg (by decide), if_neg (by decide), if_pos rfl]; exact h
theorem gP3 {N : Nat} {M : Mm} {K : Int32 → Mm → Prop} (h : f_X11_total S0 (fun a M K => g_P S0 N 0 a M K) (fun a M K => g_P S0 N 1 a M K) (fun a M K => g_P S0 N 2 a M K) (fun a M K => g_P S0 N 3 a M K) (fun a M K => g_P S0 N 4 a M K) (fun a M K => g_P S0 N 5 a M K) 142 M K) : g_P S0 (N + 1) 3 142 M K := by
  unfold g_P; rw [if_neg (by decide), if_neg (by decide), if_neg (by decide), if_pos rfl]; exact h
theorem gP4 {N : Nat} {M : Mm} {K : Int32 → Mm → Prop} (h : f_X11_ahead S0 (fun a M K => g_P S0 N 0 a M K) (fun a M K => g_P S0 N 1 a M K) (fun a M K => g_P S0 N 2 a M K) (fun a M K => g_P S0 N 3 a M K) (fun a M K => g_P S0 N 4 a M K) (fun a M K => g_P S0 N 5 a M K) 142 M K) : g_P S0 (N + 1) 4 142 M K := by
  unfold g_P; rw [if_neg (by decide), if_neg (by decide), if_neg (by decide), if_neg (by decide), if_pos rfl]; exact h
theorem gP5 {N : Nat} {M : Mm} {K : Int32 → Mm → Prop} (h : f_X11_thing S0 (fun a M K => g_P S0 N 0 a M K) (fun a M K => g_P S0 N 1 a M K) (fun a M K => g_P S0 N 2 a M K) (fun a M K => g_P S0 N 3 a M K) (fun a M K => g_P S0 N 4 a M K) (fun a M K => g_P S0 N 5 a M K) 142 M K) : g_P S0 (N + 1) 5 142 M K := by
  unfold g_P; rw [if_neg (by decide), if_neg (by decide), if_neg (by decide), if_neg (by decide), if_neg (by decide), if_pos rfl]; exact h
/-- the loop of w, with what it calls at N -/
def LWx (w N : Nat) (EK K : Int32 → Mm → Prop) (fu : Nat) (x : Int32) (M : Mm) : Prop :=
  if w = 0 then f_X11_some_L5 S0 (fun a M K => g_P S0 N 0 a M K) (fun a M K => g_P S0 N 1 a M K) (fun a M K => g_P S0 N 2 a M K) (fun a M K => g_P S0 N 3 a M K) (fun a M K => g_P S0 N 4 a M K) (fun a M K => g_P S0 N 5 a M K) 142 EK K fu x M
  else if w = 1 then f_X11_every_L5 S0 (fun a M K => g_P S0 N 0 a M K) (fun a M K => g_P S0 N 1 a M K) (fun a M K => g_P S0 N 2 a M K) (fun a M K => g_P S0 N 3 a M K) (fun a M K => g_P S0 N 4 a M K) (fun a M K => g_P S0 N 5 a M K) 142 EK K fu x M
  else f_X11_total_L5 S0 (fun a M K => g_P S0 N 0 a M K) (fun a M K => g_P S0 N 1 a M K) (fun a M K => g_P S0 N 2 a M K) (fun a M K => g_P S0 N 3 a M K) (fun a M K => g_P S0 N 4 a M K) (fun a M K => g_P S0 N 5 a M K) 142 EK K fu x M
theorem LW_0 {w N fu : Nat} {EK K : Int32 → Mm → Prop} {M : Mm} (h : EK 0 M) : LWx w N EK K (fu + 1) 0 M := by
  unfold LWx
  split
  · unfold f_X11_some_L5 f_X11_some_B5; exact ⟨fun _ => h, fun z => absurd rfl z⟩
  · split
    · unfold f_X11_every_L5 f_X11_every_B5; exact ⟨fun _ => h, fun z => absurd rfl z⟩
    · unfold f_X11_total_L5 f_X11_total_B5; exact ⟨fun _ => h, fun z => absurd rfl z⟩
theorem cmk_jt {x : Nat} (h : jt x ≠ 0) : cmk (jt x) = 2000 + x := by
  have hx : x < 128 := by
    apply Classical.byContradiction
    intro hn
    apply h
    unfold jt
    repeat (first | rfl | rw [if_neg (by omega)])
  have key : ∀ x, x < 128 → jt x ≠ 0 → cmk (jt x) = 2000 + x := by decide +kernel
  exact key x hx h
/-- one turn of the loop -/
theorem LW_1 {c : Nat → Nat} {len rw_ p d w N fu : Nat} {ak : Bool} {e : List Nat} {EK K : Int32 → Mm → Prop} {M : Mm} (hw : LPx w) (hB : BMr c len ak rw_ M) (h : MSx rw_ M p d e) (hp : p ≤ len) (h0 : opw w (gcx c len p) = false → ∀ M', Fr (dMx rw_) eN M M' → MSx rw_ M' p d e → EK 1 M') (h1 : opw w (gcx c len p) = true → ∀ M', Fr (dMx rw_) eN M M' → MSx rw_ M' (p + 1) d e → g_P S0 N (w + 1) 142 M' (fun r8 m7 => ((r8 = 0 → LWx w N EK K fu r8 m7) ∧ (¬ r8 = 0 → f_X11_marks S0 142 (nI (cmk (jt (gcx c len p)))) m7 (fun m10 => LWx w N EK K fu r8 m10))))) : LWx w N EK K (fu + 1) 1 M := by
  rcases hw with rfl | rfl | rfl
  · show f_X11_some_L5 S0 _ _ _ _ _ _ 142 EK K (fu + 1) 1 M
    unfold f_X11_some_L5 f_X11_some_B5
    refine ⟨fun z => absurd z (by decide), fun _ => ?_⟩
    refine comes_x (x := 124) hB h hp (by omega) (fun eg M1 f1 c1 => ⟨fun z => absurd z (by decide), fun _ => ?_⟩) (fun eg M1 f1 c1 => ⟨fun _ => h0 (by simp [opw, eg]) M1 f1 c1, fun z => absurd rfl z⟩)
    have := h1 (by simp [opw, eg]) M1 f1 c1
    rw [eg] at this
    exact this
  · show f_X11_every_L5 S0 _ _ _ _ _ _ 142 EK K (fu + 1) 1 M
    unfold f_X11_every_L5 f_X11_every_B5
    refine ⟨fun z => absurd z (by decide), fun _ => ?_⟩
    refine comes_x (x := 38) hB h hp (by omega) (fun eg M1 f1 c1 => ⟨fun z => absurd z (by decide), fun _ => ?_⟩) (fun eg M1 f1 c1 => ⟨fun _ => h0 (by simp [opw, eg]) M1 f1 c1, fun z => absurd rfl z⟩)
    have := h1 (by simp [opw, eg]) M1 f1 c1
    rw [eg] at this
    exact this
  · show f_X11_total_L5 S0 _ _ _ _ _ _ 142 EK K (fu + 1) 1 M
    unfold f_X11_total_L5 f_X11_total_B5
    refine ⟨fun z => absurd z (by decide), fun _ => ?_⟩
    obtain ⟨b1, b2, b3, b4, b5, b6, b7⟩ := hB
    have j27 : (gcx c len p = 43 ∨ gcx c len p = 45) → f_X11_total_J27 S0 (fun a M K => g_P S0 N 0 a M K) (fun a M K => g_P S0 N 1 a M K) (fun a M K => g_P S0 N 2 a M K) (fun a M K => g_P S0 N 3 a M K) (fun a M K => g_P S0 N 4 a M K) (fun a M K => g_P S0 N 5 a M K) 142 M (fun x1 M => f_X11_total_L5 S0 (fun a M K => g_P S0 N 0 a M K) (fun a M K => g_P S0 N 1 a M K) (fun a M K => g_P S0 N 2 a M K) (fun a M K => g_P S0 N 3 a M K) (fun a M K => g_P S0 N 4 a M K) (fun a M K => g_P S0 N 5 a M K) 142 EK K fu x1 M) K := by
      intro hg
      have hpl : p < len := gcx_lt (c := c) (by omega)
      have eg : gcx c len p = c p := by unfold gcx; rw [if_pos hpl]
      have hin : vp_in (nI p) 100 := vp_in_nI (by omega) (by omega)
      have hcl : (nI p).toNatClampNeg = p := nI_clamp (by omega)
      obtain ⟨g1, g2⟩ := b4 p hpl
      unfold f_X11_total_J27
      have ej : jt (gcx c len p) ≠ 0 := by rcases hg with z | z <;> rw [z] <;> decide
      have ec : (2000 : Int32) + nI (c p) = nI (cmk (jt (gcx c len p))) := by rw [cmk_jt ej, ← eg, ← nI_add]; rfl
      simp only [fx_142_3 b1, ex_some, shp_ne (show (144 : Nat) ≠ 100000 by decide), s0_144, ex_sh, h.1, hin, hcl, true_and, forall_eq, g1, nI_1, ec]
      exact h1 (by simp [opw]; exact hg) _ (fMx_pos (Fr_refl _ _ _)) (MS_pos h)
    refine isAt_ok (x := 43) ⟨b1, b2, b3, b4, b5, b6, b7⟩ h.1 hp (by omega) (fun eg => ⟨fun z => absurd z (by decide), fun _ => j27 (Or.inl eg)⟩) (fun n1 => ⟨fun _ => ?_, fun z => absurd rfl z⟩)
    refine isAt_ok (x := 45) ⟨b1, b2, b3, b4, b5, b6, b7⟩ h.1 hp (by omega) (fun eg => ⟨fun z => absurd z (by decide), fun _ => j27 (Or.inr eg)⟩) (fun n2 => ⟨fun _ => h0 (by simp [opw, n1, n2]) M (Fr_refl _ _ _) h, fun z => absurd rfl z⟩)
/-- the first of a row of signs, then its loop -/
theorem LW_in {w N : Nat} {M : Mm} {K : Int32 → Mm → Prop} (hw : LPx w) (h : g_P S0 N (w + 1) 142 M (fun r2 m1 => ∃ fu, LWx w N (fun v11 m12 => (v11 = 0 ∨ v11 = 1) ∧ K v11 m12) K fu r2 m1)) : g_P S0 (N + 1) w 142 M K := by
  rcases hw with rfl | rfl | rfl
  · exact gP0 h
  · exact gP1 h
  · exact gP3 h
