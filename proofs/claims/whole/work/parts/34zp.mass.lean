/-! weights of runs, as numbers -/
def sumTo (f : Nat → Nat) : Nat → Nat
  | 0 => 0
  | n + 1 => sumTo f n + f n
theorem sum_ext {f g : Nat → Nat} : ∀ n, (∀ i, i < n → f i = g i) → sumTo f n = sumTo g n
  | 0, _ => rfl
  | n + 1, h => by
    show sumTo f n + f n = sumTo g n + g n
    rw [sum_ext n (fun i hi => h i (by omega)), h n (by omega)]
theorem sum_add (f g : Nat → Nat) : ∀ n, sumTo (fun i => f i + g i) n = sumTo f n + sumTo g n
  | 0 => rfl
  | n + 1 => by
    show sumTo (fun i => f i + g i) n + (f n + g n) = sumTo f n + f n + (sumTo g n + g n)
    rw [sum_add f g n]; omega
theorem sum_mul (c : Nat) (f : Nat → Nat) : ∀ n, sumTo (fun i => c * f i) n = c * sumTo f n
  | 0 => (Nat.mul_zero c).symm
  | n + 1 => by
    show sumTo (fun i => c * f i) n + c * f n = c * (sumTo f n + f n)
    rw [sum_mul c f n, Nat.mul_add]
theorem sum_mulr (c : Nat) (f : Nat → Nat) : ∀ n, sumTo (fun i => f i * c) n = sumTo f n * c
  | 0 => (Nat.zero_mul c).symm
  | n + 1 => by
    show sumTo (fun i => f i * c) n + f n * c = (sumTo f n + f n) * c
    rw [sum_mulr c f n, Nat.add_mul]
theorem sum_zero {f : Nat → Nat} : ∀ n, (∀ i, i < n → f i = 0) → sumTo f n = 0
  | 0, _ => rfl
  | n + 1, h => by
    show sumTo f n + f n = 0
    rw [sum_zero n (fun i hi => h i (by omega)), h n (by omega)]
theorem sum_swap (f : Nat → Nat → Nat) (m : Nat) : ∀ n, sumTo (fun i => sumTo (fun j => f i j) m) n = sumTo (fun j => sumTo (fun i => f i j) n) m
  | 0 => (sum_zero m (fun _ _ => rfl)).symm
  | n + 1 => by
    show sumTo (fun i => sumTo (fun j => f i j) m) n + sumTo (fun j => f n j) m = sumTo (fun j => sumTo (fun i => f i j) n + f n j) m
    rw [sum_swap f m n, sum_add]
theorem sum_le {f g : Nat → Nat} : ∀ n, (∀ i, i < n → f i ≤ g i) → sumTo f n ≤ sumTo g n
  | 0, _ => Nat.le_refl _
  | n + 1, h => by
    show sumTo f n + f n ≤ sumTo g n + g n
    have := sum_le n (fun i hi => h i (by omega))
    have := h n (by omega)
    omega
theorem sum_mem {f : Nat → Nat} {i : Nat} : ∀ n, i < n → f i ≤ sumTo f n
  | 0, h => absurd h (by omega)
  | n + 1, h => by
    show f i ≤ sumTo f n + f n
    rcases Nat.lt_or_ge i n with z | z
    · have := sum_mem (f := f) n z; omega
    · rw [show i = n by omega]; omega
theorem sum_one {v i0 : Nat} : ∀ n, i0 < n → sumTo (fun i => if i0 = i then v else 0) n = v
  | 0, h => absurd h (by omega)
  | n + 1, h => by
    show sumTo (fun i => if i0 = i then v else 0) n + (if i0 = n then v else 0) = v
    by_cases e : i0 = n
    · rw [if_pos e, sum_zero n (fun i hi => if_neg (by omega))]; omega
    · rw [if_neg e, sum_one n (by omega)]; omega
/-- steps: where each leads, whether it breaks, whether it is sought -/
abbrev Gx : Type := (Nat → Nat) × (Nat → Bool) × (Nat → Bool)
def gT (G : Gx) : Nat → Nat := G.1
def gB (G : Gx) : Nat → Bool := G.2.1
def gS (G : Gx) : Nat → Bool := G.2.2
def okk (b1 b2 : Bool) (G : Gx) (k : Nat) : Bool := !(b1 && gB G k) && !(b2 && gS G k)
/-- what leads from s to t, of the first m steps -/
def DD (b1 b2 : Bool) (G : Gx) (wt : Nat → Nat) (w s t m : Nat) : Nat := sumTo (fun m => if gT G (s * w + m) = t ∧ okk b1 b2 G (s * w + m) = true then wt m else 0) m
/-- the weights of runs of d steps to t without the bits -/
def WW (b1 b2 : Bool) (G : Gx) (wt : Nat → Nat) (w N : Nat) : Nat → Nat → Nat
  | 0, s => if s = 0 then 1 else 0
  | d + 1, t => sumTo (fun s => WW b1 b2 G wt w N d s * DD b1 b2 G wt w s t w) N
theorem DD_s {b1 b2 : Bool} {G : Gx} {wt : Nat → Nat} {w s t m : Nat} : DD b1 b2 G wt w s t (m + 1) = DD b1 b2 G wt w s t m + (if gT G (s * w + m) = t ∧ okk b1 b2 G (s * w + m) = true then wt m else 0) := rfl
/-- the layers, and what leads where -/
def LY (G : Gx) (w N n : Nat) (ly : Nat → Nat) : Prop := 1 ≤ ly 1 ∧ (∀ d, d < n → ∀ k, k < ly (d + 1) * w → gT G k < ly (d + 2)) ∧ (∀ d, ly d ≤ ly (d + 1)) ∧ ly (n + 1) = N
theorem ly_le {ly : Nat → Nat} (h : ∀ d, ly d ≤ ly (d + 1)) {a b : Nat} (hab : a ≤ b) : ly a ≤ ly b := by
  induction hab with
  | refl => exact Nat.le_refl _
  | step _ ih => exact Nat.le_trans ih (h _)
theorem sum_ne {f : Nat → Nat} : ∀ n, sumTo f n ≠ 0 → ∃ i, i < n ∧ f i ≠ 0
  | 0, h => absurd rfl h
  | n + 1, h => by
    by_cases e : f n = 0
    · have h' : sumTo f n + f n ≠ 0 := h
      rw [e, Nat.add_zero] at h'
      obtain ⟨i, h1, h2⟩ := sum_ne n h'
      exact ⟨i, by omega, h2⟩
    · exact ⟨n, by omega, e⟩
theorem WW_sup {b1 b2 : Bool} {G : Gx} {wt : Nat → Nat} {w N n : Nat} {ly : Nat → Nat} (hL : LY G w N n ly) : ∀ d s, d ≤ n → WW b1 b2 G wt w N d s ≠ 0 → s < ly (d + 1)
  | 0, s, hd, h => by
    have e : s = 0 := by
      refine Classical.byContradiction (fun hn => h ?_)
      show (if s = 0 then 1 else 0) = 0
      rw [if_neg hn]
    have := hL.1
    subst e
    show 0 < ly 1
    omega
  | d + 1, t, hd, h => by
    obtain ⟨s, h1, h2⟩ := sum_ne N h
    have hs : WW b1 b2 G wt w N d s ≠ 0 := fun z => h2 (by rw [z, Nat.zero_mul])
    have hD : DD b1 b2 G wt w s t w ≠ 0 := fun z => h2 (by rw [z, Nat.mul_zero])
    have hsl := WW_sup hL d s (by omega) hs
    obtain ⟨m, m1, m2⟩ := sum_ne w hD
    have hk : gT G (s * w + m) = t := by
      refine Classical.byContradiction (fun hn => m2 ?_)
      rw [if_neg (fun z => hn z.1)]
    rw [← hk]
    refine hL.2.1 d (by omega) _ ?_
    have : (s + 1) * w ≤ ly (d + 1) * w := Nat.mul_le_mul_right w hsl
    rw [Nat.add_mul] at this
    omega
theorem DD_sum {G : Gx} {wt : Nat → Nat} {w s N : Nat} : ∀ m, (∀ m', m' < m → gT G (s * w + m') < N) → sumTo (fun t => DD false false G wt w s t m) N = sumTo wt m
  | 0, _ => sum_zero N (fun _ _ => rfl)
  | m + 1, h => by
    show sumTo (fun t => DD false false G wt w s t m + (if gT G (s * w + m) = t ∧ okk false false G (s * w + m) = true then wt m else 0)) N = sumTo wt m + wt m
    rw [sum_add, DD_sum m (fun m' hm' => h m' (by omega))]
    have e : sumTo (fun t => if gT G (s * w + m) = t ∧ okk false false G (s * w + m) = true then wt m else 0) N = wt m := by
      rw [sum_ext (g := fun t => if gT G (s * w + m) = t then wt m else 0) N (fun t ht => ?_)]
      · exact sum_one N (h m (by omega))
      · have ho : okk false false G (s * w + m) = true := rfl
        simp only [ho, and_true]
    rw [e]
theorem WW_tot {G : Gx} {wt : Nat → Nat} {w N n : Nat} {ly : Nat → Nat} (hL : LY G w N n ly) (hN : 0 < N) : ∀ d, d ≤ n → sumTo (WW false false G wt w N d) N = (sumTo wt w) ^ d
  | 0, _ => by
    have := sum_one (v := 1) (i0 := 0) N hN
    rw [Nat.pow_zero]
    rw [← this]
    exact sum_ext N (fun i _ => by
      show (if i = 0 then 1 else 0) = if 0 = i then 1 else 0
      by_cases e : i = 0
      · rw [if_pos e, if_pos e.symm]
      · rw [if_neg e, if_neg (fun z => e z.symm)])
  | d + 1, hd => by
    show sumTo (fun t => sumTo (fun s => WW false false G wt w N d s * DD false false G wt w s t w) N) N = _
    rw [sum_swap (fun t s => WW false false G wt w N d s * DD false false G wt w s t w)]
    rw [sum_ext (g := fun s => WW false false G wt w N d s * sumTo wt w) N (fun s hs => ?_), sum_mulr, WW_tot hL hN d (by omega), Nat.pow_succ]
    rw [sum_mul]
    by_cases e : WW false false G wt w N d s = 0
    · rw [e, Nat.zero_mul, Nat.zero_mul]
    · have hsl := WW_sup hL d s (by omega) e
      rw [DD_sum w (fun m' hm' => ?_)]
      have h1 := hL.2.1 d (by omega) (s * w + m') (by
        have : (s + 1) * w ≤ ly (d + 1) * w := Nat.mul_le_mul_right w hsl
        rw [Nat.add_mul] at this
        omega)
      have h2 := ly_le hL.2.2.1 (show d + 2 ≤ n + 1 by omega)
      rw [hL.2.2.2] at h2
      omega
theorem DD_le {b1 b2 : Bool} {G : Gx} {wt : Nat → Nat} {w s t : Nat} (m : Nat) : DD b1 b2 G wt w s t m ≤ DD false false G wt w s t m := by
  refine sum_le m (fun i hi => ?_)
  by_cases h : gT G (s * w + i) = t ∧ okk b1 b2 G (s * w + i) = true
  · rw [if_pos h, if_pos ⟨h.1, rfl⟩]; exact Nat.le_refl _
  · rw [if_neg h]; exact Nat.zero_le _
theorem WW_le {b1 b2 : Bool} {G : Gx} {wt : Nat → Nat} {w N : Nat} : ∀ d s, WW b1 b2 G wt w N d s ≤ WW false false G wt w N d s
  | 0, s => Nat.le_refl _
  | d + 1, t => sum_le N (fun s _ => Nat.mul_le_mul (WW_le d s) (DD_le w))
/-- the model's masses, by flags -/
def DF (G : Gx) (wt : Nat → Nat) (w s f t g m : Nat) : Nat := sumTo (fun m => if gT G (s * w + m) = t ∧ (f ||| bts (gB G (s * w + m)) (gS G (s * w + m))) = g then wt m else 0) m
def MM (G : Gx) (wt : Nat → Nat) (w N : Nat) : Nat → Nat → Nat → Nat
  | 0, s, f => if s = 0 ∧ f = 0 then 1 else 0
  | d + 1, t, g => sumTo (fun s => sumTo (fun f => MM G wt w N d s f * DF G wt w s f t g w) 4) N
def prj (b1 b2 : Bool) (h : Nat → Nat) : Nat := h 0 + (if b1 then 0 else h 1) + (if b2 then 0 else h 2) + (if b1 || b2 then 0 else h 3)
theorem prj_add (b1 b2 : Bool) (h h' : Nat → Nat) : prj b1 b2 (fun g => h g + h' g) = prj b1 b2 h + prj b1 b2 h' := by
  unfold prj
  cases b1 <;> cases b2 <;> simp <;> omega
theorem prj_z {b1 b2 : Bool} : prj b1 b2 (fun _ => 0) = 0 := by
  unfold prj
  cases b1 <;> cases b2 <;> rfl
theorem prj_mul (b1 b2 : Bool) (c : Nat) (h : Nat → Nat) : prj b1 b2 (fun g => c * h g) = c * prj b1 b2 h := by
  unfold prj
  cases b1 <;> cases b2 <;> simp [Nat.mul_add]
theorem prj_sum (b1 b2 : Bool) (h : Nat → Nat → Nat) : ∀ n, prj b1 b2 (fun g => sumTo (fun s => h s g) n) = sumTo (fun s => prj b1 b2 (h s)) n
  | 0 => by unfold prj; cases b1 <;> cases b2 <;> rfl
  | n + 1 => by
    show prj b1 b2 (fun g => sumTo (fun s => h s g) n + h n g) = sumTo (fun s => prj b1 b2 (h s)) n + prj b1 b2 (h n)
    rw [prj_add, prj_sum b1 b2 h n]
/-- flags f have none of the bits -/
def pas (b1 b2 : Bool) (f : Nat) : Bool := !(b1 && f.testBit 0) && !(b2 && f.testBit 1)
theorem prj_one : ∀ b1 b2 x y : Bool, ∀ f, f < 4 → ∀ v : Bool, prj b1 b2 (fun g => if (f ||| bts x y) = g then (if v then 1 else 0) else 0) = if pas b1 b2 f = true ∧ (!(b1 && x) && !(b2 && y)) = true then (if v then 1 else 0) else 0 := by decide +kernel
theorem prj_o {b1 b2 x y : Bool} {f v : Nat} (hf : f < 4) : prj b1 b2 (fun g => if (f ||| bts x y) = g then v else 0) = if pas b1 b2 f = true ∧ (!(b1 && x) && !(b2 && y)) = true then v else 0 := by
  have h := prj_one b1 b2 x y f hf true
  have e : (fun g => if (f ||| bts x y) = g then v else 0) = fun g => v * (if (f ||| bts x y) = g then (if true then 1 else 0) else 0) := by
    funext g
    by_cases e : (f ||| bts x y) = g
    · rw [if_pos e, if_pos e, if_pos rfl, Nat.mul_one]
    · rw [if_neg e, if_neg e, Nat.mul_zero]
  rw [e, prj_mul, h]
  by_cases q : pas b1 b2 f = true ∧ (!(b1 && x) && !(b2 && y)) = true
  · rw [if_pos q, if_pos q, if_pos rfl, Nat.mul_one]
  · rw [if_neg q, if_neg q, Nat.mul_zero]
theorem prj_DF {b1 b2 : Bool} {G : Gx} {wt : Nat → Nat} {w s f t : Nat} (hf : f < 4) : ∀ m, prj b1 b2 (fun g => DF G wt w s f t g m) = if pas b1 b2 f = true then DD b1 b2 G wt w s t m else 0
  | 0 => by
    show prj b1 b2 (fun _ => 0) = if pas b1 b2 f = true then 0 else 0
    rw [prj_z]
    split <;> rfl
  | m + 1 => by
    show prj b1 b2 (fun g => DF G wt w s f t g m + (if gT G (s * w + m) = t ∧ (f ||| bts (gB G (s * w + m)) (gS G (s * w + m))) = g then wt m else 0)) = _
    rw [prj_add, prj_DF hf m, DD_s]
    have e : prj b1 b2 (fun g => if gT G (s * w + m) = t ∧ (f ||| bts (gB G (s * w + m)) (gS G (s * w + m))) = g then wt m else 0) = if pas b1 b2 f = true ∧ gT G (s * w + m) = t ∧ okk b1 b2 G (s * w + m) = true then wt m else 0 := by
      by_cases h : gT G (s * w + m) = t
      · rw [show (fun g => if gT G (s * w + m) = t ∧ (f ||| bts (gB G (s * w + m)) (gS G (s * w + m))) = g then wt m else 0) = fun g => if (f ||| bts (gB G (s * w + m)) (gS G (s * w + m))) = g then wt m else 0 by funext g; simp only [h, true_and], prj_o hf]
        unfold okk
        simp only [h, true_and]
      · rw [show (fun g => if gT G (s * w + m) = t ∧ (f ||| bts (gB G (s * w + m)) (gS G (s * w + m))) = g then wt m else 0) = fun _ => 0 by funext g; rw [if_neg (fun z => h z.1)], if_neg (fun z => h z.2.1)]
        exact prj_z
    rw [e]
    by_cases q : pas b1 b2 f = true
    · rw [if_pos q, if_pos q]
      by_cases q2 : gT G (s * w + m) = t ∧ okk b1 b2 G (s * w + m) = true
      · rw [if_pos ⟨q, q2⟩, if_pos q2]
      · rw [if_neg (fun z => q2 z.2), if_neg q2]
    · rw [if_neg q, if_neg q, if_neg (fun z => q z.1)]
theorem prj_4 {b1 b2 : Bool} (h : Nat → Nat) : prj b1 b2 h = sumTo (fun f => if pas b1 b2 f = true then h f else 0) 4 := by
  unfold prj
  show _ = 0 + (if pas b1 b2 0 = true then h 0 else 0) + (if pas b1 b2 1 = true then h 1 else 0) + (if pas b1 b2 2 = true then h 2 else 0) + (if pas b1 b2 3 = true then h 3 else 0)
  cases b1 <;> cases b2 <;> simp [pas, show Nat.testBit 1 1 = false from rfl, show Nat.testBit 2 1 = true from rfl, show Nat.testBit 3 1 = true from rfl, show Nat.testBit 1 0 = true from rfl, show Nat.testBit 2 0 = false from rfl, show Nat.testBit 3 0 = true from rfl]
theorem MM_prj {b1 b2 : Bool} {G : Gx} {wt : Nat → Nat} {w N : Nat} : ∀ d s, prj b1 b2 (MM G wt w N d s) = WW b1 b2 G wt w N d s
  | 0, s => by
    show prj b1 b2 (fun f => if s = 0 ∧ f = 0 then 1 else 0) = if s = 0 then 1 else 0
    unfold prj
    by_cases e : s = 0
    · cases b1 <;> cases b2 <;> simp [e]
    · cases b1 <;> cases b2 <;> simp [e]
  | d + 1, t => by
    show prj b1 b2 (fun g => sumTo (fun s => sumTo (fun f => MM G wt w N d s f * DF G wt w s f t g w) 4) N) = sumTo (fun s => WW b1 b2 G wt w N d s * DD b1 b2 G wt w s t w) N
    rw [prj_sum b1 b2 (fun s g => sumTo (fun f => MM G wt w N d s f * DF G wt w s f t g w) 4)]
    refine sum_ext N (fun s _ => ?_)
    rw [prj_sum b1 b2 (fun f g => MM G wt w N d s f * DF G wt w s f t g w), ← MM_prj d s, prj_4, ← sum_mulr]
    refine sum_ext 4 (fun f hf => ?_)
    rw [prj_mul, prj_DF hf]
    by_cases q : pas b1 b2 f = true
    · rw [if_pos q, if_pos q]
    · rw [if_neg q, if_neg q, Nat.mul_zero, Nat.zero_mul]
