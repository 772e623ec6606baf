def f_X11_some_B5 (S : Ss) (X_X11_some : Nat → Mm → (Int32 → Mm → Prop) → Prop) (X_X11_every : Nat → Mm → (Int32 → Mm → Prop) → Prop) (X_X11_compared : Nat → Mm → (Int32 → Mm → Prop) → Prop) (X_X11_total : Nat → Mm → (Int32 → Mm → Prop) → Prop) (X_X11_ahead : Nat → Mm → (Int32 → Mm → Prop) → Prop) (X_X11_thing : Nat → Mm → (Int32 → Mm → Prop) → Prop) (a0 : Nat) (x1 : Int32) (M : Mm) (BK5 : Int32 → Mm → Prop) (EK5 : Int32 → Mm → Prop) (K : Int32 → Mm → Prop) : Prop :=
  ((x1 = 0 →
    EK5 x1 M) ∧
   (¬ x1 = 0 →
    f_X11_comes S a0 (124 : Int32) M (fun (r5 : Int32) (m4 : Mm) =>
      ((r5 = 0 →
      EK5 x1 m4) ∧
     (¬ r5 = 0 →
      X_X11_every a0  m4 (fun (r8 : Int32) (m7 : Mm) =>
        ((r8 = 0 →
        BK5 r8 m7) ∧
       (¬ r8 = 0 →
        f_X11_marks S a0 (2124 : Int32) m7 (fun (m10 : Mm) =>
          BK5 r8 m10)))))))))
set_option maxHeartbeats 4000000 in
set_option maxRecDepth 100000 in
theorem w_X11_some_B5 {p : Program} {l : Launch} {e : Env} {s : State} {m : MethodId} {args : Array Value} {below : List Frame} {meth : Method} {c : Code} {g : Gg} {S : Ss} (X_X11_some : Nat → Mm → (Int32 → Mm → Prop) → Prop) (X_X11_every : Nat → Mm → (Int32 → Mm → Prop) → Prop) (X_X11_compared : Nat → Mm → (Int32 → Mm → Prop) → Prop) (X_X11_total : Nat → Mm → (Int32 → Mm → Prop) → Prop) (X_X11_ahead : Nat → Mm → (Int32 → Mm → Prop) → Prop) (X_X11_thing : Nat → Mm → (Int32 → Mm → Prop) → Prop) (a0 : Nat) (x1 : Int32) (M : Mm) (BK5 : Int32 → Mm → Prop) (EK5 : Int32 → Mm → Prop) (K : Int32 → Mm → Prop) {dX : Nat} (h10 : 10 ≤ dX) (hX_X11_some : ∀ (M : Mm) (K : Int32 → Mm → Prop), X_X11_some a0 M K → MT l g S yX11_some cX11_some 2 (some .boolean) dX [.ref (ad g a0)] M (pI K)) (hX_X11_every : ∀ (M : Mm) (K : Int32 → Mm → Prop), X_X11_every a0 M K → MT l g S yX11_every cX11_every 2 (some .boolean) dX [.ref (ad g a0)] M (pI K)) (hX_X11_compared : ∀ (M : Mm) (K : Int32 → Mm → Prop), X_X11_compared a0 M K → MT l g S yX11_compared cX11_compared 3 (some .boolean) dX [.ref (ad g a0)] M (pI K)) (hX_X11_total : ∀ (M : Mm) (K : Int32 → Mm → Prop), X_X11_total a0 M K → MT l g S yX11_total cX11_total 3 (some .boolean) dX [.ref (ad g a0)] M (pI K)) (hX_X11_ahead : ∀ (M : Mm) (K : Int32 → Mm → Prop), X_X11_ahead a0 M K → MT l g S yX11_ahead cX11_ahead 3 (some .boolean) dX [.ref (ad g a0)] M (pI K)) (hX_X11_thing : ∀ (M : Mm) (K : Int32 → Mm → Prop), X_X11_thing a0 M K → MT l g S yX11_thing cX11_thing 2 (some .boolean) dX [.ref (ad g a0)] M (pI K)) (E : EN p s m args meth c cX11_some 2 (some .boolean) RX11 g) (hw : ad g 100000 < s.heap.size) (hs0 : S[a0]? = some (10, 0)) (hBK5 : ∀ (x1' : Int32) (M' : Mm) (H : Heap) (locs : List Loc) (ls : Array Slot), BK5 x1' M' → RP g S M' H → va_S (gA g) s.heap H locs → lv_has ls 2 [(0, .ref (ad g a0)), (1, .int x1')] → W p l e (rmD (dX + 1)) s m args below meth c H locs 0 0 (MQ below (QA g S (pI K)) args s 0 0 (gA g)) (F0 m 5 ls [])) (hEK5 : ∀ (x1' : Int32) (M' : Mm) (H : Heap) (locs : List Loc) (ls : Array Slot), EK5 x1' M' → RP g S M' H → va_S (gA g) s.heap H locs → lv_has ls 2 [(0, .ref (ad g a0)), (1, .int x1')] → W p l e (rmD (dX + 1)) s m args below meth c H locs 0 0 (MQ below (QA g S (pI K)) args s 0 0 (gA g)) (F0 m 37 ls [])) (hf : f_X11_some_B5 S X_X11_some X_X11_every X_X11_compared X_X11_total X_X11_ahead X_X11_thing a0 x1 M BK5 EK5 K) (H : Heap) (locs : List Loc) (ls : Array Slot) (hR : RP g S M H) (hS : va_S (gA g) s.heap H locs) (hl : lv_has ls 2 [(0, .ref (ad g a0)), (1, .int x1)]) : W p l e (rmD (dX + 1)) s m args below meth c H locs 0 0 (MQ below (QA g S (pI K)) args s 0 0 (gA g)) (F0 m 5 ls []) := by
  have hx := E.1
  have hb := E.2.1
  unfold f_X11_some_B5 at hf
  refine lv_iload_n hx hb dX11_some_5 rfl (lv_at hl 1 rfl) ?_
  refine lv_if_eq (tgt := 37) hx hb dX11_some_6 (by decide) (fun c3 => ?_) (fun c3 => ?_)
  · replace hf := hf.1 c3
    exact hEK5 _ _ _ _ _ hf hR hS (lv_sub hl [0, 1] rfl)
  · replace hf := hf.2 c3
    refine lv_aload_n hx hb dX11_some_9 rfl (lv_at hl 0 rfl) ?_
    refine lv_bipush (v := 124) hx hb dX11_some_10 (by decide) ?_
    refine hw_callV (d := (dX + 1)) E hR hS (As := [.int (124 : Int32)]) (rest := []) cI10 hs0 rfl mcX11_comes miX11_comes lmX11_86 (ok_X11_comes hs0 hf) rfl rfl (by omega) hl.1 (Nat.le_of_ble_eq_true rfl) dX11_some_12 (fun rr m4 H locs hp hR hS => ?_)
    obtain ⟨r5, rfl, hf⟩ := hp
    refine W.eq (g2 := F0 m 15 ls [.int r5]) rfl ?_
    refine lv_if_eq (tgt := 37) hx hb dX11_some_15 (by decide) (fun c6 => ?_) (fun c6 => ?_)
    · replace hf := hf.1 c6
      exact hEK5 _ _ _ _ _ hf hR hS (lv_sub hl [0, 1] rfl)
    · replace hf := hf.2 c6
      refine lv_aload_n hx hb dX11_some_18 rfl (lv_at hl 0 rfl) ?_
      refine hw_callV (d := (dX + 1)) E hR hS (As := []) (rest := []) cI10 hs0 rfl mcX11_every miX11_every lmX11_101 (hX_X11_every _ _ hf) rfl rfl (Nat.le_refl _) hl.1 (Nat.le_of_ble_eq_true rfl) dX11_some_19 (fun rr m7 H locs hp hR hS => ?_)
      obtain ⟨r8, rfl, hf⟩ := hp
      refine W.eq (g2 := F0 m 22 ls [.int r8]) rfl ?_
      refine lv_istore_n (lv' := [(1, .int r8), (0, .ref (ad g a0))]) hx hb dX11_some_22 rfl hl (by decide) rfl (fun ls hl => ?_)
      refine lv_iload_n hx hb dX11_some_23 rfl (lv_at hl 0 rfl) ?_
      refine lv_if_eq (tgt := 5) hx hb dX11_some_24 (by decide) (fun c9 => ?_) (fun c9 => ?_)
      · replace hf := hf.1 c9
        exact hBK5 _ _ _ _ _ hf hR hS (lv_sub hl [1, 0] rfl)
      · replace hf := hf.2 c9
        refine lv_aload_n hx hb dX11_some_27 rfl (lv_at hl 1 rfl) ?_
        refine lv_sipush (v := 2124) hx hb dX11_some_28 (by decide) ?_
        refine hw_callV (d := (dX + 1)) E hR hS (As := [.int (2124 : Int32)]) (rest := []) cI10 hs0 rfl mcX11_marks miX11_marks lmX11_72 (ok_X11_marks hs0 hf) rfl rfl (by omega) hl.1 (Nat.le_of_ble_eq_true rfl) dX11_some_31 (fun rr m10 H locs hp hR hS => ?_)
        obtain ⟨rfl, hf⟩ := hp
        refine W.eq (g2 := F0 m 34 ls []) rfl ?_
        refine lv_goto (tgt := 5) hx hb dX11_some_34 (by decide) ?_
        exact hBK5 _ _ _ _ _ hf hR hS (lv_sub hl [1, 0] rfl)
def f_X11_some_L5 (S : Ss) (X_X11_some : Nat → Mm → (Int32 → Mm → Prop) → Prop) (X_X11_every : Nat → Mm → (Int32 → Mm → Prop) → Prop) (X_X11_compared : Nat → Mm → (Int32 → Mm → Prop) → Prop) (X_X11_total : Nat → Mm → (Int32 → Mm → Prop) → Prop) (X_X11_ahead : Nat → Mm → (Int32 → Mm → Prop) → Prop) (X_X11_thing : Nat → Mm → (Int32 → Mm → Prop) → Prop) (a0 : Nat) (EK5 : Int32 → Mm → Prop) (K : Int32 → Mm → Prop) : Nat → Int32 → Mm → Prop
  | 0, _, _ => False
  | n + 1, x1, M => f_X11_some_B5 S X_X11_some X_X11_every X_X11_compared X_X11_total X_X11_ahead X_X11_thing a0 x1 M (fun (x1 : Int32) (M : Mm) => f_X11_some_L5 S X_X11_some X_X11_every X_X11_compared X_X11_total X_X11_ahead X_X11_thing a0 EK5 K n x1 M) EK5 K
set_option maxHeartbeats 4000000 in
set_option maxRecDepth 100000 in
theorem w_X11_some_L5 {p : Program} {l : Launch} {e : Env} {s : State} {m : MethodId} {args : Array Value} {below : List Frame} {meth : Method} {c : Code} {g : Gg} {S : Ss} (X_X11_some : Nat → Mm → (Int32 → Mm → Prop) → Prop) (X_X11_every : Nat → Mm → (Int32 → Mm → Prop) → Prop) (X_X11_compared : Nat → Mm → (Int32 → Mm → Prop) → Prop) (X_X11_total : Nat → Mm → (Int32 → Mm → Prop) → Prop) (X_X11_ahead : Nat → Mm → (Int32 → Mm → Prop) → Prop) (X_X11_thing : Nat → Mm → (Int32 → Mm → Prop) → Prop) (a0 : Nat) (EK5 : Int32 → Mm → Prop) (K : Int32 → Mm → Prop) {dX : Nat} (h10 : 10 ≤ dX) (hX_X11_some : ∀ (M : Mm) (K : Int32 → Mm → Prop), X_X11_some a0 M K → MT l g S yX11_some cX11_some 2 (some .boolean) dX [.ref (ad g a0)] M (pI K)) (hX_X11_every : ∀ (M : Mm) (K : Int32 → Mm → Prop), X_X11_every a0 M K → MT l g S yX11_every cX11_every 2 (some .boolean) dX [.ref (ad g a0)] M (pI K)) (hX_X11_compared : ∀ (M : Mm) (K : Int32 → Mm → Prop), X_X11_compared a0 M K → MT l g S yX11_compared cX11_compared 3 (some .boolean) dX [.ref (ad g a0)] M (pI K)) (hX_X11_total : ∀ (M : Mm) (K : Int32 → Mm → Prop), X_X11_total a0 M K → MT l g S yX11_total cX11_total 3 (some .boolean) dX [.ref (ad g a0)] M (pI K)) (hX_X11_ahead : ∀ (M : Mm) (K : Int32 → Mm → Prop), X_X11_ahead a0 M K → MT l g S yX11_ahead cX11_ahead 3 (some .boolean) dX [.ref (ad g a0)] M (pI K)) (hX_X11_thing : ∀ (M : Mm) (K : Int32 → Mm → Prop), X_X11_thing a0 M K → MT l g S yX11_thing cX11_thing 2 (some .boolean) dX [.ref (ad g a0)] M (pI K)) (E : EN p s m args meth c cX11_some 2 (some .boolean) RX11 g) (hw : ad g 100000 < s.heap.size) (hs0 : S[a0]? = some (10, 0)) (hEK5 : ∀ (x1' : Int32) (M' : Mm) (H : Heap) (locs : List Loc) (ls : Array Slot), EK5 x1' M' → RP g S M' H → va_S (gA g) s.heap H locs → lv_has ls 2 [(0, .ref (ad g a0)), (1, .int x1')] → W p l e (rmD (dX + 1)) s m args below meth c H locs 0 0 (MQ below (QA g S (pI K)) args s 0 0 (gA g)) (F0 m 37 ls [])) : ∀ (n : Nat) (x1 : Int32) (M : Mm), f_X11_some_L5 S X_X11_some X_X11_every X_X11_compared X_X11_total X_X11_ahead X_X11_thing a0 EK5 K n x1 M → ∀ (H : Heap) (locs : List Loc) (ls : Array Slot), RP g S M H → va_S (gA g) s.heap H locs → lv_has ls 2 [(0, .ref (ad g a0)), (1, .int x1)] → W p l e (rmD (dX + 1)) s m args below meth c H locs 0 0 (MQ below (QA g S (pI K)) args s 0 0 (gA g)) (F0 m 5 ls []) := by
  intro n
  induction n with
  | zero => intro x1 M hf; exact hf.elim
  | succ n ih =>
    intro x1 M hf H locs ls hR hS hl
    exact w_X11_some_B5 _ _ _ _ _ _ _ _ _ _ _ _ h10 hX_X11_some hX_X11_every hX_X11_compared hX_X11_total hX_X11_ahead hX_X11_thing E hw hs0 (fun _ M H locs ls h hR hS hl => ih _ M h H locs ls hR hS hl) hEK5 hf H locs ls hR hS hl
def f_X11_some (S : Ss) (X_X11_some : Nat → Mm → (Int32 → Mm → Prop) → Prop) (X_X11_every : Nat → Mm → (Int32 → Mm → Prop) → Prop) (X_X11_compared : Nat → Mm → (Int32 → Mm → Prop) → Prop) (X_X11_total : Nat → Mm → (Int32 → Mm → Prop) → Prop) (X_X11_ahead : Nat → Mm → (Int32 → Mm → Prop) → Prop) (X_X11_thing : Nat → Mm → (Int32 → Mm → Prop) → Prop) (a0 : Nat) (M : Mm) (K : Int32 → Mm → Prop) : Prop :=
  X_X11_every a0  M (fun (r2 : Int32) (m1 : Mm) =>
    ∃ n13 : Nat, f_X11_some_L5 S X_X11_some X_X11_every X_X11_compared X_X11_total X_X11_ahead X_X11_thing a0 (fun (v11 : Int32) (m12 : Mm) =>
    (v11 = 0 ∨ v11 = 1) ∧ K v11 m12) K n13 r2 m1)
set_option maxHeartbeats 4000000 in
set_option maxRecDepth 100000 in
theorem ok_X11_some {l : Launch} {g : Gg} {S : Ss} (X_X11_some : Nat → Mm → (Int32 → Mm → Prop) → Prop) (X_X11_every : Nat → Mm → (Int32 → Mm → Prop) → Prop) (X_X11_compared : Nat → Mm → (Int32 → Mm → Prop) → Prop) (X_X11_total : Nat → Mm → (Int32 → Mm → Prop) → Prop) (X_X11_ahead : Nat → Mm → (Int32 → Mm → Prop) → Prop) (X_X11_thing : Nat → Mm → (Int32 → Mm → Prop) → Prop) {a0 : Nat} {M : Mm} {K : Int32 → Mm → Prop} {dX : Nat} (h10 : 10 ≤ dX) (hX_X11_some : ∀ (M : Mm) (K : Int32 → Mm → Prop), X_X11_some a0 M K → MT l g S yX11_some cX11_some 2 (some .boolean) dX [.ref (ad g a0)] M (pI K)) (hX_X11_every : ∀ (M : Mm) (K : Int32 → Mm → Prop), X_X11_every a0 M K → MT l g S yX11_every cX11_every 2 (some .boolean) dX [.ref (ad g a0)] M (pI K)) (hX_X11_compared : ∀ (M : Mm) (K : Int32 → Mm → Prop), X_X11_compared a0 M K → MT l g S yX11_compared cX11_compared 3 (some .boolean) dX [.ref (ad g a0)] M (pI K)) (hX_X11_total : ∀ (M : Mm) (K : Int32 → Mm → Prop), X_X11_total a0 M K → MT l g S yX11_total cX11_total 3 (some .boolean) dX [.ref (ad g a0)] M (pI K)) (hX_X11_ahead : ∀ (M : Mm) (K : Int32 → Mm → Prop), X_X11_ahead a0 M K → MT l g S yX11_ahead cX11_ahead 3 (some .boolean) dX [.ref (ad g a0)] M (pI K)) (hX_X11_thing : ∀ (M : Mm) (K : Int32 → Mm → Prop), X_X11_thing a0 M K → MT l g S yX11_thing cX11_thing 2 (some .boolean) dX [.ref (ad g a0)] M (pI K)) (hs0 : S[a0]? = some (10, 0)) (hf : f_X11_some S X_X11_some X_X11_every X_X11_compared X_X11_total X_X11_ahead X_X11_thing a0 M K) : MT l g S yX11_some cX11_some 2 (some .boolean) (dX + 1) [.ref (ad g a0)] M (pI K) := by
  refine MT.of (by decide +kernel) (Nat.le_of_ble_eq_true rfl) ?_
  intro p e s m below meth c ls E hw hR hS hl
  have hl : lv_has ls 2 [(0, .ref (ad g a0))] := hl
  generalize ([.ref (ad g a0)] : List Value).toArray = args at E ⊢
  have E : EN p s m args meth c cX11_some 2 (some .boolean) RX11 g := E
  have hx := E.1
  have hb := E.2.1
  unfold f_X11_some at hf
  refine lv_aload_n hx hb dX11_some_0 rfl (lv_at hl 0 rfl) ?_
  refine hw_callV (d := (dX + 1)) E hR hS (As := []) (rest := []) cI10 hs0 rfl mcX11_every miX11_every lmX11_101 (hX_X11_every _ _ hf) rfl rfl (Nat.le_refl _) hl.1 (Nat.le_of_ble_eq_true rfl) dX11_some_1 (fun rr m1 H locs hp hR hS => ?_)
  obtain ⟨r2, rfl, hf⟩ := hp
  refine W.eq (g2 := F0 m 4 ls [.int r2]) rfl ?_
  refine lv_istore_n (lv' := [(1, .int r2), (0, .ref (ad g a0))]) hx hb dX11_some_4 rfl hl (by decide) rfl (fun ls hl => ?_)
  obtain ⟨n13, hf⟩ := hf
  refine w_X11_some_L5 _ _ _ _ _ _ _ _ _ h10 hX_X11_some hX_X11_every hX_X11_compared hX_X11_total hX_X11_ahead hX_X11_thing E hw hs0 ?_ n13 _ _ hf _ _ _ hR hS (lv_sub hl [1, 0] rfl)
  intro v11 m12 H locs ls hf hR hS hl
  refine lv_iload_n hx hb dX11_some_37 rfl (lv_at hl 1 rfl) ?_
  exact hw_zret E hR hS hf.1 ⟨_, rfl, hf.2⟩ dX11_some_38
def f_X11_every_B5 (S : Ss) (X_X11_some : Nat → Mm → (Int32 → Mm → Prop) → Prop) (X_X11_every : Nat → Mm → (Int32 → Mm → Prop) → Prop) (X_X11_compared : Nat → Mm → (Int32 → Mm → Prop) → Prop) (X_X11_total : Nat → Mm → (Int32 → Mm → Prop) → Prop) (X_X11_ahead : Nat → Mm → (Int32 → Mm → Prop) → Prop) (X_X11_thing : Nat → Mm → (Int32 → Mm → Prop) → Prop) (a0 : Nat) (x1 : Int32) (M : Mm) (BK5 : Int32 → Mm → Prop) (EK5 : Int32 → Mm → Prop) (K : Int32 → Mm → Prop) : Prop :=
  ((x1 = 0 →
    EK5 x1 M) ∧
   (¬ x1 = 0 →
    f_X11_comes S a0 (38 : Int32) M (fun (r5 : Int32) (m4 : Mm) =>
      ((r5 = 0 →
      EK5 x1 m4) ∧
     (¬ r5 = 0 →
      X_X11_compared a0  m4 (fun (r8 : Int32) (m7 : Mm) =>
        ((r8 = 0 →
        BK5 r8 m7) ∧
       (¬ r8 = 0 →
        f_X11_marks S a0 (2038 : Int32) m7 (fun (m10 : Mm) =>
          BK5 r8 m10)))))))))
set_option maxHeartbeats 4000000 in
set_option maxRecDepth 100000 in
theorem w_X11_every_B5 {p : Program} {l : Launch} {e : Env} {s : State} {m : MethodId} {args : Array Value} {below : List Frame} {meth : Method} {c : Code} {g : Gg} {S : Ss} (X_X11_some : Nat → Mm → (Int32 → Mm → Prop) → Prop) (X_X11_every : Nat → Mm → (Int32 → Mm → Prop) → Prop) (X_X11_compared : Nat → Mm → (Int32 → Mm → Prop) → Prop) (X_X11_total : Nat → Mm → (Int32 → Mm → Prop) → Prop) (X_X11_ahead : Nat → Mm → (Int32 → Mm → Prop) → Prop) (X_X11_thing : Nat → Mm → (Int32 → Mm → Prop) → Prop) (a0 : Nat) (x1 : Int32) (M : Mm) (BK5 : Int32 → Mm → Prop) (EK5 : Int32 → Mm → Prop) (K : Int32 → Mm → Prop) {dX : Nat} (h10 : 10 ≤ dX) (hX_X11_some : ∀ (M : Mm) (K : Int32 → Mm → Prop), X_X11_some a0 M K → MT l g S yX11_some cX11_some 2 (some .boolean) dX [.ref (ad g a0)] M (pI K)) (hX_X11_every : ∀ (M : Mm) (K : Int32 → Mm → Prop), X_X11_every a0 M K → MT l g S yX11_every cX11_every 2 (some .boolean) dX [.ref (ad g a0)] M (pI K)) (hX_X11_compared : ∀ (M : Mm) (K : Int32 → Mm → Prop), X_X11_compared a0 M K → MT l g S yX11_compared cX11_compared 3 (some .boolean) dX [.ref (ad g a0)] M (pI K)) (hX_X11_total : ∀ (M : Mm) (K : Int32 → Mm → Prop), X_X11_total a0 M K → MT l g S yX11_total cX11_total 3 (some .boolean) dX [.ref (ad g a0)] M (pI K)) (hX_X11_ahead : ∀ (M : Mm) (K : Int32 → Mm → Prop), X_X11_ahead a0 M K → MT l g S yX11_ahead cX11_ahead 3 (some .boolean) dX [.ref (ad g a0)] M (pI K)) (hX_X11_thing : ∀ (M : Mm) (K : Int32 → Mm → Prop), X_X11_thing a0 M K → MT l g S yX11_thing cX11_thing 2 (some .boolean) dX [.ref (ad g a0)] M (pI K)) (E : EN p s m args meth c cX11_every 2 (some .boolean) RX11 g) (hw : ad g 100000 < s.heap.size) (hs0 : S[a0]? = some (10, 0)) (hBK5 : ∀ (x1' : Int32) (M' : Mm) (H : Heap) (locs : List Loc) (ls : Array Slot), BK5 x1' M' → RP g S M' H → va_S (gA g) s.heap H locs → lv_has ls 2 [(0, .ref (ad g a0)), (1, .int x1')] → W p l e (rmD (dX + 1)) s m args below meth c H locs 0 0 (MQ below (QA g S (pI K)) args s 0 0 (gA g)) (F0 m 5 ls [])) (hEK5 : ∀ (x1' : Int32) (M' : Mm) (H : Heap) (locs : List Loc) (ls : Array Slot), EK5 x1' M' → RP g S M' H → va_S (gA g) s.heap H locs → lv_has ls 2 [(0, .ref (ad g a0)), (1, .int x1')] → W p l e (rmD (dX + 1)) s m args below meth c H locs 0 0 (MQ below (QA g S (pI K)) args s 0 0 (gA g)) (F0 m 37 ls [])) (hf : f_X11_every_B5 S X_X11_some X_X11_every X_X11_compared X_X11_total X_X11_ahead X_X11_thing a0 x1 M BK5 EK5 K) (H : Heap) (locs : List Loc) (ls : Array Slot) (hR : RP g S M H) (hS : va_S (gA g) s.heap H locs) (hl : lv_has ls 2 [(0, .ref (ad g a0)), (1, .int x1)]) : W p l e (rmD (dX + 1)) s m args below meth c H locs 0 0 (MQ below (QA g S (pI K)) args s 0 0 (gA g)) (F0 m 5 ls []) := by
  have hx := E.1
  have hb := E.2.1
  unfold f_X11_every_B5 at hf
  refine lv_iload_n hx hb dX11_every_5 rfl (lv_at hl 1 rfl) ?_
  refine lv_if_eq (tgt := 37) hx hb dX11_every_6 (by decide) (fun c3 => ?_) (fun c3 => ?_)
  · replace hf := hf.1 c3
    exact hEK5 _ _ _ _ _ hf hR hS (lv_sub hl [0, 1] rfl)
  · replace hf := hf.2 c3
    refine lv_aload_n hx hb dX11_every_9 rfl (lv_at hl 0 rfl) ?_
    refine lv_bipush (v := 38) hx hb dX11_every_10 (by decide) ?_
    refine hw_callV (d := (dX + 1)) E hR hS (As := [.int (38 : Int32)]) (rest := []) cI10 hs0 rfl mcX11_comes miX11_comes lmX11_86 (ok_X11_comes hs0 hf) rfl rfl (by omega) hl.1 (Nat.le_of_ble_eq_true rfl) dX11_every_12 (fun rr m4 H locs hp hR hS => ?_)
    obtain ⟨r5, rfl, hf⟩ := hp
    refine W.eq (g2 := F0 m 15 ls [.int r5]) rfl ?_
    refine lv_if_eq (tgt := 37) hx hb dX11_every_15 (by decide) (fun c6 => ?_) (fun c6 => ?_)
    · replace hf := hf.1 c6
      exact hEK5 _ _ _ _ _ hf hR hS (lv_sub hl [0, 1] rfl)
    · replace hf := hf.2 c6
      refine lv_aload_n hx hb dX11_every_18 rfl (lv_at hl 0 rfl) ?_
      refine hw_callV (d := (dX + 1)) E hR hS (As := []) (rest := []) cI10 hs0 rfl mcX11_compared miX11_compared lmX11_98 (hX_X11_compared _ _ hf) rfl rfl (Nat.le_refl _) hl.1 (Nat.le_of_ble_eq_true rfl) dX11_every_19 (fun rr m7 H locs hp hR hS => ?_)
      obtain ⟨r8, rfl, hf⟩ := hp
      refine W.eq (g2 := F0 m 22 ls [.int r8]) rfl ?_
      refine lv_istore_n (lv' := [(1, .int r8), (0, .ref (ad g a0))]) hx hb dX11_every_22 rfl hl (by decide) rfl (fun ls hl => ?_)
      refine lv_iload_n hx hb dX11_every_23 rfl (lv_at hl 0 rfl) ?_
      refine lv_if_eq (tgt := 5) hx hb dX11_every_24 (by decide) (fun c9 => ?_) (fun c9 => ?_)
      · replace hf := hf.1 c9
        exact hBK5 _ _ _ _ _ hf hR hS (lv_sub hl [1, 0] rfl)
      · replace hf := hf.2 c9
        refine lv_aload_n hx hb dX11_every_27 rfl (lv_at hl 1 rfl) ?_
        refine lv_sipush (v := 2038) hx hb dX11_every_28 (by decide) ?_
        refine hw_callV (d := (dX + 1)) E hR hS (As := [.int (2038 : Int32)]) (rest := []) cI10 hs0 rfl mcX11_marks miX11_marks lmX11_72 (ok_X11_marks hs0 hf) rfl rfl (by omega) hl.1 (Nat.le_of_ble_eq_true rfl) dX11_every_31 (fun rr m10 H locs hp hR hS => ?_)
        obtain ⟨rfl, hf⟩ := hp
        refine W.eq (g2 := F0 m 34 ls []) rfl ?_
        refine lv_goto (tgt := 5) hx hb dX11_every_34 (by decide) ?_
        exact hBK5 _ _ _ _ _ hf hR hS (lv_sub hl [1, 0] rfl)
def f_X11_every_L5 (S : Ss) (X_X11_some : Nat → Mm → (Int32 → Mm → Prop) → Prop) (X_X11_every : Nat → Mm → (Int32 → Mm → Prop) → Prop) (X_X11_compared : Nat → Mm → (Int32 → Mm → Prop) → Prop) (X_X11_total : Nat → Mm → (Int32 → Mm → Prop) → Prop) (X_X11_ahead : Nat → Mm → (Int32 → Mm → Prop) → Prop) (X_X11_thing : Nat → Mm → (Int32 → Mm → Prop) → Prop) (a0 : Nat) (EK5 : Int32 → Mm → Prop) (K : Int32 → Mm → Prop) : Nat → Int32 → Mm → Prop
  | 0, _, _ => False
  | n + 1, x1, M => f_X11_every_B5 S X_X11_some X_X11_every X_X11_compared X_X11_total X_X11_ahead X_X11_thing a0 x1 M (fun (x1 : Int32) (M : Mm) => f_X11_every_L5 S X_X11_some X_X11_every X_X11_compared X_X11_total X_X11_ahead X_X11_thing a0 EK5 K n x1 M) EK5 K
set_option maxHeartbeats 4000000 in
set_option maxRecDepth 100000 in
theorem w_X11_every_L5 {p : Program} {l : Launch} {e : Env} {s : State} {m : MethodId} {args : Array Value} {below : List Frame} {meth : Method} {c : Code} {g : Gg} {S : Ss} (X_X11_some : Nat → Mm → (Int32 → Mm → Prop) → Prop) (X_X11_every : Nat → Mm → (Int32 → Mm → Prop) → Prop) (X_X11_compared : Nat → Mm → (Int32 → Mm → Prop) → Prop) (X_X11_total : Nat → Mm → (Int32 → Mm → Prop) → Prop) (X_X11_ahead : Nat → Mm → (Int32 → Mm → Prop) → Prop) (X_X11_thing : Nat → Mm → (Int32 → Mm → Prop) → Prop) (a0 : Nat) (EK5 : Int32 → Mm → Prop) (K : Int32 → Mm → Prop) {dX : Nat} (h10 : 10 ≤ dX) (hX_X11_some : ∀ (M : Mm) (K : Int32 → Mm → Prop), X_X11_some a0 M K → MT l g S yX11_some cX11_some 2 (some .boolean) dX [.ref (ad g a0)] M (pI K)) (hX_X11_every : ∀ (M : Mm) (K : Int32 → Mm → Prop), X_X11_every a0 M K → MT l g S yX11_every cX11_every 2 (some .boolean) dX [.ref (ad g a0)] M (pI K)) (hX_X11_compared : ∀ (M : Mm) (K : Int32 → Mm → Prop), X_X11_compared a0 M K → MT l g S yX11_compared cX11_compared 3 (some .boolean) dX [.ref (ad g a0)] M (pI K)) (hX_X11_total : ∀ (M : Mm) (K : Int32 → Mm → Prop), X_X11_total a0 M K → MT l g S yX11_total cX11_total 3 (some .boolean) dX [.ref (ad g a0)] M (pI K)) (hX_X11_ahead : ∀ (M : Mm) (K : Int32 → Mm → Prop), X_X11_ahead a0 M K → MT l g S yX11_ahead cX11_ahead 3 (some .boolean) dX [.ref (ad g a0)] M (pI K)) (hX_X11_thing : ∀ (M : Mm) (K : Int32 → Mm → Prop), X_X11_thing a0 M K → MT l g S yX11_thing cX11_thing 2 (some .boolean) dX [.ref (ad g a0)] M (pI K)) (E : EN p s m args meth c cX11_every 2 (some .boolean) RX11 g) (hw : ad g 100000 < s.heap.size) (hs0 : S[a0]? = some (10, 0)) (hEK5 : ∀ (x1' : Int32) (M' : Mm) (H : Heap) (locs : List Loc) (ls : Array Slot), EK5 x1' M' → RP g S M' H → va_S (gA g) s.heap H locs → lv_has ls 2 [(0, .ref (ad g a0)), (1, .int x1')] → W p l e (rmD (dX + 1)) s m args below meth c H locs 0 0 (MQ below (QA g S (pI K)) args s 0 0 (gA g)) (F0 m 37 ls [])) : ∀ (n : Nat) (x1 : Int32) (M : Mm), f_X11_every_L5 S X_X11_some X_X11_every X_X11_compared X_X11_total X_X11_ahead X_X11_thing a0 EK5 K n x1 M → ∀ (H : Heap) (locs : List Loc) (ls : Array Slot), RP g S M H → va_S (gA g) s.heap H locs → lv_has ls 2 [(0, .ref (ad g a0)), (1, .int x1)] → W p l e (rmD (dX + 1)) s m args below meth c H locs 0 0 (MQ below (QA g S (pI K)) args s 0 0 (gA g)) (F0 m 5 ls []) := by
  intro n
  induction n with
  | zero => intro x1 M hf; exact hf.elim
  | succ n ih =>
    intro x1 M hf H locs ls hR hS hl
    exact w_X11_every_B5 _ _ _ _ _ _ _ _ _ _ _ _ h10 hX_X11_some hX_X11_every hX_X11_compared hX_X11_total hX_X11_ahead hX_X11_thing E hw hs0 (fun _ M H locs ls h hR hS hl => ih _ M h H locs ls hR hS hl) hEK5 hf H locs ls hR hS hl
def f_X11_every (S : Ss) (X_X11_some : Nat → Mm → (Int32 → Mm → Prop) → Prop) (X_X11_every : Nat → Mm → (Int32 → Mm → Prop) → Prop) (X_X11_compared : Nat → Mm → (Int32 → Mm → Prop) → Prop) (X_X11_total : Nat → Mm → (Int32 → Mm → Prop) → Prop) (X_X11_ahead : Nat → Mm → (Int32 → Mm → Prop) → Prop) (X_X11_thing : Nat → Mm → (Int32 → Mm → Prop) → Prop) (a0 : Nat) (M : Mm) (K : Int32 → Mm → Prop) : Prop :=
  X_X11_compared a0  M (fun (r2 : Int32) (m1 : Mm) =>
    ∃ n13 : Nat, f_X11_every_L5 S X_X11_some X_X11_every X_X11_compared X_X11_total X_X11_ahead X_X11_thing a0 (fun (v11 : Int32) (m12 : Mm) =>
    (v11 = 0 ∨ v11 = 1) ∧ K v11 m12) K n13 r2 m1)
set_option maxHeartbeats 4000000 in
set_option maxRecDepth 100000 in
theorem ok_X11_every {l : Launch} {g : Gg} {S : Ss} (X_X11_some : Nat → Mm → (Int32 → Mm → Prop) → Prop) (X_X11_every : Nat → Mm → (Int32 → Mm → Prop) → Prop) (X_X11_compared : Nat → Mm → (Int32 → Mm → Prop) → Prop) (X_X11_total : Nat → Mm → (Int32 → Mm → Prop) → Prop) (X_X11_ahead : Nat → Mm → (Int32 → Mm → Prop) → Prop) (X_X11_thing : Nat → Mm → (Int32 → Mm → Prop) → Prop) {a0 : Nat} {M : Mm} {K : Int32 → Mm → Prop} {dX : Nat} (h10 : 10 ≤ dX) (hX_X11_some : ∀ (M : Mm) (K : Int32 → Mm → Prop), X_X11_some a0 M K → MT l g S yX11_some cX11_some 2 (some .boolean) dX [.ref (ad g a0)] M (pI K)) (hX_X11_every : ∀ (M : Mm) (K : Int32 → Mm → Prop), X_X11_every a0 M K → MT l g S yX11_every cX11_every 2 (some .boolean) dX [.ref (ad g a0)] M (pI K)) (hX_X11_compared : ∀ (M : Mm) (K : Int32 → Mm → Prop), X_X11_compared a0 M K → MT l g S yX11_compared cX11_compared 3 (some .boolean) dX [.ref (ad g a0)] M (pI K)) (hX_X11_total : ∀ (M : Mm) (K : Int32 → Mm → Prop), X_X11_total a0 M K → MT l g S yX11_total cX11_total 3 (some .boolean) dX [.ref (ad g a0)] M (pI K)) (hX_X11_ahead : ∀ (M : Mm) (K : Int32 → Mm → Prop), X_X11_ahead a0 M K → MT l g S yX11_ahead cX11_ahead 3 (some .boolean) dX [.ref (ad g a0)] M (pI K)) (hX_X11_thing : ∀ (M : Mm) (K : Int32 → Mm → Prop), X_X11_thing a0 M K → MT l g S yX11_thing cX11_thing 2 (some .boolean) dX [.ref (ad g a0)] M (pI K)) (hs0 : S[a0]? = some (10, 0)) (hf : f_X11_every S X_X11_some X_X11_every X_X11_compared X_X11_total X_X11_ahead X_X11_thing a0 M K) : MT l g S yX11_every cX11_every 2 (some .boolean) (dX + 1) [.ref (ad g a0)] M (pI K) := by
  refine MT.of (by decide +kernel) (Nat.le_of_ble_eq_true rfl) ?_
  intro p e s m below meth c ls E hw hR hS hl
  have hl : lv_has ls 2 [(0, .ref (ad g a0))] := hl
  generalize ([.ref (ad g a0)] : List Value).toArray = args at E ⊢
  have E : EN p s m args meth c cX11_every 2 (some .boolean) RX11 g := E
  have hx := E.1
  have hb := E.2.1
  unfold f_X11_every at hf
  refine lv_aload_n hx hb dX11_every_0 rfl (lv_at hl 0 rfl) ?_
  refine hw_callV (d := (dX + 1)) E hR hS (As := []) (rest := []) cI10 hs0 rfl mcX11_compared miX11_compared lmX11_98 (hX_X11_compared _ _ hf) rfl rfl (Nat.le_refl _) hl.1 (Nat.le_of_ble_eq_true rfl) dX11_every_1 (fun rr m1 H locs hp hR hS => ?_)
  obtain ⟨r2, rfl, hf⟩ := hp
  refine W.eq (g2 := F0 m 4 ls [.int r2]) rfl ?_
  refine lv_istore_n (lv' := [(1, .int r2), (0, .ref (ad g a0))]) hx hb dX11_every_4 rfl hl (by decide) rfl (fun ls hl => ?_)
  obtain ⟨n13, hf⟩ := hf
  refine w_X11_every_L5 _ _ _ _ _ _ _ _ _ h10 hX_X11_some hX_X11_every hX_X11_compared hX_X11_total hX_X11_ahead hX_X11_thing E hw hs0 ?_ n13 _ _ hf _ _ _ hR hS (lv_sub hl [1, 0] rfl)
  intro v11 m12 H locs ls hf hR hS hl
  refine lv_iload_n hx hb dX11_every_37 rfl (lv_at hl 1 rfl) ?_
  exact hw_zret E hR hS hf.1 ⟨_, rfl, hf.2⟩ dX11_every_38
def f_X11_compared_J36 (S : Ss) (X_X11_some : Nat → Mm → (Int32 → Mm → Prop) → Prop) (X_X11_every : Nat → Mm → (Int32 → Mm → Prop) → Prop) (X_X11_compared : Nat → Mm → (Int32 → Mm → Prop) → Prop) (X_X11_total : Nat → Mm → (Int32 → Mm → Prop) → Prop) (X_X11_ahead : Nat → Mm → (Int32 → Mm → Prop) → Prop) (X_X11_thing : Nat → Mm → (Int32 → Mm → Prop) → Prop) (a0 : Nat) (M : Mm) (K : Int32 → Mm → Prop) : Prop :=
  ∃ b7 : Nat, M.2.2 a0 3 = some b7 ∧
  ∃ n8 : Nat, shp S b7 = some (50, n8) ∧ vp_in (M.1 a0 5) n8 ∧
  ∀ v9 : Int32, v9 = (M.1 b7 (M.1 a0 5).toNatClampNeg) →
  ∀ m10 : Mm, m10 = stI M a0 5 ((M.1 a0 5) + (1 : Int32)) →
  X_X11_total a0  m10 (fun (r12 : Int32) (m11 : Mm) =>
    ((r12 = 0 →
    (r12 = 0 ∨ r12 = 1) ∧ K r12 m11) ∧
   (¬ r12 = 0 →
    f_X11_marks S a0 ((2000 : Int32) + v9) m11 (fun (m14 : Mm) =>
      (r12 = 0 ∨ r12 = 1) ∧ K r12 m14))))
set_option maxHeartbeats 4000000 in
set_option maxRecDepth 100000 in
theorem w_X11_compared_J36 {p : Program} {l : Launch} {e : Env} {s : State} {m : MethodId} {args : Array Value} {below : List Frame} {meth : Method} {c : Code} {g : Gg} {S : Ss} (X_X11_some : Nat → Mm → (Int32 → Mm → Prop) → Prop) (X_X11_every : Nat → Mm → (Int32 → Mm → Prop) → Prop) (X_X11_compared : Nat → Mm → (Int32 → Mm → Prop) → Prop) (X_X11_total : Nat → Mm → (Int32 → Mm → Prop) → Prop) (X_X11_ahead : Nat → Mm → (Int32 → Mm → Prop) → Prop) (X_X11_thing : Nat → Mm → (Int32 → Mm → Prop) → Prop) (a0 : Nat) (M : Mm) (K : Int32 → Mm → Prop) {dX : Nat} (h10 : 10 ≤ dX) (hX_X11_some : ∀ (M : Mm) (K : Int32 → Mm → Prop), X_X11_some a0 M K → MT l g S yX11_some cX11_some 2 (some .boolean) dX [.ref (ad g a0)] M (pI K)) (hX_X11_every : ∀ (M : Mm) (K : Int32 → Mm → Prop), X_X11_every a0 M K → MT l g S yX11_every cX11_every 2 (some .boolean) dX [.ref (ad g a0)] M (pI K)) (hX_X11_compared : ∀ (M : Mm) (K : Int32 → Mm → Prop), X_X11_compared a0 M K → MT l g S yX11_compared cX11_compared 3 (some .boolean) dX [.ref (ad g a0)] M (pI K)) (hX_X11_total : ∀ (M : Mm) (K : Int32 → Mm → Prop), X_X11_total a0 M K → MT l g S yX11_total cX11_total 3 (some .boolean) dX [.ref (ad g a0)] M (pI K)) (hX_X11_ahead : ∀ (M : Mm) (K : Int32 → Mm → Prop), X_X11_ahead a0 M K → MT l g S yX11_ahead cX11_ahead 3 (some .boolean) dX [.ref (ad g a0)] M (pI K)) (hX_X11_thing : ∀ (M : Mm) (K : Int32 → Mm → Prop), X_X11_thing a0 M K → MT l g S yX11_thing cX11_thing 2 (some .boolean) dX [.ref (ad g a0)] M (pI K)) (E : EN p s m args meth c cX11_compared 3 (some .boolean) RX11 g) (hw : ad g 100000 < s.heap.size) (hs0 : S[a0]? = some (10, 0)) (hf : f_X11_compared_J36 S X_X11_some X_X11_every X_X11_compared X_X11_total X_X11_ahead X_X11_thing a0 M K) (H : Heap) (locs : List Loc) (ls : Array Slot) (hR : RP g S M H) (hS : va_S (gA g) s.heap H locs) (hl : lv_has ls 3 [(0, .ref (ad g a0))]) : W p l e (rmD (dX + 1)) s m args below meth c H locs 0 0 (MQ below (QA g S (pI K)) args s 0 0 (gA g)) (F0 m 36 ls []) := by
  have hx := E.1
  have hb := E.2.1
  unfold f_X11_compared_J36 at hf
  refine lv_aload_n hx hb dX11_compared_36 rfl (lv_at hl 0 rfl) ?_
  obtain ⟨b7, hb7, hf⟩ := hf
  refine hw_getR E hR cI10 hs0 3 (by decide) lfX11_17 rfl hb7 dX11_compared_37 ?_
  refine lv_aload_n hx hb dX11_compared_40 rfl (lv_at hl 0 rfl) ?_
  refine hw_getI E hR cI10 hs0 5 (by decide) lfX11_25 rfl dX11_compared_41 ?_
  obtain ⟨n8, hn8, in8, hf⟩ := hf
  refine hw_iald E hR hS hn8 in8 dX11_compared_44 ?_
  refine lv_topi (fun v9 ev9 => ?_)
  replace hf := hf v9 ev9
  refine lv_istore_n (lv' := [(2, .int v9), (0, .ref (ad g a0))]) hx hb dX11_compared_45 rfl hl (by decide) rfl (fun ls hl => ?_)
  refine lv_aload_n hx hb dX11_compared_46 rfl (lv_at hl 1 rfl) ?_
  refine lv_dup hx hb dX11_compared_47 rfl ?_
  refine hw_getI E hR cI10 hs0 5 (by decide) lfX11_25 rfl dX11_compared_48 ?_
  refine lv_iconst (v := 1) hx hb dX11_compared_51 (by decide) ?_
  refine lv_iadd hx hb dX11_compared_52 ?_
  refine hw_putI E hR hS hw cI10 hs0 5 (by decide) lfX11_25 rfl (Or.inl rfl) dX11_compared_53 (fun m10 H locs em10 hR hS => ?_)
  replace hf := hf m10 em10
  refine lv_aload_n hx hb dX11_compared_56 rfl (lv_at hl 1 rfl) ?_
  refine hw_callV (d := (dX + 1)) E hR hS (As := []) (rest := []) cI10 hs0 rfl mcX11_total miX11_total lmX11_95 (hX_X11_total _ _ hf) rfl rfl (Nat.le_refl _) hl.1 (Nat.le_of_ble_eq_true rfl) dX11_compared_57 (fun rr m11 H locs hp hR hS => ?_)
  obtain ⟨r12, rfl, hf⟩ := hp
  refine W.eq (g2 := F0 m 60 ls [.int r12]) rfl ?_
  refine lv_istore_n (lv' := [(1, .int r12), (2, .int v9), (0, .ref (ad g a0))]) hx hb dX11_compared_60 rfl hl (by decide) rfl (fun ls hl => ?_)
  refine lv_iload_n hx hb dX11_compared_61 rfl (lv_at hl 0 rfl) ?_
  refine lv_if_eq (tgt := 74) hx hb dX11_compared_62 (by decide) (fun c13 => ?_) (fun c13 => ?_)
  · replace hf := hf.1 c13
    refine lv_iload_n hx hb dX11_compared_74 rfl (lv_at hl 0 rfl) ?_
    exact hw_zret E hR hS hf.1 ⟨_, rfl, hf.2⟩ dX11_compared_75
  · replace hf := hf.2 c13
    refine lv_aload_n hx hb dX11_compared_65 rfl (lv_at hl 2 rfl) ?_
    refine lv_sipush (v := 2000) hx hb dX11_compared_66 (by decide) ?_
    refine lv_iload_n hx hb dX11_compared_69 rfl (lv_at hl 1 rfl) ?_
    refine lv_iadd hx hb dX11_compared_70 ?_
    refine hw_callV (d := (dX + 1)) E hR hS (As := [.int ((2000 : Int32) + v9)]) (rest := []) cI10 hs0 rfl mcX11_marks miX11_marks lmX11_72 (ok_X11_marks hs0 hf) rfl rfl (by omega) hl.1 (Nat.le_of_ble_eq_true rfl) dX11_compared_71 (fun rr m14 H locs hp hR hS => ?_)
    obtain ⟨rfl, hf⟩ := hp
    refine W.eq (g2 := F0 m 74 ls []) rfl ?_
    refine lv_iload_n hx hb dX11_compared_74 rfl (lv_at hl 0 rfl) ?_
    exact hw_zret E hR hS hf.1 ⟨_, rfl, hf.2⟩ dX11_compared_75
def f_X11_compared (S : Ss) (X_X11_some : Nat → Mm → (Int32 → Mm → Prop) → Prop) (X_X11_every : Nat → Mm → (Int32 → Mm → Prop) → Prop) (X_X11_compared : Nat → Mm → (Int32 → Mm → Prop) → Prop) (X_X11_total : Nat → Mm → (Int32 → Mm → Prop) → Prop) (X_X11_ahead : Nat → Mm → (Int32 → Mm → Prop) → Prop) (X_X11_thing : Nat → Mm → (Int32 → Mm → Prop) → Prop) (a0 : Nat) (M : Mm) (K : Int32 → Mm → Prop) : Prop :=
  X_X11_total a0  M (fun (r2 : Int32) (m1 : Mm) =>
    ((r2 = 0 →
    (r2 = 0 ∨ r2 = 1) ∧ K r2 m1) ∧
   (¬ r2 = 0 →
    f_X11_isAt S a0 (60 : Int32) m1 (fun (r5 : Int32) (m4 : Mm) =>
      ((r5 = 0 →
      f_X11_isAt S a0 (62 : Int32) m4 (fun (r16 : Int32) (m15 : Mm) =>
        ((r16 = 0 →
        f_X11_isAt S a0 (61 : Int32) m15 (fun (r19 : Int32) (m18 : Mm) =>
          ((r19 = 0 →
          (r2 = 0 ∨ r2 = 1) ∧ K r2 m18) ∧
         (¬ r19 = 0 →
          f_X11_compared_J36 S X_X11_some X_X11_every X_X11_compared X_X11_total X_X11_ahead X_X11_thing a0 m18 K)))) ∧
       (¬ r16 = 0 →
        f_X11_compared_J36 S X_X11_some X_X11_every X_X11_compared X_X11_total X_X11_ahead X_X11_thing a0 m15 K)))) ∧
     (¬ r5 = 0 →
      f_X11_compared_J36 S X_X11_some X_X11_every X_X11_compared X_X11_total X_X11_ahead X_X11_thing a0 m4 K))))))
set_option maxHeartbeats 4000000 in
set_option maxRecDepth 100000 in
theorem ok_X11_compared {l : Launch} {g : Gg} {S : Ss} (X_X11_some : Nat → Mm → (Int32 → Mm → Prop) → Prop) (X_X11_every : Nat → Mm → (Int32 → Mm → Prop) → Prop) (X_X11_compared : Nat → Mm → (Int32 → Mm → Prop) → Prop) (X_X11_total : Nat → Mm → (Int32 → Mm → Prop) → Prop) (X_X11_ahead : Nat → Mm → (Int32 → Mm → Prop) → Prop) (X_X11_thing : Nat → Mm → (Int32 → Mm → Prop) → Prop) {a0 : Nat} {M : Mm} {K : Int32 → Mm → Prop} {dX : Nat} (h10 : 10 ≤ dX) (hX_X11_some : ∀ (M : Mm) (K : Int32 → Mm → Prop), X_X11_some a0 M K → MT l g S yX11_some cX11_some 2 (some .boolean) dX [.ref (ad g a0)] M (pI K)) (hX_X11_every : ∀ (M : Mm) (K : Int32 → Mm → Prop), X_X11_every a0 M K → MT l g S yX11_every cX11_every 2 (some .boolean) dX [.ref (ad g a0)] M (pI K)) (hX_X11_compared : ∀ (M : Mm) (K : Int32 → Mm → Prop), X_X11_compared a0 M K → MT l g S yX11_compared cX11_compared 3 (some .boolean) dX [.ref (ad g a0)] M (pI K)) (hX_X11_total : ∀ (M : Mm) (K : Int32 → Mm → Prop), X_X11_total a0 M K → MT l g S yX11_total cX11_total 3 (some .boolean) dX [.ref (ad g a0)] M (pI K)) (hX_X11_ahead : ∀ (M : Mm) (K : Int32 → Mm → Prop), X_X11_ahead a0 M K → MT l g S yX11_ahead cX11_ahead 3 (some .boolean) dX [.ref (ad g a0)] M (pI K)) (hX_X11_thing : ∀ (M : Mm) (K : Int32 → Mm → Prop), X_X11_thing a0 M K → MT l g S yX11_thing cX11_thing 2 (some .boolean) dX [.ref (ad g a0)] M (pI K)) (hs0 : S[a0]? = some (10, 0)) (hf : f_X11_compared S X_X11_some X_X11_every X_X11_compared X_X11_total X_X11_ahead X_X11_thing a0 M K) : MT l g S yX11_compared cX11_compared 3 (some .boolean) (dX + 1) [.ref (ad g a0)] M (pI K) := by
  refine MT.of (by decide +kernel) (Nat.le_of_ble_eq_true rfl) ?_
  intro p e s m below meth c ls E hw hR hS hl
  have hl : lv_has ls 3 [(0, .ref (ad g a0))] := hl
  generalize ([.ref (ad g a0)] : List Value).toArray = args at E ⊢
  have E : EN p s m args meth c cX11_compared 3 (some .boolean) RX11 g := E
  have hx := E.1
  have hb := E.2.1
  unfold f_X11_compared at hf
  refine lv_aload_n hx hb dX11_compared_0 rfl (lv_at hl 0 rfl) ?_
  refine hw_callV (d := (dX + 1)) E hR hS (As := []) (rest := []) cI10 hs0 rfl mcX11_total miX11_total lmX11_95 (hX_X11_total _ _ hf) rfl rfl (Nat.le_refl _) hl.1 (Nat.le_of_ble_eq_true rfl) dX11_compared_1 (fun rr m1 H locs hp hR hS => ?_)
  obtain ⟨r2, rfl, hf⟩ := hp
  refine W.eq (g2 := F0 m 4 ls [.int r2]) rfl ?_
  refine lv_istore_n (lv' := [(1, .int r2), (0, .ref (ad g a0))]) hx hb dX11_compared_4 rfl hl (by decide) rfl (fun ls hl => ?_)
  refine lv_iload_n hx hb dX11_compared_5 rfl (lv_at hl 0 rfl) ?_
  refine lv_if_eq (tgt := 74) hx hb dX11_compared_6 (by decide) (fun c3 => ?_) (fun c3 => ?_)
  · replace hf := hf.1 c3
    refine lv_iload_n hx hb dX11_compared_74 rfl (lv_at hl 0 rfl) ?_
    exact hw_zret E hR hS hf.1 ⟨_, rfl, hf.2⟩ dX11_compared_75
  · replace hf := hf.2 c3
    refine lv_aload_n hx hb dX11_compared_9 rfl (lv_at hl 1 rfl) ?_
    refine lv_bipush (v := 60) hx hb dX11_compared_10 (by decide) ?_
    refine hw_callV (d := (dX + 1)) E hR hS (As := [.int (60 : Int32)]) (rest := []) cI10 hs0 rfl mcX11_isAt miX11_isAt lmX11_31 (ok_X11_isAt hs0 hf) rfl rfl (by omega) hl.1 (Nat.le_of_ble_eq_true rfl) dX11_compared_12 (fun rr m4 H locs hp hR hS => ?_)
    obtain ⟨r5, rfl, hf⟩ := hp
    refine W.eq (g2 := F0 m 15 ls [.int r5]) rfl ?_
    refine lv_if_ne (tgt := 36) hx hb dX11_compared_15 (by decide) (fun c6 => ?_) (fun c6 => ?_)
    · replace hf := hf.2 c6
      exact w_X11_compared_J36 _ _ _ _ _ _ _ _ _ h10 hX_X11_some hX_X11_every hX_X11_compared hX_X11_total hX_X11_ahead hX_X11_thing E hw hs0 hf _ _ _ hR hS (lv_sub hl [1] rfl)
    · replace hf := hf.1 c6
      refine lv_aload_n hx hb dX11_compared_18 rfl (lv_at hl 1 rfl) ?_
      refine lv_bipush (v := 62) hx hb dX11_compared_19 (by decide) ?_
      refine hw_callV (d := (dX + 1)) E hR hS (As := [.int (62 : Int32)]) (rest := []) cI10 hs0 rfl mcX11_isAt miX11_isAt lmX11_31 (ok_X11_isAt hs0 hf) rfl rfl (by omega) hl.1 (Nat.le_of_ble_eq_true rfl) dX11_compared_21 (fun rr m15 H locs hp hR hS => ?_)
      obtain ⟨r16, rfl, hf⟩ := hp
      refine W.eq (g2 := F0 m 24 ls [.int r16]) rfl ?_
      refine lv_if_ne (tgt := 36) hx hb dX11_compared_24 (by decide) (fun c17 => ?_) (fun c17 => ?_)
      · replace hf := hf.2 c17
        exact w_X11_compared_J36 _ _ _ _ _ _ _ _ _ h10 hX_X11_some hX_X11_every hX_X11_compared hX_X11_total hX_X11_ahead hX_X11_thing E hw hs0 hf _ _ _ hR hS (lv_sub hl [1] rfl)
      · replace hf := hf.1 c17
        refine lv_aload_n hx hb dX11_compared_27 rfl (lv_at hl 1 rfl) ?_
        refine lv_bipush (v := 61) hx hb dX11_compared_28 (by decide) ?_
        refine hw_callV (d := (dX + 1)) E hR hS (As := [.int (61 : Int32)]) (rest := []) cI10 hs0 rfl mcX11_isAt miX11_isAt lmX11_31 (ok_X11_isAt hs0 hf) rfl rfl (by omega) hl.1 (Nat.le_of_ble_eq_true rfl) dX11_compared_30 (fun rr m18 H locs hp hR hS => ?_)
        obtain ⟨r19, rfl, hf⟩ := hp
        refine W.eq (g2 := F0 m 33 ls [.int r19]) rfl ?_
        refine lv_if_eq (tgt := 74) hx hb dX11_compared_33 (by decide) (fun c20 => ?_) (fun c20 => ?_)
        · replace hf := hf.1 c20
          refine lv_iload_n hx hb dX11_compared_74 rfl (lv_at hl 0 rfl) ?_
          exact hw_zret E hR hS hf.1 ⟨_, rfl, hf.2⟩ dX11_compared_75
        · replace hf := hf.2 c20
          exact w_X11_compared_J36 _ _ _ _ _ _ _ _ _ h10 hX_X11_some hX_X11_every hX_X11_compared hX_X11_total hX_X11_ahead hX_X11_thing E hw hs0 hf _ _ _ hR hS (lv_sub hl [1] rfl)
def f_X11_total_J27 (S : Ss) (X_X11_some : Nat → Mm → (Int32 → Mm → Prop) → Prop) (X_X11_every : Nat → Mm → (Int32 → Mm → Prop) → Prop) (X_X11_compared : Nat → Mm → (Int32 → Mm → Prop) → Prop) (X_X11_total : Nat → Mm → (Int32 → Mm → Prop) → Prop) (X_X11_ahead : Nat → Mm → (Int32 → Mm → Prop) → Prop) (X_X11_thing : Nat → Mm → (Int32 → Mm → Prop) → Prop) (a0 : Nat) (M : Mm) (BK5 : Int32 → Mm → Prop) (K : Int32 → Mm → Prop) : Prop :=
  ∃ b7 : Nat, M.2.2 a0 3 = some b7 ∧
  ∃ n8 : Nat, shp S b7 = some (50, n8) ∧ vp_in (M.1 a0 5) n8 ∧
  ∀ v9 : Int32, v9 = (M.1 b7 (M.1 a0 5).toNatClampNeg) →
  ∀ m10 : Mm, m10 = stI M a0 5 ((M.1 a0 5) + (1 : Int32)) →
  X_X11_ahead a0  m10 (fun (r12 : Int32) (m11 : Mm) =>
    ((r12 = 0 →
    BK5 r12 m11) ∧
   (¬ r12 = 0 →
    f_X11_marks S a0 ((2000 : Int32) + v9) m11 (fun (m14 : Mm) =>
      BK5 r12 m14))))
set_option maxHeartbeats 4000000 in
set_option maxRecDepth 100000 in
theorem w_X11_total_J27 {p : Program} {l : Launch} {e : Env} {s : State} {m : MethodId} {args : Array Value} {below : List Frame} {meth : Method} {c : Code} {g : Gg} {S : Ss} (X_X11_some : Nat → Mm → (Int32 → Mm → Prop) → Prop) (X_X11_every : Nat → Mm → (Int32 → Mm → Prop) → Prop) (X_X11_compared : Nat → Mm → (Int32 → Mm → Prop) → Prop) (X_X11_total : Nat → Mm → (Int32 → Mm → Prop) → Prop) (X_X11_ahead : Nat → Mm → (Int32 → Mm → Prop) → Prop) (X_X11_thing : Nat → Mm → (Int32 → Mm → Prop) → Prop) (a0 : Nat) (M : Mm) (BK5 : Int32 → Mm → Prop) (K : Int32 → Mm → Prop) {dX : Nat} (h10 : 10 ≤ dX) (hX_X11_some : ∀ (M : Mm) (K : Int32 → Mm → Prop), X_X11_some a0 M K → MT l g S yX11_some cX11_some 2 (some .boolean) dX [.ref (ad g a0)] M (pI K)) (hX_X11_every : ∀ (M : Mm) (K : Int32 → Mm → Prop), X_X11_every a0 M K → MT l g S yX11_every cX11_every 2 (some .boolean) dX [.ref (ad g a0)] M (pI K)) (hX_X11_compared : ∀ (M : Mm) (K : Int32 → Mm → Prop), X_X11_compared a0 M K → MT l g S yX11_compared cX11_compared 3 (some .boolean) dX [.ref (ad g a0)] M (pI K)) (hX_X11_total : ∀ (M : Mm) (K : Int32 → Mm → Prop), X_X11_total a0 M K → MT l g S yX11_total cX11_total 3 (some .boolean) dX [.ref (ad g a0)] M (pI K)) (hX_X11_ahead : ∀ (M : Mm) (K : Int32 → Mm → Prop), X_X11_ahead a0 M K → MT l g S yX11_ahead cX11_ahead 3 (some .boolean) dX [.ref (ad g a0)] M (pI K)) (hX_X11_thing : ∀ (M : Mm) (K : Int32 → Mm → Prop), X_X11_thing a0 M K → MT l g S yX11_thing cX11_thing 2 (some .boolean) dX [.ref (ad g a0)] M (pI K)) (E : EN p s m args meth c cX11_total 3 (some .boolean) RX11 g) (hw : ad g 100000 < s.heap.size) (hs0 : S[a0]? = some (10, 0)) (hBK5 : ∀ (x1' : Int32) (M' : Mm) (H : Heap) (locs : List Loc) (ls : Array Slot), BK5 x1' M' → RP g S M' H → va_S (gA g) s.heap H locs → lv_has ls 3 [(0, .ref (ad g a0)), (1, .int x1')] → W p l e (rmD (dX + 1)) s m args below meth c H locs 0 0 (MQ below (QA g S (pI K)) args s 0 0 (gA g)) (F0 m 5 ls [])) (hf : f_X11_total_J27 S X_X11_some X_X11_every X_X11_compared X_X11_total X_X11_ahead X_X11_thing a0 M BK5 K) (H : Heap) (locs : List Loc) (ls : Array Slot) (hR : RP g S M H) (hS : va_S (gA g) s.heap H locs) (hl : lv_has ls 3 [(0, .ref (ad g a0))]) : W p l e (rmD (dX + 1)) s m args below meth c H locs 0 0 (MQ below (QA g S (pI K)) args s 0 0 (gA g)) (F0 m 27 ls []) := by
  have hx := E.1
  have hb := E.2.1
  unfold f_X11_total_J27 at hf
  refine lv_aload_n hx hb dX11_total_27 rfl (lv_at hl 0 rfl) ?_
  obtain ⟨b7, hb7, hf⟩ := hf
  refine hw_getR E hR cI10 hs0 3 (by decide) lfX11_17 rfl hb7 dX11_total_28 ?_
  refine lv_aload_n hx hb dX11_total_31 rfl (lv_at hl 0 rfl) ?_
  refine hw_getI E hR cI10 hs0 5 (by decide) lfX11_25 rfl dX11_total_32 ?_
  obtain ⟨n8, hn8, in8, hf⟩ := hf
  refine hw_iald E hR hS hn8 in8 dX11_total_35 ?_
  refine lv_topi (fun v9 ev9 => ?_)
  replace hf := hf v9 ev9
  refine lv_istore_n (lv' := [(2, .int v9), (0, .ref (ad g a0))]) hx hb dX11_total_36 rfl hl (by decide) rfl (fun ls hl => ?_)
  refine lv_aload_n hx hb dX11_total_37 rfl (lv_at hl 1 rfl) ?_
  refine lv_dup hx hb dX11_total_38 rfl ?_
  refine hw_getI E hR cI10 hs0 5 (by decide) lfX11_25 rfl dX11_total_39 ?_
  refine lv_iconst (v := 1) hx hb dX11_total_42 (by decide) ?_
  refine lv_iadd hx hb dX11_total_43 ?_
  refine hw_putI E hR hS hw cI10 hs0 5 (by decide) lfX11_25 rfl (Or.inl rfl) dX11_total_44 (fun m10 H locs em10 hR hS => ?_)
  replace hf := hf m10 em10
  refine lv_aload_n hx hb dX11_total_47 rfl (lv_at hl 1 rfl) ?_
  refine hw_callV (d := (dX + 1)) E hR hS (As := []) (rest := []) cI10 hs0 rfl mcX11_ahead miX11_ahead lmX11_92 (hX_X11_ahead _ _ hf) rfl rfl (Nat.le_refl _) hl.1 (Nat.le_of_ble_eq_true rfl) dX11_total_48 (fun rr m11 H locs hp hR hS => ?_)
  obtain ⟨r12, rfl, hf⟩ := hp
  refine W.eq (g2 := F0 m 51 ls [.int r12]) rfl ?_
  refine lv_istore_n (lv' := [(1, .int r12), (2, .int v9), (0, .ref (ad g a0))]) hx hb dX11_total_51 rfl hl (by decide) rfl (fun ls hl => ?_)
  refine lv_iload_n hx hb dX11_total_52 rfl (lv_at hl 0 rfl) ?_
  refine lv_if_eq (tgt := 65) hx hb dX11_total_53 (by decide) (fun c13 => ?_) (fun c13 => ?_)
  · replace hf := hf.1 c13
    refine lv_goto (tgt := 5) hx hb dX11_total_65 (by decide) ?_
    exact hBK5 _ _ _ _ _ hf hR hS (lv_sub hl [2, 0] rfl)
  · replace hf := hf.2 c13
    refine lv_aload_n hx hb dX11_total_56 rfl (lv_at hl 2 rfl) ?_
    refine lv_sipush (v := 2000) hx hb dX11_total_57 (by decide) ?_
    refine lv_iload_n hx hb dX11_total_60 rfl (lv_at hl 1 rfl) ?_
    refine lv_iadd hx hb dX11_total_61 ?_
    refine hw_callV (d := (dX + 1)) E hR hS (As := [.int ((2000 : Int32) + v9)]) (rest := []) cI10 hs0 rfl mcX11_marks miX11_marks lmX11_72 (ok_X11_marks hs0 hf) rfl rfl (by omega) hl.1 (Nat.le_of_ble_eq_true rfl) dX11_total_62 (fun rr m14 H locs hp hR hS => ?_)
    obtain ⟨rfl, hf⟩ := hp
    refine W.eq (g2 := F0 m 65 ls []) rfl ?_
    refine lv_goto (tgt := 5) hx hb dX11_total_65 (by decide) ?_
    exact hBK5 _ _ _ _ _ hf hR hS (lv_sub hl [2, 0] rfl)
def f_X11_total_B5 (S : Ss) (X_X11_some : Nat → Mm → (Int32 → Mm → Prop) → Prop) (X_X11_every : Nat → Mm → (Int32 → Mm → Prop) → Prop) (X_X11_compared : Nat → Mm → (Int32 → Mm → Prop) → Prop) (X_X11_total : Nat → Mm → (Int32 → Mm → Prop) → Prop) (X_X11_ahead : Nat → Mm → (Int32 → Mm → Prop) → Prop) (X_X11_thing : Nat → Mm → (Int32 → Mm → Prop) → Prop) (a0 : Nat) (x1 : Int32) (M : Mm) (BK5 : Int32 → Mm → Prop) (EK5 : Int32 → Mm → Prop) (K : Int32 → Mm → Prop) : Prop :=
  ((x1 = 0 →
    EK5 x1 M) ∧
   (¬ x1 = 0 →
    f_X11_isAt S a0 (43 : Int32) M (fun (r5 : Int32) (m4 : Mm) =>
      ((r5 = 0 →
      f_X11_isAt S a0 (45 : Int32) m4 (fun (r16 : Int32) (m15 : Mm) =>
        ((r16 = 0 →
        EK5 x1 m15) ∧
       (¬ r16 = 0 →
        f_X11_total_J27 S X_X11_some X_X11_every X_X11_compared X_X11_total X_X11_ahead X_X11_thing a0 m15 BK5 K)))) ∧
     (¬ r5 = 0 →
      f_X11_total_J27 S X_X11_some X_X11_every X_X11_compared X_X11_total X_X11_ahead X_X11_thing a0 m4 BK5 K)))))
set_option maxHeartbeats 4000000 in
set_option maxRecDepth 100000 in
theorem w_X11_total_B5 {p : Program} {l : Launch} {e : Env} {s : State} {m : MethodId} {args : Array Value} {below : List Frame} {meth : Method} {c : Code} {g : Gg} {S : Ss} (X_X11_some : Nat → Mm → (Int32 → Mm → Prop) → Prop) (X_X11_every : Nat → Mm → (Int32 → Mm → Prop) → Prop) (X_X11_compared : Nat → Mm → (Int32 → Mm → Prop) → Prop) (X_X11_total : Nat → Mm → (Int32 → Mm → Prop) → Prop) (X_X11_ahead : Nat → Mm → (Int32 → Mm → Prop) → Prop) (X_X11_thing : Nat → Mm → (Int32 → Mm → Prop) → Prop) (a0 : Nat) (x1 : Int32) (M : Mm) (BK5 : Int32 → Mm → Prop) (EK5 : Int32 → Mm → Prop) (K : Int32 → Mm → Prop) {dX : Nat} (h10 : 10 ≤ dX) (hX_X11_some : ∀ (M : Mm) (K : Int32 → Mm → Prop), X_X11_some a0 M K → MT l g S yX11_some cX11_some 2 (some .boolean) dX [.ref (ad g a0)] M (pI K)) (hX_X11_every : ∀ (M : Mm) (K : Int32 → Mm → Prop), X_X11_every a0 M K → MT l g S yX11_every cX11_every 2 (some .boolean) dX [.ref (ad g a0)] M (pI K)) (hX_X11_compared : ∀ (M : Mm) (K : Int32 → Mm → Prop), X_X11_compared a0 M K → MT l g S yX11_compared cX11_compared 3 (some .boolean) dX [.ref (ad g a0)] M (pI K)) (hX_X11_total : ∀ (M : Mm) (K : Int32 → Mm → Prop), X_X11_total a0 M K → MT l g S yX11_total cX11_total 3 (some .boolean) dX [.ref (ad g a0)] M (pI K)) (hX_X11_ahead : ∀ (M : Mm) (K : Int32 → Mm → Prop), X_X11_ahead a0 M K → MT l g S yX11_ahead cX11_ahead 3 (some .boolean) dX [.ref (ad g a0)] M (pI K)) (hX_X11_thing : ∀ (M : Mm) (K : Int32 → Mm → Prop), X_X11_thing a0 M K → MT l g S yX11_thing cX11_thing 2 (some .boolean) dX [.ref (ad g a0)] M (pI K)) (E : EN p s m args meth c cX11_total 3 (some .boolean) RX11 g) (hw : ad g 100000 < s.heap.size) (hs0 : S[a0]? = some (10, 0)) (hBK5 : ∀ (x1' : Int32) (M' : Mm) (H : Heap) (locs : List Loc) (ls : Array Slot), BK5 x1' M' → RP g S M' H → va_S (gA g) s.heap H locs → lv_has ls 3 [(0, .ref (ad g a0)), (1, .int x1')] → W p l e (rmD (dX + 1)) s m args below meth c H locs 0 0 (MQ below (QA g S (pI K)) args s 0 0 (gA g)) (F0 m 5 ls [])) (hEK5 : ∀ (x1' : Int32) (M' : Mm) (H : Heap) (locs : List Loc) (ls : Array Slot), EK5 x1' M' → RP g S M' H → va_S (gA g) s.heap H locs → lv_has ls 3 [(0, .ref (ad g a0)), (1, .int x1')] → W p l e (rmD (dX + 1)) s m args below meth c H locs 0 0 (MQ below (QA g S (pI K)) args s 0 0 (gA g)) (F0 m 68 ls [])) (hf : f_X11_total_B5 S X_X11_some X_X11_every X_X11_compared X_X11_total X_X11_ahead X_X11_thing a0 x1 M BK5 EK5 K) (H : Heap) (locs : List Loc) (ls : Array Slot) (hR : RP g S M H) (hS : va_S (gA g) s.heap H locs) (hl : lv_has ls 3 [(0, .ref (ad g a0)), (1, .int x1)]) : W p l e (rmD (dX + 1)) s m args below meth c H locs 0 0 (MQ below (QA g S (pI K)) args s 0 0 (gA g)) (F0 m 5 ls []) := by
  have hx := E.1
  have hb := E.2.1
  unfold f_X11_total_B5 at hf
  refine lv_iload_n hx hb dX11_total_5 rfl (lv_at hl 1 rfl) ?_
  refine lv_if_eq (tgt := 68) hx hb dX11_total_6 (by decide) (fun c3 => ?_) (fun c3 => ?_)
  · replace hf := hf.1 c3
    exact hEK5 _ _ _ _ _ hf hR hS (lv_sub hl [0, 1] rfl)
  · replace hf := hf.2 c3
    refine lv_aload_n hx hb dX11_total_9 rfl (lv_at hl 0 rfl) ?_
    refine lv_bipush (v := 43) hx hb dX11_total_10 (by decide) ?_
    refine hw_callV (d := (dX + 1)) E hR hS (As := [.int (43 : Int32)]) (rest := []) cI10 hs0 rfl mcX11_isAt miX11_isAt lmX11_31 (ok_X11_isAt hs0 hf) rfl rfl (by omega) hl.1 (Nat.le_of_ble_eq_true rfl) dX11_total_12 (fun rr m4 H locs hp hR hS => ?_)
    obtain ⟨r5, rfl, hf⟩ := hp
    refine W.eq (g2 := F0 m 15 ls [.int r5]) rfl ?_
    refine lv_if_ne (tgt := 27) hx hb dX11_total_15 (by decide) (fun c6 => ?_) (fun c6 => ?_)
    · replace hf := hf.2 c6
      exact w_X11_total_J27 _ _ _ _ _ _ _ _ _ _ h10 hX_X11_some hX_X11_every hX_X11_compared hX_X11_total hX_X11_ahead hX_X11_thing E hw hs0 hBK5 hf _ _ _ hR hS (lv_sub hl [0] rfl)
    · replace hf := hf.1 c6
      refine lv_aload_n hx hb dX11_total_18 rfl (lv_at hl 0 rfl) ?_
      refine lv_bipush (v := 45) hx hb dX11_total_19 (by decide) ?_
      refine hw_callV (d := (dX + 1)) E hR hS (As := [.int (45 : Int32)]) (rest := []) cI10 hs0 rfl mcX11_isAt miX11_isAt lmX11_31 (ok_X11_isAt hs0 hf) rfl rfl (by omega) hl.1 (Nat.le_of_ble_eq_true rfl) dX11_total_21 (fun rr m15 H locs hp hR hS => ?_)
      obtain ⟨r16, rfl, hf⟩ := hp
      refine W.eq (g2 := F0 m 24 ls [.int r16]) rfl ?_
      refine lv_if_eq (tgt := 68) hx hb dX11_total_24 (by decide) (fun c17 => ?_) (fun c17 => ?_)
      · replace hf := hf.1 c17
        exact hEK5 _ _ _ _ _ hf hR hS (lv_sub hl [0, 1] rfl)
      · replace hf := hf.2 c17
        exact w_X11_total_J27 _ _ _ _ _ _ _ _ _ _ h10 hX_X11_some hX_X11_every hX_X11_compared hX_X11_total hX_X11_ahead hX_X11_thing E hw hs0 hBK5 hf _ _ _ hR hS (lv_sub hl [0] rfl)
def f_X11_total_L5 (S : Ss) (X_X11_some : Nat → Mm → (Int32 → Mm → Prop) → Prop) (X_X11_every : Nat → Mm → (Int32 → Mm → Prop) → Prop) (X_X11_compared : Nat → Mm → (Int32 → Mm → Prop) → Prop) (X_X11_total : Nat → Mm → (Int32 → Mm → Prop) → Prop) (X_X11_ahead : Nat → Mm → (Int32 → Mm → Prop) → Prop) (X_X11_thing : Nat → Mm → (Int32 → Mm → Prop) → Prop) (a0 : Nat) (EK5 : Int32 → Mm → Prop) (K : Int32 → Mm → Prop) : Nat → Int32 → Mm → Prop
  | 0, _, _ => False
  | n + 1, x1, M => f_X11_total_B5 S X_X11_some X_X11_every X_X11_compared X_X11_total X_X11_ahead X_X11_thing a0 x1 M (fun (x1 : Int32) (M : Mm) => f_X11_total_L5 S X_X11_some X_X11_every X_X11_compared X_X11_total X_X11_ahead X_X11_thing a0 EK5 K n x1 M) EK5 K
set_option maxHeartbeats 4000000 in
set_option maxRecDepth 100000 in
theorem w_X11_total_L5 {p : Program} {l : Launch} {e : Env} {s : State} {m : MethodId} {args : Array Value} {below : List Frame} {meth : Method} {c : Code} {g : Gg} {S : Ss} (X_X11_some : Nat → Mm → (Int32 → Mm → Prop) → Prop) (X_X11_every : Nat → Mm → (Int32 → Mm → Prop) → Prop) (X_X11_compared : Nat → Mm → (Int32 → Mm → Prop) → Prop) (X_X11_total : Nat → Mm → (Int32 → Mm → Prop) → Prop) (X_X11_ahead : Nat → Mm → (Int32 → Mm → Prop) → Prop) (X_X11_thing : Nat → Mm → (Int32 → Mm → Prop) → Prop) (a0 : Nat) (EK5 : Int32 → Mm → Prop) (K : Int32 → Mm → Prop) {dX : Nat} (h10 : 10 ≤ dX) (hX_X11_some : ∀ (M : Mm) (K : Int32 → Mm → Prop), X_X11_some a0 M K → MT l g S yX11_some cX11_some 2 (some .boolean) dX [.ref (ad g a0)] M (pI K)) (hX_X11_every : ∀ (M : Mm) (K : Int32 → Mm → Prop), X_X11_every a0 M K → MT l g S yX11_every cX11_every 2 (some .boolean) dX [.ref (ad g a0)] M (pI K)) (hX_X11_compared : ∀ (M : Mm) (K : Int32 → Mm → Prop), X_X11_compared a0 M K → MT l g S yX11_compared cX11_compared 3 (some .boolean) dX [.ref (ad g a0)] M (pI K)) (hX_X11_total : ∀ (M : Mm) (K : Int32 → Mm → Prop), X_X11_total a0 M K → MT l g S yX11_total cX11_total 3 (some .boolean) dX [.ref (ad g a0)] M (pI K)) (hX_X11_ahead : ∀ (M : Mm) (K : Int32 → Mm → Prop), X_X11_ahead a0 M K → MT l g S yX11_ahead cX11_ahead 3 (some .boolean) dX [.ref (ad g a0)] M (pI K)) (hX_X11_thing : ∀ (M : Mm) (K : Int32 → Mm → Prop), X_X11_thing a0 M K → MT l g S yX11_thing cX11_thing 2 (some .boolean) dX [.ref (ad g a0)] M (pI K)) (E : EN p s m args meth c cX11_total 3 (some .boolean) RX11 g) (hw : ad g 100000 < s.heap.size) (hs0 : S[a0]? = some (10, 0)) (hEK5 : ∀ (x1' : Int32) (M' : Mm) (H : Heap) (locs : List Loc) (ls : Array Slot), EK5 x1' M' → RP g S M' H → va_S (gA g) s.heap H locs → lv_has ls 3 [(0, .ref (ad g a0)), (1, .int x1')] → W p l e (rmD (dX + 1)) s m args below meth c H locs 0 0 (MQ below (QA g S (pI K)) args s 0 0 (gA g)) (F0 m 68 ls [])) : ∀ (n : Nat) (x1 : Int32) (M : Mm), f_X11_total_L5 S X_X11_some X_X11_every X_X11_compared X_X11_total X_X11_ahead X_X11_thing a0 EK5 K n x1 M → ∀ (H : Heap) (locs : List Loc) (ls : Array Slot), RP g S M H → va_S (gA g) s.heap H locs → lv_has ls 3 [(0, .ref (ad g a0)), (1, .int x1)] → W p l e (rmD (dX + 1)) s m args below meth c H locs 0 0 (MQ below (QA g S (pI K)) args s 0 0 (gA g)) (F0 m 5 ls []) := by
  intro n
  induction n with
  | zero => intro x1 M hf; exact hf.elim
  | succ n ih =>
    intro x1 M hf H locs ls hR hS hl
    exact w_X11_total_B5 _ _ _ _ _ _ _ _ _ _ _ _ h10 hX_X11_some hX_X11_every hX_X11_compared hX_X11_total hX_X11_ahead hX_X11_thing E hw hs0 (fun _ M H locs ls h hR hS hl => ih _ M h H locs ls hR hS hl) hEK5 hf H locs ls hR hS hl
def f_X11_total (S : Ss) (X_X11_some : Nat → Mm → (Int32 → Mm → Prop) → Prop) (X_X11_every : Nat → Mm → (Int32 → Mm → Prop) → Prop) (X_X11_compared : Nat → Mm → (Int32 → Mm → Prop) → Prop) (X_X11_total : Nat → Mm → (Int32 → Mm → Prop) → Prop) (X_X11_ahead : Nat → Mm → (Int32 → Mm → Prop) → Prop) (X_X11_thing : Nat → Mm → (Int32 → Mm → Prop) → Prop) (a0 : Nat) (M : Mm) (K : Int32 → Mm → Prop) : Prop :=
  X_X11_ahead a0  M (fun (r2 : Int32) (m1 : Mm) =>
    ∃ n20 : Nat, f_X11_total_L5 S X_X11_some X_X11_every X_X11_compared X_X11_total X_X11_ahead X_X11_thing a0 (fun (v18 : Int32) (m19 : Mm) =>
    (v18 = 0 ∨ v18 = 1) ∧ K v18 m19) K n20 r2 m1)
set_option maxHeartbeats 4000000 in
set_option maxRecDepth 100000 in
theorem ok_X11_total {l : Launch} {g : Gg} {S : Ss} (X_X11_some : Nat → Mm → (Int32 → Mm → Prop) → Prop) (X_X11_every : Nat → Mm → (Int32 → Mm → Prop) → Prop) (X_X11_compared : Nat → Mm → (Int32 → Mm → Prop) → Prop) (X_X11_total : Nat → Mm → (Int32 → Mm → Prop) → Prop) (X_X11_ahead : Nat → Mm → (Int32 → Mm → Prop) → Prop) (X_X11_thing : Nat → Mm → (Int32 → Mm → Prop) → Prop) {a0 : Nat} {M : Mm} {K : Int32 → Mm → Prop} {dX : Nat} (h10 : 10 ≤ dX) (hX_X11_some : ∀ (M : Mm) (K : Int32 → Mm → Prop), X_X11_some a0 M K → MT l g S yX11_some cX11_some 2 (some .boolean) dX [.ref (ad g a0)] M (pI K)) (hX_X11_every : ∀ (M : Mm) (K : Int32 → Mm → Prop), X_X11_every a0 M K → MT l g S yX11_every cX11_every 2 (some .boolean) dX [.ref (ad g a0)] M (pI K)) (hX_X11_compared : ∀ (M : Mm) (K : Int32 → Mm → Prop), X_X11_compared a0 M K → MT l g S yX11_compared cX11_compared 3 (some .boolean) dX [.ref (ad g a0)] M (pI K)) (hX_X11_total : ∀ (M : Mm) (K : Int32 → Mm → Prop), X_X11_total a0 M K → MT l g S yX11_total cX11_total 3 (some .boolean) dX [.ref (ad g a0)] M (pI K)) (hX_X11_ahead : ∀ (M : Mm) (K : Int32 → Mm → Prop), X_X11_ahead a0 M K → MT l g S yX11_ahead cX11_ahead 3 (some .boolean) dX [.ref (ad g a0)] M (pI K)) (hX_X11_thing : ∀ (M : Mm) (K : Int32 → Mm → Prop), X_X11_thing a0 M K → MT l g S yX11_thing cX11_thing 2 (some .boolean) dX [.ref (ad g a0)] M (pI K)) (hs0 : S[a0]? = some (10, 0)) (hf : f_X11_total S X_X11_some X_X11_every X_X11_compared X_X11_total X_X11_ahead X_X11_thing a0 M K) : MT l g S yX11_total cX11_total 3 (some .boolean) (dX + 1) [.ref (ad g a0)] M (pI K) := by
  refine MT.of (by decide +kernel) (Nat.le_of_ble_eq_true rfl) ?_
  intro p e s m below meth c ls E hw hR hS hl
  have hl : lv_has ls 3 [(0, .ref (ad g a0))] := hl
  generalize ([.ref (ad g a0)] : List Value).toArray = args at E ⊢
  have E : EN p s m args meth c cX11_total 3 (some .boolean) RX11 g := E
  have hx := E.1
  have hb := E.2.1
  unfold f_X11_total at hf
  refine lv_aload_n hx hb dX11_total_0 rfl (lv_at hl 0 rfl) ?_
  refine hw_callV (d := (dX + 1)) E hR hS (As := []) (rest := []) cI10 hs0 rfl mcX11_ahead miX11_ahead lmX11_92 (hX_X11_ahead _ _ hf) rfl rfl (Nat.le_refl _) hl.1 (Nat.le_of_ble_eq_true rfl) dX11_total_1 (fun rr m1 H locs hp hR hS => ?_)
  obtain ⟨r2, rfl, hf⟩ := hp
  refine W.eq (g2 := F0 m 4 ls [.int r2]) rfl ?_
  refine lv_istore_n (lv' := [(1, .int r2), (0, .ref (ad g a0))]) hx hb dX11_total_4 rfl hl (by decide) rfl (fun ls hl => ?_)
  obtain ⟨n20, hf⟩ := hf
  refine w_X11_total_L5 _ _ _ _ _ _ _ _ _ h10 hX_X11_some hX_X11_every hX_X11_compared hX_X11_total hX_X11_ahead hX_X11_thing E hw hs0 ?_ n20 _ _ hf _ _ _ hR hS (lv_sub hl [1, 0] rfl)
  intro v18 m19 H locs ls hf hR hS hl
  refine lv_iload_n hx hb dX11_total_68 rfl (lv_at hl 1 rfl) ?_
  exact hw_zret E hR hS hf.1 ⟨_, rfl, hf.2⟩ dX11_total_69
def f_X11_ahead_J59 (S : Ss) (X_X11_some : Nat → Mm → (Int32 → Mm → Prop) → Prop) (X_X11_every : Nat → Mm → (Int32 → Mm → Prop) → Prop) (X_X11_compared : Nat → Mm → (Int32 → Mm → Prop) → Prop) (X_X11_total : Nat → Mm → (Int32 → Mm → Prop) → Prop) (X_X11_ahead : Nat → Mm → (Int32 → Mm → Prop) → Prop) (X_X11_thing : Nat → Mm → (Int32 → Mm → Prop) → Prop) (a0 : Nat) (x2 : Int32) (t0 : Int32) (t1 : Int32) (b02 : Nat) (M : Mm) (K : Int32 → Mm → Prop) : Prop :=
  S[b02]? = some (10, 0) ∧
  f_X11_marks S b02 (t1 + t0) M (fun (m9 : Mm) =>
    (x2 = 0 ∨ x2 = 1) ∧ K x2 m9)
set_option maxHeartbeats 4000000 in
set_option maxRecDepth 100000 in
theorem w_X11_ahead_J59 {p : Program} {l : Launch} {e : Env} {s : State} {m : MethodId} {args : Array Value} {below : List Frame} {meth : Method} {c : Code} {g : Gg} {S : Ss} (X_X11_some : Nat → Mm → (Int32 → Mm → Prop) → Prop) (X_X11_every : Nat → Mm → (Int32 → Mm → Prop) → Prop) (X_X11_compared : Nat → Mm → (Int32 → Mm → Prop) → Prop) (X_X11_total : Nat → Mm → (Int32 → Mm → Prop) → Prop) (X_X11_ahead : Nat → Mm → (Int32 → Mm → Prop) → Prop) (X_X11_thing : Nat → Mm → (Int32 → Mm → Prop) → Prop) (a0 : Nat) (x2 : Int32) (t0 : Int32) (t1 : Int32) (b02 : Nat) (M : Mm) (K : Int32 → Mm → Prop) {dX : Nat} (h10 : 10 ≤ dX) (hX_X11_some : ∀ (M : Mm) (K : Int32 → Mm → Prop), X_X11_some a0 M K → MT l g S yX11_some cX11_some 2 (some .boolean) dX [.ref (ad g a0)] M (pI K)) (hX_X11_every : ∀ (M : Mm) (K : Int32 → Mm → Prop), X_X11_every a0 M K → MT l g S yX11_every cX11_every 2 (some .boolean) dX [.ref (ad g a0)] M (pI K)) (hX_X11_compared : ∀ (M : Mm) (K : Int32 → Mm → Prop), X_X11_compared a0 M K → MT l g S yX11_compared cX11_compared 3 (some .boolean) dX [.ref (ad g a0)] M (pI K)) (hX_X11_total : ∀ (M : Mm) (K : Int32 → Mm → Prop), X_X11_total a0 M K → MT l g S yX11_total cX11_total 3 (some .boolean) dX [.ref (ad g a0)] M (pI K)) (hX_X11_ahead : ∀ (M : Mm) (K : Int32 → Mm → Prop), X_X11_ahead a0 M K → MT l g S yX11_ahead cX11_ahead 3 (some .boolean) dX [.ref (ad g a0)] M (pI K)) (hX_X11_thing : ∀ (M : Mm) (K : Int32 → Mm → Prop), X_X11_thing a0 M K → MT l g S yX11_thing cX11_thing 2 (some .boolean) dX [.ref (ad g a0)] M (pI K)) (E : EN p s m args meth c cX11_ahead 3 (some .boolean) RX11 g) (hw : ad g 100000 < s.heap.size) (hs0 : S[a0]? = some (10, 0)) (hf : f_X11_ahead_J59 S X_X11_some X_X11_every X_X11_compared X_X11_total X_X11_ahead X_X11_thing a0 x2 t0 t1 b02 M K) (H : Heap) (locs : List Loc) (ls : Array Slot) (hR : RP g S M H) (hS : va_S (gA g) s.heap H locs) (hl : lv_has ls 3 [(0, .ref (ad g a0)), (2, .int x2)]) : W p l e (rmD (dX + 1)) s m args below meth c H locs 0 0 (MQ below (QA g S (pI K)) args s 0 0 (gA g)) (F0 m 59 ls [.int t0, .int t1, .ref (ad g b02)]) := by
  have hx := E.1
  have hb := E.2.1
  unfold f_X11_ahead_J59 at hf
  refine lv_iadd hx hb dX11_ahead_59 ?_
  obtain ⟨h10, hf⟩ := hf
  refine hw_callV (d := (dX + 1)) E hR hS (As := [.int (t1 + t0)]) (rest := []) cI10 h10 rfl mcX11_marks miX11_marks lmX11_72 (ok_X11_marks h10 hf) rfl rfl (by omega) hl.1 (Nat.le_of_ble_eq_true rfl) dX11_ahead_60 (fun rr m9 H locs hp hR hS => ?_)
  obtain ⟨rfl, hf⟩ := hp
  refine W.eq (g2 := F0 m 63 ls []) rfl ?_
  refine lv_iload_n hx hb dX11_ahead_63 rfl (lv_at hl 1 rfl) ?_
  exact hw_zret E hR hS hf.1 ⟨_, rfl, hf.2⟩ dX11_ahead_64
def f_X11_ahead_J25 (S : Ss) (X_X11_some : Nat → Mm → (Int32 → Mm → Prop) → Prop) (X_X11_every : Nat → Mm → (Int32 → Mm → Prop) → Prop) (X_X11_compared : Nat → Mm → (Int32 → Mm → Prop) → Prop) (X_X11_total : Nat → Mm → (Int32 → Mm → Prop) → Prop) (X_X11_ahead : Nat → Mm → (Int32 → Mm → Prop) → Prop) (X_X11_thing : Nat → Mm → (Int32 → Mm → Prop) → Prop) (a0 : Nat) (x1 : Int32) (M : Mm) (K : Int32 → Mm → Prop) : Prop :=
  ∀ m4 : Mm, m4 = stI M a0 5 ((M.1 a0 5) + (1 : Int32)) →
  X_X11_ahead a0  m4 (fun (r6 : Int32) (m5 : Mm) =>
    ((r6 = 0 →
    (r6 = 0 ∨ r6 = 1) ∧ K r6 m5) ∧
   (¬ r6 = 0 →
    ((x1 = 0 →
      f_X11_ahead_J59 S X_X11_some X_X11_every X_X11_compared X_X11_total X_X11_ahead X_X11_thing a0 r6 (126 : Int32) (2000 : Int32) a0 m5 K) ∧
     (¬ x1 = 0 →
      f_X11_ahead_J59 S X_X11_some X_X11_every X_X11_compared X_X11_total X_X11_ahead X_X11_thing a0 r6 (33 : Int32) (2000 : Int32) a0 m5 K)))))
set_option maxHeartbeats 4000000 in
set_option maxRecDepth 100000 in
theorem w_X11_ahead_J25 {p : Program} {l : Launch} {e : Env} {s : State} {m : MethodId} {args : Array Value} {below : List Frame} {meth : Method} {c : Code} {g : Gg} {S : Ss} (X_X11_some : Nat → Mm → (Int32 → Mm → Prop) → Prop) (X_X11_every : Nat → Mm → (Int32 → Mm → Prop) → Prop) (X_X11_compared : Nat → Mm → (Int32 → Mm → Prop) → Prop) (X_X11_total : Nat → Mm → (Int32 → Mm → Prop) → Prop) (X_X11_ahead : Nat → Mm → (Int32 → Mm → Prop) → Prop) (X_X11_thing : Nat → Mm → (Int32 → Mm → Prop) → Prop) (a0 : Nat) (x1 : Int32) (M : Mm) (K : Int32 → Mm → Prop) {dX : Nat} (h10 : 10 ≤ dX) (hX_X11_some : ∀ (M : Mm) (K : Int32 → Mm → Prop), X_X11_some a0 M K → MT l g S yX11_some cX11_some 2 (some .boolean) dX [.ref (ad g a0)] M (pI K)) (hX_X11_every : ∀ (M : Mm) (K : Int32 → Mm → Prop), X_X11_every a0 M K → MT l g S yX11_every cX11_every 2 (some .boolean) dX [.ref (ad g a0)] M (pI K)) (hX_X11_compared : ∀ (M : Mm) (K : Int32 → Mm → Prop), X_X11_compared a0 M K → MT l g S yX11_compared cX11_compared 3 (some .boolean) dX [.ref (ad g a0)] M (pI K)) (hX_X11_total : ∀ (M : Mm) (K : Int32 → Mm → Prop), X_X11_total a0 M K → MT l g S yX11_total cX11_total 3 (some .boolean) dX [.ref (ad g a0)] M (pI K)) (hX_X11_ahead : ∀ (M : Mm) (K : Int32 → Mm → Prop), X_X11_ahead a0 M K → MT l g S yX11_ahead cX11_ahead 3 (some .boolean) dX [.ref (ad g a0)] M (pI K)) (hX_X11_thing : ∀ (M : Mm) (K : Int32 → Mm → Prop), X_X11_thing a0 M K → MT l g S yX11_thing cX11_thing 2 (some .boolean) dX [.ref (ad g a0)] M (pI K)) (E : EN p s m args meth c cX11_ahead 3 (some .boolean) RX11 g) (hw : ad g 100000 < s.heap.size) (hs0 : S[a0]? = some (10, 0)) (hf : f_X11_ahead_J25 S X_X11_some X_X11_every X_X11_compared X_X11_total X_X11_ahead X_X11_thing a0 x1 M K) (H : Heap) (locs : List Loc) (ls : Array Slot) (hR : RP g S M H) (hS : va_S (gA g) s.heap H locs) (hl : lv_has ls 3 [(0, .ref (ad g a0)), (1, .int x1)]) : W p l e (rmD (dX + 1)) s m args below meth c H locs 0 0 (MQ below (QA g S (pI K)) args s 0 0 (gA g)) (F0 m 25 ls []) := by
  have hx := E.1
  have hb := E.2.1
  unfold f_X11_ahead_J25 at hf
  refine lv_aload_n hx hb dX11_ahead_25 rfl (lv_at hl 0 rfl) ?_
  refine lv_dup hx hb dX11_ahead_26 rfl ?_
  refine hw_getI E hR cI10 hs0 5 (by decide) lfX11_25 rfl dX11_ahead_27 ?_
  refine lv_iconst (v := 1) hx hb dX11_ahead_30 (by decide) ?_
  refine lv_iadd hx hb dX11_ahead_31 ?_
  refine hw_putI E hR hS hw cI10 hs0 5 (by decide) lfX11_25 rfl (Or.inl rfl) dX11_ahead_32 (fun m4 H locs em4 hR hS => ?_)
  replace hf := hf m4 em4
  refine lv_aload_n hx hb dX11_ahead_35 rfl (lv_at hl 0 rfl) ?_
  refine hw_callV (d := (dX + 1)) E hR hS (As := []) (rest := []) cI10 hs0 rfl mcX11_ahead miX11_ahead lmX11_92 (hX_X11_ahead _ _ hf) rfl rfl (Nat.le_refl _) hl.1 (Nat.le_of_ble_eq_true rfl) dX11_ahead_36 (fun rr m5 H locs hp hR hS => ?_)
  obtain ⟨r6, rfl, hf⟩ := hp
  refine W.eq (g2 := F0 m 39 ls [.int r6]) rfl ?_
  refine lv_istore_n (lv' := [(2, .int r6), (0, .ref (ad g a0)), (1, .int x1)]) hx hb dX11_ahead_39 rfl hl (by decide) rfl (fun ls hl => ?_)
  refine lv_iload_n hx hb dX11_ahead_40 rfl (lv_at hl 0 rfl) ?_
  refine lv_if_eq (tgt := 63) hx hb dX11_ahead_41 (by decide) (fun c7 => ?_) (fun c7 => ?_)
  · replace hf := hf.1 c7
    refine lv_iload_n hx hb dX11_ahead_63 rfl (lv_at hl 0 rfl) ?_
    exact hw_zret E hR hS hf.1 ⟨_, rfl, hf.2⟩ dX11_ahead_64
  · replace hf := hf.2 c7
    refine lv_aload_n hx hb dX11_ahead_44 rfl (lv_at hl 1 rfl) ?_
    refine lv_sipush (v := 2000) hx hb dX11_ahead_45 (by decide) ?_
    refine lv_iload_n hx hb dX11_ahead_48 rfl (lv_at hl 2 rfl) ?_
    refine lv_if_eq (tgt := 57) hx hb dX11_ahead_49 (by decide) (fun c8 => ?_) (fun c8 => ?_)
    · replace hf := hf.1 c8
      refine lv_bipush (v := 126) hx hb dX11_ahead_57 (by decide) ?_
      exact w_X11_ahead_J59 _ _ _ _ _ _ _ _ _ _ _ _ _ h10 hX_X11_some hX_X11_every hX_X11_compared hX_X11_total hX_X11_ahead hX_X11_thing E hw hs0 hf _ _ _ hR hS (lv_sub hl [1, 0] rfl)
    · replace hf := hf.2 c8
      refine lv_bipush (v := 33) hx hb dX11_ahead_52 (by decide) ?_
      refine lv_goto (tgt := 59) hx hb dX11_ahead_54 (by decide) ?_
      exact w_X11_ahead_J59 _ _ _ _ _ _ _ _ _ _ _ _ _ h10 hX_X11_some hX_X11_every hX_X11_compared hX_X11_total hX_X11_ahead hX_X11_thing E hw hs0 hf _ _ _ hR hS (lv_sub hl [1, 0] rfl)
def f_X11_ahead (S : Ss) (X_X11_some : Nat → Mm → (Int32 → Mm → Prop) → Prop) (X_X11_every : Nat → Mm → (Int32 → Mm → Prop) → Prop) (X_X11_compared : Nat → Mm → (Int32 → Mm → Prop) → Prop) (X_X11_total : Nat → Mm → (Int32 → Mm → Prop) → Prop) (X_X11_ahead : Nat → Mm → (Int32 → Mm → Prop) → Prop) (X_X11_thing : Nat → Mm → (Int32 → Mm → Prop) → Prop) (a0 : Nat) (M : Mm) (K : Int32 → Mm → Prop) : Prop :=
  f_X11_isAt S a0 (33 : Int32) M (fun (r2 : Int32) (m1 : Mm) =>
    ((r2 = 0 →
    f_X11_isAt S a0 (45 : Int32) m1 (fun (r12 : Int32) (m11 : Mm) =>
      ((r12 = 0 →
      X_X11_thing a0  m11 (fun (r15 : Int32) (m14 : Mm) =>
        (r15 = 0 ∨ r15 = 1) ∧ K r15 m14)) ∧
     (¬ r12 = 0 →
      f_X11_ahead_J25 S X_X11_some X_X11_every X_X11_compared X_X11_total X_X11_ahead X_X11_thing a0 r2 m11 K)))) ∧
   (¬ r2 = 0 →
    f_X11_ahead_J25 S X_X11_some X_X11_every X_X11_compared X_X11_total X_X11_ahead X_X11_thing a0 r2 m1 K)))
set_option maxHeartbeats 4000000 in
set_option maxRecDepth 100000 in
theorem ok_X11_ahead {l : Launch} {g : Gg} {S : Ss} (X_X11_some : Nat → Mm → (Int32 → Mm → Prop) → Prop) (X_X11_every : Nat → Mm → (Int32 → Mm → Prop) → Prop) (X_X11_compared : Nat → Mm → (Int32 → Mm → Prop) → Prop) (X_X11_total : Nat → Mm → (Int32 → Mm → Prop) → Prop) (X_X11_ahead : Nat → Mm → (Int32 → Mm → Prop) → Prop) (X_X11_thing : Nat → Mm → (Int32 → Mm → Prop) → Prop) {a0 : Nat} {M : Mm} {K : Int32 → Mm → Prop} {dX : Nat} (h10 : 10 ≤ dX) (hX_X11_some : ∀ (M : Mm) (K : Int32 → Mm → Prop), X_X11_some a0 M K → MT l g S yX11_some cX11_some 2 (some .boolean) dX [.ref (ad g a0)] M (pI K)) (hX_X11_every : ∀ (M : Mm) (K : Int32 → Mm → Prop), X_X11_every a0 M K → MT l g S yX11_every cX11_every 2 (some .boolean) dX [.ref (ad g a0)] M (pI K)) (hX_X11_compared : ∀ (M : Mm) (K : Int32 → Mm → Prop), X_X11_compared a0 M K → MT l g S yX11_compared cX11_compared 3 (some .boolean) dX [.ref (ad g a0)] M (pI K)) (hX_X11_total : ∀ (M : Mm) (K : Int32 → Mm → Prop), X_X11_total a0 M K → MT l g S yX11_total cX11_total 3 (some .boolean) dX [.ref (ad g a0)] M (pI K)) (hX_X11_ahead : ∀ (M : Mm) (K : Int32 → Mm → Prop), X_X11_ahead a0 M K → MT l g S yX11_ahead cX11_ahead 3 (some .boolean) dX [.ref (ad g a0)] M (pI K)) (hX_X11_thing : ∀ (M : Mm) (K : Int32 → Mm → Prop), X_X11_thing a0 M K → MT l g S yX11_thing cX11_thing 2 (some .boolean) dX [.ref (ad g a0)] M (pI K)) (hs0 : S[a0]? = some (10, 0)) (hf : f_X11_ahead S X_X11_some X_X11_every X_X11_compared X_X11_total X_X11_ahead X_X11_thing a0 M K) : MT l g S yX11_ahead cX11_ahead 3 (some .boolean) (dX + 1) [.ref (ad g a0)] M (pI K) := by
  refine MT.of (by decide +kernel) (Nat.le_of_ble_eq_true rfl) ?_
  intro p e s m below meth c ls E hw hR hS hl
  have hl : lv_has ls 3 [(0, .ref (ad g a0))] := hl
  generalize ([.ref (ad g a0)] : List Value).toArray = args at E ⊢
  have E : EN p s m args meth c cX11_ahead 3 (some .boolean) RX11 g := E
  have hx := E.1
  have hb := E.2.1
  unfold f_X11_ahead at hf
  refine lv_aload_n hx hb dX11_ahead_0 rfl (lv_at hl 0 rfl) ?_
  refine lv_bipush (v := 33) hx hb dX11_ahead_1 (by decide) ?_
  refine hw_callV (d := (dX + 1)) E hR hS (As := [.int (33 : Int32)]) (rest := []) cI10 hs0 rfl mcX11_isAt miX11_isAt lmX11_31 (ok_X11_isAt hs0 hf) rfl rfl (by omega) hl.1 (Nat.le_of_ble_eq_true rfl) dX11_ahead_3 (fun rr m1 H locs hp hR hS => ?_)
  obtain ⟨r2, rfl, hf⟩ := hp
  refine W.eq (g2 := F0 m 6 ls [.int r2]) rfl ?_
  refine lv_istore_n (lv' := [(1, .int r2), (0, .ref (ad g a0))]) hx hb dX11_ahead_6 rfl hl (by decide) rfl (fun ls hl => ?_)
  refine lv_iload_n hx hb dX11_ahead_7 rfl (lv_at hl 0 rfl) ?_
  refine lv_if_ne (tgt := 25) hx hb dX11_ahead_8 (by decide) (fun c3 => ?_) (fun c3 => ?_)
  · replace hf := hf.2 c3
    exact w_X11_ahead_J25 _ _ _ _ _ _ _ _ _ _ h10 hX_X11_some hX_X11_every hX_X11_compared hX_X11_total hX_X11_ahead hX_X11_thing E hw hs0 hf _ _ _ hR hS (lv_sub hl [1, 0] rfl)
  · replace hf := hf.1 c3
    refine lv_aload_n hx hb dX11_ahead_11 rfl (lv_at hl 1 rfl) ?_
    refine lv_bipush (v := 45) hx hb dX11_ahead_12 (by decide) ?_
    refine hw_callV (d := (dX + 1)) E hR hS (As := [.int (45 : Int32)]) (rest := []) cI10 hs0 rfl mcX11_isAt miX11_isAt lmX11_31 (ok_X11_isAt hs0 hf) rfl rfl (by omega) hl.1 (Nat.le_of_ble_eq_true rfl) dX11_ahead_14 (fun rr m11 H locs hp hR hS => ?_)
    obtain ⟨r12, rfl, hf⟩ := hp
    refine W.eq (g2 := F0 m 17 ls [.int r12]) rfl ?_
    refine lv_if_ne (tgt := 25) hx hb dX11_ahead_17 (by decide) (fun c13 => ?_) (fun c13 => ?_)
    · replace hf := hf.2 c13
      exact w_X11_ahead_J25 _ _ _ _ _ _ _ _ _ _ h10 hX_X11_some hX_X11_every hX_X11_compared hX_X11_total hX_X11_ahead hX_X11_thing E hw hs0 hf _ _ _ hR hS (lv_sub hl [1, 0] rfl)
    · replace hf := hf.1 c13
      refine lv_aload_n hx hb dX11_ahead_20 rfl (lv_at hl 1 rfl) ?_
      refine hw_callV (d := (dX + 1)) E hR hS (As := []) (rest := []) cI10 hs0 rfl mcX11_thing miX11_thing lmX11_89 (hX_X11_thing _ _ hf) rfl rfl (Nat.le_refl _) hl.1 (Nat.le_of_ble_eq_true rfl) dX11_ahead_21 (fun rr m14 H locs hp hR hS => ?_)
      obtain ⟨r15, rfl, hf⟩ := hp
      refine W.eq (g2 := F0 m 24 ls [.int r15]) rfl ?_
      exact hw_zret E hR hS hf.1 ⟨_, rfl, hf.2⟩ dX11_ahead_24
def f_X11_thing (S : Ss) (X_X11_some : Nat → Mm → (Int32 → Mm → Prop) → Prop) (X_X11_every : Nat → Mm → (Int32 → Mm → Prop) → Prop) (X_X11_compared : Nat → Mm → (Int32 → Mm → Prop) → Prop) (X_X11_total : Nat → Mm → (Int32 → Mm → Prop) → Prop) (X_X11_ahead : Nat → Mm → (Int32 → Mm → Prop) → Prop) (X_X11_thing : Nat → Mm → (Int32 → Mm → Prop) → Prop) (a0 : Nat) (M : Mm) (K : Int32 → Mm → Prop) : Prop :=
  f_X11_digits S a0 (3 : Int32) M (fun (r2 : Int32) (m1 : Mm) =>
    ((r2 < 0 →
    f_X11_letter S a0  m1 (fun (r5 : Int32) (m4 : Mm) =>
      ((r5 < 0 →
      f_X11_isAt S a0 (40 : Int32) m4 (fun (r8 : Int32) (m7 : Mm) =>
        ((r8 = 0 →
        K (0 : Int32) m7) ∧
       (¬ r8 = 0 →
        (((m7.1 a0 7) = (5 : Int32) →
          K (0 : Int32) m7) ∧
         (¬ (m7.1 a0 7) = (5 : Int32) →
          ∀ m11 : Mm, m11 = stI m7 a0 5 ((m7.1 a0 5) + (1 : Int32)) →
          ∀ m12 : Mm, m12 = stI m11 a0 7 ((m11.1 a0 7) + (1 : Int32)) →
          X_X11_some a0  m12 (fun (r14 : Int32) (m13 : Mm) =>
            ((r14 = 0 →
            K (0 : Int32) m13) ∧
           (¬ r14 = 0 →
            f_X11_comes S a0 (41 : Int32) m13 (fun (r17 : Int32) (m16 : Mm) =>
              ((r17 = 0 →
              K (0 : Int32) m16) ∧
             (¬ r17 = 0 →
              ∀ m19 : Mm, m19 = stI m16 a0 7 ((m16.1 a0 7) - (1 : Int32)) →
              K (1 : Int32) m19)))))))))))) ∧
     (¬ r5 < 0 →
      f_X11_letter S a0  m4 (fun (r21 : Int32) (m20 : Mm) =>
        f_X11_marks S a0 r21 m20 (fun (m22 : Mm) =>
        ∀ m23 : Mm, m23 = stI m22 a0 5 ((m22.1 a0 5) + (1 : Int32)) →
      K (1 : Int32) m23)))))) ∧
   (¬ r2 < 0 →
    f_X11_marks S a0 r2 m1 (fun (m24 : Mm) =>
      K (1 : Int32) m24))))
set_option maxHeartbeats 4000000 in
set_option maxRecDepth 100000 in
theorem ok_X11_thing {l : Launch} {g : Gg} {S : Ss} (X_X11_some : Nat → Mm → (Int32 → Mm → Prop) → Prop) (X_X11_every : Nat → Mm → (Int32 → Mm → Prop) → Prop) (X_X11_compared : Nat → Mm → (Int32 → Mm → Prop) → Prop) (X_X11_total : Nat → Mm → (Int32 → Mm → Prop) → Prop) (X_X11_ahead : Nat → Mm → (Int32 → Mm → Prop) → Prop) (X_X11_thing : Nat → Mm → (Int32 → Mm → Prop) → Prop) {a0 : Nat} {M : Mm} {K : Int32 → Mm → Prop} {dX : Nat} (h10 : 10 ≤ dX) (hX_X11_some : ∀ (M : Mm) (K : Int32 → Mm → Prop), X_X11_some a0 M K → MT l g S yX11_some cX11_some 2 (some .boolean) dX [.ref (ad g a0)] M (pI K)) (hX_X11_every : ∀ (M : Mm) (K : Int32 → Mm → Prop), X_X11_every a0 M K → MT l g S yX11_every cX11_every 2 (some .boolean) dX [.ref (ad g a0)] M (pI K)) (hX_X11_compared : ∀ (M : Mm) (K : Int32 → Mm → Prop), X_X11_compared a0 M K → MT l g S yX11_compared cX11_compared 3 (some .boolean) dX [.ref (ad g a0)] M (pI K)) (hX_X11_total : ∀ (M : Mm) (K : Int32 → Mm → Prop), X_X11_total a0 M K → MT l g S yX11_total cX11_total 3 (some .boolean) dX [.ref (ad g a0)] M (pI K)) (hX_X11_ahead : ∀ (M : Mm) (K : Int32 → Mm → Prop), X_X11_ahead a0 M K → MT l g S yX11_ahead cX11_ahead 3 (some .boolean) dX [.ref (ad g a0)] M (pI K)) (hX_X11_thing : ∀ (M : Mm) (K : Int32 → Mm → Prop), X_X11_thing a0 M K → MT l g S yX11_thing cX11_thing 2 (some .boolean) dX [.ref (ad g a0)] M (pI K)) (hs0 : S[a0]? = some (10, 0)) (hf : f_X11_thing S X_X11_some X_X11_every X_X11_compared X_X11_total X_X11_ahead X_X11_thing a0 M K) : MT l g S yX11_thing cX11_thing 2 (some .boolean) (dX + 1) [.ref (ad g a0)] M (pI K) := by
  refine MT.of (by decide +kernel) (Nat.le_of_ble_eq_true rfl) ?_
  intro p e s m below meth c ls E hw hR hS hl
  have hl : lv_has ls 2 [(0, .ref (ad g a0))] := hl
  generalize ([.ref (ad g a0)] : List Value).toArray = args at E ⊢
  have E : EN p s m args meth c cX11_thing 2 (some .boolean) RX11 g := E
  have hx := E.1
  have hb := E.2.1
  unfold f_X11_thing at hf
  refine lv_aload_n hx hb dX11_thing_0 rfl (lv_at hl 0 rfl) ?_
  refine lv_iconst (v := 3) hx hb dX11_thing_1 (by decide) ?_
  refine hw_callV (d := (dX + 1)) E hR hS (As := [.int (3 : Int32)]) (rest := []) cI10 hs0 rfl mcX11_digits miX11_digits lmX11_68 (ok_X11_digits hs0 hf) rfl rfl (by omega) hl.1 (Nat.le_of_ble_eq_true rfl) dX11_thing_2 (fun rr m1 H locs hp hR hS => ?_)
  obtain ⟨r2, rfl, hf⟩ := hp
  refine W.eq (g2 := F0 m 5 ls [.int r2]) rfl ?_
  refine lv_istore_n (lv' := [(1, .int r2), (0, .ref (ad g a0))]) hx hb dX11_thing_5 rfl hl (by decide) rfl (fun ls hl => ?_)
  refine lv_iload_n hx hb dX11_thing_6 rfl (lv_at hl 0 rfl) ?_
  refine lv_if_lt (tgt := 17) hx hb dX11_thing_7 (by decide) (fun c3 => ?_) (fun c3 => ?_)
  · replace hf := hf.1 c3
    refine lv_aload_n hx hb dX11_thing_17 rfl (lv_at hl 1 rfl) ?_
    refine hw_callV (d := (dX + 1)) E hR hS (As := []) (rest := []) cI10 hs0 rfl mcX11_letter miX11_letter lmX11_76 (ok_X11_letter hs0 hf) rfl rfl (by omega) hl.1 (Nat.le_of_ble_eq_true rfl) dX11_thing_18 (fun rr m4 H locs hp hR hS => ?_)
    obtain ⟨r5, rfl, hf⟩ := hp
    refine W.eq (g2 := F0 m 21 ls [.int r5]) rfl ?_
    refine lv_if_lt (tgt := 44) hx hb dX11_thing_21 (by decide) (fun c6 => ?_) (fun c6 => ?_)
    · replace hf := hf.1 c6
      refine lv_aload_n hx hb dX11_thing_44 rfl (lv_at hl 1 rfl) ?_
      refine lv_bipush (v := 40) hx hb dX11_thing_45 (by decide) ?_
      refine hw_callV (d := (dX + 1)) E hR hS (As := [.int (40 : Int32)]) (rest := []) cI10 hs0 rfl mcX11_isAt miX11_isAt lmX11_31 (ok_X11_isAt hs0 hf) rfl rfl (by omega) hl.1 (Nat.le_of_ble_eq_true rfl) dX11_thing_47 (fun rr m7 H locs hp hR hS => ?_)
      obtain ⟨r8, rfl, hf⟩ := hp
      refine W.eq (g2 := F0 m 50 ls [.int r8]) rfl ?_
      refine lv_if_eq (tgt := 61) hx hb dX11_thing_50 (by decide) (fun c9 => ?_) (fun c9 => ?_)
      · replace hf := hf.1 c9
        refine lv_iconst (v := 0) hx hb dX11_thing_61 (by decide) ?_
        exact hw_zret E hR hS (by decide) ⟨_, rfl, hf⟩ dX11_thing_62
      · replace hf := hf.2 c9
        refine lv_aload_n hx hb dX11_thing_53 rfl (lv_at hl 1 rfl) ?_
        refine hw_getI E hR cI10 hs0 7 (by decide) lfX11_80 rfl dX11_thing_54 ?_
        refine lv_iconst (v := 5) hx hb dX11_thing_57 (by decide) ?_
        refine lv_icmp_ne (tgt := 63) hx hb dX11_thing_58 (by decide) (fun c10 => ?_) (fun c10 => ?_)
        · replace hf := hf.2 c10
          refine lv_aload_n hx hb dX11_thing_63 rfl (lv_at hl 1 rfl) ?_
          refine lv_dup hx hb dX11_thing_64 rfl ?_
          refine hw_getI E hR cI10 hs0 5 (by decide) lfX11_25 rfl dX11_thing_65 ?_
          refine lv_iconst (v := 1) hx hb dX11_thing_68 (by decide) ?_
          refine lv_iadd hx hb dX11_thing_69 ?_
          refine hw_putI E hR hS hw cI10 hs0 5 (by decide) lfX11_25 rfl (Or.inl rfl) dX11_thing_70 (fun m11 H locs em11 hR hS => ?_)
          replace hf := hf m11 em11
          refine lv_aload_n hx hb dX11_thing_73 rfl (lv_at hl 1 rfl) ?_
          refine lv_dup hx hb dX11_thing_74 rfl ?_
          refine hw_getI E hR cI10 hs0 7 (by decide) lfX11_80 rfl dX11_thing_75 ?_
          refine lv_iconst (v := 1) hx hb dX11_thing_78 (by decide) ?_
          refine lv_iadd hx hb dX11_thing_79 ?_
          refine hw_putI E hR hS hw cI10 hs0 7 (by decide) lfX11_80 rfl (Or.inl rfl) dX11_thing_80 (fun m12 H locs em12 hR hS => ?_)
          replace hf := hf m12 em12
          refine lv_aload_n hx hb dX11_thing_83 rfl (lv_at hl 1 rfl) ?_
          refine hw_callV (d := (dX + 1)) E hR hS (As := []) (rest := []) cI10 hs0 rfl mcX11_some miX11_some lmX11_83 (hX_X11_some _ _ hf) rfl rfl (Nat.le_refl _) hl.1 (Nat.le_of_ble_eq_true rfl) dX11_thing_84 (fun rr m13 H locs hp hR hS => ?_)
          obtain ⟨r14, rfl, hf⟩ := hp
          refine W.eq (g2 := F0 m 87 ls [.int r14]) rfl ?_
          refine lv_if_eq (tgt := 99) hx hb dX11_thing_87 (by decide) (fun c15 => ?_) (fun c15 => ?_)
          · replace hf := hf.1 c15
            refine lv_iconst (v := 0) hx hb dX11_thing_99 (by decide) ?_
            exact hw_zret E hR hS (by decide) ⟨_, rfl, hf⟩ dX11_thing_100
          · replace hf := hf.2 c15
            refine lv_aload_n hx hb dX11_thing_90 rfl (lv_at hl 1 rfl) ?_
            refine lv_bipush (v := 41) hx hb dX11_thing_91 (by decide) ?_
            refine hw_callV (d := (dX + 1)) E hR hS (As := [.int (41 : Int32)]) (rest := []) cI10 hs0 rfl mcX11_comes miX11_comes lmX11_86 (ok_X11_comes hs0 hf) rfl rfl (by omega) hl.1 (Nat.le_of_ble_eq_true rfl) dX11_thing_93 (fun rr m16 H locs hp hR hS => ?_)
            obtain ⟨r17, rfl, hf⟩ := hp
            refine W.eq (g2 := F0 m 96 ls [.int r17]) rfl ?_
            refine lv_if_ne (tgt := 101) hx hb dX11_thing_96 (by decide) (fun c18 => ?_) (fun c18 => ?_)
            · replace hf := hf.2 c18
              refine lv_aload_n hx hb dX11_thing_101 rfl (lv_at hl 1 rfl) ?_
              refine lv_dup hx hb dX11_thing_102 rfl ?_
              refine hw_getI E hR cI10 hs0 7 (by decide) lfX11_80 rfl dX11_thing_103 ?_
              refine lv_iconst (v := 1) hx hb dX11_thing_106 (by decide) ?_
              refine lv_isub hx hb dX11_thing_107 ?_
              refine hw_putI E hR hS hw cI10 hs0 7 (by decide) lfX11_80 rfl (Or.inl rfl) dX11_thing_108 (fun m19 H locs em19 hR hS => ?_)
              replace hf := hf m19 em19
              refine lv_iconst (v := 1) hx hb dX11_thing_111 (by decide) ?_
              exact hw_zret E hR hS (by decide) ⟨_, rfl, hf⟩ dX11_thing_112
            · replace hf := hf.1 c18
              refine lv_iconst (v := 0) hx hb dX11_thing_99 (by decide) ?_
              exact hw_zret E hR hS (by decide) ⟨_, rfl, hf⟩ dX11_thing_100
        · replace hf := hf.1 c10
          refine lv_iconst (v := 0) hx hb dX11_thing_61 (by decide) ?_
          exact hw_zret E hR hS (by decide) ⟨_, rfl, hf⟩ dX11_thing_62
    · replace hf := hf.2 c6
      refine lv_aload_n hx hb dX11_thing_24 rfl (lv_at hl 1 rfl) ?_
      refine lv_aload_n hx hb dX11_thing_25 rfl (lv_at hl 1 rfl) ?_
      refine hw_callV (d := (dX + 1)) E hR hS (As := []) (rest := [.ref (ad g a0)]) cI10 hs0 rfl mcX11_letter miX11_letter lmX11_76 (ok_X11_letter hs0 hf) rfl rfl (by omega) hl.1 (Nat.le_of_ble_eq_true rfl) dX11_thing_26 (fun rr m20 H locs hp hR hS => ?_)
      obtain ⟨r21, rfl, hf⟩ := hp
      refine W.eq (g2 := F0 m 29 ls [.int r21, .ref (ad g a0)]) rfl ?_
      refine hw_callV (d := (dX + 1)) E hR hS (As := [.int r21]) (rest := []) cI10 hs0 rfl mcX11_marks miX11_marks lmX11_72 (ok_X11_marks hs0 hf) rfl rfl (by omega) hl.1 (Nat.le_of_ble_eq_true rfl) dX11_thing_29 (fun rr m22 H locs hp hR hS => ?_)
      obtain ⟨rfl, hf⟩ := hp
      refine W.eq (g2 := F0 m 32 ls []) rfl ?_
      refine lv_aload_n hx hb dX11_thing_32 rfl (lv_at hl 1 rfl) ?_
      refine lv_dup hx hb dX11_thing_33 rfl ?_
      refine hw_getI E hR cI10 hs0 5 (by decide) lfX11_25 rfl dX11_thing_34 ?_
      refine lv_iconst (v := 1) hx hb dX11_thing_37 (by decide) ?_
      refine lv_iadd hx hb dX11_thing_38 ?_
      refine hw_putI E hR hS hw cI10 hs0 5 (by decide) lfX11_25 rfl (Or.inl rfl) dX11_thing_39 (fun m23 H locs em23 hR hS => ?_)
      replace hf := hf m23 em23
      refine lv_iconst (v := 1) hx hb dX11_thing_42 (by decide) ?_
      exact hw_zret E hR hS (by decide) ⟨_, rfl, hf⟩ dX11_thing_43
  · replace hf := hf.2 c3
    refine lv_aload_n hx hb dX11_thing_10 rfl (lv_at hl 1 rfl) ?_
    refine lv_iload_n hx hb dX11_thing_11 rfl (lv_at hl 0 rfl) ?_
    refine hw_callV (d := (dX + 1)) E hR hS (As := [.int r2]) (rest := []) cI10 hs0 rfl mcX11_marks miX11_marks lmX11_72 (ok_X11_marks hs0 hf) rfl rfl (by omega) hl.1 (Nat.le_of_ble_eq_true rfl) dX11_thing_12 (fun rr m24 H locs hp hR hS => ?_)
    obtain ⟨rfl, hf⟩ := hp
    refine W.eq (g2 := F0 m 15 ls []) rfl ?_
    refine lv_iconst (v := 1) hx hb dX11_thing_15 (by decide) ?_
    exact hw_zret E hR hS (by decide) ⟨_, rfl, hf⟩ dX11_thing_16
def g_P (S : Ss) : Nat → Nat → Nat → Mm → (Int32 → Mm → Prop) → Prop
  | 0, _, _, _, _ => False
  | n + 1, w, a0, M, K => if w = 0 then f_X11_some S (fun a M K => g_P S n 0 a M K) (fun a M K => g_P S n 1 a M K) (fun a M K => g_P S n 2 a M K) (fun a M K => g_P S n 3 a M K) (fun a M K => g_P S n 4 a M K) (fun a M K => g_P S n 5 a M K) a0 M K else if w = 1 then f_X11_every S (fun a M K => g_P S n 0 a M K) (fun a M K => g_P S n 1 a M K) (fun a M K => g_P S n 2 a M K) (fun a M K => g_P S n 3 a M K) (fun a M K => g_P S n 4 a M K) (fun a M K => g_P S n 5 a M K) a0 M K else if w = 2 then f_X11_compared S (fun a M K => g_P S n 0 a M K) (fun a M K => g_P S n 1 a M K) (fun a M K => g_P S n 2 a M K) (fun a M K => g_P S n 3 a M K) (fun a M K => g_P S n 4 a M K) (fun a M K => g_P S n 5 a M K) a0 M K else if w = 3 then f_X11_total S (fun a M K => g_P S n 0 a M K) (fun a M K => g_P S n 1 a M K) (fun a M K => g_P S n 2 a M K) (fun a M K => g_P S n 3 a M K) (fun a M K => g_P S n 4 a M K) (fun a M K => g_P S n 5 a M K) a0 M K else if w = 4 then f_X11_ahead S (fun a M K => g_P S n 0 a M K) (fun a M K => g_P S n 1 a M K) (fun a M K => g_P S n 2 a M K) (fun a M K => g_P S n 3 a M K) (fun a M K => g_P S n 4 a M K) (fun a M K => g_P S n 5 a M K) a0 M K else if w = 5 then f_X11_thing S (fun a M K => g_P S n 0 a M K) (fun a M K => g_P S n 1 a M K) (fun a M K => g_P S n 2 a M K) (fun a M K => g_P S n 3 a M K) (fun a M K => g_P S n 4 a M K) (fun a M K => g_P S n 5 a M K) a0 M K else False
theorem g_P_ok {l : Launch} {g : Gg} {S : Ss} {a0 : Nat} (hs0 : S[a0]? = some (10, 0)) (n : Nat) : (∀ (M : Mm) (K : Int32 → Mm → Prop), g_P S n 0 a0 M K → MT l g S yX11_some cX11_some 2 (some .boolean) (n + 10) [.ref (ad g a0)] M (pI K)) ∧ (∀ (M : Mm) (K : Int32 → Mm → Prop), g_P S n 1 a0 M K → MT l g S yX11_every cX11_every 2 (some .boolean) (n + 10) [.ref (ad g a0)] M (pI K)) ∧ (∀ (M : Mm) (K : Int32 → Mm → Prop), g_P S n 2 a0 M K → MT l g S yX11_compared cX11_compared 3 (some .boolean) (n + 10) [.ref (ad g a0)] M (pI K)) ∧ (∀ (M : Mm) (K : Int32 → Mm → Prop), g_P S n 3 a0 M K → MT l g S yX11_total cX11_total 3 (some .boolean) (n + 10) [.ref (ad g a0)] M (pI K)) ∧ (∀ (M : Mm) (K : Int32 → Mm → Prop), g_P S n 4 a0 M K → MT l g S yX11_ahead cX11_ahead 3 (some .boolean) (n + 10) [.ref (ad g a0)] M (pI K)) ∧ (∀ (M : Mm) (K : Int32 → Mm → Prop), g_P S n 5 a0 M K → MT l g S yX11_thing cX11_thing 2 (some .boolean) (n + 10) [.ref (ad g a0)] M (pI K)) := by
  induction n with
  | zero => exact ⟨fun M K h => h.elim, fun M K h => h.elim, fun M K h => h.elim, fun M K h => h.elim, fun M K h => h.elim, fun M K h => h.elim⟩
  | succ n ih =>
    obtain ⟨i0, i1, i2, i3, i4, i5⟩ := ih
    refine ⟨?_, ?_, ?_, ?_, ?_, ?_⟩
    · intro M K h
      have h1 : f_X11_some S (fun a M K => g_P S n 0 a M K) (fun a M K => g_P S n 1 a M K) (fun a M K => g_P S n 2 a M K) (fun a M K => g_P S n 3 a M K) (fun a M K => g_P S n 4 a M K) (fun a M K => g_P S n 5 a M K) a0 M K := h
      have h2 := ok_X11_some (l := l) (g := g) _ _ _ _ _ _ (dX := n + 10) (by omega) i0 i1 i2 i3 i4 i5 hs0 h1
      rw [show n + 10 + 1 = n + 1 + 10 by omega] at h2
      exact h2
    · intro M K h
      have h1 : f_X11_every S (fun a M K => g_P S n 0 a M K) (fun a M K => g_P S n 1 a M K) (fun a M K => g_P S n 2 a M K) (fun a M K => g_P S n 3 a M K) (fun a M K => g_P S n 4 a M K) (fun a M K => g_P S n 5 a M K) a0 M K := h
      have h2 := ok_X11_every (l := l) (g := g) _ _ _ _ _ _ (dX := n + 10) (by omega) i0 i1 i2 i3 i4 i5 hs0 h1
      rw [show n + 10 + 1 = n + 1 + 10 by omega] at h2
      exact h2
    · intro M K h
      have h1 : f_X11_compared S (fun a M K => g_P S n 0 a M K) (fun a M K => g_P S n 1 a M K) (fun a M K => g_P S n 2 a M K) (fun a M K => g_P S n 3 a M K) (fun a M K => g_P S n 4 a M K) (fun a M K => g_P S n 5 a M K) a0 M K := h
      have h2 := ok_X11_compared (l := l) (g := g) _ _ _ _ _ _ (dX := n + 10) (by omega) i0 i1 i2 i3 i4 i5 hs0 h1
      rw [show n + 10 + 1 = n + 1 + 10 by omega] at h2
      exact h2
    · intro M K h
      have h1 : f_X11_total S (fun a M K => g_P S n 0 a M K) (fun a M K => g_P S n 1 a M K) (fun a M K => g_P S n 2 a M K) (fun a M K => g_P S n 3 a M K) (fun a M K => g_P S n 4 a M K) (fun a M K => g_P S n 5 a M K) a0 M K := h
      have h2 := ok_X11_total (l := l) (g := g) _ _ _ _ _ _ (dX := n + 10) (by omega) i0 i1 i2 i3 i4 i5 hs0 h1
      rw [show n + 10 + 1 = n + 1 + 10 by omega] at h2
      exact h2
    · intro M K h
      have h1 : f_X11_ahead S (fun a M K => g_P S n 0 a M K) (fun a M K => g_P S n 1 a M K) (fun a M K => g_P S n 2 a M K) (fun a M K => g_P S n 3 a M K) (fun a M K => g_P S n 4 a M K) (fun a M K => g_P S n 5 a M K) a0 M K := h
      have h2 := ok_X11_ahead (l := l) (g := g) _ _ _ _ _ _ (dX := n + 10) (by omega) i0 i1 i2 i3 i4 i5 hs0 h1
      rw [show n + 10 + 1 = n + 1 + 10 by omega] at h2
      exact h2
    · intro M K h
      have h1 : f_X11_thing S (fun a M K => g_P S n 0 a M K) (fun a M K => g_P S n 1 a M K) (fun a M K => g_P S n 2 a M K) (fun a M K => g_P S n 3 a M K) (fun a M K => g_P S n 4 a M K) (fun a M K => g_P S n 5 a M K) a0 M K := h
      have h2 := ok_X11_thing (l := l) (g := g) _ _ _ _ _ _ (dX := n + 10) (by omega) i0 i1 i2 i3 i4 i5 hs0 h1
      rw [show n + 10 + 1 = n + 1 + 10 by omega] at h2
      exact h2
def f_X11_some_top (S : Ss) (a0 : Nat) (M : Mm) (K : Int32 → Mm → Prop) : Prop := g_P S 190 0 a0 M K
theorem ok_X11_some_top {l : Launch} {g : Gg} {S : Ss} {a0 : Nat} {M : Mm} {K : Int32 → Mm → Prop} (hs0 : S[a0]? = some (10, 0)) (hf : f_X11_some_top S a0 M K) : MT l g S yX11_some cX11_some 2 (some .boolean) 200 [.ref (ad g a0)] M (pI K) := (g_P_ok hs0 190).1 M K hf
def f_X11_every_top (S : Ss) (a0 : Nat) (M : Mm) (K : Int32 → Mm → Prop) : Prop := g_P S 190 1 a0 M K
theorem ok_X11_every_top {l : Launch} {g : Gg} {S : Ss} {a0 : Nat} {M : Mm} {K : Int32 → Mm → Prop} (hs0 : S[a0]? = some (10, 0)) (hf : f_X11_every_top S a0 M K) : MT l g S yX11_every cX11_every 2 (some .boolean) 200 [.ref (ad g a0)] M (pI K) := (g_P_ok hs0 190).2.1 M K hf
def f_X11_compared_top (S : Ss) (a0 : Nat) (M : Mm) (K : Int32 → Mm → Prop) : Prop := g_P S 190 2 a0 M K
theorem ok_X11_compared_top {l : Launch} {g : Gg} {S : Ss} {a0 : Nat} {M : Mm} {K : Int32 → Mm → Prop} (hs0 : S[a0]? = some (10, 0)) (hf : f_X11_compared_top S a0 M K) : MT l g S yX11_compared cX11_compared 3 (some .boolean) 200 [.ref (ad g a0)] M (pI K) := (g_P_ok hs0 190).2.2.1 M K hf
def f_X11_total_top (S : Ss) (a0 : Nat) (M : Mm) (K : Int32 → Mm → Prop) : Prop := g_P S 190 3 a0 M K
theorem ok_X11_total_top {l : Launch} {g : Gg} {S : Ss} {a0 : Nat} {M : Mm} {K : Int32 → Mm → Prop} (hs0 : S[a0]? = some (10, 0)) (hf : f_X11_total_top S a0 M K) : MT l g S yX11_total cX11_total 3 (some .boolean) 200 [.ref (ad g a0)] M (pI K) := (g_P_ok hs0 190).2.2.2.1 M K hf
def f_X11_ahead_top (S : Ss) (a0 : Nat) (M : Mm) (K : Int32 → Mm → Prop) : Prop := g_P S 190 4 a0 M K
theorem ok_X11_ahead_top {l : Launch} {g : Gg} {S : Ss} {a0 : Nat} {M : Mm} {K : Int32 → Mm → Prop} (hs0 : S[a0]? = some (10, 0)) (hf : f_X11_ahead_top S a0 M K) : MT l g S yX11_ahead cX11_ahead 3 (some .boolean) 200 [.ref (ad g a0)] M (pI K) := (g_P_ok hs0 190).2.2.2.2.1 M K hf
def f_X11_thing_top (S : Ss) (a0 : Nat) (M : Mm) (K : Int32 → Mm → Prop) : Prop := g_P S 190 5 a0 M K
theorem ok_X11_thing_top {l : Launch} {g : Gg} {S : Ss} {a0 : Nat} {M : Mm} {K : Int32 → Mm → Prop} (hs0 : S[a0]? = some (10, 0)) (hf : f_X11_thing_top S a0 M K) : MT l g S yX11_thing cX11_thing 2 (some .boolean) 200 [.ref (ad g a0)] M (pI K) := (g_P_ok hs0 190).2.2.2.2.2 M K hf
def f_X11_line_J300 (S : Ss) (a0 : Nat) (x2 : Int32) (M : Mm) (K : Int32 → Mm → Prop) : Prop :=
  ((x2 = (115 : Int32) →
    K (1 : Int32) M) ∧
   (¬ x2 = (115 : Int32) →
    f_X11_comes S a0 (58 : Int32) M (fun (r33 : Int32) (m32 : Mm) =>
      ((r33 = 0 →
      K (0 : Int32) m32) ∧
     (¬ r33 = 0 →
      f_X11_some_top S a0  m32 (fun (r36 : Int32) (m35 : Mm) =>
        ((r36 = 0 →
        K (0 : Int32) m35) ∧
       (¬ r36 = 0 →
        K (1 : Int32) m35))))))))
set_option maxHeartbeats 4000000 in
set_option maxRecDepth 100000 in
theorem w_X11_line_J300 {p : Program} {l : Launch} {e : Env} {s : State} {m : MethodId} {args : Array Value} {below : List Frame} {meth : Method} {c : Code} {g : Gg} {S : Ss} (a0 : Nat) (x2 : Int32) (M : Mm) (K : Int32 → Mm → Prop) (E : EN p s m args meth c cX11_line 3 (some .boolean) RX11 g) (hw : ad g 100000 < s.heap.size) (hs0 : S[a0]? = some (10, 0)) (hf : f_X11_line_J300 S a0 x2 M K) (H : Heap) (locs : List Loc) (ls : Array Slot) (hR : RP g S M H) (hS : va_S (gA g) s.heap H locs) (hl : lv_has ls 3 [(0, .ref (ad g a0)), (2, .int x2)]) : W p l e (rmD 201) s m args below meth c H locs 0 0 (MQ below (QA g S (pI K)) args s 0 0 (gA g)) (F0 m 300 ls []) := by
  have hx := E.1
  have hb := E.2.1
  unfold f_X11_line_J300 at hf
  refine lv_iload_n hx hb dX11_line_300 rfl (lv_at hl 1 rfl) ?_
  refine lv_bipush (v := 115) hx hb dX11_line_301 (by decide) ?_
  refine lv_icmp_eq (tgt := 322) hx hb dX11_line_303 (by decide) (fun c31 => ?_) (fun c31 => ?_)
  · replace hf := hf.1 c31
    refine lv_iconst (v := 1) hx hb dX11_line_322 (by decide) ?_
    refine lv_goto (tgt := 327) hx hb dX11_line_323 (by decide) ?_
    exact hw_zret E hR hS (by decide) ⟨_, rfl, hf⟩ dX11_line_327
  · replace hf := hf.2 c31
    refine lv_aload_n hx hb dX11_line_306 rfl (lv_at hl 0 rfl) ?_
    refine lv_bipush (v := 58) hx hb dX11_line_307 (by decide) ?_
    refine hw_callV (d := 201) E hR hS (As := [.int (58 : Int32)]) (rest := []) cI10 hs0 rfl mcX11_comes miX11_comes lmX11_86 (ok_X11_comes hs0 hf) rfl rfl (by decide) hl.1 (Nat.le_of_ble_eq_true rfl) dX11_line_309 (fun rr m32 H locs hp hR hS => ?_)
    obtain ⟨r33, rfl, hf⟩ := hp
    refine W.eq (g2 := F0 m 312 ls [.int r33]) rfl ?_
    refine lv_if_eq (tgt := 326) hx hb dX11_line_312 (by decide) (fun c34 => ?_) (fun c34 => ?_)
    · replace hf := hf.1 c34
      refine lv_iconst (v := 0) hx hb dX11_line_326 (by decide) ?_
      exact hw_zret E hR hS (by decide) ⟨_, rfl, hf⟩ dX11_line_327
    · replace hf := hf.2 c34
      refine lv_aload_n hx hb dX11_line_315 rfl (lv_at hl 0 rfl) ?_
      refine hw_callV (d := 201) E hR hS (As := []) (rest := []) cI10 hs0 rfl mcX11_some miX11_some lmX11_83 (ok_X11_some_top hs0 hf) rfl rfl (by decide) hl.1 (Nat.le_of_ble_eq_true rfl) dX11_line_316 (fun rr m35 H locs hp hR hS => ?_)
      obtain ⟨r36, rfl, hf⟩ := hp
      refine W.eq (g2 := F0 m 319 ls [.int r36]) rfl ?_
      refine lv_if_eq (tgt := 326) hx hb dX11_line_319 (by decide) (fun c37 => ?_) (fun c37 => ?_)
      · replace hf := hf.1 c37
        refine lv_iconst (v := 0) hx hb dX11_line_326 (by decide) ?_
        exact hw_zret E hR hS (by decide) ⟨_, rfl, hf⟩ dX11_line_327
      · replace hf := hf.2 c37
        refine lv_iconst (v := 1) hx hb dX11_line_322 (by decide) ?_
        refine lv_goto (tgt := 327) hx hb dX11_line_323 (by decide) ?_
        exact hw_zret E hR hS (by decide) ⟨_, rfl, hf⟩ dX11_line_327
def f_X11_line_J187 (S : Ss) (a0 : Nat) (x2 : Int32) (M : Mm) (K : Int32 → Mm → Prop) : Prop :=
  ∀ m21 : Mm, m21 = stI M a0 5 ((M.1 a0 5) + (1 : Int32)) →
  ((x2 = (109 : Int32) →
    (((m21.1 a0 6) ≤ (m21.1 a0 5) →
      K (0 : Int32) m21) ∧
     (¬ (m21.1 a0 6) ≤ (m21.1 a0 5) →
      ∃ b39 : Nat, m21.2.2 a0 3 = some b39 ∧
      ∃ n40 : Nat, shp S b39 = some (50, n40) ∧ vp_in (m21.1 a0 5) n40 ∧
      f_X11_in S  (m21.1 b39 (m21.1 a0 5).toNatClampNeg).toInt64 (48 : Int64) (51 : Int64) m21 (fun (r42 : Int32) (m41 : Mm) =>
        ((r42 = 0 →
        K (0 : Int32) m41) ∧
       (¬ r42 = 0 →
        ∃ b44 : Nat, m41.2.2 a0 10 = some b44 ∧
        ∃ b45 : Nat, m41.2.2 a0 3 = some b45 ∧
        ∃ n46 : Nat, shp S b45 = some (50, n46) ∧ vp_in (m41.1 a0 5) n46 ∧
        ∃ n47 : Nat, S[b44]? = some (50, n47) ∧ vp_in (m41.1 a0 13) n47 ∧
        ∀ m48 : Mm, m48 = stI m41 b44 (m41.1 a0 13).toNatClampNeg ((m41.1 b45 (m41.1 a0 5).toNatClampNeg) - (48 : Int32)) →
        ∀ m49 : Mm, m49 = stI m48 a0 5 ((m48.1 a0 5) + (1 : Int32)) →
        f_X11_line_J300 S a0 x2 m49 K)))))) ∧
   (¬ x2 = (109 : Int32) →
    ∃ b23 : Nat, m21.2.2 a0 10 = some b23 ∧
    f_X11_digits S a0 (2 : Int32) m21 (fun (r25 : Int32) (m24 : Mm) =>
      ∃ n26 : Nat, S[b23]? = some (50, n26) ∧ vp_in (m21.1 a0 13) n26 ∧
    ∀ m27 : Mm, m27 = stI m24 b23 (m21.1 a0 13).toNatClampNeg r25 →
    ∃ b28 : Nat, m27.2.2 a0 10 = some b28 ∧
    ∃ n29 : Nat, shp S b28 = some (50, n29) ∧ vp_in (m27.1 a0 13) n29 ∧
    ((0 ≤ (m27.1 b28 (m27.1 a0 13).toNatClampNeg) →
      f_X11_line_J300 S a0 x2 m27 K) ∧
     (¬ 0 ≤ (m27.1 b28 (m27.1 a0 13).toNatClampNeg) →
      K (0 : Int32) m27)))))
set_option maxHeartbeats 4000000 in
set_option maxRecDepth 100000 in
theorem w_X11_line_J187 {p : Program} {l : Launch} {e : Env} {s : State} {m : MethodId} {args : Array Value} {below : List Frame} {meth : Method} {c : Code} {g : Gg} {S : Ss} (a0 : Nat) (x2 : Int32) (M : Mm) (K : Int32 → Mm → Prop) (E : EN p s m args meth c cX11_line 3 (some .boolean) RX11 g) (hw : ad g 100000 < s.heap.size) (hs0 : S[a0]? = some (10, 0)) (hf : f_X11_line_J187 S a0 x2 M K) (H : Heap) (locs : List Loc) (ls : Array Slot) (hR : RP g S M H) (hS : va_S (gA g) s.heap H locs) (hl : lv_has ls 3 [(0, .ref (ad g a0)), (2, .int x2)]) : W p l e (rmD 201) s m args below meth c H locs 0 0 (MQ below (QA g S (pI K)) args s 0 0 (gA g)) (F0 m 187 ls []) := by
  have hx := E.1
  have hb := E.2.1
  unfold f_X11_line_J187 at hf
  refine lv_aload_n hx hb dX11_line_187 rfl (lv_at hl 0 rfl) ?_
  refine lv_dup hx hb dX11_line_188 rfl ?_
  refine hw_getI E hR cI10 hs0 5 (by decide) lfX11_25 rfl dX11_line_189 ?_
  refine lv_iconst (v := 1) hx hb dX11_line_192 (by decide) ?_
  refine lv_iadd hx hb dX11_line_193 ?_
  refine hw_putI E hR hS hw cI10 hs0 5 (by decide) lfX11_25 rfl (Or.inl rfl) dX11_line_194 (fun m21 H locs em21 hR hS => ?_)
  replace hf := hf m21 em21
  refine lv_iload_n hx hb dX11_line_197 rfl (lv_at hl 1 rfl) ?_
  refine lv_bipush (v := 109) hx hb dX11_line_198 (by decide) ?_
  refine lv_icmp_ne (tgt := 272) hx hb dX11_line_200 (by decide) (fun c22 => ?_) (fun c22 => ?_)
  · replace hf := hf.2 c22
    refine lv_aload_n hx hb dX11_line_272 rfl (lv_at hl 0 rfl) ?_
    obtain ⟨b23, hb23, hf⟩ := hf
    refine hw_getR E hR cI10 hs0 10 (by decide) lfX11_104 rfl hb23 dX11_line_273 ?_
    refine lv_aload_n hx hb dX11_line_276 rfl (lv_at hl 0 rfl) ?_
    refine hw_getI E hR cI10 hs0 13 (by decide) lfX11_46 rfl dX11_line_277 ?_
    refine lv_aload_n hx hb dX11_line_280 rfl (lv_at hl 0 rfl) ?_
    refine lv_iconst (v := 2) hx hb dX11_line_281 (by decide) ?_
    refine hw_callV (d := 201) E hR hS (As := [.int (2 : Int32)]) (rest := [.int (m21.1 a0 13), .ref (ad g b23)]) cI10 hs0 rfl mcX11_digits miX11_digits lmX11_68 (ok_X11_digits hs0 hf) rfl rfl (by decide) hl.1 (Nat.le_of_ble_eq_true rfl) dX11_line_282 (fun rr m24 H locs hp hR hS => ?_)
    obtain ⟨r25, rfl, hf⟩ := hp
    refine W.eq (g2 := F0 m 285 ls [.int r25, .int (m21.1 a0 13), .ref (ad g b23)]) rfl ?_
    obtain ⟨n26, hn26, in26, hf⟩ := hf
    refine hw_iast E hR hS hw hn26 in26 dX11_line_285 (fun m27 H locs em27 hR hS => ?_)
    replace hf := hf m27 em27
    refine lv_aload_n hx hb dX11_line_286 rfl (lv_at hl 0 rfl) ?_
    obtain ⟨b28, hb28, hf⟩ := hf
    refine hw_getR E hR cI10 hs0 10 (by decide) lfX11_104 rfl hb28 dX11_line_287 ?_
    refine lv_aload_n hx hb dX11_line_290 rfl (lv_at hl 0 rfl) ?_
    refine hw_getI E hR cI10 hs0 13 (by decide) lfX11_46 rfl dX11_line_291 ?_
    obtain ⟨n29, hn29, in29, hf⟩ := hf
    refine hw_iald E hR hS hn29 in29 dX11_line_294 ?_
    refine lv_if_ge (tgt := 300) hx hb dX11_line_295 (by decide) (fun c30 => ?_) (fun c30 => ?_)
    · replace hf := hf.1 c30
      exact w_X11_line_J300 _ _ _ _ E hw hs0 hf _ _ _ hR hS (lv_sub hl [0, 1] rfl)
    · replace hf := hf.2 c30
      refine lv_iconst (v := 0) hx hb dX11_line_298 (by decide) ?_
      exact hw_zret E hR hS (by decide) ⟨_, rfl, hf⟩ dX11_line_299
  · replace hf := hf.1 c22
    refine lv_aload_n hx hb dX11_line_203 rfl (lv_at hl 0 rfl) ?_
    refine hw_getI E hR cI10 hs0 5 (by decide) lfX11_25 rfl dX11_line_204 ?_
    refine lv_aload_n hx hb dX11_line_207 rfl (lv_at hl 0 rfl) ?_
    refine hw_getI E hR cI10 hs0 6 (by decide) lfX11_28 rfl dX11_line_208 ?_
    refine lv_icmp_ge (tgt := 236) hx hb dX11_line_211 (by decide) (fun c38 => ?_) (fun c38 => ?_)
    · replace hf := hf.1 c38
      refine lv_iconst (v := 0) hx hb dX11_line_236 (by decide) ?_
      exact hw_zret E hR hS (by decide) ⟨_, rfl, hf⟩ dX11_line_237
    · replace hf := hf.2 c38
      refine lv_aload_n hx hb dX11_line_214 rfl (lv_at hl 0 rfl) ?_
      obtain ⟨b39, hb39, hf⟩ := hf
      refine hw_getR E hR cI10 hs0 3 (by decide) lfX11_17 rfl hb39 dX11_line_215 ?_
      refine lv_aload_n hx hb dX11_line_218 rfl (lv_at hl 0 rfl) ?_
      refine hw_getI E hR cI10 hs0 5 (by decide) lfX11_25 rfl dX11_line_219 ?_
      obtain ⟨n40, hn40, in40, hf⟩ := hf
      refine hw_iald E hR hS hn40 in40 dX11_line_222 ?_
      refine lv_i2l hx hb dX11_line_223 rfl ?_
      refine lv_ldc2 (v := 48) hx hb E.2.2.2.2.1 (E.2.2.2.2.2.1 _ ljX11_39) dX11_line_224 ?_
      refine lv_ldc2 (v := 51) hx hb E.2.2.2.2.1 (E.2.2.2.2.2.1 _ ljX11_110) dX11_line_227 ?_
      refine hw_callS (d := 201) E hR hS (As := [.long (m21.1 b39 (m21.1 a0 5).toNatClampNeg).toInt64, .long (48 : Int64), .long (51 : Int64)]) (rest := []) mcX11_in msX11_in lmX11_21 (ok_X11_in  hf) rfl rfl (by decide) hl.1 (Nat.le_of_ble_eq_true rfl) dX11_line_230 (fun rr m41 H locs hp hR hS => ?_)
      obtain ⟨r42, rfl, hf⟩ := hp
      refine W.eq (g2 := F0 m 233 ls [.int r42]) rfl ?_
      refine lv_if_ne (tgt := 238) hx hb dX11_line_233 (by decide) (fun c43 => ?_) (fun c43 => ?_)
      · replace hf := hf.2 c43
        refine lv_aload_n hx hb dX11_line_238 rfl (lv_at hl 0 rfl) ?_
        obtain ⟨b44, hb44, hf⟩ := hf
        refine hw_getR E hR cI10 hs0 10 (by decide) lfX11_104 rfl hb44 dX11_line_239 ?_
        refine lv_aload_n hx hb dX11_line_242 rfl (lv_at hl 0 rfl) ?_
        refine hw_getI E hR cI10 hs0 13 (by decide) lfX11_46 rfl dX11_line_243 ?_
        refine lv_aload_n hx hb dX11_line_246 rfl (lv_at hl 0 rfl) ?_
        obtain ⟨b45, hb45, hf⟩ := hf
        refine hw_getR E hR cI10 hs0 3 (by decide) lfX11_17 rfl hb45 dX11_line_247 ?_
        refine lv_aload_n hx hb dX11_line_250 rfl (lv_at hl 0 rfl) ?_
        refine hw_getI E hR cI10 hs0 5 (by decide) lfX11_25 rfl dX11_line_251 ?_
        obtain ⟨n46, hn46, in46, hf⟩ := hf
        refine hw_iald E hR hS hn46 in46 dX11_line_254 ?_
        refine lv_bipush (v := 48) hx hb dX11_line_255 (by decide) ?_
        refine lv_isub hx hb dX11_line_257 ?_
        obtain ⟨n47, hn47, in47, hf⟩ := hf
        refine hw_iast E hR hS hw hn47 in47 dX11_line_258 (fun m48 H locs em48 hR hS => ?_)
        replace hf := hf m48 em48
        refine lv_aload_n hx hb dX11_line_259 rfl (lv_at hl 0 rfl) ?_
        refine lv_dup hx hb dX11_line_260 rfl ?_
        refine hw_getI E hR cI10 hs0 5 (by decide) lfX11_25 rfl dX11_line_261 ?_
        refine lv_iconst (v := 1) hx hb dX11_line_264 (by decide) ?_
        refine lv_iadd hx hb dX11_line_265 ?_
        refine hw_putI E hR hS hw cI10 hs0 5 (by decide) lfX11_25 rfl (Or.inl rfl) dX11_line_266 (fun m49 H locs em49 hR hS => ?_)
        replace hf := hf m49 em49
        refine lv_goto (tgt := 300) hx hb dX11_line_269 (by decide) ?_
        exact w_X11_line_J300 _ _ _ _ E hw hs0 hf _ _ _ hR hS (lv_sub hl [0, 1] rfl)
      · replace hf := hf.1 c43
        refine lv_iconst (v := 0) hx hb dX11_line_236 (by decide) ?_
        exact hw_zret E hR hS (by decide) ⟨_, rfl, hf⟩ dX11_line_237
def f_X11_line (S : Ss) (a0 : Nat) (x1 : Int32) (M : Mm) (K : Int32 → Mm → Prop) : Prop :=
  ∀ m1 : Mm, m1 = stI M a0 13 x1 →
  ∃ b2 : Nat, m1.2.2 a0 12 = some b2 ∧
  ∃ n3 : Nat, S[b2]? = some (50, n3) ∧ vp_in (m1.1 a0 13) n3 ∧
  ∀ m4 : Mm, m4 = stI m1 b2 (m1.1 a0 13).toNatClampNeg (0 : Int32) →
  ∃ b5 : Nat, m4.2.2 a0 10 = some b5 ∧
  ∃ n6 : Nat, S[b5]? = some (50, n6) ∧ vp_in (m4.1 a0 13) n6 ∧
  ∀ m7 : Mm, m7 = stI m4 b5 (m4.1 a0 13).toNatClampNeg (0 : Int32) →
  (((m7.1 a0 5) < (m7.1 a0 6) →
    ∃ b9 : Nat, m7.2.2 a0 3 = some b9 ∧
    ∃ n10 : Nat, shp S b9 = some (50, n10) ∧ vp_in (m7.1 a0 5) n10 ∧
    ∀ v11 : Int32, v11 = (m7.1 b9 (m7.1 a0 5).toNatClampNeg) →
    ∃ b12 : Nat, m7.2.2 a0 9 = some b12 ∧
    ∃ n13 : Nat, S[b12]? = some (50, n13) ∧ vp_in (m7.1 a0 13) n13 ∧
    ∀ m14 : Mm, m14 = stI m7 b12 (m7.1 a0 13).toNatClampNeg v11 →
    f_X11_in S  v11.toInt64 (97 : Int64) (104 : Int64) m14 (fun (r16 : Int32) (m15 : Mm) =>
      ((r16 = 0 →
      ((v11 = (63 : Int32) →
        ∀ m53 : Mm, m53 = stI m15 a0 5 ((m15.1 a0 5) + (1 : Int32)) →
        f_X11_some_top S a0  m53 (fun (r55 : Int32) (m54 : Mm) =>
          (r55 = 0 ∨ r55 = 1) ∧ K r55 m54)) ∧
       (¬ v11 = (63 : Int32) →
        ((v11 = (120 : Int32) →
          ∀ m52 : Mm, m52 = stI m15 a0 5 ((m15.1 a0 5) + (1 : Int32)) →
          K (1 : Int32) m52) ∧
         (¬ v11 = (120 : Int32) →
          ((v11 = (109 : Int32) →
            f_X11_line_J187 S a0 v11 m15 K) ∧
           (¬ v11 = (109 : Int32) →
            ((v11 = (106 : Int32) →
              f_X11_line_J187 S a0 v11 m15 K) ∧
             (¬ v11 = (106 : Int32) →
              ((v11 = (115 : Int32) →
                f_X11_line_J187 S a0 v11 m15 K) ∧
               (¬ v11 = (115 : Int32) →
                K (0 : Int32) m15))))))))))) ∧
     (¬ r16 = 0 →
      ∃ b56 : Nat, m15.2.2 a0 10 = some b56 ∧
      ∃ n57 : Nat, S[b56]? = some (50, n57) ∧ vp_in (m15.1 a0 13) n57 ∧
      ∀ m58 : Mm, m58 = stI m15 b56 (m15.1 a0 13).toNatClampNeg (v11 - (97 : Int32)) →
      ∃ b59 : Nat, m58.2.2 a0 9 = some b59 ∧
      ∃ n60 : Nat, S[b59]? = some (50, n60) ∧ vp_in (m58.1 a0 13) n60 ∧
      ∀ m61 : Mm, m61 = stI m58 b59 (m58.1 a0 13).toNatClampNeg (61 : Int32) →
      ∀ m62 : Mm, m62 = stI m61 a0 5 ((m61.1 a0 5) + (1 : Int32)) →
      f_X11_comes S a0 (61 : Int32) m62 (fun (r64 : Int32) (m63 : Mm) =>
        ((r64 = 0 →
        K (0 : Int32) m63) ∧
       (¬ r64 = 0 →
        f_X11_some_top S a0  m63 (fun (r67 : Int32) (m66 : Mm) =>
          ((r67 = 0 →
          K (0 : Int32) m66) ∧
         (¬ r67 = 0 →
          K (1 : Int32) m66)))))))))) ∧
   (¬ (m7.1 a0 5) < (m7.1 a0 6) →
    K (0 : Int32) m7))
set_option maxHeartbeats 4000000 in
set_option maxRecDepth 100000 in
theorem ok_X11_line {l : Launch} {g : Gg} {S : Ss} {a0 : Nat} {x1 : Int32} {M : Mm} {K : Int32 → Mm → Prop} (hs0 : S[a0]? = some (10, 0)) (hf : f_X11_line S a0 x1 M K) : MT l g S yX11_line cX11_line 3 (some .boolean) 201 [.ref (ad g a0), .int x1] M (pI K) := by
  refine MT.of (by decide +kernel) (Nat.le_of_ble_eq_true rfl) ?_
  intro p e s m below meth c ls E hw hR hS hl
  have hl : lv_has ls 3 [(0, .ref (ad g a0)), (1, .int x1)] := hl
  generalize ([.ref (ad g a0), .int x1] : List Value).toArray = args at E ⊢
  have E : EN p s m args meth c cX11_line 3 (some .boolean) RX11 g := E
  have hx := E.1
  have hb := E.2.1
  unfold f_X11_line at hf
  refine lv_aload_n hx hb dX11_line_0 rfl (lv_at hl 0 rfl) ?_
  refine lv_iload_n hx hb dX11_line_1 rfl (lv_at hl 1 rfl) ?_
  refine hw_putI E hR hS hw cI10 hs0 13 (by decide) lfX11_46 rfl (Or.inl rfl) dX11_line_2 (fun m1 H locs em1 hR hS => ?_)
  replace hf := hf m1 em1
  refine lv_aload_n hx hb dX11_line_5 rfl (lv_at hl 0 rfl) ?_
  obtain ⟨b2, hb2, hf⟩ := hf
  refine hw_getR E hR cI10 hs0 12 (by decide) lfX11_49 rfl hb2 dX11_line_6 ?_
  refine lv_aload_n hx hb dX11_line_9 rfl (lv_at hl 0 rfl) ?_
  refine hw_getI E hR cI10 hs0 13 (by decide) lfX11_46 rfl dX11_line_10 ?_
  refine lv_iconst (v := 0) hx hb dX11_line_13 (by decide) ?_
  obtain ⟨n3, hn3, in3, hf⟩ := hf
  refine hw_iast E hR hS hw hn3 in3 dX11_line_14 (fun m4 H locs em4 hR hS => ?_)
  replace hf := hf m4 em4
  refine lv_aload_n hx hb dX11_line_15 rfl (lv_at hl 0 rfl) ?_
  obtain ⟨b5, hb5, hf⟩ := hf
  refine hw_getR E hR cI10 hs0 10 (by decide) lfX11_104 rfl hb5 dX11_line_16 ?_
  refine lv_aload_n hx hb dX11_line_19 rfl (lv_at hl 0 rfl) ?_
  refine hw_getI E hR cI10 hs0 13 (by decide) lfX11_46 rfl dX11_line_20 ?_
  refine lv_iconst (v := 0) hx hb dX11_line_23 (by decide) ?_
  obtain ⟨n6, hn6, in6, hf⟩ := hf
  refine hw_iast E hR hS hw hn6 in6 dX11_line_24 (fun m7 H locs em7 hR hS => ?_)
  replace hf := hf m7 em7
  refine lv_aload_n hx hb dX11_line_25 rfl (lv_at hl 0 rfl) ?_
  refine hw_getI E hR cI10 hs0 5 (by decide) lfX11_25 rfl dX11_line_26 ?_
  refine lv_aload_n hx hb dX11_line_29 rfl (lv_at hl 0 rfl) ?_
  refine hw_getI E hR cI10 hs0 6 (by decide) lfX11_28 rfl dX11_line_30 ?_
  refine lv_icmp_lt (tgt := 38) hx hb dX11_line_33 (by decide) (fun c8 => ?_) (fun c8 => ?_)
  · replace hf := hf.1 c8
    refine lv_aload_n hx hb dX11_line_38 rfl (lv_at hl 0 rfl) ?_
    obtain ⟨b9, hb9, hf⟩ := hf
    refine hw_getR E hR cI10 hs0 3 (by decide) lfX11_17 rfl hb9 dX11_line_39 ?_
    refine lv_aload_n hx hb dX11_line_42 rfl (lv_at hl 0 rfl) ?_
    refine hw_getI E hR cI10 hs0 5 (by decide) lfX11_25 rfl dX11_line_43 ?_
    obtain ⟨n10, hn10, in10, hf⟩ := hf
    refine hw_iald E hR hS hn10 in10 dX11_line_46 ?_
    refine lv_topi (fun v11 ev11 => ?_)
    replace hf := hf v11 ev11
    refine lv_istore_n (lv' := [(2, .int v11), (0, .ref (ad g a0)), (1, .int x1)]) hx hb dX11_line_47 rfl hl (by decide) rfl (fun ls hl => ?_)
    refine lv_aload_n hx hb dX11_line_48 rfl (lv_at hl 1 rfl) ?_
    obtain ⟨b12, hb12, hf⟩ := hf
    refine hw_getR E hR cI10 hs0 9 (by decide) lfX11_107 rfl hb12 dX11_line_49 ?_
    refine lv_aload_n hx hb dX11_line_52 rfl (lv_at hl 1 rfl) ?_
    refine hw_getI E hR cI10 hs0 13 (by decide) lfX11_46 rfl dX11_line_53 ?_
    refine lv_iload_n hx hb dX11_line_56 rfl (lv_at hl 0 rfl) ?_
    obtain ⟨n13, hn13, in13, hf⟩ := hf
    refine hw_iast E hR hS hw hn13 in13 dX11_line_57 (fun m14 H locs em14 hR hS => ?_)
    replace hf := hf m14 em14
    refine lv_iload_n hx hb dX11_line_58 rfl (lv_at hl 0 rfl) ?_
    refine lv_i2l hx hb dX11_line_59 rfl ?_
    refine lv_ldc2 (v := 97) hx hb E.2.2.2.2.1 (E.2.2.2.2.2.1 _ ljX11_56) dX11_line_60 ?_
    refine lv_ldc2 (v := 104) hx hb E.2.2.2.2.1 (E.2.2.2.2.2.1 _ ljX11_58) dX11_line_63 ?_
    refine hw_callS (d := 201) E hR hS (As := [.long v11.toInt64, .long (97 : Int64), .long (104 : Int64)]) (rest := []) mcX11_in msX11_in lmX11_21 (ok_X11_in  hf) rfl rfl (by decide) hl.1 (Nat.le_of_ble_eq_true rfl) dX11_line_66 (fun rr m15 H locs hp hR hS => ?_)
    obtain ⟨r16, rfl, hf⟩ := hp
    refine W.eq (g2 := F0 m 69 ls [.int r16]) rfl ?_
    refine lv_if_eq (tgt := 128) hx hb dX11_line_69 (by decide) (fun c17 => ?_) (fun c17 => ?_)
    · replace hf := hf.1 c17
      refine lv_iload_n hx hb dX11_line_128 rfl (lv_at hl 0 rfl) ?_
      refine lv_bipush (v := 63) hx hb dX11_line_129 (by decide) ?_
      refine lv_icmp_ne (tgt := 149) hx hb dX11_line_131 (by decide) (fun c18 => ?_) (fun c18 => ?_)
      · replace hf := hf.2 c18
        refine lv_iload_n hx hb dX11_line_149 rfl (lv_at hl 0 rfl) ?_
        refine lv_bipush (v := 120) hx hb dX11_line_150 (by decide) ?_
        refine lv_icmp_ne (tgt := 167) hx hb dX11_line_152 (by decide) (fun c19 => ?_) (fun c19 => ?_)
        · replace hf := hf.2 c19
          refine lv_iload_n hx hb dX11_line_167 rfl (lv_at hl 0 rfl) ?_
          refine lv_bipush (v := 109) hx hb dX11_line_168 (by decide) ?_
          refine lv_icmp_eq (tgt := 187) hx hb dX11_line_170 (by decide) (fun c20 => ?_) (fun c20 => ?_)
          · replace hf := hf.1 c20
            exact w_X11_line_J187 _ _ _ _ E hw hs0 hf _ _ _ hR hS (lv_sub hl [1, 0] rfl)
          · replace hf := hf.2 c20
            refine lv_iload_n hx hb dX11_line_173 rfl (lv_at hl 0 rfl) ?_
            refine lv_bipush (v := 106) hx hb dX11_line_174 (by decide) ?_
            refine lv_icmp_eq (tgt := 187) hx hb dX11_line_176 (by decide) (fun c50 => ?_) (fun c50 => ?_)
            · replace hf := hf.1 c50
              exact w_X11_line_J187 _ _ _ _ E hw hs0 hf _ _ _ hR hS (lv_sub hl [1, 0] rfl)
            · replace hf := hf.2 c50
              refine lv_iload_n hx hb dX11_line_179 rfl (lv_at hl 0 rfl) ?_
              refine lv_bipush (v := 115) hx hb dX11_line_180 (by decide) ?_
              refine lv_icmp_eq (tgt := 187) hx hb dX11_line_182 (by decide) (fun c51 => ?_) (fun c51 => ?_)
              · replace hf := hf.1 c51
                exact w_X11_line_J187 _ _ _ _ E hw hs0 hf _ _ _ hR hS (lv_sub hl [1, 0] rfl)
              · replace hf := hf.2 c51
                refine lv_iconst (v := 0) hx hb dX11_line_185 (by decide) ?_
                exact hw_zret E hR hS (by decide) ⟨_, rfl, hf⟩ dX11_line_186
        · replace hf := hf.1 c19
          refine lv_aload_n hx hb dX11_line_155 rfl (lv_at hl 1 rfl) ?_
          refine lv_dup hx hb dX11_line_156 rfl ?_
          refine hw_getI E hR cI10 hs0 5 (by decide) lfX11_25 rfl dX11_line_157 ?_
          refine lv_iconst (v := 1) hx hb dX11_line_160 (by decide) ?_
          refine lv_iadd hx hb dX11_line_161 ?_
          refine hw_putI E hR hS hw cI10 hs0 5 (by decide) lfX11_25 rfl (Or.inl rfl) dX11_line_162 (fun m52 H locs em52 hR hS => ?_)
          replace hf := hf m52 em52
          refine lv_iconst (v := 1) hx hb dX11_line_165 (by decide) ?_
          exact hw_zret E hR hS (by decide) ⟨_, rfl, hf⟩ dX11_line_166
      · replace hf := hf.1 c18
        refine lv_aload_n hx hb dX11_line_134 rfl (lv_at hl 1 rfl) ?_
        refine lv_dup hx hb dX11_line_135 rfl ?_
        refine hw_getI E hR cI10 hs0 5 (by decide) lfX11_25 rfl dX11_line_136 ?_
        refine lv_iconst (v := 1) hx hb dX11_line_139 (by decide) ?_
        refine lv_iadd hx hb dX11_line_140 ?_
        refine hw_putI E hR hS hw cI10 hs0 5 (by decide) lfX11_25 rfl (Or.inl rfl) dX11_line_141 (fun m53 H locs em53 hR hS => ?_)
        replace hf := hf m53 em53
        refine lv_aload_n hx hb dX11_line_144 rfl (lv_at hl 1 rfl) ?_
        refine hw_callV (d := 201) E hR hS (As := []) (rest := []) cI10 hs0 rfl mcX11_some miX11_some lmX11_83 (ok_X11_some_top hs0 hf) rfl rfl (by decide) hl.1 (Nat.le_of_ble_eq_true rfl) dX11_line_145 (fun rr m54 H locs hp hR hS => ?_)
        obtain ⟨r55, rfl, hf⟩ := hp
        refine W.eq (g2 := F0 m 148 ls [.int r55]) rfl ?_
        exact hw_zret E hR hS hf.1 ⟨_, rfl, hf.2⟩ dX11_line_148
    · replace hf := hf.2 c17
      refine lv_aload_n hx hb dX11_line_72 rfl (lv_at hl 1 rfl) ?_
      obtain ⟨b56, hb56, hf⟩ := hf
      refine hw_getR E hR cI10 hs0 10 (by decide) lfX11_104 rfl hb56 dX11_line_73 ?_
      refine lv_aload_n hx hb dX11_line_76 rfl (lv_at hl 1 rfl) ?_
      refine hw_getI E hR cI10 hs0 13 (by decide) lfX11_46 rfl dX11_line_77 ?_
      refine lv_iload_n hx hb dX11_line_80 rfl (lv_at hl 0 rfl) ?_
      refine lv_bipush (v := 97) hx hb dX11_line_81 (by decide) ?_
      refine lv_isub hx hb dX11_line_83 ?_
      obtain ⟨n57, hn57, in57, hf⟩ := hf
      refine hw_iast E hR hS hw hn57 in57 dX11_line_84 (fun m58 H locs em58 hR hS => ?_)
      replace hf := hf m58 em58
      refine lv_aload_n hx hb dX11_line_85 rfl (lv_at hl 1 rfl) ?_
      obtain ⟨b59, hb59, hf⟩ := hf
      refine hw_getR E hR cI10 hs0 9 (by decide) lfX11_107 rfl hb59 dX11_line_86 ?_
      refine lv_aload_n hx hb dX11_line_89 rfl (lv_at hl 1 rfl) ?_
      refine hw_getI E hR cI10 hs0 13 (by decide) lfX11_46 rfl dX11_line_90 ?_
      refine lv_bipush (v := 61) hx hb dX11_line_93 (by decide) ?_
      obtain ⟨n60, hn60, in60, hf⟩ := hf
      refine hw_iast E hR hS hw hn60 in60 dX11_line_95 (fun m61 H locs em61 hR hS => ?_)
      replace hf := hf m61 em61
      refine lv_aload_n hx hb dX11_line_96 rfl (lv_at hl 1 rfl) ?_
      refine lv_dup hx hb dX11_line_97 rfl ?_
      refine hw_getI E hR cI10 hs0 5 (by decide) lfX11_25 rfl dX11_line_98 ?_
      refine lv_iconst (v := 1) hx hb dX11_line_101 (by decide) ?_
      refine lv_iadd hx hb dX11_line_102 ?_
      refine hw_putI E hR hS hw cI10 hs0 5 (by decide) lfX11_25 rfl (Or.inl rfl) dX11_line_103 (fun m62 H locs em62 hR hS => ?_)
      replace hf := hf m62 em62
      refine lv_aload_n hx hb dX11_line_106 rfl (lv_at hl 1 rfl) ?_
      refine lv_bipush (v := 61) hx hb dX11_line_107 (by decide) ?_
      refine hw_callV (d := 201) E hR hS (As := [.int (61 : Int32)]) (rest := []) cI10 hs0 rfl mcX11_comes miX11_comes lmX11_86 (ok_X11_comes hs0 hf) rfl rfl (by decide) hl.1 (Nat.le_of_ble_eq_true rfl) dX11_line_109 (fun rr m63 H locs hp hR hS => ?_)
      obtain ⟨r64, rfl, hf⟩ := hp
      refine W.eq (g2 := F0 m 112 ls [.int r64]) rfl ?_
      refine lv_if_eq (tgt := 126) hx hb dX11_line_112 (by decide) (fun c65 => ?_) (fun c65 => ?_)
      · replace hf := hf.1 c65
        refine lv_iconst (v := 0) hx hb dX11_line_126 (by decide) ?_
        exact hw_zret E hR hS (by decide) ⟨_, rfl, hf⟩ dX11_line_127
      · replace hf := hf.2 c65
        refine lv_aload_n hx hb dX11_line_115 rfl (lv_at hl 1 rfl) ?_
        refine hw_callV (d := 201) E hR hS (As := []) (rest := []) cI10 hs0 rfl mcX11_some miX11_some lmX11_83 (ok_X11_some_top hs0 hf) rfl rfl (by decide) hl.1 (Nat.le_of_ble_eq_true rfl) dX11_line_116 (fun rr m66 H locs hp hR hS => ?_)
        obtain ⟨r67, rfl, hf⟩ := hp
        refine W.eq (g2 := F0 m 119 ls [.int r67]) rfl ?_
        refine lv_if_eq (tgt := 126) hx hb dX11_line_119 (by decide) (fun c68 => ?_) (fun c68 => ?_)
        · replace hf := hf.1 c68
          refine lv_iconst (v := 0) hx hb dX11_line_126 (by decide) ?_
          exact hw_zret E hR hS (by decide) ⟨_, rfl, hf⟩ dX11_line_127
        · replace hf := hf.2 c68
          refine lv_iconst (v := 1) hx hb dX11_line_122 (by decide) ?_
          refine lv_goto (tgt := 127) hx hb dX11_line_123 (by decide) ?_
          exact hw_zret E hR hS (by decide) ⟨_, rfl, hf⟩ dX11_line_127
  · replace hf := hf.2 c8
    refine lv_iconst (v := 0) hx hb dX11_line_36 (by decide) ?_
    exact hw_zret E hR hS (by decide) ⟨_, rfl, hf⟩ dX11_line_37
def f_X11_task_B40 (S : Ss) (a0 : Nat) (x1 : Int32) (x2 : Int32) (x3 : Int32) (x4 : Int32) (x5 : Int32) (M : Mm) (BK40 : Int32 → Int32 → Int32 → Mm → Prop) (EK40 : Int32 → Int32 → Mm → Prop) (K : Int32 → Mm → Prop) : Prop :=
  ((x4 = 0 →
    EK40 x3 x4 M) ∧
   (¬ x4 = 0 →
    ((x5 = 0 →
      EK40 x3 x4 M) ∧
     (¬ x5 = 0 →
      f_X11_line S a0 ((74 : Int32) + x3) M (fun (r10 : Int32) (m9 : Mm) =>
        ∀ v11 : Int32, v11 = x3 + (1 : Int32) →
      ((r10 = 0 →
        BK40 v11 r10 (0 : Int32) m9) ∧
       (¬ r10 = 0 →
        (((16 : Int32) ≤ v11 →
          BK40 v11 r10 (0 : Int32) m9) ∧
         (¬ (16 : Int32) ≤ v11 →
          f_X11_comes S a0 (59 : Int32) m9 (fun (r15 : Int32) (m14 : Mm) =>
            ((r15 = 0 →
            BK40 v11 r10 (0 : Int32) m14) ∧
           (¬ r15 = 0 →
            BK40 v11 r10 (1 : Int32) m14))))))))))))
set_option maxHeartbeats 4000000 in
set_option maxRecDepth 100000 in
theorem w_X11_task_B40 {p : Program} {l : Launch} {e : Env} {s : State} {m : MethodId} {args : Array Value} {below : List Frame} {meth : Method} {c : Code} {g : Gg} {S : Ss} (a0 : Nat) (x1 : Int32) (x2 : Int32) (x3 : Int32) (x4 : Int32) (x5 : Int32) (M : Mm) (BK40 : Int32 → Int32 → Int32 → Mm → Prop) (EK40 : Int32 → Int32 → Mm → Prop) (K : Int32 → Mm → Prop) (E : EN p s m args meth c cX11_task 8 (some .int) RX11 g) (hw : ad g 100000 < s.heap.size) (hs0 : S[a0]? = some (10, 0)) (hBK40 : ∀ (x3' : Int32) (x4' : Int32) (x5' : Int32) (M' : Mm) (H : Heap) (locs : List Loc) (ls : Array Slot), BK40 x3' x4' x5' M' → RP g S M' H → va_S (gA g) s.heap H locs → lv_has ls 8 [(0, .ref (ad g a0)), (1, .int x1), (2, .int x2), (3, .int x3'), (4, .int x4'), (5, .int x5')] → W p l e (rmD 202) s m args below meth c H locs 0 0 (MQ below (QA g S (pI K)) args s 0 0 (gA g)) (F0 m 40 ls [])) (hEK40 : ∀ (x3' : Int32) (x4' : Int32) (M' : Mm) (H : Heap) (locs : List Loc) (ls : Array Slot), EK40 x3' x4' M' → RP g S M' H → va_S (gA g) s.heap H locs → lv_has ls 8 [(0, .ref (ad g a0)), (1, .int x1), (2, .int x2), (3, .int x3'), (4, .int x4')] → W p l e (rmD 202) s m args below meth c H locs 0 0 (MQ below (QA g S (pI K)) args s 0 0 (gA g)) (F0 m 93 ls [])) (hf : f_X11_task_B40 S a0 x1 x2 x3 x4 x5 M BK40 EK40 K) (H : Heap) (locs : List Loc) (ls : Array Slot) (hR : RP g S M H) (hS : va_S (gA g) s.heap H locs) (hl : lv_has ls 8 [(0, .ref (ad g a0)), (1, .int x1), (2, .int x2), (3, .int x3), (4, .int x4), (5, .int x5)]) : W p l e (rmD 202) s m args below meth c H locs 0 0 (MQ below (QA g S (pI K)) args s 0 0 (gA g)) (F0 m 40 ls []) := by
  have hx := E.1
  have hb := E.2.1
  unfold f_X11_task_B40 at hf
  refine lv_iload hx hb dX11_task_40 (lv_at hl 4 rfl) ?_
  refine lv_if_eq (tgt := 93) hx hb dX11_task_42 (by decide) (fun c7 => ?_) (fun c7 => ?_)
  · replace hf := hf.1 c7
    exact hEK40 _ _ _ _ _ _ hf hR hS (lv_sub hl [0, 1, 2, 3, 4] rfl)
  · replace hf := hf.2 c7
    refine lv_iload hx hb dX11_task_45 (lv_at hl 5 rfl) ?_
    refine lv_if_eq (tgt := 93) hx hb dX11_task_47 (by decide) (fun c8 => ?_) (fun c8 => ?_)
    · replace hf := hf.1 c8
      exact hEK40 _ _ _ _ _ _ hf hR hS (lv_sub hl [0, 1, 2, 3, 4] rfl)
    · replace hf := hf.2 c8
      refine lv_aload_n hx hb dX11_task_50 rfl (lv_at hl 0 rfl) ?_
      refine lv_bipush (v := 74) hx hb dX11_task_51 (by decide) ?_
      refine lv_iload_n hx hb dX11_task_53 rfl (lv_at hl 3 rfl) ?_
      refine lv_iadd hx hb dX11_task_54 ?_
      refine hw_callV (d := 202) E hR hS (As := [.int ((74 : Int32) + x3)]) (rest := []) cI10 hs0 rfl mcX11_line miX11_line lmX11_124 (ok_X11_line hs0 hf) rfl rfl (by decide) hl.1 (Nat.le_of_ble_eq_true rfl) dX11_task_55 (fun rr m9 H locs hp hR hS => ?_)
      obtain ⟨r10, rfl, hf⟩ := hp
      refine W.eq (g2 := F0 m 58 ls [.int r10]) rfl ?_
      refine lv_istore (lv' := [(4, .int r10), (0, .ref (ad g a0)), (1, .int x1), (2, .int x2), (3, .int x3), (5, .int x5)]) hx hb dX11_task_58 hl (by decide) rfl (fun ls hl => ?_)
      obtain ⟨v11, ev11⟩ : ∃ y : Int32, y = x3 + (1 : Int32) := ⟨_, rfl⟩
      replace hf := hf v11 ev11
      refine lv_iinc (v := v11) (lv' := [(3, .int v11), (4, .int r10), (0, .ref (ad g a0)), (1, .int x1), (2, .int x2), (5, .int x5)]) hx hb dX11_task_60 hl (k := 4) rfl (by rw [ev11]; rfl) (by decide) rfl (fun ls hl => ?_)
      refine lv_iload hx hb dX11_task_63 (lv_at hl 1 rfl) ?_
      refine lv_if_eq (tgt := 87) hx hb dX11_task_65 (by decide) (fun c12 => ?_) (fun c12 => ?_)
      · replace hf := hf.1 c12
        refine lv_iconst (v := 0) hx hb dX11_task_87 (by decide) ?_
        refine lv_istore (lv' := [(5, .int (0 : Int32)), (3, .int v11), (4, .int r10), (0, .ref (ad g a0)), (1, .int x1), (2, .int x2)]) hx hb dX11_task_88 hl (by decide) rfl (fun ls hl => ?_)
        refine lv_goto (tgt := 40) hx hb dX11_task_90 (by decide) ?_
        exact hBK40 _ _ _ _ _ _ _ hf hR hS (lv_sub hl [3, 4, 5, 1, 2, 0] rfl)
      · replace hf := hf.2 c12
        refine lv_iload_n hx hb dX11_task_68 rfl (lv_at hl 0 rfl) ?_
        refine lv_bipush (v := 16) hx hb dX11_task_69 (by decide) ?_
        refine lv_icmp_ge (tgt := 87) hx hb dX11_task_71 (by decide) (fun c13 => ?_) (fun c13 => ?_)
        · replace hf := hf.1 c13
          refine lv_iconst (v := 0) hx hb dX11_task_87 (by decide) ?_
          refine lv_istore (lv' := [(5, .int (0 : Int32)), (3, .int v11), (4, .int r10), (0, .ref (ad g a0)), (1, .int x1), (2, .int x2)]) hx hb dX11_task_88 hl (by decide) rfl (fun ls hl => ?_)
          refine lv_goto (tgt := 40) hx hb dX11_task_90 (by decide) ?_
          exact hBK40 _ _ _ _ _ _ _ hf hR hS (lv_sub hl [3, 4, 5, 1, 2, 0] rfl)
        · replace hf := hf.2 c13
          refine lv_aload_n hx hb dX11_task_74 rfl (lv_at hl 2 rfl) ?_
          refine lv_bipush (v := 59) hx hb dX11_task_75 (by decide) ?_
          refine hw_callV (d := 202) E hR hS (As := [.int (59 : Int32)]) (rest := []) cI10 hs0 rfl mcX11_comes miX11_comes lmX11_86 (ok_X11_comes hs0 hf) rfl rfl (by decide) hl.1 (Nat.le_of_ble_eq_true rfl) dX11_task_77 (fun rr m14 H locs hp hR hS => ?_)
          obtain ⟨r15, rfl, hf⟩ := hp
          refine W.eq (g2 := F0 m 80 ls [.int r15]) rfl ?_
          refine lv_if_eq (tgt := 87) hx hb dX11_task_80 (by decide) (fun c16 => ?_) (fun c16 => ?_)
          · replace hf := hf.1 c16
            refine lv_iconst (v := 0) hx hb dX11_task_87 (by decide) ?_
            refine lv_istore (lv' := [(5, .int (0 : Int32)), (3, .int v11), (4, .int r10), (0, .ref (ad g a0)), (1, .int x1), (2, .int x2)]) hx hb dX11_task_88 hl (by decide) rfl (fun ls hl => ?_)
            refine lv_goto (tgt := 40) hx hb dX11_task_90 (by decide) ?_
            exact hBK40 _ _ _ _ _ _ _ hf hR hS (lv_sub hl [3, 4, 5, 1, 2, 0] rfl)
          · replace hf := hf.2 c16
            refine lv_iconst (v := 1) hx hb dX11_task_83 (by decide) ?_
            refine lv_goto (tgt := 88) hx hb dX11_task_84 (by decide) ?_
            refine lv_istore (lv' := [(5, .int (1 : Int32)), (3, .int v11), (4, .int r10), (0, .ref (ad g a0)), (1, .int x1), (2, .int x2)]) hx hb dX11_task_88 hl (by decide) rfl (fun ls hl => ?_)
            refine lv_goto (tgt := 40) hx hb dX11_task_90 (by decide) ?_
            exact hBK40 _ _ _ _ _ _ _ hf hR hS (lv_sub hl [3, 4, 5, 1, 2, 0] rfl)
def f_X11_task_L40 (S : Ss) (a0 : Nat) (x1 : Int32) (x2 : Int32) (EK40 : Int32 → Int32 → Mm → Prop) (K : Int32 → Mm → Prop) : Nat → Int32 → Int32 → Int32 → Mm → Prop
  | 0, _, _, _, _ => False
  | n + 1, x3, x4, x5, M => f_X11_task_B40 S a0 x1 x2 x3 x4 x5 M (fun (x3 : Int32) (x4 : Int32) (x5 : Int32) (M : Mm) => f_X11_task_L40 S a0 x1 x2 EK40 K n x3 x4 x5 M) EK40 K
set_option maxHeartbeats 4000000 in
set_option maxRecDepth 100000 in
theorem w_X11_task_L40 {p : Program} {l : Launch} {e : Env} {s : State} {m : MethodId} {args : Array Value} {below : List Frame} {meth : Method} {c : Code} {g : Gg} {S : Ss} (a0 : Nat) (x1 : Int32) (x2 : Int32) (EK40 : Int32 → Int32 → Mm → Prop) (K : Int32 → Mm → Prop) (E : EN p s m args meth c cX11_task 8 (some .int) RX11 g) (hw : ad g 100000 < s.heap.size) (hs0 : S[a0]? = some (10, 0)) (hEK40 : ∀ (x3' : Int32) (x4' : Int32) (M' : Mm) (H : Heap) (locs : List Loc) (ls : Array Slot), EK40 x3' x4' M' → RP g S M' H → va_S (gA g) s.heap H locs → lv_has ls 8 [(0, .ref (ad g a0)), (1, .int x1), (2, .int x2), (3, .int x3'), (4, .int x4')] → W p l e (rmD 202) s m args below meth c H locs 0 0 (MQ below (QA g S (pI K)) args s 0 0 (gA g)) (F0 m 93 ls [])) : ∀ (n : Nat) (x3 : Int32) (x4 : Int32) (x5 : Int32) (M : Mm), f_X11_task_L40 S a0 x1 x2 EK40 K n x3 x4 x5 M → ∀ (H : Heap) (locs : List Loc) (ls : Array Slot), RP g S M H → va_S (gA g) s.heap H locs → lv_has ls 8 [(0, .ref (ad g a0)), (1, .int x1), (2, .int x2), (3, .int x3), (4, .int x4), (5, .int x5)] → W p l e (rmD 202) s m args below meth c H locs 0 0 (MQ below (QA g S (pI K)) args s 0 0 (gA g)) (F0 m 40 ls []) := by
  intro n
  induction n with
  | zero => intro x3 x4 x5 M hf; exact hf.elim
  | succ n ih =>
    intro x3 x4 x5 M hf H locs ls hR hS hl
    exact w_X11_task_B40 _ _ _ _ _ _ _ _ _ _ E hw hs0 (fun _ _ _ M H locs ls h hR hS hl => ih _ _ _ M h H locs ls hR hS hl) hEK40 hf H locs ls hR hS hl
def f_X11_task_B113 (S : Ss) (a0 : Nat) (x1 : Int32) (x3 : Int32) (x7 : Int32) (M : Mm) (BK113 : Int32 → Mm → Prop) (EK113 : Mm → Prop) (K : Int32 → Mm → Prop) : Prop :=
  ((x3 ≤ x7 →
    EK113 M) ∧
   (¬ x3 ≤ x7 →
    f_X11_copies S a0 ((74 : Int32) + x7) (((16 : Int32) * x1) + x7) M (fun (m24 : Mm) =>
      ∀ v25 : Int32, v25 = x7 + (1 : Int32) →
    BK113 v25 m24)))
set_option maxHeartbeats 4000000 in
set_option maxRecDepth 100000 in
theorem w_X11_task_B113 {p : Program} {l : Launch} {e : Env} {s : State} {m : MethodId} {args : Array Value} {below : List Frame} {meth : Method} {c : Code} {g : Gg} {S : Ss} (a0 : Nat) (x1 : Int32) (x3 : Int32) (x7 : Int32) (M : Mm) (BK113 : Int32 → Mm → Prop) (EK113 : Mm → Prop) (K : Int32 → Mm → Prop) (E : EN p s m args meth c cX11_task 8 (some .int) RX11 g) (hw : ad g 100000 < s.heap.size) (hs0 : S[a0]? = some (10, 0)) (hBK113 : ∀ (x7' : Int32) (M' : Mm) (H : Heap) (locs : List Loc) (ls : Array Slot), BK113 x7' M' → RP g S M' H → va_S (gA g) s.heap H locs → lv_has ls 8 [(0, .ref (ad g a0)), (1, .int x1), (3, .int x3), (7, .int x7')] → W p l e (rmD 202) s m args below meth c H locs 0 0 (MQ below (QA g S (pI K)) args s 0 0 (gA g)) (F0 m 113 ls [])) (hEK113 : ∀ (M' : Mm) (H : Heap) (locs : List Loc) (ls : Array Slot), EK113 M' → RP g S M' H → va_S (gA g) s.heap H locs → lv_has ls 8 [(0, .ref (ad g a0)), (1, .int x1), (3, .int x3)] → W p l e (rmD 202) s m args below meth c H locs 0 0 (MQ below (QA g S (pI K)) args s 0 0 (gA g)) (F0 m 141 ls [])) (hf : f_X11_task_B113 S a0 x1 x3 x7 M BK113 EK113 K) (H : Heap) (locs : List Loc) (ls : Array Slot) (hR : RP g S M H) (hS : va_S (gA g) s.heap H locs) (hl : lv_has ls 8 [(0, .ref (ad g a0)), (1, .int x1), (3, .int x3), (7, .int x7)]) : W p l e (rmD 202) s m args below meth c H locs 0 0 (MQ below (QA g S (pI K)) args s 0 0 (gA g)) (F0 m 113 ls []) := by
  have hx := E.1
  have hb := E.2.1
  unfold f_X11_task_B113 at hf
  refine lv_iload hx hb dX11_task_113 (lv_at hl 3 rfl) ?_
  refine lv_iload_n hx hb dX11_task_115 rfl (lv_at hl 2 rfl) ?_
  refine lv_icmp_ge (tgt := 141) hx hb dX11_task_116 (by decide) (fun c23 => ?_) (fun c23 => ?_)
  · replace hf := hf.1 c23
    exact hEK113  _ _ _ _ hf hR hS (lv_sub hl [0, 1, 2] rfl)
  · replace hf := hf.2 c23
    refine lv_aload_n hx hb dX11_task_119 rfl (lv_at hl 0 rfl) ?_
    refine lv_bipush (v := 74) hx hb dX11_task_120 (by decide) ?_
    refine lv_iload hx hb dX11_task_122 (lv_at hl 3 rfl) ?_
    refine lv_iadd hx hb dX11_task_124 ?_
    refine lv_bipush (v := 16) hx hb dX11_task_125 (by decide) ?_
    refine lv_iload_n hx hb dX11_task_127 rfl (lv_at hl 1 rfl) ?_
    refine lv_imul hx hb dX11_task_128 ?_
    refine lv_iload hx hb dX11_task_129 (lv_at hl 3 rfl) ?_
    refine lv_iadd hx hb dX11_task_131 ?_
    refine hw_callV (d := 202) E hR hS (As := [.int ((74 : Int32) + x7), .int (((16 : Int32) * x1) + x7)]) (rest := []) cI10 hs0 rfl mcX11_copies miX11_copies lmX11_132 (ok_X11_copies hs0 hf) rfl rfl (by decide) hl.1 (Nat.le_of_ble_eq_true rfl) dX11_task_132 (fun rr m24 H locs hp hR hS => ?_)
    obtain ⟨rfl, hf⟩ := hp
    refine W.eq (g2 := F0 m 135 ls []) rfl ?_
    obtain ⟨v25, ev25⟩ : ∃ y : Int32, y = x7 + (1 : Int32) := ⟨_, rfl⟩
    replace hf := hf v25 ev25
    refine lv_iinc (v := v25) (lv' := [(7, .int v25), (0, .ref (ad g a0)), (1, .int x1), (3, .int x3)]) hx hb dX11_task_135 hl (k := 3) rfl (by rw [ev25]; rfl) (by decide) rfl (fun ls hl => ?_)
    refine lv_goto (tgt := 113) hx hb dX11_task_138 (by decide) ?_
    exact hBK113 _ _ _ _ _ hf hR hS (lv_sub hl [1, 2, 3, 0] rfl)
def f_X11_task_L113 (S : Ss) (a0 : Nat) (x1 : Int32) (x3 : Int32) (EK113 : Mm → Prop) (K : Int32 → Mm → Prop) : Nat → Int32 → Mm → Prop
  | 0, _, _ => False
  | n + 1, x7, M => f_X11_task_B113 S a0 x1 x3 x7 M (fun (x7 : Int32) (M : Mm) => f_X11_task_L113 S a0 x1 x3 EK113 K n x7 M) EK113 K
set_option maxHeartbeats 4000000 in
set_option maxRecDepth 100000 in
theorem w_X11_task_L113 {p : Program} {l : Launch} {e : Env} {s : State} {m : MethodId} {args : Array Value} {below : List Frame} {meth : Method} {c : Code} {g : Gg} {S : Ss} (a0 : Nat) (x1 : Int32) (x3 : Int32) (EK113 : Mm → Prop) (K : Int32 → Mm → Prop) (E : EN p s m args meth c cX11_task 8 (some .int) RX11 g) (hw : ad g 100000 < s.heap.size) (hs0 : S[a0]? = some (10, 0)) (hEK113 : ∀ (M' : Mm) (H : Heap) (locs : List Loc) (ls : Array Slot), EK113 M' → RP g S M' H → va_S (gA g) s.heap H locs → lv_has ls 8 [(0, .ref (ad g a0)), (1, .int x1), (3, .int x3)] → W p l e (rmD 202) s m args below meth c H locs 0 0 (MQ below (QA g S (pI K)) args s 0 0 (gA g)) (F0 m 141 ls [])) : ∀ (n : Nat) (x7 : Int32) (M : Mm), f_X11_task_L113 S a0 x1 x3 EK113 K n x7 M → ∀ (H : Heap) (locs : List Loc) (ls : Array Slot), RP g S M H → va_S (gA g) s.heap H locs → lv_has ls 8 [(0, .ref (ad g a0)), (1, .int x1), (3, .int x3), (7, .int x7)] → W p l e (rmD 202) s m args below meth c H locs 0 0 (MQ below (QA g S (pI K)) args s 0 0 (gA g)) (F0 m 113 ls []) := by
  intro n
  induction n with
  | zero => intro x7 M hf; exact hf.elim
  | succ n ih =>
    intro x7 M hf H locs ls hR hS hl
    exact w_X11_task_B113 _ _ _ _ _ _ _ _ E hw hs0 (fun _ M H locs ls h hR hS hl => ih _ M h H locs ls hR hS hl) hEK113 hf H locs ls hR hS hl
def f_X11_task_B144 (S : Ss) (a0 : Nat) (x1 : Int32) (x3 : Int32) (x7 : Int32) (M : Mm) (BK144 : Int32 → Mm → Prop) (EK144 : Mm → Prop) (K : Int32 → Mm → Prop) : Prop :=
  (((M.1 a0 6) ≤ x7 →
    EK144 M) ∧
   (¬ (M.1 a0 6) ≤ x7 →
    ∃ b28 : Nat, M.2.2 a0 17 = some b28 ∧
    ∃ b29 : Nat, M.2.2 a0 3 = some b29 ∧
    ∃ n30 : Nat, shp S b29 = some (50, n30) ∧ vp_in x7 n30 ∧
    ∃ n31 : Nat, S[b28]? = some (50, n31) ∧ vp_in (((60 : Int32) * x1) + x7) n31 ∧
    ∀ m32 : Mm, m32 = stI M b28 (((60 : Int32) * x1) + x7).toNatClampNeg (M.1 b29 x7.toNatClampNeg) →
    ∀ v33 : Int32, v33 = x7 + (1 : Int32) →
    BK144 v33 m32))
set_option maxHeartbeats 4000000 in
set_option maxRecDepth 100000 in
theorem w_X11_task_B144 {p : Program} {l : Launch} {e : Env} {s : State} {m : MethodId} {args : Array Value} {below : List Frame} {meth : Method} {c : Code} {g : Gg} {S : Ss} (a0 : Nat) (x1 : Int32) (x3 : Int32) (x7 : Int32) (M : Mm) (BK144 : Int32 → Mm → Prop) (EK144 : Mm → Prop) (K : Int32 → Mm → Prop) (E : EN p s m args meth c cX11_task 8 (some .int) RX11 g) (hw : ad g 100000 < s.heap.size) (hs0 : S[a0]? = some (10, 0)) (hBK144 : ∀ (x7' : Int32) (M' : Mm) (H : Heap) (locs : List Loc) (ls : Array Slot), BK144 x7' M' → RP g S M' H → va_S (gA g) s.heap H locs → lv_has ls 8 [(0, .ref (ad g a0)), (1, .int x1), (3, .int x3), (7, .int x7')] → W p l e (rmD 202) s m args below meth c H locs 0 0 (MQ below (QA g S (pI K)) args s 0 0 (gA g)) (F0 m 144 ls [])) (hEK144 : ∀ (M' : Mm) (H : Heap) (locs : List Loc) (ls : Array Slot), EK144 M' → RP g S M' H → va_S (gA g) s.heap H locs → lv_has ls 8 [(0, .ref (ad g a0)), (1, .int x1), (3, .int x3)] → W p l e (rmD 202) s m args below meth c H locs 0 0 (MQ below (QA g S (pI K)) args s 0 0 (gA g)) (F0 m 178 ls [])) (hf : f_X11_task_B144 S a0 x1 x3 x7 M BK144 EK144 K) (H : Heap) (locs : List Loc) (ls : Array Slot) (hR : RP g S M H) (hS : va_S (gA g) s.heap H locs) (hl : lv_has ls 8 [(0, .ref (ad g a0)), (1, .int x1), (3, .int x3), (7, .int x7)]) : W p l e (rmD 202) s m args below meth c H locs 0 0 (MQ below (QA g S (pI K)) args s 0 0 (gA g)) (F0 m 144 ls []) := by
  have hx := E.1
  have hb := E.2.1
  unfold f_X11_task_B144 at hf
  refine lv_iload hx hb dX11_task_144 (lv_at hl 3 rfl) ?_
  refine lv_aload_n hx hb dX11_task_146 rfl (lv_at hl 0 rfl) ?_
  refine hw_getI E hR cI10 hs0 6 (by decide) lfX11_28 rfl dX11_task_147 ?_
  refine lv_icmp_ge (tgt := 178) hx hb dX11_task_150 (by decide) (fun c27 => ?_) (fun c27 => ?_)
  · replace hf := hf.1 c27
    exact hEK144  _ _ _ _ hf hR hS (lv_sub hl [0, 1, 2] rfl)
  · replace hf := hf.2 c27
    refine lv_aload_n hx hb dX11_task_153 rfl (lv_at hl 0 rfl) ?_
    obtain ⟨b28, hb28, hf⟩ := hf
    refine hw_getR E hR cI10 hs0 17 (by decide) lfX11_136 rfl hb28 dX11_task_154 ?_
    refine lv_bipush (v := 60) hx hb dX11_task_157 (by decide) ?_
    refine lv_iload_n hx hb dX11_task_159 rfl (lv_at hl 1 rfl) ?_
    refine lv_imul hx hb dX11_task_160 ?_
    refine lv_iload hx hb dX11_task_161 (lv_at hl 3 rfl) ?_
    refine lv_iadd hx hb dX11_task_163 ?_
    refine lv_aload_n hx hb dX11_task_164 rfl (lv_at hl 0 rfl) ?_
    obtain ⟨b29, hb29, hf⟩ := hf
    refine hw_getR E hR cI10 hs0 3 (by decide) lfX11_17 rfl hb29 dX11_task_165 ?_
    refine lv_iload hx hb dX11_task_168 (lv_at hl 3 rfl) ?_
    obtain ⟨n30, hn30, in30, hf⟩ := hf
    refine hw_iald E hR hS hn30 in30 dX11_task_170 ?_
    obtain ⟨n31, hn31, in31, hf⟩ := hf
    refine hw_iast E hR hS hw hn31 in31 dX11_task_171 (fun m32 H locs em32 hR hS => ?_)
    replace hf := hf m32 em32
    obtain ⟨v33, ev33⟩ : ∃ y : Int32, y = x7 + (1 : Int32) := ⟨_, rfl⟩
    replace hf := hf v33 ev33
    refine lv_iinc (v := v33) (lv' := [(7, .int v33), (0, .ref (ad g a0)), (1, .int x1), (3, .int x3)]) hx hb dX11_task_172 hl (k := 3) rfl (by rw [ev33]; rfl) (by decide) rfl (fun ls hl => ?_)
    refine lv_goto (tgt := 144) hx hb dX11_task_175 (by decide) ?_
    exact hBK144 _ _ _ _ _ hf hR hS (lv_sub hl [1, 2, 3, 0] rfl)
def f_X11_task_L144 (S : Ss) (a0 : Nat) (x1 : Int32) (x3 : Int32) (EK144 : Mm → Prop) (K : Int32 → Mm → Prop) : Nat → Int32 → Mm → Prop
  | 0, _, _ => False
  | n + 1, x7, M => f_X11_task_B144 S a0 x1 x3 x7 M (fun (x7 : Int32) (M : Mm) => f_X11_task_L144 S a0 x1 x3 EK144 K n x7 M) EK144 K
set_option maxHeartbeats 4000000 in
set_option maxRecDepth 100000 in
theorem w_X11_task_L144 {p : Program} {l : Launch} {e : Env} {s : State} {m : MethodId} {args : Array Value} {below : List Frame} {meth : Method} {c : Code} {g : Gg} {S : Ss} (a0 : Nat) (x1 : Int32) (x3 : Int32) (EK144 : Mm → Prop) (K : Int32 → Mm → Prop) (E : EN p s m args meth c cX11_task 8 (some .int) RX11 g) (hw : ad g 100000 < s.heap.size) (hs0 : S[a0]? = some (10, 0)) (hEK144 : ∀ (M' : Mm) (H : Heap) (locs : List Loc) (ls : Array Slot), EK144 M' → RP g S M' H → va_S (gA g) s.heap H locs → lv_has ls 8 [(0, .ref (ad g a0)), (1, .int x1), (3, .int x3)] → W p l e (rmD 202) s m args below meth c H locs 0 0 (MQ below (QA g S (pI K)) args s 0 0 (gA g)) (F0 m 178 ls [])) : ∀ (n : Nat) (x7 : Int32) (M : Mm), f_X11_task_L144 S a0 x1 x3 EK144 K n x7 M → ∀ (H : Heap) (locs : List Loc) (ls : Array Slot), RP g S M H → va_S (gA g) s.heap H locs → lv_has ls 8 [(0, .ref (ad g a0)), (1, .int x1), (3, .int x3), (7, .int x7)] → W p l e (rmD 202) s m args below meth c H locs 0 0 (MQ below (QA g S (pI K)) args s 0 0 (gA g)) (F0 m 144 ls []) := by
  intro n
  induction n with
  | zero => intro x7 M hf; exact hf.elim
  | succ n ih =>
    intro x7 M hf H locs ls hR hS hl
    exact w_X11_task_B144 _ _ _ _ _ _ _ _ E hw hs0 (fun _ M H locs ls h hR hS hl => ih _ M h H locs ls hR hS hl) hEK144 hf H locs ls hR hS hl
def f_X11_task (S : Ss) (a0 : Nat) (x1 : Int32) (M : Mm) (K : Int32 → Mm → Prop) : Prop :=
  ∀ m1 : Mm, m1 = stI M a0 0 (0 : Int32) →
  f_X11_begins S a0 (0 : Int32) m1 (fun (r3 : Int32) (m2 : Mm) =>
    f_X11_in S  x1.toInt64 (0 : Int64) (if (3 : Int32) < (m2.1 a0 15) then (3 : Int32) else (m2.1 a0 15)).toInt64 m2 (fun (r5 : Int32) (m4 : Mm) =>
    ((r5 = 0 →
    K (-100 : Int32) m4) ∧
   (¬ r5 = 0 →
    ∃ n48 : Nat, f_X11_task_L40 S a0 x1 r3 (fun (v17 : Int32) (v18 : Int32) (m19 : Mm) =>
      f_X11_fault S a0 r3 v18 m19 (fun (r21 : Int32) (m20 : Mm) =>
        ((0 ≤ r21 →
        ∃ n47 : Nat, f_X11_task_L113 S a0 x1 v17 (fun (m26 : Mm) =>
          ∃ n46 : Nat, f_X11_task_L144 S a0 x1 v17 (fun (m34 : Mm) =>
            ∃ b35 : Nat, m34.2.2 a0 18 = some b35 ∧
            ∃ n36 : Nat, S[b35]? = some (50, n36) ∧ vp_in x1 n36 ∧
            ∀ m37 : Mm, m37 = stI m34 b35 x1.toNatClampNeg (m34.1 a0 6) →
            ∃ b38 : Nat, m37.2.2 a0 16 = some b38 ∧
            ∃ n39 : Nat, S[b38]? = some (50, n39) ∧ vp_in x1 n39 ∧
            ∀ m40 : Mm, m40 = stI m37 b38 x1.toNatClampNeg v17 →
            ∃ b41 : Nat, m40.2.2 a0 25 = some b41 ∧
            ∃ n42 : Nat, S[b41]? = some (50, n42) ∧ vp_in x1 n42 ∧
            ∀ m43 : Mm, m43 = stI m40 b41 x1.toNatClampNeg (0 : Int32) →
            ∀ m44 : Mm, m44 = stI m43 a0 15 (if (m43.1 a0 15) < (x1 + (1 : Int32)) then (x1 + (1 : Int32)) else (m43.1 a0 15)) →
            f_X11_forgetsKept S a0  m44 (fun (m45 : Mm) =>
              K v17 m45)) K n46 (0 : Int32) m26) K n47 (0 : Int32) m20) ∧
       (¬ 0 ≤ r21 →
        K r21 m20)))) K n48 (0 : Int32) (1 : Int32) (1 : Int32) m4))))
set_option maxHeartbeats 4000000 in
set_option maxRecDepth 100000 in
theorem ok_X11_task {l : Launch} {g : Gg} {S : Ss} {a0 : Nat} {x1 : Int32} {M : Mm} {K : Int32 → Mm → Prop} (hs0 : S[a0]? = some (10, 0)) (hf : f_X11_task S a0 x1 M K) : MT l g S yX11_task cX11_task 8 (some .int) 202 [.ref (ad g a0), .int x1] M (pI K) := by
  refine MT.of (by decide +kernel) (Nat.le_of_ble_eq_true rfl) ?_
  intro p e s m below meth c ls E hw hR hS hl
  have hl : lv_has ls 8 [(0, .ref (ad g a0)), (1, .int x1)] := hl
  generalize ([.ref (ad g a0), .int x1] : List Value).toArray = args at E ⊢
  have E : EN p s m args meth c cX11_task 8 (some .int) RX11 g := E
  have hx := E.1
  have hb := E.2.1
  unfold f_X11_task at hf
  refine lv_aload_n hx hb dX11_task_0 rfl (lv_at hl 0 rfl) ?_
  refine lv_iconst (v := 0) hx hb dX11_task_1 (by decide) ?_
  refine hw_putI E hR hS hw cI10 hs0 0 (by decide) lfX11_3 rfl (Or.inl rfl) dX11_task_2 (fun m1 H locs em1 hR hS => ?_)
  replace hf := hf m1 em1
  refine lv_aload_n hx hb dX11_task_5 rfl (lv_at hl 0 rfl) ?_
  refine lv_iconst (v := 0) hx hb dX11_task_6 (by decide) ?_
  refine hw_callV (d := 202) E hR hS (As := [.int (0 : Int32)]) (rest := []) cI10 hs0 rfl mcX11_begins miX11_begins lmX11_118 (ok_X11_begins hs0 hf) rfl rfl (by decide) hl.1 (Nat.le_of_ble_eq_true rfl) dX11_task_7 (fun rr m2 H locs hp hR hS => ?_)
  obtain ⟨r3, rfl, hf⟩ := hp
  refine W.eq (g2 := F0 m 10 ls [.int r3]) rfl ?_
  refine lv_istore_n (lv' := [(2, .int r3), (0, .ref (ad g a0)), (1, .int x1)]) hx hb dX11_task_10 rfl hl (by decide) rfl (fun ls hl => ?_)
  refine lv_iload_n hx hb dX11_task_11 rfl (lv_at hl 2 rfl) ?_
  refine lv_i2l hx hb dX11_task_12 rfl ?_
  refine lv_lconst (v := 0) hx hb dX11_task_13 (by decide) ?_
  refine lv_aload_n hx hb dX11_task_14 rfl (lv_at hl 1 rfl) ?_
  refine hw_getI E hR cI10 hs0 15 (by decide) lfX11_121 rfl dX11_task_15 ?_
  refine lv_iconst (v := 3) hx hb dX11_task_18 (by decide) ?_
  refine hw_min (d := 202) (rest := [.long (0 : Int64), .long x1.toInt64]) E hl lxX11_112 (by decide) (Nat.le_of_ble_eq_true rfl) dX11_task_19 ?_
  refine lv_i2l hx hb dX11_task_22 rfl ?_
  refine hw_callS (d := 202) E hR hS (As := [.long x1.toInt64, .long (0 : Int64), .long (if (3 : Int32) < (m2.1 a0 15) then (3 : Int32) else (m2.1 a0 15)).toInt64]) (rest := []) mcX11_in msX11_in lmX11_21 (ok_X11_in  hf) rfl rfl (by decide) hl.1 (Nat.le_of_ble_eq_true rfl) dX11_task_23 (fun rr m4 H locs hp hR hS => ?_)
  obtain ⟨r5, rfl, hf⟩ := hp
  refine W.eq (g2 := F0 m 26 ls [.int r5]) rfl ?_
  refine lv_if_ne (tgt := 32) hx hb dX11_task_26 (by decide) (fun c6 => ?_) (fun c6 => ?_)
  · replace hf := hf.2 c6
    refine lv_iconst (v := 0) hx hb dX11_task_32 (by decide) ?_
    refine lv_istore_n (lv' := [(3, .int (0 : Int32)), (2, .int r3), (0, .ref (ad g a0)), (1, .int x1)]) hx hb dX11_task_33 rfl hl (by decide) rfl (fun ls hl => ?_)
    refine lv_iconst (v := 1) hx hb dX11_task_34 (by decide) ?_
    refine lv_istore (lv' := [(4, .int (1 : Int32)), (3, .int (0 : Int32)), (2, .int r3), (0, .ref (ad g a0)), (1, .int x1)]) hx hb dX11_task_35 hl (by decide) rfl (fun ls hl => ?_)
    refine lv_iconst (v := 1) hx hb dX11_task_37 (by decide) ?_
    refine lv_istore (lv' := [(5, .int (1 : Int32)), (4, .int (1 : Int32)), (3, .int (0 : Int32)), (2, .int r3), (0, .ref (ad g a0)), (1, .int x1)]) hx hb dX11_task_38 hl (by decide) rfl (fun ls hl => ?_)
    obtain ⟨n48, hf⟩ := hf
    refine w_X11_task_L40 _ _ _ _ _ E hw hs0 ?_ n48 _ _ _ _ hf _ _ _ hR hS (lv_sub hl [4, 5, 3, 2, 1, 0] rfl)
    intro v17 v18 m19 H locs ls hf hR hS hl
    refine lv_aload_n hx hb dX11_task_93 rfl (lv_at hl 0 rfl) ?_
    refine lv_iload_n hx hb dX11_task_94 rfl (lv_at hl 2 rfl) ?_
    refine lv_iload hx hb dX11_task_95 (lv_at hl 4 rfl) ?_
    refine hw_callV (d := 202) E hR hS (As := [.int r3, .int v18]) (rest := []) cI10 hs0 rfl mcX11_fault miX11_fault lmX11_128 (ok_X11_fault hs0 hf) rfl rfl (by decide) hl.1 (Nat.le_of_ble_eq_true rfl) dX11_task_97 (fun rr m20 H locs hp hR hS => ?_)
    obtain ⟨r21, rfl, hf⟩ := hp
    refine W.eq (g2 := F0 m 100 ls [.int r21]) rfl ?_
    refine lv_istore (lv' := [(6, .int r21), (0, .ref (ad g a0)), (1, .int x1), (2, .int r3), (3, .int v17), (4, .int v18)]) hx hb dX11_task_100 hl (by decide) rfl (fun ls hl => ?_)
    refine lv_iload hx hb dX11_task_102 (lv_at hl 0 rfl) ?_
    refine lv_if_ge (tgt := 110) hx hb dX11_task_104 (by decide) (fun c22 => ?_) (fun c22 => ?_)
    · replace hf := hf.1 c22
      refine lv_iconst (v := 0) hx hb dX11_task_110 (by decide) ?_
      refine lv_istore (lv' := [(7, .int (0 : Int32)), (6, .int r21), (0, .ref (ad g a0)), (1, .int x1), (2, .int r3), (3, .int v17), (4, .int v18)]) hx hb dX11_task_111 hl (by decide) rfl (fun ls hl => ?_)
      obtain ⟨n47, hf⟩ := hf
      refine w_X11_task_L113 _ _ _ _ _ E hw hs0 ?_ n47 _ _ hf _ _ _ hR hS (lv_sub hl [2, 3, 5, 0] rfl)
      intro m26 H locs ls hf hR hS hl
      refine lv_iconst (v := 0) hx hb dX11_task_141 (by decide) ?_
      refine lv_istore (lv' := [(7, .int (0 : Int32)), (0, .ref (ad g a0)), (1, .int x1), (3, .int v17)]) hx hb dX11_task_142 hl (by decide) rfl (fun ls hl => ?_)
      obtain ⟨n46, hf⟩ := hf
      refine w_X11_task_L144 _ _ _ _ _ E hw hs0 ?_ n46 _ _ hf _ _ _ hR hS (lv_sub hl [1, 2, 3, 0] rfl)
      intro m34 H locs ls hf hR hS hl
      refine lv_aload_n hx hb dX11_task_178 rfl (lv_at hl 0 rfl) ?_
      obtain ⟨b35, hb35, hf⟩ := hf
      refine hw_getR E hR cI10 hs0 18 (by decide) lfX11_139 rfl hb35 dX11_task_179 ?_
      refine lv_iload_n hx hb dX11_task_182 rfl (lv_at hl 1 rfl) ?_
      refine lv_aload_n hx hb dX11_task_183 rfl (lv_at hl 0 rfl) ?_
      refine hw_getI E hR cI10 hs0 6 (by decide) lfX11_28 rfl dX11_task_184 ?_
      obtain ⟨n36, hn36, in36, hf⟩ := hf
      refine hw_iast E hR hS hw hn36 in36 dX11_task_187 (fun m37 H locs em37 hR hS => ?_)
      replace hf := hf m37 em37
      refine lv_aload_n hx hb dX11_task_188 rfl (lv_at hl 0 rfl) ?_
      obtain ⟨b38, hb38, hf⟩ := hf
      refine hw_getR E hR cI10 hs0 16 (by decide) lfX11_142 rfl hb38 dX11_task_189 ?_
      refine lv_iload_n hx hb dX11_task_192 rfl (lv_at hl 1 rfl) ?_
      refine lv_iload_n hx hb dX11_task_193 rfl (lv_at hl 2 rfl) ?_
      obtain ⟨n39, hn39, in39, hf⟩ := hf
      refine hw_iast E hR hS hw hn39 in39 dX11_task_194 (fun m40 H locs em40 hR hS => ?_)
      replace hf := hf m40 em40
      refine lv_aload_n hx hb dX11_task_195 rfl (lv_at hl 0 rfl) ?_
      obtain ⟨b41, hb41, hf⟩ := hf
      refine hw_getR E hR cI10 hs0 25 (by decide) lfX11_145 rfl hb41 dX11_task_196 ?_
      refine lv_iload_n hx hb dX11_task_199 rfl (lv_at hl 1 rfl) ?_
      refine lv_iconst (v := 0) hx hb dX11_task_200 (by decide) ?_
      obtain ⟨n42, hn42, in42, hf⟩ := hf
      refine hw_iast E hR hS hw hn42 in42 dX11_task_201 (fun m43 H locs em43 hR hS => ?_)
      replace hf := hf m43 em43
      refine lv_aload_n hx hb dX11_task_202 rfl (lv_at hl 0 rfl) ?_
      refine lv_aload_n hx hb dX11_task_203 rfl (lv_at hl 0 rfl) ?_
      refine hw_getI E hR cI10 hs0 15 (by decide) lfX11_121 rfl dX11_task_204 ?_
      refine lv_iload_n hx hb dX11_task_207 rfl (lv_at hl 1 rfl) ?_
      refine lv_iconst (v := 1) hx hb dX11_task_208 (by decide) ?_
      refine lv_iadd hx hb dX11_task_209 ?_
      refine hw_max (d := 202) (rest := [.ref (ad g a0)]) E hl lxX11_148 (by decide) (Nat.le_of_ble_eq_true rfl) dX11_task_210 ?_
      refine hw_putI E hR hS hw cI10 hs0 15 (by decide) lfX11_121 rfl (Or.inl rfl) dX11_task_213 (fun m44 H locs em44 hR hS => ?_)
      replace hf := hf m44 em44
      refine lv_aload_n hx hb dX11_task_216 rfl (lv_at hl 0 rfl) ?_
      refine hw_callV (d := 202) E hR hS (As := []) (rest := []) cI10 hs0 rfl mcX11_forgetsKept miX11_forgetsKept lmX11_151 (ok_X11_forgetsKept hs0 hf) rfl rfl (by decide) hl.1 (Nat.le_of_ble_eq_true rfl) dX11_task_217 (fun rr m45 H locs hp hR hS => ?_)
      obtain ⟨rfl, hf⟩ := hp
      refine W.eq (g2 := F0 m 220 ls []) rfl ?_
      refine lv_iload_n hx hb dX11_task_220 rfl (lv_at hl 2 rfl) ?_
      exact hw_iret E hR hS ⟨_, rfl, hf⟩ dX11_task_221
    · replace hf := hf.2 c22
      refine lv_iload hx hb dX11_task_107 (lv_at hl 0 rfl) ?_
      exact hw_iret E hR hS ⟨_, rfl, hf⟩ dX11_task_109
  · replace hf := hf.1 c6
    refine lv_bipush (v := -100) hx hb dX11_task_29 (by decide) ?_
    exact hw_iret E hR hS ⟨_, rfl, hf⟩ dX11_task_31
def f_X11_must (S : Ss) (a0 : Nat) (M : Mm) (K : Int32 → Mm → Prop) : Prop :=
  ∀ m1 : Mm, m1 = stI M a0 0 (0 : Int32) →
  f_X11_begins S a0 (1 : Int32) m1 (fun (r3 : Int32) (m2 : Mm) =>
    ((r3 = 0 →
    ∀ m16 : Mm, m16 = stI m2 a0 19 (0 : Int32) →
    K (0 : Int32) m16) ∧
   (¬ r3 = 0 →
    ∀ m5 : Mm, m5 = stI m2 a0 13 (74 : Int32) →
    ∃ b6 : Nat, m5.2.2 a0 12 = some b6 ∧
    ∃ n7 : Nat, S[b6]? = some (50, n7) ∧ vp_in (m5.1 a0 13) n7 ∧
    ∀ m8 : Mm, m8 = stI m5 b6 (m5.1 a0 13).toNatClampNeg (0 : Int32) →
    f_X11_some_top S a0  m8 (fun (r10 : Int32) (m9 : Mm) =>
      f_X11_fault S a0 r3 r10 m9 (fun (r12 : Int32) (m11 : Mm) =>
      ((0 ≤ r12 →
      f_X11_copies S a0 (74 : Int32) (69 : Int32) m11 (fun (m14 : Mm) =>
        ∀ m15 : Mm, m15 = stI m14 a0 19 (1 : Int32) →
      K (0 : Int32) m15)) ∧
     (¬ 0 ≤ r12 →
      K r12 m11)))))))
set_option maxHeartbeats 4000000 in
set_option maxRecDepth 100000 in
theorem ok_X11_must {l : Launch} {g : Gg} {S : Ss} {a0 : Nat} {M : Mm} {K : Int32 → Mm → Prop} (hs0 : S[a0]? = some (10, 0)) (hf : f_X11_must S a0 M K) : MT l g S yX11_must cX11_must 3 (some .int) 201 [.ref (ad g a0)] M (pI K) := by
  refine MT.of (by decide +kernel) (Nat.le_of_ble_eq_true rfl) ?_
  intro p e s m below meth c ls E hw hR hS hl
  have hl : lv_has ls 3 [(0, .ref (ad g a0))] := hl
  generalize ([.ref (ad g a0)] : List Value).toArray = args at E ⊢
  have E : EN p s m args meth c cX11_must 3 (some .int) RX11 g := E
  have hx := E.1
  have hb := E.2.1
  unfold f_X11_must at hf
  refine lv_aload_n hx hb dX11_must_0 rfl (lv_at hl 0 rfl) ?_
  refine lv_iconst (v := 0) hx hb dX11_must_1 (by decide) ?_
  refine hw_putI E hR hS hw cI10 hs0 0 (by decide) lfX11_3 rfl (Or.inl rfl) dX11_must_2 (fun m1 H locs em1 hR hS => ?_)
  replace hf := hf m1 em1
  refine lv_aload_n hx hb dX11_must_5 rfl (lv_at hl 0 rfl) ?_
  refine lv_iconst (v := 1) hx hb dX11_must_6 (by decide) ?_
  refine hw_callV (d := 201) E hR hS (As := [.int (1 : Int32)]) (rest := []) cI10 hs0 rfl mcX11_begins miX11_begins lmX11_118 (ok_X11_begins hs0 hf) rfl rfl (by decide) hl.1 (Nat.le_of_ble_eq_true rfl) dX11_must_7 (fun rr m2 H locs hp hR hS => ?_)
  obtain ⟨r3, rfl, hf⟩ := hp
  refine W.eq (g2 := F0 m 10 ls [.int r3]) rfl ?_
  refine lv_istore_n (lv' := [(1, .int r3), (0, .ref (ad g a0))]) hx hb dX11_must_10 rfl hl (by decide) rfl (fun ls hl => ?_)
  refine lv_iload_n hx hb dX11_must_11 rfl (lv_at hl 0 rfl) ?_
  refine lv_if_ne (tgt := 22) hx hb dX11_must_12 (by decide) (fun c4 => ?_) (fun c4 => ?_)
  · replace hf := hf.2 c4
    refine lv_aload_n hx hb dX11_must_22 rfl (lv_at hl 1 rfl) ?_
    refine lv_bipush (v := 74) hx hb dX11_must_23 (by decide) ?_
    refine hw_putI E hR hS hw cI10 hs0 13 (by decide) lfX11_46 rfl (Or.inl rfl) dX11_must_25 (fun m5 H locs em5 hR hS => ?_)
    replace hf := hf m5 em5
    refine lv_aload_n hx hb dX11_must_28 rfl (lv_at hl 1 rfl) ?_
    obtain ⟨b6, hb6, hf⟩ := hf
    refine hw_getR E hR cI10 hs0 12 (by decide) lfX11_49 rfl hb6 dX11_must_29 ?_
    refine lv_aload_n hx hb dX11_must_32 rfl (lv_at hl 1 rfl) ?_
    refine hw_getI E hR cI10 hs0 13 (by decide) lfX11_46 rfl dX11_must_33 ?_
    refine lv_iconst (v := 0) hx hb dX11_must_36 (by decide) ?_
    obtain ⟨n7, hn7, in7, hf⟩ := hf
    refine hw_iast E hR hS hw hn7 in7 dX11_must_37 (fun m8 H locs em8 hR hS => ?_)
    replace hf := hf m8 em8
    refine lv_aload_n hx hb dX11_must_38 rfl (lv_at hl 1 rfl) ?_
    refine lv_iload_n hx hb dX11_must_39 rfl (lv_at hl 0 rfl) ?_
    refine lv_aload_n hx hb dX11_must_40 rfl (lv_at hl 1 rfl) ?_
    refine hw_callV (d := 201) E hR hS (As := []) (rest := [.int r3, .ref (ad g a0)]) cI10 hs0 rfl mcX11_some miX11_some lmX11_83 (ok_X11_some_top hs0 hf) rfl rfl (by decide) hl.1 (Nat.le_of_ble_eq_true rfl) dX11_must_41 (fun rr m9 H locs hp hR hS => ?_)
    obtain ⟨r10, rfl, hf⟩ := hp
    refine W.eq (g2 := F0 m 44 ls [.int r10, .int r3, .ref (ad g a0)]) rfl ?_
    refine hw_callV (d := 201) E hR hS (As := [.int r3, .int r10]) (rest := []) cI10 hs0 rfl mcX11_fault miX11_fault lmX11_128 (ok_X11_fault hs0 hf) rfl rfl (by decide) hl.1 (Nat.le_of_ble_eq_true rfl) dX11_must_44 (fun rr m11 H locs hp hR hS => ?_)
    obtain ⟨r12, rfl, hf⟩ := hp
    refine W.eq (g2 := F0 m 47 ls [.int r12]) rfl ?_
    refine lv_istore_n (lv' := [(2, .int r12), (1, .int r3), (0, .ref (ad g a0))]) hx hb dX11_must_47 rfl hl (by decide) rfl (fun ls hl => ?_)
    refine lv_iload_n hx hb dX11_must_48 rfl (lv_at hl 0 rfl) ?_
    refine lv_if_ge (tgt := 54) hx hb dX11_must_49 (by decide) (fun c13 => ?_) (fun c13 => ?_)
    · replace hf := hf.1 c13
      refine lv_aload_n hx hb dX11_must_54 rfl (lv_at hl 2 rfl) ?_
      refine lv_bipush (v := 74) hx hb dX11_must_55 (by decide) ?_
      refine lv_bipush (v := 69) hx hb dX11_must_57 (by decide) ?_
      refine hw_callV (d := 201) E hR hS (As := [.int (74 : Int32), .int (69 : Int32)]) (rest := []) cI10 hs0 rfl mcX11_copies miX11_copies lmX11_132 (ok_X11_copies hs0 hf) rfl rfl (by decide) hl.1 (Nat.le_of_ble_eq_true rfl) dX11_must_59 (fun rr m14 H locs hp hR hS => ?_)
      obtain ⟨rfl, hf⟩ := hp
      refine W.eq (g2 := F0 m 62 ls []) rfl ?_
      refine lv_aload_n hx hb dX11_must_62 rfl (lv_at hl 2 rfl) ?_
      refine lv_iconst (v := 1) hx hb dX11_must_63 (by decide) ?_
      refine hw_putI E hR hS hw cI10 hs0 19 (by decide) lfX11_155 rfl (Or.inr ⟨rfl, by decide⟩) dX11_must_64 (fun m15 H locs em15 hR hS => ?_)
      replace hf := hf m15 em15
      refine lv_iconst (v := 0) hx hb dX11_must_67 (by decide) ?_
      exact hw_iret E hR hS ⟨_, rfl, hf⟩ dX11_must_68
    · replace hf := hf.2 c13
      refine lv_iload_n hx hb dX11_must_52 rfl (lv_at hl 0 rfl) ?_
      exact hw_iret E hR hS ⟨_, rfl, hf⟩ dX11_must_53
  · replace hf := hf.1 c4
    refine lv_aload_n hx hb dX11_must_15 rfl (lv_at hl 1 rfl) ?_
    refine lv_iconst (v := 0) hx hb dX11_must_16 (by decide) ?_
    refine hw_putI E hR hS hw cI10 hs0 19 (by decide) lfX11_155 rfl (Or.inr ⟨rfl, by decide⟩) dX11_must_17 (fun m16 H locs em16 hR hS => ?_)
    replace hf := hf m16 em16
    refine lv_iconst (v := 0) hx hb dX11_must_20 (by decide) ?_
    exact hw_iret E hR hS ⟨_, rfl, hf⟩ dX11_must_21
def f_X11_bolt (S : Ss) (a0 : Nat) (M : Mm) (K : Int32 → Mm → Prop) : Prop :=
  ∀ m1 : Mm, m1 = stI M a0 0 (0 : Int32) →
  f_X11_begins S a0 (1 : Int32) m1 (fun (r3 : Int32) (m2 : Mm) =>
    (((m2.1 a0 20) = (3 : Int32) →
    K (-100 : Int32) m2) ∧
   (¬ (m2.1 a0 20) = (3 : Int32) →
    ∀ m5 : Mm, m5 = stI m2 a0 13 (74 : Int32) →
    ∃ b6 : Nat, m5.2.2 a0 12 = some b6 ∧
    ∃ n7 : Nat, S[b6]? = some (50, n7) ∧ vp_in (m5.1 a0 13) n7 ∧
    ∀ m8 : Mm, m8 = stI m5 b6 (m5.1 a0 13).toNatClampNeg (0 : Int32) →
    f_X11_some_top S a0  m8 (fun (r10 : Int32) (m9 : Mm) =>
      f_X11_fault S a0 r3 r10 m9 (fun (r12 : Int32) (m11 : Mm) =>
      ((0 ≤ r12 →
      f_X11_copies S a0 (74 : Int32) ((70 : Int32) + (m11.1 a0 20)) m11 (fun (m14 : Mm) =>
        ∀ m15 : Mm, m15 = stI m14 a0 21 ((m14.1 a0 21) ||| ((1 : Int32) <<< ((m14.1 a0 20) &&& 31))) →
      ∀ m16 : Mm, m16 = stI m15 a0 20 ((m15.1 a0 20) + (1 : Int32)) →
      f_X11_forgetsKept S a0  m16 (fun (m17 : Mm) =>
        K ((m17.1 a0 20) - (1 : Int32)) m17))) ∧
     (¬ 0 ≤ r12 →
      K r12 m11)))))))
set_option maxHeartbeats 4000000 in
set_option maxRecDepth 100000 in
theorem ok_X11_bolt {l : Launch} {g : Gg} {S : Ss} {a0 : Nat} {M : Mm} {K : Int32 → Mm → Prop} (hs0 : S[a0]? = some (10, 0)) (hf : f_X11_bolt S a0 M K) : MT l g S yX11_bolt cX11_bolt 3 (some .int) 201 [.ref (ad g a0)] M (pI K) := by
  refine MT.of (by decide +kernel) (Nat.le_of_ble_eq_true rfl) ?_
  intro p e s m below meth c ls E hw hR hS hl
  have hl : lv_has ls 3 [(0, .ref (ad g a0))] := hl
  generalize ([.ref (ad g a0)] : List Value).toArray = args at E ⊢
  have E : EN p s m args meth c cX11_bolt 3 (some .int) RX11 g := E
  have hx := E.1
  have hb := E.2.1
  unfold f_X11_bolt at hf
  refine lv_aload_n hx hb dX11_bolt_0 rfl (lv_at hl 0 rfl) ?_
  refine lv_iconst (v := 0) hx hb dX11_bolt_1 (by decide) ?_
  refine hw_putI E hR hS hw cI10 hs0 0 (by decide) lfX11_3 rfl (Or.inl rfl) dX11_bolt_2 (fun m1 H locs em1 hR hS => ?_)
  replace hf := hf m1 em1
  refine lv_aload_n hx hb dX11_bolt_5 rfl (lv_at hl 0 rfl) ?_
  refine lv_iconst (v := 1) hx hb dX11_bolt_6 (by decide) ?_
  refine hw_callV (d := 201) E hR hS (As := [.int (1 : Int32)]) (rest := []) cI10 hs0 rfl mcX11_begins miX11_begins lmX11_118 (ok_X11_begins hs0 hf) rfl rfl (by decide) hl.1 (Nat.le_of_ble_eq_true rfl) dX11_bolt_7 (fun rr m2 H locs hp hR hS => ?_)
  obtain ⟨r3, rfl, hf⟩ := hp
  refine W.eq (g2 := F0 m 10 ls [.int r3]) rfl ?_
  refine lv_istore_n (lv' := [(1, .int r3), (0, .ref (ad g a0))]) hx hb dX11_bolt_10 rfl hl (by decide) rfl (fun ls hl => ?_)
  refine lv_aload_n hx hb dX11_bolt_11 rfl (lv_at hl 1 rfl) ?_
  refine hw_getI E hR cI10 hs0 20 (by decide) lfX11_158 rfl dX11_bolt_12 ?_
  refine lv_iconst (v := 3) hx hb dX11_bolt_15 (by decide) ?_
  refine lv_icmp_ne (tgt := 22) hx hb dX11_bolt_16 (by decide) (fun c4 => ?_) (fun c4 => ?_)
  · replace hf := hf.2 c4
    refine lv_aload_n hx hb dX11_bolt_22 rfl (lv_at hl 1 rfl) ?_
    refine lv_bipush (v := 74) hx hb dX11_bolt_23 (by decide) ?_
    refine hw_putI E hR hS hw cI10 hs0 13 (by decide) lfX11_46 rfl (Or.inl rfl) dX11_bolt_25 (fun m5 H locs em5 hR hS => ?_)
    replace hf := hf m5 em5
    refine lv_aload_n hx hb dX11_bolt_28 rfl (lv_at hl 1 rfl) ?_
    obtain ⟨b6, hb6, hf⟩ := hf
    refine hw_getR E hR cI10 hs0 12 (by decide) lfX11_49 rfl hb6 dX11_bolt_29 ?_
    refine lv_aload_n hx hb dX11_bolt_32 rfl (lv_at hl 1 rfl) ?_
    refine hw_getI E hR cI10 hs0 13 (by decide) lfX11_46 rfl dX11_bolt_33 ?_
    refine lv_iconst (v := 0) hx hb dX11_bolt_36 (by decide) ?_
    obtain ⟨n7, hn7, in7, hf⟩ := hf
    refine hw_iast E hR hS hw hn7 in7 dX11_bolt_37 (fun m8 H locs em8 hR hS => ?_)
    replace hf := hf m8 em8
    refine lv_aload_n hx hb dX11_bolt_38 rfl (lv_at hl 1 rfl) ?_
    refine lv_iload_n hx hb dX11_bolt_39 rfl (lv_at hl 0 rfl) ?_
    refine lv_aload_n hx hb dX11_bolt_40 rfl (lv_at hl 1 rfl) ?_
    refine hw_callV (d := 201) E hR hS (As := []) (rest := [.int r3, .ref (ad g a0)]) cI10 hs0 rfl mcX11_some miX11_some lmX11_83 (ok_X11_some_top hs0 hf) rfl rfl (by decide) hl.1 (Nat.le_of_ble_eq_true rfl) dX11_bolt_41 (fun rr m9 H locs hp hR hS => ?_)
    obtain ⟨r10, rfl, hf⟩ := hp
    refine W.eq (g2 := F0 m 44 ls [.int r10, .int r3, .ref (ad g a0)]) rfl ?_
    refine hw_callV (d := 201) E hR hS (As := [.int r3, .int r10]) (rest := []) cI10 hs0 rfl mcX11_fault miX11_fault lmX11_128 (ok_X11_fault hs0 hf) rfl rfl (by decide) hl.1 (Nat.le_of_ble_eq_true rfl) dX11_bolt_44 (fun rr m11 H locs hp hR hS => ?_)
    obtain ⟨r12, rfl, hf⟩ := hp
    refine W.eq (g2 := F0 m 47 ls [.int r12]) rfl ?_
    refine lv_istore_n (lv' := [(2, .int r12), (1, .int r3), (0, .ref (ad g a0))]) hx hb dX11_bolt_47 rfl hl (by decide) rfl (fun ls hl => ?_)
    refine lv_iload_n hx hb dX11_bolt_48 rfl (lv_at hl 0 rfl) ?_
    refine lv_if_ge (tgt := 54) hx hb dX11_bolt_49 (by decide) (fun c13 => ?_) (fun c13 => ?_)
    · replace hf := hf.1 c13
      refine lv_aload_n hx hb dX11_bolt_54 rfl (lv_at hl 2 rfl) ?_
      refine lv_bipush (v := 74) hx hb dX11_bolt_55 (by decide) ?_
      refine lv_bipush (v := 70) hx hb dX11_bolt_57 (by decide) ?_
      refine lv_aload_n hx hb dX11_bolt_59 rfl (lv_at hl 2 rfl) ?_
      refine hw_getI E hR cI10 hs0 20 (by decide) lfX11_158 rfl dX11_bolt_60 ?_
      refine lv_iadd hx hb dX11_bolt_63 ?_
      refine hw_callV (d := 201) E hR hS (As := [.int (74 : Int32), .int ((70 : Int32) + (m11.1 a0 20))]) (rest := []) cI10 hs0 rfl mcX11_copies miX11_copies lmX11_132 (ok_X11_copies hs0 hf) rfl rfl (by decide) hl.1 (Nat.le_of_ble_eq_true rfl) dX11_bolt_64 (fun rr m14 H locs hp hR hS => ?_)
      obtain ⟨rfl, hf⟩ := hp
      refine W.eq (g2 := F0 m 67 ls []) rfl ?_
      refine lv_aload_n hx hb dX11_bolt_67 rfl (lv_at hl 2 rfl) ?_
      refine lv_dup hx hb dX11_bolt_68 rfl ?_
      refine hw_getI E hR cI10 hs0 21 (by decide) lfX11_161 rfl dX11_bolt_69 ?_
      refine lv_iconst (v := 1) hx hb dX11_bolt_72 (by decide) ?_
      refine lv_aload_n hx hb dX11_bolt_73 rfl (lv_at hl 2 rfl) ?_
      refine hw_getI E hR cI10 hs0 20 (by decide) lfX11_158 rfl dX11_bolt_74 ?_
      refine lv_ishl hx hb dX11_bolt_77 ?_
      refine lv_ior hx hb dX11_bolt_78 ?_
      refine hw_putI E hR hS hw cI10 hs0 21 (by decide) lfX11_161 rfl (Or.inl rfl) dX11_bolt_79 (fun m15 H locs em15 hR hS => ?_)
      replace hf := hf m15 em15
      refine lv_aload_n hx hb dX11_bolt_82 rfl (lv_at hl 2 rfl) ?_
      refine lv_dup hx hb dX11_bolt_83 rfl ?_
      refine hw_getI E hR cI10 hs0 20 (by decide) lfX11_158 rfl dX11_bolt_84 ?_
      refine lv_iconst (v := 1) hx hb dX11_bolt_87 (by decide) ?_
      refine lv_iadd hx hb dX11_bolt_88 ?_
      refine hw_putI E hR hS hw cI10 hs0 20 (by decide) lfX11_158 rfl (Or.inl rfl) dX11_bolt_89 (fun m16 H locs em16 hR hS => ?_)
      replace hf := hf m16 em16
      refine lv_aload_n hx hb dX11_bolt_92 rfl (lv_at hl 2 rfl) ?_
      refine hw_callV (d := 201) E hR hS (As := []) (rest := []) cI10 hs0 rfl mcX11_forgetsKept miX11_forgetsKept lmX11_151 (ok_X11_forgetsKept hs0 hf) rfl rfl (by decide) hl.1 (Nat.le_of_ble_eq_true rfl) dX11_bolt_93 (fun rr m17 H locs hp hR hS => ?_)
      obtain ⟨rfl, hf⟩ := hp
      refine W.eq (g2 := F0 m 96 ls []) rfl ?_
      refine lv_aload_n hx hb dX11_bolt_96 rfl (lv_at hl 2 rfl) ?_
      refine hw_getI E hR cI10 hs0 20 (by decide) lfX11_158 rfl dX11_bolt_97 ?_
      refine lv_iconst (v := 1) hx hb dX11_bolt_100 (by decide) ?_
      refine lv_isub hx hb dX11_bolt_101 ?_
      exact hw_iret E hR hS ⟨_, rfl, hf⟩ dX11_bolt_102
    · replace hf := hf.2 c13
      refine lv_iload_n hx hb dX11_bolt_52 rfl (lv_at hl 0 rfl) ?_
      exact hw_iret E hR hS ⟨_, rfl, hf⟩ dX11_bolt_53
  · replace hf := hf.1 c4
    refine lv_bipush (v := -100) hx hb dX11_bolt_19 (by decide) ?_
    exact hw_iret E hR hS ⟨_, rfl, hf⟩ dX11_bolt_21
def f_X11_reads (S : Ss) (a0 : Nat) (M : Mm) (K : Int32 → Mm → Prop) : Prop :=
  f_X11_begins S a0 (1 : Int32) M (fun (r2 : Int32) (m1 : Mm) =>
    ∀ m3 : Mm, m3 = stI m1 a0 13 (74 : Int32) →
  ∃ b4 : Nat, m3.2.2 a0 12 = some b4 ∧
  ∃ n5 : Nat, S[b4]? = some (50, n5) ∧ vp_in (m3.1 a0 13) n5 ∧
  ∀ m6 : Mm, m6 = stI m3 b4 (m3.1 a0 13).toNatClampNeg (0 : Int32) →
  f_X11_some_top S a0  m6 (fun (r8 : Int32) (m7 : Mm) =>
    f_X11_fault S a0 r2 r8 m7 (fun (r10 : Int32) (m9 : Mm) =>
    ((r10 = 0 →
    f_X11_copies S a0 (74 : Int32) (73 : Int32) m9 (fun (m12 : Mm) =>
      K r10 m12)) ∧
   (¬ r10 = 0 →
    K r10 m9)))))
set_option maxHeartbeats 4000000 in
set_option maxRecDepth 100000 in
theorem ok_X11_reads {l : Launch} {g : Gg} {S : Ss} {a0 : Nat} {M : Mm} {K : Int32 → Mm → Prop} (hs0 : S[a0]? = some (10, 0)) (hf : f_X11_reads S a0 M K) : MT l g S yX11_reads cX11_reads 3 (some .int) 201 [.ref (ad g a0)] M (pI K) := by
  refine MT.of (by decide +kernel) (Nat.le_of_ble_eq_true rfl) ?_
  intro p e s m below meth c ls E hw hR hS hl
  have hl : lv_has ls 3 [(0, .ref (ad g a0))] := hl
  generalize ([.ref (ad g a0)] : List Value).toArray = args at E ⊢
  have E : EN p s m args meth c cX11_reads 3 (some .int) RX11 g := E
  have hx := E.1
  have hb := E.2.1
  unfold f_X11_reads at hf
  refine lv_aload_n hx hb dX11_reads_0 rfl (lv_at hl 0 rfl) ?_
  refine lv_iconst (v := 1) hx hb dX11_reads_1 (by decide) ?_
  refine hw_callV (d := 201) E hR hS (As := [.int (1 : Int32)]) (rest := []) cI10 hs0 rfl mcX11_begins miX11_begins lmX11_118 (ok_X11_begins hs0 hf) rfl rfl (by decide) hl.1 (Nat.le_of_ble_eq_true rfl) dX11_reads_2 (fun rr m1 H locs hp hR hS => ?_)
  obtain ⟨r2, rfl, hf⟩ := hp
  refine W.eq (g2 := F0 m 5 ls [.int r2]) rfl ?_
  refine lv_istore_n (lv' := [(1, .int r2), (0, .ref (ad g a0))]) hx hb dX11_reads_5 rfl hl (by decide) rfl (fun ls hl => ?_)
  refine lv_aload_n hx hb dX11_reads_6 rfl (lv_at hl 1 rfl) ?_
  refine lv_bipush (v := 74) hx hb dX11_reads_7 (by decide) ?_
  refine hw_putI E hR hS hw cI10 hs0 13 (by decide) lfX11_46 rfl (Or.inl rfl) dX11_reads_9 (fun m3 H locs em3 hR hS => ?_)
  replace hf := hf m3 em3
  refine lv_aload_n hx hb dX11_reads_12 rfl (lv_at hl 1 rfl) ?_
  obtain ⟨b4, hb4, hf⟩ := hf
  refine hw_getR E hR cI10 hs0 12 (by decide) lfX11_49 rfl hb4 dX11_reads_13 ?_
  refine lv_aload_n hx hb dX11_reads_16 rfl (lv_at hl 1 rfl) ?_
  refine hw_getI E hR cI10 hs0 13 (by decide) lfX11_46 rfl dX11_reads_17 ?_
  refine lv_iconst (v := 0) hx hb dX11_reads_20 (by decide) ?_
  obtain ⟨n5, hn5, in5, hf⟩ := hf
  refine hw_iast E hR hS hw hn5 in5 dX11_reads_21 (fun m6 H locs em6 hR hS => ?_)
  replace hf := hf m6 em6
  refine lv_aload_n hx hb dX11_reads_22 rfl (lv_at hl 1 rfl) ?_
  refine lv_iload_n hx hb dX11_reads_23 rfl (lv_at hl 0 rfl) ?_
  refine lv_aload_n hx hb dX11_reads_24 rfl (lv_at hl 1 rfl) ?_
  refine hw_callV (d := 201) E hR hS (As := []) (rest := [.int r2, .ref (ad g a0)]) cI10 hs0 rfl mcX11_some miX11_some lmX11_83 (ok_X11_some_top hs0 hf) rfl rfl (by decide) hl.1 (Nat.le_of_ble_eq_true rfl) dX11_reads_25 (fun rr m7 H locs hp hR hS => ?_)
  obtain ⟨r8, rfl, hf⟩ := hp
  refine W.eq (g2 := F0 m 28 ls [.int r8, .int r2, .ref (ad g a0)]) rfl ?_
  refine hw_callV (d := 201) E hR hS (As := [.int r2, .int r8]) (rest := []) cI10 hs0 rfl mcX11_fault miX11_fault lmX11_128 (ok_X11_fault hs0 hf) rfl rfl (by decide) hl.1 (Nat.le_of_ble_eq_true rfl) dX11_reads_28 (fun rr m9 H locs hp hR hS => ?_)
  obtain ⟨r10, rfl, hf⟩ := hp
  refine W.eq (g2 := F0 m 31 ls [.int r10]) rfl ?_
  refine lv_istore_n (lv' := [(2, .int r10), (1, .int r2), (0, .ref (ad g a0))]) hx hb dX11_reads_31 rfl hl (by decide) rfl (fun ls hl => ?_)
  refine lv_iload_n hx hb dX11_reads_32 rfl (lv_at hl 0 rfl) ?_
  refine lv_if_ne (tgt := 44) hx hb dX11_reads_33 (by decide) (fun c11 => ?_) (fun c11 => ?_)
  · replace hf := hf.2 c11
    refine lv_iload_n hx hb dX11_reads_44 rfl (lv_at hl 0 rfl) ?_
    exact hw_iret E hR hS ⟨_, rfl, hf⟩ dX11_reads_45
  · replace hf := hf.1 c11
    refine lv_aload_n hx hb dX11_reads_36 rfl (lv_at hl 2 rfl) ?_
    refine lv_bipush (v := 74) hx hb dX11_reads_37 (by decide) ?_
    refine lv_bipush (v := 73) hx hb dX11_reads_39 (by decide) ?_
    refine hw_callV (d := 201) E hR hS (As := [.int (74 : Int32), .int (73 : Int32)]) (rest := []) cI10 hs0 rfl mcX11_copies miX11_copies lmX11_132 (ok_X11_copies hs0 hf) rfl rfl (by decide) hl.1 (Nat.le_of_ble_eq_true rfl) dX11_reads_41 (fun rr m12 H locs hp hR hS => ?_)
    obtain ⟨rfl, hf⟩ := hp
    refine W.eq (g2 := F0 m 44 ls []) rfl ?_
    refine lv_iload_n hx hb dX11_reads_44 rfl (lv_at hl 0 rfl) ?_
    exact hw_iret E hR hS ⟨_, rfl, hf⟩ dX11_reads_45
def f_X11_ask (S : Ss) (a0 : Nat) (M : Mm) (K : Int32 → Mm → Prop) : Prop :=
  ∀ m1 : Mm, m1 = stI M a0 0 (0 : Int32) →
  f_X11_reads S a0  m1 (fun (r3 : Int32) (m2 : Mm) =>
    ((0 ≤ r3 →
    ∀ m5 : Mm, m5 = stI m2 a0 1 (0 : Int32) →
    f_X11_worked S a0 (73 : Int32) m5 (fun (r7 : Int32) (m6 : Mm) =>
      f_X11_enters S a0 r7.toInt64 m6 (fun (m8 : Mm) =>
      K (0 : Int32) m8))) ∧
   (¬ 0 ≤ r3 →
    K r3 m2)))
set_option maxHeartbeats 4000000 in
set_option maxRecDepth 100000 in
theorem ok_X11_ask {l : Launch} {g : Gg} {S : Ss} {a0 : Nat} {M : Mm} {K : Int32 → Mm → Prop} (hs0 : S[a0]? = some (10, 0)) (hf : f_X11_ask S a0 M K) : MT l g S yX11_ask cX11_ask 2 (some .int) 202 [.ref (ad g a0)] M (pI K) := by
  refine MT.of (by decide +kernel) (Nat.le_of_ble_eq_true rfl) ?_
  intro p e s m below meth c ls E hw hR hS hl
  have hl : lv_has ls 2 [(0, .ref (ad g a0))] := hl
  generalize ([.ref (ad g a0)] : List Value).toArray = args at E ⊢
  have E : EN p s m args meth c cX11_ask 2 (some .int) RX11 g := E
  have hx := E.1
  have hb := E.2.1
  unfold f_X11_ask at hf
  refine lv_aload_n hx hb dX11_ask_0 rfl (lv_at hl 0 rfl) ?_
  refine lv_iconst (v := 0) hx hb dX11_ask_1 (by decide) ?_
  refine hw_putI E hR hS hw cI10 hs0 0 (by decide) lfX11_3 rfl (Or.inl rfl) dX11_ask_2 (fun m1 H locs em1 hR hS => ?_)
  replace hf := hf m1 em1
  refine lv_aload_n hx hb dX11_ask_5 rfl (lv_at hl 0 rfl) ?_
  refine hw_callV (d := 202) E hR hS (As := []) (rest := []) cI10 hs0 rfl mcX11_reads miX11_reads lmX11_259 (ok_X11_reads hs0 hf) rfl rfl (by decide) hl.1 (Nat.le_of_ble_eq_true rfl) dX11_ask_6 (fun rr m2 H locs hp hR hS => ?_)
  obtain ⟨r3, rfl, hf⟩ := hp
  refine W.eq (g2 := F0 m 9 ls [.int r3]) rfl ?_
  refine lv_istore_n (lv' := [(1, .int r3), (0, .ref (ad g a0))]) hx hb dX11_ask_9 rfl hl (by decide) rfl (fun ls hl => ?_)
  refine lv_iload_n hx hb dX11_ask_10 rfl (lv_at hl 0 rfl) ?_
  refine lv_if_ge (tgt := 16) hx hb dX11_ask_11 (by decide) (fun c4 => ?_) (fun c4 => ?_)
  · replace hf := hf.1 c4
    refine lv_aload_n hx hb dX11_ask_16 rfl (lv_at hl 1 rfl) ?_
    refine lv_iconst (v := 0) hx hb dX11_ask_17 (by decide) ?_
    refine hw_putI E hR hS hw cI10 hs0 1 (by decide) lfX11_11 rfl (Or.inl rfl) dX11_ask_18 (fun m5 H locs em5 hR hS => ?_)
    replace hf := hf m5 em5
    refine lv_aload_n hx hb dX11_ask_21 rfl (lv_at hl 1 rfl) ?_
    refine lv_aload_n hx hb dX11_ask_22 rfl (lv_at hl 1 rfl) ?_
    refine lv_bipush (v := 73) hx hb dX11_ask_23 (by decide) ?_
    refine hw_callV (d := 202) E hR hS (As := [.int (73 : Int32)]) (rest := [.ref (ad g a0)]) cI10 hs0 rfl mcX11_worked miX11_worked lmX11_195 (ok_X11_worked hs0 hf) rfl rfl (by decide) hl.1 (Nat.le_of_ble_eq_true rfl) dX11_ask_25 (fun rr m6 H locs hp hR hS => ?_)
    obtain ⟨r7, rfl, hf⟩ := hp
    refine W.eq (g2 := F0 m 28 ls [.int r7, .ref (ad g a0)]) rfl ?_
    refine lv_i2l hx hb dX11_ask_28 rfl ?_
    refine hw_callV (d := 202) E hR hS (As := [.long r7.toInt64]) (rest := []) cI10 hs0 rfl mcX11_enters miX11_enters lmX11_262 (ok_X11_enters hs0 hf) rfl rfl (by decide) hl.1 (Nat.le_of_ble_eq_true rfl) dX11_ask_29 (fun rr m8 H locs hp hR hS => ?_)
    obtain ⟨rfl, hf⟩ := hp
    refine W.eq (g2 := F0 m 32 ls []) rfl ?_
    refine lv_iconst (v := 0) hx hb dX11_ask_32 (by decide) ?_
    exact hw_iret E hR hS ⟨_, rfl, hf⟩ dX11_ask_33
  · replace hf := hf.2 c4
    refine lv_iload_n hx hb dX11_ask_14 rfl (lv_at hl 0 rfl) ?_
    exact hw_iret E hR hS ⟨_, rfl, hf⟩ dX11_ask_15
def f_X11_reach (S : Ss) (a0 : Nat) (x1 : Int32) (M : Mm) (K : Int32 → Mm → Prop) : Prop :=
  ∀ m1 : Mm, m1 = stI M a0 0 (0 : Int32) →
  f_X11_reads S a0  m1 (fun (r3 : Int32) (m2 : Mm) =>
    f_X11_isRun S a0 x1 m2 (fun (r5 : Int32) (m4 : Mm) =>
    ((r5 = 0 →
    K (-1 : Int32) m4) ∧
   (¬ r5 = 0 →
    ((0 ≤ r3 →
      f_X11_remembers S a0  m4 (fun (m8 : Mm) =>
        f_X11_explores S a0 x1 (4000 : Int32) m8 (fun (r10 : Int32) (m9 : Mm) =>
        f_X11_comesBack S a0  m9 (fun (m11 : Mm) =>
        ((r10 = 0 →
        K (-3 : Int32) m11) ∧
       (¬ r10 = 0 →
        f_X11_worked S a0 (73 : Int32) m11 (fun (r14 : Int32) (m13 : Mm) =>
          ((r14 = 0 →
          ∀ m16 : Mm, m16 = stI m13 a0 51 (1 : Int32) →
          f_X11_finds S a0 x1 m16 (fun (r18 : Int32) (m17 : Mm) =>
            f_X11_comesBack S a0  m17 (fun (m19 : Mm) =>
            K r18 m19))) ∧
         (¬ r14 = 0 →
          ∀ m20 : Mm, m20 = stI m13 a0 1 (0 : Int32) →
          K (0 : Int32) m20))))))))) ∧
     (¬ 0 ≤ r3 →
      K ((-99 : Int32) + r3) m4))))))
set_option maxHeartbeats 4000000 in
set_option maxRecDepth 100000 in
theorem ok_X11_reach {l : Launch} {g : Gg} {S : Ss} {a0 : Nat} {x1 : Int32} {M : Mm} {K : Int32 → Mm → Prop} (hs0 : S[a0]? = some (10, 0)) (hf : f_X11_reach S a0 x1 M K) : MT l g S yX11_reach cX11_reach 4 (some .int) 202 [.ref (ad g a0), .int x1] M (pI K) := by
  refine MT.of (by decide +kernel) (Nat.le_of_ble_eq_true rfl) ?_
  intro p e s m below meth c ls E hw hR hS hl
  have hl : lv_has ls 4 [(0, .ref (ad g a0)), (1, .int x1)] := hl
  generalize ([.ref (ad g a0), .int x1] : List Value).toArray = args at E ⊢
  have E : EN p s m args meth c cX11_reach 4 (some .int) RX11 g := E
  have hx := E.1
  have hb := E.2.1
  unfold f_X11_reach at hf
  refine lv_aload_n hx hb dX11_reach_0 rfl (lv_at hl 0 rfl) ?_
  refine lv_iconst (v := 0) hx hb dX11_reach_1 (by decide) ?_
  refine hw_putI E hR hS hw cI10 hs0 0 (by decide) lfX11_3 rfl (Or.inl rfl) dX11_reach_2 (fun m1 H locs em1 hR hS => ?_)
  replace hf := hf m1 em1
  refine lv_aload_n hx hb dX11_reach_5 rfl (lv_at hl 0 rfl) ?_
  refine hw_callV (d := 202) E hR hS (As := []) (rest := []) cI10 hs0 rfl mcX11_reads miX11_reads lmX11_259 (ok_X11_reads hs0 hf) rfl rfl (by decide) hl.1 (Nat.le_of_ble_eq_true rfl) dX11_reach_6 (fun rr m2 H locs hp hR hS => ?_)
  obtain ⟨r3, rfl, hf⟩ := hp
  refine W.eq (g2 := F0 m 9 ls [.int r3]) rfl ?_
  refine lv_istore_n (lv' := [(2, .int r3), (0, .ref (ad g a0)), (1, .int x1)]) hx hb dX11_reach_9 rfl hl (by decide) rfl (fun ls hl => ?_)
  refine lv_aload_n hx hb dX11_reach_10 rfl (lv_at hl 1 rfl) ?_
  refine lv_iload_n hx hb dX11_reach_11 rfl (lv_at hl 2 rfl) ?_
  refine hw_callV (d := 202) E hR hS (As := [.int x1]) (rest := []) cI10 hs0 rfl mcX11_isRun miX11_isRun lmX11_341 (ok_X11_isRun hs0 hf) rfl rfl (by decide) hl.1 (Nat.le_of_ble_eq_true rfl) dX11_reach_12 (fun rr m4 H locs hp hR hS => ?_)
  obtain ⟨r5, rfl, hf⟩ := hp
  refine W.eq (g2 := F0 m 15 ls [.int r5]) rfl ?_
  refine lv_if_ne (tgt := 20) hx hb dX11_reach_15 (by decide) (fun c6 => ?_) (fun c6 => ?_)
  · replace hf := hf.2 c6
    refine lv_iload_n hx hb dX11_reach_20 rfl (lv_at hl 0 rfl) ?_
    refine lv_if_ge (tgt := 29) hx hb dX11_reach_21 (by decide) (fun c7 => ?_) (fun c7 => ?_)
    · replace hf := hf.1 c7
      refine lv_aload_n hx hb dX11_reach_29 rfl (lv_at hl 1 rfl) ?_
      refine hw_callV (d := 202) E hR hS (As := []) (rest := []) cI10 hs0 rfl mcX11_remembers miX11_remembers lmX11_344 (ok_X11_remembers hs0 hf) rfl rfl (by decide) hl.1 (Nat.le_of_ble_eq_true rfl) dX11_reach_30 (fun rr m8 H locs hp hR hS => ?_)
      obtain ⟨rfl, hf⟩ := hp
      refine W.eq (g2 := F0 m 33 ls []) rfl ?_
      refine lv_aload_n hx hb dX11_reach_33 rfl (lv_at hl 1 rfl) ?_
      refine lv_iload_n hx hb dX11_reach_34 rfl (lv_at hl 2 rfl) ?_
      refine lv_sipush (v := 4000) hx hb dX11_reach_35 (by decide) ?_
      refine hw_callV (d := 202) E hR hS (As := [.int x1, .int (4000 : Int32)]) (rest := []) cI10 hs0 rfl mcX11_explores miX11_explores lmX11_347 (ok_X11_explores hs0 hf) rfl rfl (by decide) hl.1 (Nat.le_of_ble_eq_true rfl) dX11_reach_38 (fun rr m9 H locs hp hR hS => ?_)
      obtain ⟨r10, rfl, hf⟩ := hp
      refine W.eq (g2 := F0 m 41 ls [.int r10]) rfl ?_
      refine lv_istore_n (lv' := [(3, .int r10), (2, .int r3), (0, .ref (ad g a0)), (1, .int x1)]) hx hb dX11_reach_41 rfl hl (by decide) rfl (fun ls hl => ?_)
      refine lv_aload_n hx hb dX11_reach_42 rfl (lv_at hl 2 rfl) ?_
      refine hw_callV (d := 202) E hR hS (As := []) (rest := []) cI10 hs0 rfl mcX11_comesBack miX11_comesBack lmX11_350 (ok_X11_comesBack hs0 hf) rfl rfl (by decide) hl.1 (Nat.le_of_ble_eq_true rfl) dX11_reach_43 (fun rr m11 H locs hp hR hS => ?_)
      obtain ⟨rfl, hf⟩ := hp
      refine W.eq (g2 := F0 m 46 ls []) rfl ?_
      refine lv_iload_n hx hb dX11_reach_46 rfl (lv_at hl 0 rfl) ?_
      refine lv_if_ne (tgt := 53) hx hb dX11_reach_47 (by decide) (fun c12 => ?_) (fun c12 => ?_)
      · replace hf := hf.2 c12
        refine lv_aload_n hx hb dX11_reach_53 rfl (lv_at hl 2 rfl) ?_
        refine lv_bipush (v := 73) hx hb dX11_reach_54 (by decide) ?_
        refine hw_callV (d := 202) E hR hS (As := [.int (73 : Int32)]) (rest := []) cI10 hs0 rfl mcX11_worked miX11_worked lmX11_195 (ok_X11_worked hs0 hf) rfl rfl (by decide) hl.1 (Nat.le_of_ble_eq_true rfl) dX11_reach_56 (fun rr m13 H locs hp hR hS => ?_)
        obtain ⟨r14, rfl, hf⟩ := hp
        refine W.eq (g2 := F0 m 59 ls [.int r14]) rfl ?_
        refine lv_if_eq (tgt := 69) hx hb dX11_reach_59 (by decide) (fun c15 => ?_) (fun c15 => ?_)
        · replace hf := hf.1 c15
          refine lv_aload_n hx hb dX11_reach_69 rfl (lv_at hl 2 rfl) ?_
          refine lv_iconst (v := 1) hx hb dX11_reach_70 (by decide) ?_
          refine hw_putI E hR hS hw cI10 hs0 51 (by decide) lfX11_353 rfl (Or.inl rfl) dX11_reach_71 (fun m16 H locs em16 hR hS => ?_)
          replace hf := hf m16 em16
          refine lv_aload_n hx hb dX11_reach_74 rfl (lv_at hl 2 rfl) ?_
          refine lv_iload_n hx hb dX11_reach_75 rfl (lv_at hl 3 rfl) ?_
          refine hw_callV (d := 202) E hR hS (As := [.int x1]) (rest := []) cI10 hs0 rfl mcX11_finds miX11_finds lmX11_368 (ok_X11_finds hs0 hf) rfl rfl (by decide) hl.1 (Nat.le_of_ble_eq_true rfl) dX11_reach_76 (fun rr m17 H locs hp hR hS => ?_)
          obtain ⟨r18, rfl, hf⟩ := hp
          refine W.eq (g2 := F0 m 79 ls [.int r18]) rfl ?_
          refine lv_istore_n (lv' := [(2, .int r18), (3, .int r10), (0, .ref (ad g a0)), (1, .int x1)]) hx hb dX11_reach_79 rfl hl (by decide) rfl (fun ls hl => ?_)
          refine lv_aload_n hx hb dX11_reach_80 rfl (lv_at hl 2 rfl) ?_
          refine hw_callV (d := 202) E hR hS (As := []) (rest := []) cI10 hs0 rfl mcX11_comesBack miX11_comesBack lmX11_350 (ok_X11_comesBack hs0 hf) rfl rfl (by decide) hl.1 (Nat.le_of_ble_eq_true rfl) dX11_reach_81 (fun rr m19 H locs hp hR hS => ?_)
          obtain ⟨rfl, hf⟩ := hp
          refine W.eq (g2 := F0 m 84 ls []) rfl ?_
          refine lv_iload_n hx hb dX11_reach_84 rfl (lv_at hl 0 rfl) ?_
          exact hw_iret E hR hS ⟨_, rfl, hf⟩ dX11_reach_85
        · replace hf := hf.2 c15
          refine lv_aload_n hx hb dX11_reach_62 rfl (lv_at hl 2 rfl) ?_
          refine lv_iconst (v := 0) hx hb dX11_reach_63 (by decide) ?_
          refine hw_putI E hR hS hw cI10 hs0 1 (by decide) lfX11_11 rfl (Or.inl rfl) dX11_reach_64 (fun m20 H locs em20 hR hS => ?_)
          replace hf := hf m20 em20
          refine lv_iconst (v := 0) hx hb dX11_reach_67 (by decide) ?_
          exact hw_iret E hR hS ⟨_, rfl, hf⟩ dX11_reach_68
      · replace hf := hf.1 c12
        refine lv_bipush (v := -3) hx hb dX11_reach_50 (by decide) ?_
        exact hw_iret E hR hS ⟨_, rfl, hf⟩ dX11_reach_52
    · replace hf := hf.2 c7
      refine lv_bipush (v := -99) hx hb dX11_reach_24 (by decide) ?_
      refine lv_iload_n hx hb dX11_reach_26 rfl (lv_at hl 0 rfl) ?_
      refine lv_iadd hx hb dX11_reach_27 ?_
      exact hw_iret E hR hS ⟨_, rfl, hf⟩ dX11_reach_28
  · replace hf := hf.1 c6
    refine lv_iconst (v := -1) hx hb dX11_reach_18 (by decide) ?_
    exact hw_iret E hR hS ⟨_, rfl, hf⟩ dX11_reach_19
def f_X11_patch (S : Ss) (a0 : Nat) (x1 : Int32) (x2 : Int32) (M : Mm) (K : Int32 → Mm → Prop) : Prop :=
  ∀ m1 : Mm, m1 = stI M a0 0 (0 : Int32) →
  f_X11_begins S a0 (0 : Int32) m1 (fun (r3 : Int32) (m2 : Mm) =>
    f_X11_in S  x1.toInt64 (0 : Int64) ((m2.1 a0 15) - (1 : Int32)).toInt64 m2 (fun (r5 : Int32) (m4 : Mm) =>
    ((r5 = 0 →
    K (-100 : Int32) m4) ∧
   (¬ r5 = 0 →
    ∃ b7 : Nat, m4.2.2 a0 16 = some b7 ∧
    ∃ n8 : Nat, shp S b7 = some (50, n8) ∧ vp_in x1 n8 ∧
    f_X11_in S  x2.toInt64 (0 : Int64) ((m4.1 b7 x1.toNatClampNeg) - (1 : Int32)).toInt64 m4 (fun (r10 : Int32) (m9 : Mm) =>
      ((r10 = 0 →
      K (-100 : Int32) m9) ∧
     (¬ r10 = 0 →
      (((m9.1 a0 34) = (5 : Int32) →
        K (-100 : Int32) m9) ∧
       (¬ (m9.1 a0 34) = (5 : Int32) →
        f_X11_line S a0 (74 : Int32) m9 (fun (r14 : Int32) (m13 : Mm) =>
          f_X11_fault S a0 r3 r14 m13 (fun (r16 : Int32) (m15 : Mm) =>
          ((0 ≤ r16 →
          f_X11_copies S a0 (74 : Int32) ((64 : Int32) + (m15.1 a0 34)) m15 (fun (m18 : Mm) =>
            ∃ b19 : Nat, m18.2.2 a0 35 = some b19 ∧
          ∃ n20 : Nat, S[b19]? = some (50, n20) ∧ vp_in (m18.1 a0 34) n20 ∧
          ∀ m21 : Mm, m21 = stI m18 b19 (m18.1 a0 34).toNatClampNeg x1 →
          ∃ b22 : Nat, m21.2.2 a0 36 = some b22 ∧
          ∃ n23 : Nat, S[b22]? = some (50, n23) ∧ vp_in (m21.1 a0 34) n23 ∧
          ∀ m24 : Mm, m24 = stI m21 b22 (m21.1 a0 34).toNatClampNeg x2 →
          ∀ m25 : Mm, m25 = stI m24 a0 34 ((m24.1 a0 34) + (1 : Int32)) →
          K ((m25.1 a0 34) - (1 : Int32)) m25)) ∧
         (¬ 0 ≤ r16 →
          K r16 m15)))))))))))))
set_option maxHeartbeats 4000000 in
set_option maxRecDepth 100000 in
theorem ok_X11_patch {l : Launch} {g : Gg} {S : Ss} {a0 : Nat} {x1 : Int32} {x2 : Int32} {M : Mm} {K : Int32 → Mm → Prop} (hs0 : S[a0]? = some (10, 0)) (hf : f_X11_patch S a0 x1 x2 M K) : MT l g S yX11_patch cX11_patch 5 (some .int) 202 [.ref (ad g a0), .int x1, .int x2] M (pI K) := by
  refine MT.of (by decide +kernel) (Nat.le_of_ble_eq_true rfl) ?_
  intro p e s m below meth c ls E hw hR hS hl
  have hl : lv_has ls 5 [(0, .ref (ad g a0)), (1, .int x1), (2, .int x2)] := hl
  generalize ([.ref (ad g a0), .int x1, .int x2] : List Value).toArray = args at E ⊢
  have E : EN p s m args meth c cX11_patch 5 (some .int) RX11 g := E
  have hx := E.1
  have hb := E.2.1
  unfold f_X11_patch at hf
  refine lv_aload_n hx hb dX11_patch_0 rfl (lv_at hl 0 rfl) ?_
  refine lv_iconst (v := 0) hx hb dX11_patch_1 (by decide) ?_
  refine hw_putI E hR hS hw cI10 hs0 0 (by decide) lfX11_3 rfl (Or.inl rfl) dX11_patch_2 (fun m1 H locs em1 hR hS => ?_)
  replace hf := hf m1 em1
  refine lv_aload_n hx hb dX11_patch_5 rfl (lv_at hl 0 rfl) ?_
  refine lv_iconst (v := 0) hx hb dX11_patch_6 (by decide) ?_
  refine hw_callV (d := 202) E hR hS (As := [.int (0 : Int32)]) (rest := []) cI10 hs0 rfl mcX11_begins miX11_begins lmX11_118 (ok_X11_begins hs0 hf) rfl rfl (by decide) hl.1 (Nat.le_of_ble_eq_true rfl) dX11_patch_7 (fun rr m2 H locs hp hR hS => ?_)
  obtain ⟨r3, rfl, hf⟩ := hp
  refine W.eq (g2 := F0 m 10 ls [.int r3]) rfl ?_
  refine lv_istore_n (lv' := [(3, .int r3), (0, .ref (ad g a0)), (1, .int x1), (2, .int x2)]) hx hb dX11_patch_10 rfl hl (by decide) rfl (fun ls hl => ?_)
  refine lv_iload_n hx hb dX11_patch_11 rfl (lv_at hl 2 rfl) ?_
  refine lv_i2l hx hb dX11_patch_12 rfl ?_
  refine lv_lconst (v := 0) hx hb dX11_patch_13 (by decide) ?_
  refine lv_aload_n hx hb dX11_patch_14 rfl (lv_at hl 1 rfl) ?_
  refine hw_getI E hR cI10 hs0 15 (by decide) lfX11_121 rfl dX11_patch_15 ?_
  refine lv_iconst (v := 1) hx hb dX11_patch_18 (by decide) ?_
  refine lv_isub hx hb dX11_patch_19 ?_
  refine lv_i2l hx hb dX11_patch_20 rfl ?_
  refine hw_callS (d := 202) E hR hS (As := [.long x1.toInt64, .long (0 : Int64), .long ((m2.1 a0 15) - (1 : Int32)).toInt64]) (rest := []) mcX11_in msX11_in lmX11_21 (ok_X11_in  hf) rfl rfl (by decide) hl.1 (Nat.le_of_ble_eq_true rfl) dX11_patch_21 (fun rr m4 H locs hp hR hS => ?_)
  obtain ⟨r5, rfl, hf⟩ := hp
  refine W.eq (g2 := F0 m 24 ls [.int r5]) rfl ?_
  refine lv_if_eq (tgt := 53) hx hb dX11_patch_24 (by decide) (fun c6 => ?_) (fun c6 => ?_)
  · replace hf := hf.1 c6
    refine lv_bipush (v := -100) hx hb dX11_patch_53 (by decide) ?_
    exact hw_iret E hR hS ⟨_, rfl, hf⟩ dX11_patch_55
  · replace hf := hf.2 c6
    refine lv_iload_n hx hb dX11_patch_27 rfl (lv_at hl 3 rfl) ?_
    refine lv_i2l hx hb dX11_patch_28 rfl ?_
    refine lv_lconst (v := 0) hx hb dX11_patch_29 (by decide) ?_
    refine lv_aload_n hx hb dX11_patch_30 rfl (lv_at hl 1 rfl) ?_
    obtain ⟨b7, hb7, hf⟩ := hf
    refine hw_getR E hR cI10 hs0 16 (by decide) lfX11_142 rfl hb7 dX11_patch_31 ?_
    refine lv_iload_n hx hb dX11_patch_34 rfl (lv_at hl 2 rfl) ?_
    obtain ⟨n8, hn8, in8, hf⟩ := hf
    refine hw_iald E hR hS hn8 in8 dX11_patch_35 ?_
    refine lv_iconst (v := 1) hx hb dX11_patch_36 (by decide) ?_
    refine lv_isub hx hb dX11_patch_37 ?_
    refine lv_i2l hx hb dX11_patch_38 rfl ?_
    refine hw_callS (d := 202) E hR hS (As := [.long x2.toInt64, .long (0 : Int64), .long ((m4.1 b7 x1.toNatClampNeg) - (1 : Int32)).toInt64]) (rest := []) mcX11_in msX11_in lmX11_21 (ok_X11_in  hf) rfl rfl (by decide) hl.1 (Nat.le_of_ble_eq_true rfl) dX11_patch_39 (fun rr m9 H locs hp hR hS => ?_)
    obtain ⟨r10, rfl, hf⟩ := hp
    refine W.eq (g2 := F0 m 42 ls [.int r10]) rfl ?_
    refine lv_if_eq (tgt := 53) hx hb dX11_patch_42 (by decide) (fun c11 => ?_) (fun c11 => ?_)
    · replace hf := hf.1 c11
      refine lv_bipush (v := -100) hx hb dX11_patch_53 (by decide) ?_
      exact hw_iret E hR hS ⟨_, rfl, hf⟩ dX11_patch_55
    · replace hf := hf.2 c11
      refine lv_aload_n hx hb dX11_patch_45 rfl (lv_at hl 1 rfl) ?_
      refine hw_getI E hR cI10 hs0 34 (by decide) lfX11_198 rfl dX11_patch_46 ?_
      refine lv_iconst (v := 5) hx hb dX11_patch_49 (by decide) ?_
      refine lv_icmp_ne (tgt := 56) hx hb dX11_patch_50 (by decide) (fun c12 => ?_) (fun c12 => ?_)
      · replace hf := hf.2 c12
        refine lv_aload_n hx hb dX11_patch_56 rfl (lv_at hl 1 rfl) ?_
        refine lv_iload_n hx hb dX11_patch_57 rfl (lv_at hl 0 rfl) ?_
        refine lv_aload_n hx hb dX11_patch_58 rfl (lv_at hl 1 rfl) ?_
        refine lv_bipush (v := 74) hx hb dX11_patch_59 (by decide) ?_
        refine hw_callV (d := 202) E hR hS (As := [.int (74 : Int32)]) (rest := [.int r3, .ref (ad g a0)]) cI10 hs0 rfl mcX11_line miX11_line lmX11_124 (ok_X11_line hs0 hf) rfl rfl (by decide) hl.1 (Nat.le_of_ble_eq_true rfl) dX11_patch_61 (fun rr m13 H locs hp hR hS => ?_)
        obtain ⟨r14, rfl, hf⟩ := hp
        refine W.eq (g2 := F0 m 64 ls [.int r14, .int r3, .ref (ad g a0)]) rfl ?_
        refine hw_callV (d := 202) E hR hS (As := [.int r3, .int r14]) (rest := []) cI10 hs0 rfl mcX11_fault miX11_fault lmX11_128 (ok_X11_fault hs0 hf) rfl rfl (by decide) hl.1 (Nat.le_of_ble_eq_true rfl) dX11_patch_64 (fun rr m15 H locs hp hR hS => ?_)
        obtain ⟨r16, rfl, hf⟩ := hp
        refine W.eq (g2 := F0 m 67 ls [.int r16]) rfl ?_
        refine lv_istore (lv' := [(4, .int r16), (3, .int r3), (0, .ref (ad g a0)), (1, .int x1), (2, .int x2)]) hx hb dX11_patch_67 hl (by decide) rfl (fun ls hl => ?_)
        refine lv_iload hx hb dX11_patch_69 (lv_at hl 0 rfl) ?_
        refine lv_if_ge (tgt := 77) hx hb dX11_patch_71 (by decide) (fun c17 => ?_) (fun c17 => ?_)
        · replace hf := hf.1 c17
          refine lv_aload_n hx hb dX11_patch_77 rfl (lv_at hl 2 rfl) ?_
          refine lv_bipush (v := 74) hx hb dX11_patch_78 (by decide) ?_
          refine lv_bipush (v := 64) hx hb dX11_patch_80 (by decide) ?_
          refine lv_aload_n hx hb dX11_patch_82 rfl (lv_at hl 2 rfl) ?_
          refine hw_getI E hR cI10 hs0 34 (by decide) lfX11_198 rfl dX11_patch_83 ?_
          refine lv_iadd hx hb dX11_patch_86 ?_
          refine hw_callV (d := 202) E hR hS (As := [.int (74 : Int32), .int ((64 : Int32) + (m15.1 a0 34))]) (rest := []) cI10 hs0 rfl mcX11_copies miX11_copies lmX11_132 (ok_X11_copies hs0 hf) rfl rfl (by decide) hl.1 (Nat.le_of_ble_eq_true rfl) dX11_patch_87 (fun rr m18 H locs hp hR hS => ?_)
          obtain ⟨rfl, hf⟩ := hp
          refine W.eq (g2 := F0 m 90 ls []) rfl ?_
          refine lv_aload_n hx hb dX11_patch_90 rfl (lv_at hl 2 rfl) ?_
          obtain ⟨b19, hb19, hf⟩ := hf
          refine hw_getR E hR cI10 hs0 35 (by decide) lfX11_208 rfl hb19 dX11_patch_91 ?_
          refine lv_aload_n hx hb dX11_patch_94 rfl (lv_at hl 2 rfl) ?_
          refine hw_getI E hR cI10 hs0 34 (by decide) lfX11_198 rfl dX11_patch_95 ?_
          refine lv_iload_n hx hb dX11_patch_98 rfl (lv_at hl 3 rfl) ?_
          obtain ⟨n20, hn20, in20, hf⟩ := hf
          refine hw_iast E hR hS hw hn20 in20 dX11_patch_99 (fun m21 H locs em21 hR hS => ?_)
          replace hf := hf m21 em21
          refine lv_aload_n hx hb dX11_patch_100 rfl (lv_at hl 2 rfl) ?_
          obtain ⟨b22, hb22, hf⟩ := hf
          refine hw_getR E hR cI10 hs0 36 (by decide) lfX11_211 rfl hb22 dX11_patch_101 ?_
          refine lv_aload_n hx hb dX11_patch_104 rfl (lv_at hl 2 rfl) ?_
          refine hw_getI E hR cI10 hs0 34 (by decide) lfX11_198 rfl dX11_patch_105 ?_
          refine lv_iload_n hx hb dX11_patch_108 rfl (lv_at hl 4 rfl) ?_
          obtain ⟨n23, hn23, in23, hf⟩ := hf
          refine hw_iast E hR hS hw hn23 in23 dX11_patch_109 (fun m24 H locs em24 hR hS => ?_)
          replace hf := hf m24 em24
          refine lv_aload_n hx hb dX11_patch_110 rfl (lv_at hl 2 rfl) ?_
          refine lv_dup hx hb dX11_patch_111 rfl ?_
          refine hw_getI E hR cI10 hs0 34 (by decide) lfX11_198 rfl dX11_patch_112 ?_
          refine lv_iconst (v := 1) hx hb dX11_patch_115 (by decide) ?_
          refine lv_iadd hx hb dX11_patch_116 ?_
          refine hw_putI E hR hS hw cI10 hs0 34 (by decide) lfX11_198 rfl (Or.inl rfl) dX11_patch_117 (fun m25 H locs em25 hR hS => ?_)
          replace hf := hf m25 em25
          refine lv_aload_n hx hb dX11_patch_120 rfl (lv_at hl 2 rfl) ?_
          refine hw_getI E hR cI10 hs0 34 (by decide) lfX11_198 rfl dX11_patch_121 ?_
          refine lv_iconst (v := 1) hx hb dX11_patch_124 (by decide) ?_
          refine lv_isub hx hb dX11_patch_125 ?_
          exact hw_iret E hR hS ⟨_, rfl, hf⟩ dX11_patch_126
        · replace hf := hf.2 c17
          refine lv_iload hx hb dX11_patch_74 (lv_at hl 0 rfl) ?_
          exact hw_iret E hR hS ⟨_, rfl, hf⟩ dX11_patch_76
      · replace hf := hf.1 c12
        refine lv_bipush (v := -100) hx hb dX11_patch_53 (by decide) ?_
        exact hw_iret E hR hS ⟨_, rfl, hf⟩ dX11_patch_55
