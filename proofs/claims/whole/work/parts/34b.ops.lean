def OP0 (p1 : Int32) (M : Mm) (K : Mm → Prop) : Prop := f_X10_sign S0 0 p1 M (fun (r : Int32) (m1 : Mm) => f_X11_sign S0 142 p1 m1 (fun (r' : Int32) (m2 : Mm) => ((r = r' → K m2) ∧ (¬ r = r' → False))))
def OP1 (p1 : Int32) (M : Mm) (K : Mm → Prop) : Prop := f_X10_end S0 0 p1 M (fun (r : Int32) (m1 : Mm) => f_X11_end S0 142 p1 m1 (fun (r' : Int32) (m2 : Mm) => ((r = r' → K m2) ∧ (¬ r = r' → False))))
def OP2 (p1 : Int32) (M : Mm) (K : Mm → Prop) : Prop := f_X10_task S0 0 p1 M (fun (r : Int32) (m1 : Mm) => f_X11_task S0 142 p1 m1 (fun (r' : Int32) (m2 : Mm) => ((r = r' → K m2) ∧ (¬ r = r' → False))))
def OP3 (M : Mm) (K : Mm → Prop) : Prop := f_X10_must S0 0 M (fun (r : Int32) (m1 : Mm) => f_X11_must S0 142 m1 (fun (r' : Int32) (m2 : Mm) => ((r = r' → K m2) ∧ (¬ r = r' → False))))
def OP4 (M : Mm) (K : Mm → Prop) : Prop := f_X10_bolt S0 0 M (fun (r : Int32) (m1 : Mm) => f_X11_bolt S0 142 m1 (fun (r' : Int32) (m2 : Mm) => ((r = r' → K m2) ∧ (¬ r = r' → False))))
def OP5 (p1 p2 : Int32) (M : Mm) (K : Mm → Prop) : Prop := f_X10_turn S0 0 p1 p2 M (fun (r : Int32) (m1 : Mm) => f_X11_turn S0 142 p1 p2 m1 (fun (r' : Int32) (m2 : Mm) => ((r = r' → K m2) ∧ (¬ r = r' → False))))
def OP6 (p1 p2 : Int32) (M : Mm) (K : Mm → Prop) : Prop := f_X10_slot S0 0 p1 p2 M (fun (r : Int32) (m1 : Mm) => f_X11_slot S0 142 p1 p2 m1 (fun (r' : Int32) (m2 : Mm) => ((r = r' → K m2) ∧ (¬ r = r' → False))))
def OP7 (p1 p2 : Int32) (M : Mm) (K : Mm → Prop) : Prop := f_X10_speed S0 0 p1 p2 M (fun (r : Int32) (m1 : Mm) => f_X11_speed S0 142 p1 p2 m1 (fun (r' : Int32) (m2 : Mm) => ((r = r' → K m2) ∧ (¬ r = r' → False))))
def OP8 (p1 : Int32) (M : Mm) (K : Mm → Prop) : Prop := f_X10_keys S0 0 p1 M (fun (r : Int32) (m1 : Mm) => f_X11_keys S0 142 p1 m1 (fun (r' : Int32) (m2 : Mm) => ((r = r' → K m2) ∧ (¬ r = r' → False))))
def OP9 (p1 p2 : Int32) (M : Mm) (K : Mm → Prop) : Prop := f_X10_step S0 0 p1 p2 M (fun (r : Int32) (m1 : Mm) => f_X11_step S0 142 p1 p2 m1 (fun (r' : Int32) (m2 : Mm) => ((r = r' → K m2) ∧ (¬ r = r' → False))))
def OP10 (p1 p2 p3 p4 : Int32) (M : Mm) (K : Mm → Prop) : Prop := f_X10_steps S0 0 p1 p2 p3 p4 M (fun (r : Int32) (m1 : Mm) => f_X11_steps S0 142 p1 p2 p3 p4 m1 (fun (r' : Int32) (m2 : Mm) => ((r = r' → K m2) ∧ (¬ r = r' → False))))
def OP11 (p1 : Int32) (M : Mm) (K : Mm → Prop) : Prop := f_L_at S0 0 p1 191 M (fun (r : Int32) (m1 : Mm) => f_X11_at S0 142 p1 m1 (fun (r' : Int32) (m2 : Mm) => f_X11_thrown S0 142 m2 (fun (r2 : Int32) (m3 : Mm) => ((r2 = r → ((r = 0 → ∃ n : Nat, S0[191]? = some (53, n) ∧ vp_in (0 : Int32) n ∧ (((m3.2.1 191 (0 : Int32).toNatClampNeg) = r'.toInt64 → K m3) ∧ (¬ (m3.2.1 191 (0 : Int32).toNatClampNeg) = r'.toInt64 → False))) ∧ (¬ r = 0 → K m3))) ∧ (¬ r2 = r → False)))))
def OP12 (M : Mm) (K : Mm → Prop) : Prop := f_X10_ask S0 0 M (fun (r : Int32) (m1 : Mm) => f_X11_ask S0 142 m1 (fun (r' : Int32) (m2 : Mm) => ((r = r' → K m2) ∧ (¬ r = r' → False))))
def OP13 (p1 : Int32) (M : Mm) (K : Mm → Prop) : Prop := f_X10_all S0 0 p1 M (fun (r : Int32) (m1 : Mm) => f_X11_all S0 142 p1 m1 (fun (r' : Int32) (m2 : Mm) => ((r = r' → K m2) ∧ (¬ r = r' → False))))
def OP14 (p1 : Int32) (M : Mm) (K : Mm → Prop) : Prop := f_X10_never S0 0 p1 M (fun (r : Int32) (m1 : Mm) => f_X11_never S0 142 p1 m1 (fun (r' : Int32) (m2 : Mm) => ((r = r' → K m2) ∧ (¬ r = r' → False))))
def OP15 (p1 : Int32) (M : Mm) (K : Mm → Prop) : Prop := f_X10_reach S0 0 p1 M (fun (r : Int32) (m1 : Mm) => f_X11_reach S0 142 p1 m1 (fun (r' : Int32) (m2 : Mm) => ((r = r' → K m2) ∧ (¬ r = r' → False))))
def OP16 (p1 : Int32) (M : Mm) (K : Mm → Prop) : Prop := f_X10_stuck S0 0 p1 M (fun (r : Int32) (m1 : Mm) => f_X11_stuck S0 142 p1 m1 (fun (r' : Int32) (m2 : Mm) => ((r = r' → K m2) ∧ (¬ r = r' → False))))
def OP17 (p1 : Int32) (M : Mm) (K : Mm → Prop) : Prop := f_X10_runs S0 0 p1 M (fun (r : Int32) (m1 : Mm) => f_X11_runs S0 142 p1 m1 (fun (r' : Int32) (m2 : Mm) => ((r = r' → K m2) ∧ (¬ r = r' → False))))
def OP18 (p1 p2 p3 : Int32) (M : Mm) (K : Mm → Prop) : Prop := f_X10_weight S0 0 p1 p2 p3 M (fun (r : Int32) (m1 : Mm) => f_X11_weight S0 142 p1 p2 p3 m1 (fun (r' : Int32) (m2 : Mm) => ((r = r' → K m2) ∧ (¬ r = r' → False))))
def OP19 (p1 p2 : Int32) (M : Mm) (K : Mm → Prop) : Prop := f_X10_odds S0 0 p1 p2 M (fun (r : Int32) (m1 : Mm) => f_X11_odds S0 142 p1 p2 m1 (fun (r' : Int32) (m2 : Mm) => ((r = r' → K m2) ∧ (¬ r = r' → False))))
def OP20 (p1 : Int32) (M : Mm) (K : Mm → Prop) : Prop := f_X10_quick S0 0 p1 M (fun (r : Int32) (m1 : Mm) => f_X11_quick S0 142 p1 m1 (fun (r' : Int32) (m2 : Mm) => ((r = r' → K m2) ∧ (¬ r = r' → False))))
def OP21 (p1 p2 : Int32) (M : Mm) (K : Mm → Prop) : Prop := f_X10_round S0 0 p1 p2 M (fun (r : Int32) (m1 : Mm) => f_X11_round S0 142 p1 p2 m1 (fun (r' : Int32) (m2 : Mm) => ((r = r' → K m2) ∧ (¬ r = r' → False))))
def OP22 (p1 p2 : Int32) (M : Mm) (K : Mm → Prop) : Prop := f_X10_means S0 0 p1 p2 M (fun (r : Int32) (m1 : Mm) => f_X11_means S0 142 p1 p2 m1 (fun (r' : Int32) (m2 : Mm) => ((r = r' → K m2) ∧ (¬ r = r' → False))))
def OP23 (p1 p2 : Int32) (M : Mm) (K : Mm → Prop) : Prop := f_X10_hid S0 0 p1 p2 M (fun (r : Int32) (m1 : Mm) => f_X11_hid S0 142 p1 p2 m1 (fun (r' : Int32) (m2 : Mm) => ((r = r' → K m2) ∧ (¬ r = r' → False))))
def OP24 (p1 : Int32) (M : Mm) (K : Mm → Prop) : Prop := f_X10_iron S0 0 p1 M (fun (r : Int32) (m1 : Mm) => f_X11_iron S0 142 p1 m1 (fun (r' : Int32) (m2 : Mm) => ((r = r' → K m2) ∧ (¬ r = r' → False))))
def OP25 (p1 p2 : Int32) (M : Mm) (K : Mm → Prop) : Prop := f_X10_patch S0 0 p1 p2 M (fun (r : Int32) (m1 : Mm) => f_X11_patch S0 142 p1 p2 m1 (fun (r' : Int32) (m2 : Mm) => ((r = r' → K m2) ∧ (¬ r = r' → False))))
def OP26 (p1 : Int32) (M : Mm) (K : Mm → Prop) : Prop := f_X10_mend S0 0 p1 M (fun (r : Int32) (m1 : Mm) => f_X11_mend S0 142 p1 m1 (fun (r' : Int32) (m2 : Mm) => ((r = r' → K m2) ∧ (¬ r = r' → False))))
def OP27 (M : Mm) (K : Mm → Prop) : Prop := f_X10_drop S0 0 M (fun (r : Int32) (m1 : Mm) => f_X11_drop S0 142 m1 (fun (r' : Int32) (m2 : Mm) => ((r = r' → K m2) ∧ (¬ r = r' → False))))
def OP28 (p1 : Int32) (M : Mm) (K : Mm → Prop) : Prop := f_X10_type S0 0 p1 M (fun (r : Int32) (m1 : Mm) => f_X11_type S0 142 p1 m1 (fun (r' : Int32) (m2 : Mm) => ((r = r' → K m2) ∧ (¬ r = r' → False))))
def OP29 (M : Mm) (K : Mm → Prop) : Prop := f_X10_wipe S0 0 M (fun (r : Int32) (m1 : Mm) => f_X11_wipe S0 142 m1 (fun (r' : Int32) (m2 : Mm) => ((r = r' → K m2) ∧ (¬ r = r' → False))))
def OP30 (M : Mm) (K : Mm → Prop) : Prop := f_X10_fits S0 0 M (fun (r : Int32) (m1 : Mm) => f_X11_fits S0 142 m1 (fun (r' : Int32) (m2 : Mm) => ((r = r' → K m2) ∧ (¬ r = r' → False))))
def OP31 (M : Mm) (K : Mm → Prop) : Prop := f_X10_many S0 0 M (fun (r : Int32) (m1 : Mm) => f_X11_many S0 142 m1 (fun (r' : Int32) (m2 : Mm) => ((r = r' → K m2) ∧ (¬ r = r' → False))))
def OP32 (M : Mm) (K : Mm → Prop) : Prop := f_X10_spare S0 0 M (fun (r : Int32) (m1 : Mm) => f_X11_spare S0 142 m1 (fun (r' : Int32) (m2 : Mm) => ((r = r' → K m2) ∧ (¬ r = r' → False))))
def OP33 (p1 p2 : Int32) (M : Mm) (K : Mm → Prop) : Prop := f_X10_like S0 0 p1 p2 M (fun (r : Int32) (m1 : Mm) => f_X11_like S0 142 p1 p2 m1 (fun (r' : Int32) (m2 : Mm) => ((r = r' → K m2) ∧ (¬ r = r' → False))))
def OP34 (p1 p2 p3 : Int32) (M : Mm) (K : Mm → Prop) : Prop := f_X10_given S0 0 p1 p2 p3 M (fun (r : Int32) (m1 : Mm) => f_X11_given S0 142 p1 p2 p3 m1 (fun (r' : Int32) (m2 : Mm) => ((r = r' → K m2) ∧ (¬ r = r' → False))))
def OP35 (p1 p2 p3 p4 : Int32) (M : Mm) (K : Mm → Prop) : Prop := f_X10_letter S0 0 p1 p2 p3 p4 M (fun (r : Int32) (m1 : Mm) => f_X11_letter_ S0 142 p1 p2 p3 p4 m1 (fun (r' : Int32) (m2 : Mm) => ((r = r' → K m2) ∧ (¬ r = r' → False))))
def OP36 (p1 p2 : Int32) (M : Mm) (K : Mm → Prop) : Prop := f_X10_knew S0 0 p1 p2 M (fun (r : Int32) (m1 : Mm) => f_X11_knew S0 142 p1 p2 m1 (fun (r' : Int32) (m2 : Mm) => ((r = r' → K m2) ∧ (¬ r = r' → False))))
def OP37 (p1 p2 : Int32) (M : Mm) (K : Mm → Prop) : Prop := f_X10_enough S0 0 p1 p2 M (fun (r : Int32) (m1 : Mm) => f_X11_enough S0 142 p1 p2 m1 (fun (r' : Int32) (m2 : Mm) => ((r = r' → K m2) ∧ (¬ r = r' → False))))
def OP38 (p1 : Int32) (M : Mm) (K : Mm → Prop) : Prop := f_X10_keep S0 0 p1 M (fun (r : Int32) (m1 : Mm) => f_X11_keep S0 142 p1 m1 (fun (r' : Int32) (m2 : Mm) => ((r = r' → K m2) ∧ (¬ r = r' → False))))
def OP39 (p1 : Int32) (M : Mm) (K : Mm → Prop) : Prop := f_X10_again S0 0 p1 M (fun (r : Int32) (m1 : Mm) => f_X11_again S0 142 p1 m1 (fun (r' : Int32) (m2 : Mm) => ((r = r' → K m2) ∧ (¬ r = r' → False))))
def OP40 (p1 : Int32) (M : Mm) (K : Mm → Prop) : Prop := f_X10_count S0 0 p1 M (fun (r : Int32) (m1 : Mm) => f_X11_count S0 142 p1 m1 (fun (r' : Int32) (m2 : Mm) => ((r = r' → K m2) ∧ (¬ r = r' → False))))
def OP41 (p1 : Int32) (M : Mm) (K : Mm → Prop) : Prop := f_L_row S0 0 p1 191 M (fun (r : Int32) (m1 : Mm) => f_X11_row S0 142 p1 m1 (fun (r' : Int64) (m2 : Mm) => f_X11_thrown S0 142 m2 (fun (r2 : Int32) (m3 : Mm) => ((r2 = r → ((r = 0 → ∃ n : Nat, S0[191]? = some (53, n) ∧ vp_in (0 : Int32) n ∧ (((m3.2.1 191 (0 : Int32).toNatClampNeg) = r' → K m3) ∧ (¬ (m3.2.1 191 (0 : Int32).toNatClampNeg) = r' → False))) ∧ (¬ r = 0 → K m3))) ∧ (¬ r2 = r → False)))))
/-- every call of the law keeps V and answers alike -/
def OPS (V : Mm → Prop) : Prop :=
  (∀ (p1 : Int32) (M : Mm) (K : Mm → Prop), V M → (∀ m, V m → K m) → OP0 p1 M K) ∧
  (∀ (p1 : Int32) (M : Mm) (K : Mm → Prop), V M → (∀ m, V m → K m) → OP1 p1 M K) ∧
  (∀ (p1 : Int32) (M : Mm) (K : Mm → Prop), V M → (∀ m, V m → K m) → OP2 p1 M K) ∧
  (∀ (M : Mm) (K : Mm → Prop), V M → (∀ m, V m → K m) → OP3 M K) ∧
  (∀ (M : Mm) (K : Mm → Prop), V M → (∀ m, V m → K m) → OP4 M K) ∧
  (∀ (p1 p2 : Int32) (M : Mm) (K : Mm → Prop), (p2 = 0 ∨ p2 = 1) → V M → (∀ m, V m → K m) → OP5 p1 p2 M K) ∧
  (∀ (p1 p2 : Int32) (M : Mm) (K : Mm → Prop), V M → (∀ m, V m → K m) → OP6 p1 p2 M K) ∧
  (∀ (p1 p2 : Int32) (M : Mm) (K : Mm → Prop), V M → (∀ m, V m → K m) → OP7 p1 p2 M K) ∧
  (∀ (p1 : Int32) (M : Mm) (K : Mm → Prop), V M → (∀ m, V m → K m) → OP8 p1 M K) ∧
  (∀ (p1 p2 : Int32) (M : Mm) (K : Mm → Prop), V M → (∀ m, V m → K m) → OP9 p1 p2 M K) ∧
  (∀ (p1 p2 p3 p4 : Int32) (M : Mm) (K : Mm → Prop), V M → (∀ m, V m → K m) → OP10 p1 p2 p3 p4 M K) ∧
  (∀ (p1 : Int32) (M : Mm) (K : Mm → Prop), V M → (∀ m, V m → K m) → OP11 p1 M K) ∧
  (∀ (M : Mm) (K : Mm → Prop), V M → (∀ m, V m → K m) → OP12 M K) ∧
  (∀ (p1 : Int32) (M : Mm) (K : Mm → Prop), V M → (∀ m, V m → K m) → OP13 p1 M K) ∧
  (∀ (p1 : Int32) (M : Mm) (K : Mm → Prop), V M → (∀ m, V m → K m) → OP14 p1 M K) ∧
  (∀ (p1 : Int32) (M : Mm) (K : Mm → Prop), V M → (∀ m, V m → K m) → OP15 p1 M K) ∧
  (∀ (p1 : Int32) (M : Mm) (K : Mm → Prop), V M → (∀ m, V m → K m) → OP16 p1 M K) ∧
  (∀ (p1 : Int32) (M : Mm) (K : Mm → Prop), V M → (∀ m, V m → K m) → OP17 p1 M K) ∧
  (∀ (p1 p2 p3 : Int32) (M : Mm) (K : Mm → Prop), V M → (∀ m, V m → K m) → OP18 p1 p2 p3 M K) ∧
  (∀ (p1 p2 : Int32) (M : Mm) (K : Mm → Prop), V M → (∀ m, V m → K m) → OP19 p1 p2 M K) ∧
  (∀ (p1 : Int32) (M : Mm) (K : Mm → Prop), V M → (∀ m, V m → K m) → OP20 p1 M K) ∧
  (∀ (p1 p2 : Int32) (M : Mm) (K : Mm → Prop), V M → (∀ m, V m → K m) → OP21 p1 p2 M K) ∧
  (∀ (p1 p2 : Int32) (M : Mm) (K : Mm → Prop), V M → (∀ m, V m → K m) → OP22 p1 p2 M K) ∧
  (∀ (p1 p2 : Int32) (M : Mm) (K : Mm → Prop), V M → (∀ m, V m → K m) → OP23 p1 p2 M K) ∧
  (∀ (p1 : Int32) (M : Mm) (K : Mm → Prop), V M → (∀ m, V m → K m) → OP24 p1 M K) ∧
  (∀ (p1 p2 : Int32) (M : Mm) (K : Mm → Prop), V M → (∀ m, V m → K m) → OP25 p1 p2 M K) ∧
  (∀ (p1 : Int32) (M : Mm) (K : Mm → Prop), V M → (∀ m, V m → K m) → OP26 p1 M K) ∧
  (∀ (M : Mm) (K : Mm → Prop), V M → (∀ m, V m → K m) → OP27 M K) ∧
  (∀ (p1 : Int32) (M : Mm) (K : Mm → Prop), V M → (∀ m, V m → K m) → OP28 p1 M K) ∧
  (∀ (M : Mm) (K : Mm → Prop), V M → (∀ m, V m → K m) → OP29 M K) ∧
  (∀ (M : Mm) (K : Mm → Prop), V M → (∀ m, V m → K m) → OP30 M K) ∧
  (∀ (M : Mm) (K : Mm → Prop), V M → (∀ m, V m → K m) → OP31 M K) ∧
  (∀ (M : Mm) (K : Mm → Prop), V M → (∀ m, V m → K m) → OP32 M K) ∧
  (∀ (p1 p2 : Int32) (M : Mm) (K : Mm → Prop), V M → (∀ m, V m → K m) → OP33 p1 p2 M K) ∧
  (∀ (p1 p2 p3 : Int32) (M : Mm) (K : Mm → Prop), V M → (∀ m, V m → K m) → OP34 p1 p2 p3 M K) ∧
  (∀ (p1 p2 p3 p4 : Int32) (M : Mm) (K : Mm → Prop), V M → (∀ m, V m → K m) → OP35 p1 p2 p3 p4 M K) ∧
  (∀ (p1 p2 : Int32) (M : Mm) (K : Mm → Prop), V M → (∀ m, V m → K m) → OP36 p1 p2 M K) ∧
  (∀ (p1 p2 : Int32) (M : Mm) (K : Mm → Prop), V M → (∀ m, V m → K m) → OP37 p1 p2 M K) ∧
  (∀ (p1 : Int32) (M : Mm) (K : Mm → Prop), V M → (∀ m, V m → K m) → OP38 p1 M K) ∧
  (∀ (p1 : Int32) (M : Mm) (K : Mm → Prop), V M → (∀ m, V m → K m) → OP39 p1 M K) ∧
  (∀ (p1 : Int32) (M : Mm) (K : Mm → Prop), V M → (∀ m, V m → K m) → OP40 p1 M K) ∧
  (∀ (p1 : Int32) (M : Mm) (K : Mm → Prop), V M → (∀ m, V m → K m) → OP41 p1 M K)
set_option maxHeartbeats 40000000 in
set_option maxRecDepth 100000 in
theorem law_step {V : Mm → Prop} (H : OPS V) {xs : Nat → Int32} {L i : Nat} (hL : L ≤ 2560) (hi : i ≤ 2565) {M : Mm} (hV : V M) (BK : Int32 → Mm → Prop) (hBK : i + 5 ≤ L → ∀ m, V m → BK (nI (i + 5)) m) : f_L_law_B S0 xs L 0 142 191 (nI i) M BK := by
  obtain ⟨o0, o1, o2, o3, o4, o5, o6, o7, o8, o9, o10, o11, o12, o13, o14, o15, o16, o17, o18, o19, o20, o21, o22, o23, o24, o25, o26, o27, o28, o29, o30, o31, o32, o33, o34, o35, o36, o37, o38, o39, o40, o41⟩ := H
  unfold f_L_law_B
  refine ⟨fun _ => trivial, fun hn => ?_⟩
  have hi5 : i + 5 ≤ L := by
    apply Decidable.byContradiction
    intro hc
    apply hn
    rw [Int32.lt_iff_toInt_lt, show Int32.ofNat L - 5 = nI L - nI 5 from rfl, pk_sub_toInt (by omega) (by omega), nI_toInt (by omega)]
    omega
  have hin : ∀ j, j < 5 → vp_in (nI i + nI j) L := fun j hj => by rw [nI_add]; exact vp_in_nI (by omega) (by omega)
  have h0 : vp_in (nI i) L := vp_in_nI (by omega) (by omega)
  have h1 : vp_in (nI i + (1 : Int32)) L := hin 1 (by decide)
  have h2 : vp_in (nI i + (2 : Int32)) L := hin 2 (by decide)
  have h3 : vp_in (nI i + (3 : Int32)) L := hin 3 (by decide)
  have h4 : vp_in (nI i + (4 : Int32)) L := hin 4 (by decide)
  have h5 : nI i + (5 : Int32) = nI (i + 5) := nI_add i 5
  have hK : ∀ m, V m → BK (nI (i + 5)) m := hBK hi5
  simp only [h0, h1, h2, h3, h4, h5, true_and, forall_eq]
  refine ⟨fun _ => o0 _ _ _ hV hK, fun _ => ?_⟩
  refine ⟨fun _ => o1 _ _ _ hV hK, fun _ => ?_⟩
  refine ⟨fun _ => o2 _ _ _ hV hK, fun _ => ?_⟩
  refine ⟨fun _ => o3 _ _ hV hK, fun _ => ?_⟩
  refine ⟨fun _ => o4 _ _ hV hK, fun _ => ?_⟩
  refine ⟨fun _ => ⟨fun hz => ?_, fun hz => ?_⟩, fun _ => ?_⟩
  · simp only [hz, not_true_eq_false, false_implies, true_implies, and_true]
    exact o5 _ 0 _ _ (Or.inl rfl) hV hK
  · simp only [hz, false_implies, not_false_eq_true, true_implies, true_and]
    exact o5 _ 1 _ _ (Or.inr rfl) hV hK
  refine ⟨fun _ => o6 _ _ _ _ hV hK, fun _ => ?_⟩
  refine ⟨fun _ => o7 _ _ _ _ hV hK, fun _ => ?_⟩
  refine ⟨fun _ => o8 _ _ _ hV hK, fun _ => ?_⟩
  refine ⟨fun _ => o9 _ _ _ _ hV hK, fun _ => ?_⟩
  refine ⟨fun _ => o10 _ _ _ _ _ _ hV hK, fun _ => ?_⟩
  refine ⟨fun _ => o11 _ _ _ hV hK, fun _ => ?_⟩
  refine ⟨fun _ => o12 _ _ hV hK, fun _ => ?_⟩
  refine ⟨fun _ => o13 _ _ _ hV hK, fun _ => ?_⟩
  refine ⟨fun _ => o14 _ _ _ hV hK, fun _ => ?_⟩
  refine ⟨fun _ => o15 _ _ _ hV hK, fun _ => ?_⟩
  refine ⟨fun _ => o16 _ _ _ hV hK, fun _ => ?_⟩
  refine ⟨fun _ => o17 _ _ _ hV hK, fun _ => ?_⟩
  refine ⟨fun _ => o18 _ _ _ _ _ hV hK, fun _ => ?_⟩
  refine ⟨fun _ => o19 _ _ _ _ hV hK, fun _ => ?_⟩
  refine ⟨fun _ => o20 _ _ _ hV hK, fun _ => ?_⟩
  refine ⟨fun _ => o21 _ _ _ _ hV hK, fun _ => ?_⟩
  refine ⟨fun _ => o22 _ _ _ _ hV hK, fun _ => ?_⟩
  refine ⟨fun _ => o23 _ _ _ _ hV hK, fun _ => ?_⟩
  refine ⟨fun _ => o24 _ _ _ hV hK, fun _ => ?_⟩
  refine ⟨fun _ => o25 _ _ _ _ hV hK, fun _ => ?_⟩
  refine ⟨fun _ => o26 _ _ _ hV hK, fun _ => ?_⟩
  refine ⟨fun _ => o27 _ _ hV hK, fun _ => ?_⟩
  refine ⟨fun _ => o28 _ _ _ hV hK, fun _ => ?_⟩
  refine ⟨fun _ => o29 _ _ hV hK, fun _ => ?_⟩
  refine ⟨fun _ => o30 _ _ hV hK, fun _ => ?_⟩
  refine ⟨fun _ => o31 _ _ hV hK, fun _ => ?_⟩
  refine ⟨fun _ => o32 _ _ hV hK, fun _ => ?_⟩
  refine ⟨fun _ => o33 _ _ _ _ hV hK, fun _ => ?_⟩
  refine ⟨fun _ => o34 _ _ _ _ _ hV hK, fun _ => ?_⟩
  refine ⟨fun _ => o35 _ _ _ _ _ _ hV hK, fun _ => ?_⟩
  refine ⟨fun _ => o36 _ _ _ _ hV hK, fun _ => ?_⟩
  refine ⟨fun _ => o37 _ _ _ _ hV hK, fun _ => ?_⟩
  refine ⟨fun _ => o38 _ _ _ hV hK, fun _ => ?_⟩
  refine ⟨fun _ => o39 _ _ _ hV hK, fun _ => ?_⟩
  refine ⟨fun _ => o40 _ _ _ hV hK, fun _ => ?_⟩
  refine ⟨fun _ => o41 _ _ _ hV hK, fun _ => ?_⟩
  exact hK _ hV
theorem law_loop {V : Mm → Prop} (H : OPS V) {xs : Nat → Int32} {L : Nat} (hL : L ≤ 2560) : ∀ (n i : Nat), 0 < n → L < i + 5 * n → i ≤ 2565 → ∀ M, V M → f_L_law_L S0 xs L 0 142 191 n (nI i) M := by
  intro n
  induction n with
  | zero => intro i h0; exact absurd h0 (by omega)
  | succ n ih =>
    intro i _ h1 h2 M hV
    exact law_step H hL h2 hV _ (fun h5 m hm => ih (i + 5) (by omega) (by omega) (by omega) m hm)
theorem pure_of {V : Mm → Prop} (H : OPS V) (h0 : V Mi) (xs : Nat → Int32) (L : Nat) (hL : L ≤ 2560) : f_L_law_0 xs L :=
  pre_all xs L ⟨600, by omega, by have h := law_loop H hL (xs := xs) 600 0 (by omega) (by omega) (by omega) Mi h0; rw [nI_0] at h; exact h⟩

