theorem try_wipe {M : Mm} (hF : FX M) (h : M.1 118 2 = M.1 142 60) (K : Mm → Prop) (hK : ∀ m, FX m → m.1 118 2 = m.1 142 60 → K m) : OP29 M K := by
  unfold OP29 f_X10_wipe f_X11_wipe
  simp only [fx_0_7 hF, ex_some, s0_118, true_and, forall_eq, rI, rIr, Nat.reduceEqDiff, false_and, true_and, and_true, and_false, if_true, if_false, h]
  exact ⟨fun _ => hK _ hF (by simp [rI]), fun hn => hn trivial⟩
