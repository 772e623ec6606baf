theorem op40 (p1 : Int32) (M : Mm) (K : Mm → Prop) (hV : V M) (hK : ∀ m, V m → K m) : OP40 p1 M K := by
  have hF := hV.1
  have hk : M.1 11 13 = M.1 142 27 := hV.2.2.2.2.1.1
  obtain ⟨nt, nb, on, np, a1, a2, a3, a4, c1, c2, c3, c4, c5, c6, c7, c8, c9⟩ := hV.2.2.2.2.2.2.2.2.1
  obtain ⟨n1, b1, t1, t2, -⟩ := hV.2.2.1
  obtain ⟨n2, n3, b2, b3, u1, u2, u3, u4, -, -⟩ := hV.2.2.2.2.2.2.2.2.2.2.2.2.2.2.2.2.2.1
  obtain ⟨n4, b4, w1, w2, -⟩ := hV.2.2.2.2.2.2.1
  obtain ⟨n5, b5, x1, x2, -⟩ := hV.2.1
  obtain ⟨l0, l1, l2, l3, l4⟩ := hV.2.2.2.2.2.2.2.1
  have hE : K (stI M 142 0 0) := hK _ (V_thr _ hV)
  unfold OP40 f_X10_count f_X11_count
  simp only [fx_0_0 hF, fx_0_2 hF, fx_0_3 hF, fx_0_6 hF, fx_0_7 hF, fx_0_8 hF, ex_some, s0_1, s0_11, s0_113, s0_116, s0_118, s0_121, true_and, forall_eq]
  refine ⟨fun h => ?_, fun n0 => ?_⟩
  · subst h
    simp +decide only [true_implies, false_implies, and_true, true_and, not_true_eq_false, not_false_eq_true]
    exact ⟨fun _ => hE, fun z => z (c1.trans c2.symm)⟩
  refine ⟨fun h => ?_, fun n1 => ?_⟩
  · subst h
    simp +decide only [true_implies, false_implies, and_true, true_and, not_true_eq_false, not_false_eq_true]
    exact ⟨fun _ => hE, fun z => z hk⟩
  refine ⟨fun h => ?_, fun n2 => ?_⟩
  · subst h
    simp +decide only [true_implies, false_implies, and_true, true_and, not_true_eq_false, not_false_eq_true]
    exact ⟨fun _ => hE, fun z => z (c3.trans c4.symm)⟩
  refine ⟨fun h => ?_, fun n3 => ?_⟩
  · subst h
    simp +decide only [true_implies, false_implies, and_true, true_and, not_true_eq_false, not_false_eq_true]
    exact ⟨fun _ => hE, fun z => z (c5.trans c6.symm)⟩
  refine ⟨fun h => ?_, fun n4 => ?_⟩
  · subst h
    simp +decide only [true_implies, false_implies, and_true, true_and, not_true_eq_false, not_false_eq_true]
    exact ⟨fun _ => hE, fun z => z (c7.trans c8.symm)⟩
  refine ⟨fun h => ?_, fun n5 => ?_⟩
  · subst h
    simp +decide only [true_implies, false_implies, and_true, true_and, not_true_eq_false, not_false_eq_true]
    exact ⟨fun _ => hE, fun z => z (t1.trans t2.symm)⟩
  refine ⟨fun h => ?_, fun n6 => ?_⟩
  · subst h
    simp +decide only [true_implies, false_implies, and_true, true_and, not_true_eq_false, not_false_eq_true]
    exact ⟨fun _ => hE, fun z => z (u1.trans u2.symm)⟩
  refine ⟨fun h => ?_, fun n7 => ?_⟩
  · subst h
    simp +decide only [true_implies, false_implies, and_true, true_and, not_true_eq_false, not_false_eq_true]
    exact ⟨fun _ => hE, fun z => z (u3.trans u4.symm)⟩
  refine ⟨fun h => ?_, fun n8 => ?_⟩
  · subst h
    simp +decide only [true_implies, false_implies, and_true, true_and, not_true_eq_false, not_false_eq_true]
    exact ⟨fun _ => hE, fun z => z (w1.trans w2.symm)⟩
  refine ⟨fun h => ?_, fun n9 => ?_⟩
  · subst h
    simp +decide only [true_implies, false_implies, and_true, true_and, not_true_eq_false, not_false_eq_true]
    exact ⟨fun _ => hE, fun z => z (x1.trans x2.symm)⟩
  refine ⟨fun h => ?_, fun n10 => ?_⟩
  · subst h
    simp +decide only [true_implies, false_implies, and_true, true_and, not_true_eq_false, not_false_eq_true]
    exact ⟨fun _ => hE, fun z => z l0⟩
  refine ⟨fun h => ?_, fun n11 => ?_⟩
  · subst h
    simp +decide only [true_implies, false_implies, and_true, true_and, not_true_eq_false, not_false_eq_true]
    exact ⟨fun _ => hE, fun z => z l1⟩
  refine ⟨fun h => ?_, fun n12 => ?_⟩
  · subst h
    simp +decide only [true_implies, false_implies, and_true, true_and, not_true_eq_false, not_false_eq_true]
    exact ⟨fun _ => hE, fun z => z l2⟩
  refine ⟨fun h => ?_, fun n13 => ?_⟩
  · subst h
    simp +decide only [true_implies, false_implies, and_true, true_and, not_true_eq_false, not_false_eq_true]
    exact ⟨fun _ => hE, fun z => z l3⟩
  refine ⟨fun h => ?_, fun n14 => ?_⟩
  · subst h
    simp +decide only [true_implies, false_implies, and_true, true_and, not_true_eq_false, not_false_eq_true]
    exact ⟨fun _ => hE, fun z => z l4⟩
  simp only [n0, n1, n2, n3, n4, n5, n6, n7, n8, n9, n10, n11, n12, n13, n14, false_implies, not_false_eq_true, true_implies, true_and]
  exact ⟨hE, fun z => z trivial⟩
