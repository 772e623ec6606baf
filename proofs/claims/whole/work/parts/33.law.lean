def R_law : String := "TwoKeysLaw"
def lw_P (b : Addr) (xs : List Int32) (args : Array Value) (s : State) : Prop := args = #[.ref b] ∧ s.IntsAt b xs ∧ xs.length ≤ 2560 ∧ (Jvm.Cond.and given_1 narrow_1).before args s = true
def lw_Q (_ : Array Value) (s : State) (o : Outcome) (t : State) : Prop := o = .returned (some (.int 1)) ∧ Framed s o t [] 601024 7293034
def lw_Z (below : List Frame) (a : Array Value) (s : State) : State → Prop := fun t => ∃ o, t.status = .running ∧ Ended t below o ∧ lw_Q a s o t
/-- the law's own end, with 1 on the stack, nothing written that was there before, its room as the claim has it -/
theorem lw_ret {p : Program} {l : Launch} {e : Env} {s : State} {m : MethodId} {below : List Frame} {meth : Method} {c : Code} {b : Nat} (hx : p.tables.exec = Jvm.exec) (hb : c.code = code) (hr : meth.sig.returnType = ret) (hlocks : meth.locks = false) {pc : Nat} {H : Heap} {ls : Array Slot} (hdg : decode code pc = .ok (.ireturn, 1)) : W p l e room_1 s m #[Value.ref b] below meth c H [] 601024 7293034 (lw_Z below #[Value.ref b] s) (F0 m pc ls [.int 1]) := by
  intro T hT X
  obtain ⟨fs, hret, hrun, hended, hW, hframe⟩ := X.leave (v := some (.int 1)) (hlocks := hlocks) (fun h => by rw [hr] at h; cases h)
  have hmeth' : T.vm.method? m = some meth := X.method'
  refine ⟨T.setFrames fs, ?_, .returned (some (.int 1)), hrun, hended, rfl, ⟨_, rfl⟩, hW, hframe⟩
  jvm_step X.here [X.here.top, hx, hb, hdg, hmeth', hr, ret, narrow_b1]
  (try refine ⟨rfl, ?_⟩); (try refine ⟨rfl, ?_⟩)
  first | (intro acts; rw [hret _ acts rfl rfl rfl]) | rw [hret _ _ rfl rfl rfl]
  exact Steps.refl _
/-- what holds at the law's entry: the machine, the code, the tables' words (any of lw_tbl by 'hts w (by decide +kernel)'), the script of L ints xs at the cell b, what the Statement gives of the start (any of its parts by flat_of_before) -/
def lw_At (p : Program) (s : State) (m : MethodId) (meth : Method) (c : Code) (b L : Nat) (xs : Nat → Int32) : Prop :=
  p.tables.exec = Jvm.exec ∧ c.code = code ∧ meth.sig.returnType = ret ∧ c.maxLocals = 8 ∧ s.vm.findClass R_law = some m.cls ∧ (∀ w ∈ lw_tbl, w.before #[Value.ref b] s = true) ∧ va_X b L xs s s.heap ∧ b < s.heap.size ∧ meth.locks = false ∧ (Jvm.Cond.and given_1 narrow_1).before #[Value.ref b] s = true
section HWL
variable {p : Program} {l : Launch} {e : Env} {R : Room} {s : State} {m : MethodId} {args : Array Value} {below : List Frame} {meth : Method} {c : Code} {H : Heap} {locs : List Loc} {cells slots : Nat} {Q : State → Prop}
variable {cc : ByteArray} {pc nL : Nat} {ls : Array Slot} {rest : List Value} {ret : Option FieldType} {own : String} {g : Gg} {S : Ss} {M : Mm} {Po : Option Value → Mm → Prop}
theorem hw_callLT (hT : TW g s) (E : EN p s m args meth c cc nL ret own g) (hR : RP g S M H) (hS : va_S (gA g) s.heap H locs) {y : MethodName} {cy : ByteArray} {hh : List (Nat × Nat × Nat × Nat)} {d' index : Nat} {st0 As : List Value} (cw : Cond.codeWith y cy 4 (some .int) hh ∈ lwg ∧ Cond.initialized y.cls ∈ lwg ∧ (y.cls ≠ "java/lang/invoke/MethodHandle" ∧ y.cls ≠ "java/lang/invoke/VarHandle" ∧ (parseMethodDescriptor y.desc).map (fun d => d.parameters.length) = some 3) ∧ Cond.methodLink own index y ∈ lwg ∧ Cond.static y ∈ lwg) (hM : LT l g S y cy hh d' As M Po) (hst : st0 = As.reverse ++ rest) (hn : As.length = 3) (hfr : d' + 1 ≤ R.frames) (hlo : 64 * (d' + 1) ≤ R.locals) (hce : cells + 1 ≤ R.cells) (hsl : slots + 6 ≤ R.slots) (hsz : ls.size = nL) (hcat : (rest.map fun v => v.category).sum ≤ 8) (hd : decode cc pc = .ok (.invokestatic index, 3))
    (kk : ∀ (r : Option Value) (M1 : Mm) (H1 : Heap) (locs1 : List Loc), Po r M1 → RP g S M1 H1 → va_S (gA g) s.heap H1 locs1 → W p l e R s m args below meth c H1 locs1 (cells + 1) (slots + 6) Q (F0 m (pc + 3) ls (r.toList ++ rest))) : W p l e R s m args below meth c H locs cells slots Q (F0 m pc ls st0) := by
  obtain ⟨hx, hbc, hrt, hml, hown, hts, hK, hlk, hZ⟩ := E
  have hg : GoodIn lwg (Cond.codeWith y cy 4 (some .int) hh :: lwg) := by
    intro w hw
    rcases List.mem_cons.mp hw with rfl | hw
    · exact ⟨cw.1, good_of_word (lw_good _ cw.1)⟩
    · exact ⟨hw, good_of_word (lw_good _ hw)⟩
  have hr := vx_runSW (e := e) (below := below) (meth := meth) (cells := cells) (slots := slots) (H := H) (locs := locs) (As := As) (rest := rest) (g := F0 m pc ls st0) ⟨hx, hbc, hml, hown, hts⟩ hM ⟨⟨rfl, rfl, hfr, (by show 8 + (4 + 11) + 64 * d' ≤ R.locals; omega), pay_in hts hg, List.mem_cons_self⟩, hts _ cw.1, hts _ cw.2.1, ⟨cw.2.2.1.1, cw.2.2.1.2.1⟩, (fun sig h => by have h2 := cw.2.2.1.2.2; rw [h] at h2; exact (Option.some.inj h2).symm), hts _ cw.2.2.2.1, hts _ cw.2.2.2.2⟩ ⟨rx_blind g S M _, fun U hU hW => ⟨rfl, ru_at hR hS hK hZ hU hW.alike, hT.at hS hU hW⟩⟩ rfl hn hsz hst (lv_room hcat) hd ⟨hce, hsl⟩
  intro T hT2 X
  obtain ⟨v, st₀, t, T', L, h0, X', hL, e1, e2, ⟨⟨r, M1, hv, hp, hb⟩, hz, hk⟩, st⟩ := hr T hT2 X
  cases hv
  rw [h0] at hz hk
  obtain ⟨t2, a1, b1⟩ := kk v M1 T'.heap (locs ++ L) hp (by rw [e1]; exact hb.1)
    ⟨Nat.le_trans hS.1 (by rw [e1]; exact hz), fun q h1 h2 => by rw [e1, hk q (Nat.lt_of_lt_of_le h1 hS.1) h2]; exact hS.2.1 q h1 h2, fun q hq => by
      rcases List.mem_append.mp hq with h | h
      · exact hS.2.2 q h
      · exact hL q h⟩ T' rfl X'
  exact ⟨t2, st t2 a1, b1⟩
end HWL
set_option maxRecDepth 100000 in
set_option maxHeartbeats 4000000 in
def f_L_law_B (S : Ss) (xs : Nat → Int32) (L : Nat) (a1 a2 a3 : Nat) (x4 : Int32) (M : Mm) (BK23 : Int32 → Mm → Prop) : Prop :=
  ((((Int32.ofNat L) - (5 : Int32)) < x4 →
    True) ∧
   (¬ ((Int32.ofNat L) - (5 : Int32)) < x4 →
    vp_in x4 L ∧
    ((((xs x4.toNatClampNeg) &&& (63 : Int32)) = 0 →
      vp_in (x4 + (1 : Int32)) L ∧
      f_X10_sign S a1 (xs (x4 + (1 : Int32)).toNatClampNeg) M (fun (r6 : Int32) (m5 : Mm) =>
        vp_in (x4 + (1 : Int32)) L ∧
      f_X11_sign S a2 (xs (x4 + (1 : Int32)).toNatClampNeg) m5 (fun (r9 : Int32) (m8 : Mm) =>
        ((r6 = r9 →
        ∀ v11 : Int32, v11 = x4 + (5 : Int32) →
        BK23 v11 m8) ∧
       (¬ r6 = r9 →
        False))))) ∧
     (¬ ((xs x4.toNatClampNeg) &&& (63 : Int32)) = 0 →
      ((((xs x4.toNatClampNeg) &&& (63 : Int32)) = 1 →
        vp_in (x4 + (1 : Int32)) L ∧
        f_X10_end S a1 (xs (x4 + (1 : Int32)).toNatClampNeg) M (fun (r15 : Int32) (m14 : Mm) =>
          vp_in (x4 + (1 : Int32)) L ∧
        f_X11_end S a2 (xs (x4 + (1 : Int32)).toNatClampNeg) m14 (fun (r18 : Int32) (m17 : Mm) =>
          ((r15 = r18 →
          ∀ v20 : Int32, v20 = x4 + (5 : Int32) →
          BK23 v20 m17) ∧
         (¬ r15 = r18 →
          False))))) ∧
       (¬ ((xs x4.toNatClampNeg) &&& (63 : Int32)) = 1 →
        ((((xs x4.toNatClampNeg) &&& (63 : Int32)) = 2 →
          vp_in (x4 + (1 : Int32)) L ∧
          f_X10_task S a1 (xs (x4 + (1 : Int32)).toNatClampNeg) M (fun (r24 : Int32) (m23 : Mm) =>
            vp_in (x4 + (1 : Int32)) L ∧
          f_X11_task S a2 (xs (x4 + (1 : Int32)).toNatClampNeg) m23 (fun (r27 : Int32) (m26 : Mm) =>
            ((r24 = r27 →
            ∀ v29 : Int32, v29 = x4 + (5 : Int32) →
            BK23 v29 m26) ∧
           (¬ r24 = r27 →
            False))))) ∧
         (¬ ((xs x4.toNatClampNeg) &&& (63 : Int32)) = 2 →
          ((((xs x4.toNatClampNeg) &&& (63 : Int32)) = 3 →
            f_X10_must S a1  M (fun (r32 : Int32) (m31 : Mm) =>
              f_X11_must S a2  m31 (fun (r34 : Int32) (m33 : Mm) =>
              ((r32 = r34 →
              ∀ v36 : Int32, v36 = x4 + (5 : Int32) →
              BK23 v36 m33) ∧
             (¬ r32 = r34 →
              False))))) ∧
           (¬ ((xs x4.toNatClampNeg) &&& (63 : Int32)) = 3 →
            ((((xs x4.toNatClampNeg) &&& (63 : Int32)) = 4 →
              f_X10_bolt S a1  M (fun (r39 : Int32) (m38 : Mm) =>
                f_X11_bolt S a2  m38 (fun (r41 : Int32) (m40 : Mm) =>
                ((r39 = r41 →
                ∀ v43 : Int32, v43 = x4 + (5 : Int32) →
                BK23 v43 m40) ∧
               (¬ r39 = r41 →
                False))))) ∧
             (¬ ((xs x4.toNatClampNeg) &&& (63 : Int32)) = 4 →
              ((((xs x4.toNatClampNeg) &&& (63 : Int32)) = 5 →
                vp_in (x4 + (1 : Int32)) L ∧
                vp_in (x4 + (2 : Int32)) L ∧
                (((xs (x4 + (2 : Int32)).toNatClampNeg) = 0 →
                  f_X10_turn S a1 (xs (x4 + (1 : Int32)).toNatClampNeg) (0 : Int32) M (fun (r49 : Int32) (m48 : Mm) =>
                    vp_in (x4 + (1 : Int32)) L ∧
                  vp_in (x4 + (2 : Int32)) L ∧
                  (((xs (x4 + (2 : Int32)).toNatClampNeg) = 0 →
                    f_X11_turn S a2 (xs (x4 + (1 : Int32)).toNatClampNeg) (0 : Int32) m48 (fun (r54 : Int32) (m53 : Mm) =>
                      ((r49 = r54 →
                      ∀ v56 : Int32, v56 = x4 + (5 : Int32) →
                      BK23 v56 m53) ∧
                     (¬ r49 = r54 →
                      False)))) ∧
                   (¬ (xs (x4 + (2 : Int32)).toNatClampNeg) = 0 →
                    f_X11_turn S a2 (xs (x4 + (1 : Int32)).toNatClampNeg) (1 : Int32) m48 (fun (r58 : Int32) (m57 : Mm) =>
                      ((r49 = r58 →
                      ∀ v60 : Int32, v60 = x4 + (5 : Int32) →
                      BK23 v60 m57) ∧
                     (¬ r49 = r58 →
                      False))))))) ∧
                 (¬ (xs (x4 + (2 : Int32)).toNatClampNeg) = 0 →
                  f_X10_turn S a1 (xs (x4 + (1 : Int32)).toNatClampNeg) (1 : Int32) M (fun (r62 : Int32) (m61 : Mm) =>
                    vp_in (x4 + (1 : Int32)) L ∧
                  vp_in (x4 + (2 : Int32)) L ∧
                  (((xs (x4 + (2 : Int32)).toNatClampNeg) = 0 →
                    f_X11_turn S a2 (xs (x4 + (1 : Int32)).toNatClampNeg) (0 : Int32) m61 (fun (r67 : Int32) (m66 : Mm) =>
                      ((r62 = r67 →
                      ∀ v69 : Int32, v69 = x4 + (5 : Int32) →
                      BK23 v69 m66) ∧
                     (¬ r62 = r67 →
                      False)))) ∧
                   (¬ (xs (x4 + (2 : Int32)).toNatClampNeg) = 0 →
                    f_X11_turn S a2 (xs (x4 + (1 : Int32)).toNatClampNeg) (1 : Int32) m61 (fun (r71 : Int32) (m70 : Mm) =>
                      ((r62 = r71 →
                      ∀ v73 : Int32, v73 = x4 + (5 : Int32) →
                      BK23 v73 m70) ∧
                     (¬ r62 = r71 →
                      False))))))))) ∧
               (¬ ((xs x4.toNatClampNeg) &&& (63 : Int32)) = 5 →
                ((((xs x4.toNatClampNeg) &&& (63 : Int32)) = 6 →
                  vp_in (x4 + (1 : Int32)) L ∧
                  vp_in (x4 + (2 : Int32)) L ∧
                  f_X10_slot S a1 (xs (x4 + (1 : Int32)).toNatClampNeg) (xs (x4 + (2 : Int32)).toNatClampNeg) M (fun (r78 : Int32) (m77 : Mm) =>
                    vp_in (x4 + (1 : Int32)) L ∧
                  vp_in (x4 + (2 : Int32)) L ∧
                  f_X11_slot S a2 (xs (x4 + (1 : Int32)).toNatClampNeg) (xs (x4 + (2 : Int32)).toNatClampNeg) m77 (fun (r82 : Int32) (m81 : Mm) =>
                    ((r78 = r82 →
                    ∀ v84 : Int32, v84 = x4 + (5 : Int32) →
                    BK23 v84 m81) ∧
                   (¬ r78 = r82 →
                    False))))) ∧
                 (¬ ((xs x4.toNatClampNeg) &&& (63 : Int32)) = 6 →
                  ((((xs x4.toNatClampNeg) &&& (63 : Int32)) = 7 →
                    vp_in (x4 + (1 : Int32)) L ∧
                    vp_in (x4 + (2 : Int32)) L ∧
                    f_X10_speed S a1 (xs (x4 + (1 : Int32)).toNatClampNeg) (xs (x4 + (2 : Int32)).toNatClampNeg) M (fun (r89 : Int32) (m88 : Mm) =>
                      vp_in (x4 + (1 : Int32)) L ∧
                    vp_in (x4 + (2 : Int32)) L ∧
                    f_X11_speed S a2 (xs (x4 + (1 : Int32)).toNatClampNeg) (xs (x4 + (2 : Int32)).toNatClampNeg) m88 (fun (r93 : Int32) (m92 : Mm) =>
                      ((r89 = r93 →
                      ∀ v95 : Int32, v95 = x4 + (5 : Int32) →
                      BK23 v95 m92) ∧
                     (¬ r89 = r93 →
                      False))))) ∧
                   (¬ ((xs x4.toNatClampNeg) &&& (63 : Int32)) = 7 →
                    ((((xs x4.toNatClampNeg) &&& (63 : Int32)) = 8 →
                      vp_in (x4 + (1 : Int32)) L ∧
                      f_X10_keys S a1 (xs (x4 + (1 : Int32)).toNatClampNeg) M (fun (r99 : Int32) (m98 : Mm) =>
                        vp_in (x4 + (1 : Int32)) L ∧
                      f_X11_keys S a2 (xs (x4 + (1 : Int32)).toNatClampNeg) m98 (fun (r102 : Int32) (m101 : Mm) =>
                        ((r99 = r102 →
                        ∀ v104 : Int32, v104 = x4 + (5 : Int32) →
                        BK23 v104 m101) ∧
                       (¬ r99 = r102 →
                        False))))) ∧
                     (¬ ((xs x4.toNatClampNeg) &&& (63 : Int32)) = 8 →
                      ((((xs x4.toNatClampNeg) &&& (63 : Int32)) = 9 →
                        vp_in (x4 + (1 : Int32)) L ∧
                        vp_in (x4 + (2 : Int32)) L ∧
                        f_X10_step S a1 (xs (x4 + (1 : Int32)).toNatClampNeg) (xs (x4 + (2 : Int32)).toNatClampNeg) M (fun (r109 : Int32) (m108 : Mm) =>
                          vp_in (x4 + (1 : Int32)) L ∧
                        vp_in (x4 + (2 : Int32)) L ∧
                        f_X11_step S a2 (xs (x4 + (1 : Int32)).toNatClampNeg) (xs (x4 + (2 : Int32)).toNatClampNeg) m108 (fun (r113 : Int32) (m112 : Mm) =>
                          ((r109 = r113 →
                          ∀ v115 : Int32, v115 = x4 + (5 : Int32) →
                          BK23 v115 m112) ∧
                         (¬ r109 = r113 →
                          False))))) ∧
                       (¬ ((xs x4.toNatClampNeg) &&& (63 : Int32)) = 9 →
                        ((((xs x4.toNatClampNeg) &&& (63 : Int32)) = 10 →
                          vp_in (x4 + (1 : Int32)) L ∧
                          vp_in (x4 + (2 : Int32)) L ∧
                          vp_in (x4 + (3 : Int32)) L ∧
                          vp_in (x4 + (4 : Int32)) L ∧
                          f_X10_steps S a1 (xs (x4 + (1 : Int32)).toNatClampNeg) (xs (x4 + (2 : Int32)).toNatClampNeg) (xs (x4 + (3 : Int32)).toNatClampNeg) (xs (x4 + (4 : Int32)).toNatClampNeg) M (fun (r122 : Int32) (m121 : Mm) =>
                            vp_in (x4 + (1 : Int32)) L ∧
                          vp_in (x4 + (2 : Int32)) L ∧
                          vp_in (x4 + (3 : Int32)) L ∧
                          vp_in (x4 + (4 : Int32)) L ∧
                          f_X11_steps S a2 (xs (x4 + (1 : Int32)).toNatClampNeg) (xs (x4 + (2 : Int32)).toNatClampNeg) (xs (x4 + (3 : Int32)).toNatClampNeg) (xs (x4 + (4 : Int32)).toNatClampNeg) m121 (fun (r128 : Int32) (m127 : Mm) =>
                            ((r122 = r128 →
                            ∀ v130 : Int32, v130 = x4 + (5 : Int32) →
                            BK23 v130 m127) ∧
                           (¬ r122 = r128 →
                            False))))) ∧
                         (¬ ((xs x4.toNatClampNeg) &&& (63 : Int32)) = 10 →
                          ((((xs x4.toNatClampNeg) &&& (63 : Int32)) = 11 →
                            vp_in (x4 + (1 : Int32)) L ∧
                            f_L_at S  a1 (xs (x4 + (1 : Int32)).toNatClampNeg) a3 M (fun (r134 : Int32) (m133 : Mm) =>
                              vp_in (x4 + (1 : Int32)) L ∧
                            f_X11_at S a2 (xs (x4 + (1 : Int32)).toNatClampNeg) m133 (fun (r137 : Int32) (m136 : Mm) =>
                              f_X11_thrown S a2  m136 (fun (r139 : Int32) (m138 : Mm) =>
                              ((r139 = r134 →
                              ((r134 = 0 →
                                ∃ n143 : Nat, S[a3]? = some (53, n143) ∧ vp_in (0 : Int32) n143 ∧
                                (((m138.2.1 a3 (0 : Int32).toNatClampNeg) = r137.toInt64 →
                                  ∀ v145 : Int32, v145 = x4 + (5 : Int32) →
                                  BK23 v145 m138) ∧
                                 (¬ (m138.2.1 a3 (0 : Int32).toNatClampNeg) = r137.toInt64 →
                                  False))) ∧
                               (¬ r134 = 0 →
                                ∀ v142 : Int32, v142 = x4 + (5 : Int32) →
                                BK23 v142 m138))) ∧
                             (¬ r139 = r134 →
                              False)))))) ∧
                           (¬ ((xs x4.toNatClampNeg) &&& (63 : Int32)) = 11 →
                            ((((xs x4.toNatClampNeg) &&& (63 : Int32)) = 12 →
                              f_X10_ask S a1  M (fun (r148 : Int32) (m147 : Mm) =>
                                f_X11_ask S a2  m147 (fun (r150 : Int32) (m149 : Mm) =>
                                ((r148 = r150 →
                                ∀ v152 : Int32, v152 = x4 + (5 : Int32) →
                                BK23 v152 m149) ∧
                               (¬ r148 = r150 →
                                False))))) ∧
                             (¬ ((xs x4.toNatClampNeg) &&& (63 : Int32)) = 12 →
                              ((((xs x4.toNatClampNeg) &&& (63 : Int32)) = 13 →
                                vp_in (x4 + (1 : Int32)) L ∧
                                f_X10_all S a1 (xs (x4 + (1 : Int32)).toNatClampNeg) M (fun (r156 : Int32) (m155 : Mm) =>
                                  vp_in (x4 + (1 : Int32)) L ∧
                                f_X11_all S a2 (xs (x4 + (1 : Int32)).toNatClampNeg) m155 (fun (r159 : Int32) (m158 : Mm) =>
                                  ((r156 = r159 →
                                  ∀ v161 : Int32, v161 = x4 + (5 : Int32) →
                                  BK23 v161 m158) ∧
                                 (¬ r156 = r159 →
                                  False))))) ∧
                               (¬ ((xs x4.toNatClampNeg) &&& (63 : Int32)) = 13 →
                                ((((xs x4.toNatClampNeg) &&& (63 : Int32)) = 14 →
                                  vp_in (x4 + (1 : Int32)) L ∧
                                  f_X10_never S a1 (xs (x4 + (1 : Int32)).toNatClampNeg) M (fun (r165 : Int32) (m164 : Mm) =>
                                    vp_in (x4 + (1 : Int32)) L ∧
                                  f_X11_never S a2 (xs (x4 + (1 : Int32)).toNatClampNeg) m164 (fun (r168 : Int32) (m167 : Mm) =>
                                    ((r165 = r168 →
                                    ∀ v170 : Int32, v170 = x4 + (5 : Int32) →
                                    BK23 v170 m167) ∧
                                   (¬ r165 = r168 →
                                    False))))) ∧
                                 (¬ ((xs x4.toNatClampNeg) &&& (63 : Int32)) = 14 →
                                  ((((xs x4.toNatClampNeg) &&& (63 : Int32)) = 15 →
                                    vp_in (x4 + (1 : Int32)) L ∧
                                    f_X10_reach S a1 (xs (x4 + (1 : Int32)).toNatClampNeg) M (fun (r174 : Int32) (m173 : Mm) =>
                                      vp_in (x4 + (1 : Int32)) L ∧
                                    f_X11_reach S a2 (xs (x4 + (1 : Int32)).toNatClampNeg) m173 (fun (r177 : Int32) (m176 : Mm) =>
                                      ((r174 = r177 →
                                      ∀ v179 : Int32, v179 = x4 + (5 : Int32) →
                                      BK23 v179 m176) ∧
                                     (¬ r174 = r177 →
                                      False))))) ∧
                                   (¬ ((xs x4.toNatClampNeg) &&& (63 : Int32)) = 15 →
                                    ((((xs x4.toNatClampNeg) &&& (63 : Int32)) = 16 →
                                      vp_in (x4 + (1 : Int32)) L ∧
                                      f_X10_stuck S a1 (xs (x4 + (1 : Int32)).toNatClampNeg) M (fun (r183 : Int32) (m182 : Mm) =>
                                        vp_in (x4 + (1 : Int32)) L ∧
                                      f_X11_stuck S a2 (xs (x4 + (1 : Int32)).toNatClampNeg) m182 (fun (r186 : Int32) (m185 : Mm) =>
                                        ((r183 = r186 →
                                        ∀ v188 : Int32, v188 = x4 + (5 : Int32) →
                                        BK23 v188 m185) ∧
                                       (¬ r183 = r186 →
                                        False))))) ∧
                                     (¬ ((xs x4.toNatClampNeg) &&& (63 : Int32)) = 16 →
                                      ((((xs x4.toNatClampNeg) &&& (63 : Int32)) = 17 →
                                        vp_in (x4 + (1 : Int32)) L ∧
                                        f_X10_runs S a1 (xs (x4 + (1 : Int32)).toNatClampNeg) M (fun (r192 : Int32) (m191 : Mm) =>
                                          vp_in (x4 + (1 : Int32)) L ∧
                                        f_X11_runs S a2 (xs (x4 + (1 : Int32)).toNatClampNeg) m191 (fun (r195 : Int32) (m194 : Mm) =>
                                          ((r192 = r195 →
                                          ∀ v197 : Int32, v197 = x4 + (5 : Int32) →
                                          BK23 v197 m194) ∧
                                         (¬ r192 = r195 →
                                          False))))) ∧
                                       (¬ ((xs x4.toNatClampNeg) &&& (63 : Int32)) = 17 →
                                        ((((xs x4.toNatClampNeg) &&& (63 : Int32)) = 18 →
                                          vp_in (x4 + (1 : Int32)) L ∧
                                          vp_in (x4 + (2 : Int32)) L ∧
                                          vp_in (x4 + (3 : Int32)) L ∧
                                          f_X10_weight S a1 (xs (x4 + (1 : Int32)).toNatClampNeg) (xs (x4 + (2 : Int32)).toNatClampNeg) (xs (x4 + (3 : Int32)).toNatClampNeg) M (fun (r203 : Int32) (m202 : Mm) =>
                                            vp_in (x4 + (1 : Int32)) L ∧
                                          vp_in (x4 + (2 : Int32)) L ∧
                                          vp_in (x4 + (3 : Int32)) L ∧
                                          f_X11_weight S a2 (xs (x4 + (1 : Int32)).toNatClampNeg) (xs (x4 + (2 : Int32)).toNatClampNeg) (xs (x4 + (3 : Int32)).toNatClampNeg) m202 (fun (r208 : Int32) (m207 : Mm) =>
                                            ((r203 = r208 →
                                            ∀ v210 : Int32, v210 = x4 + (5 : Int32) →
                                            BK23 v210 m207) ∧
                                           (¬ r203 = r208 →
                                            False))))) ∧
                                         (¬ ((xs x4.toNatClampNeg) &&& (63 : Int32)) = 18 →
                                          ((((xs x4.toNatClampNeg) &&& (63 : Int32)) = 19 →
                                            vp_in (x4 + (1 : Int32)) L ∧
                                            vp_in (x4 + (2 : Int32)) L ∧
                                            f_X10_odds S a1 (xs (x4 + (1 : Int32)).toNatClampNeg) (xs (x4 + (2 : Int32)).toNatClampNeg) M (fun (r215 : Int32) (m214 : Mm) =>
                                              vp_in (x4 + (1 : Int32)) L ∧
                                            vp_in (x4 + (2 : Int32)) L ∧
                                            f_X11_odds S a2 (xs (x4 + (1 : Int32)).toNatClampNeg) (xs (x4 + (2 : Int32)).toNatClampNeg) m214 (fun (r219 : Int32) (m218 : Mm) =>
                                              ((r215 = r219 →
                                              ∀ v221 : Int32, v221 = x4 + (5 : Int32) →
                                              BK23 v221 m218) ∧
                                             (¬ r215 = r219 →
                                              False))))) ∧
                                           (¬ ((xs x4.toNatClampNeg) &&& (63 : Int32)) = 19 →
                                            ((((xs x4.toNatClampNeg) &&& (63 : Int32)) = 20 →
                                              vp_in (x4 + (1 : Int32)) L ∧
                                              f_X10_quick S a1 (xs (x4 + (1 : Int32)).toNatClampNeg) M (fun (r225 : Int32) (m224 : Mm) =>
                                                vp_in (x4 + (1 : Int32)) L ∧
                                              f_X11_quick S a2 (xs (x4 + (1 : Int32)).toNatClampNeg) m224 (fun (r228 : Int32) (m227 : Mm) =>
                                                ((r225 = r228 →
                                                ∀ v230 : Int32, v230 = x4 + (5 : Int32) →
                                                BK23 v230 m227) ∧
                                               (¬ r225 = r228 →
                                                False))))) ∧
                                             (¬ ((xs x4.toNatClampNeg) &&& (63 : Int32)) = 20 →
                                              ((((xs x4.toNatClampNeg) &&& (63 : Int32)) = 21 →
                                                vp_in (x4 + (1 : Int32)) L ∧
                                                vp_in (x4 + (2 : Int32)) L ∧
                                                f_X10_round S a1 (xs (x4 + (1 : Int32)).toNatClampNeg) (xs (x4 + (2 : Int32)).toNatClampNeg) M (fun (r235 : Int32) (m234 : Mm) =>
                                                  vp_in (x4 + (1 : Int32)) L ∧
                                                vp_in (x4 + (2 : Int32)) L ∧
                                                f_X11_round S a2 (xs (x4 + (1 : Int32)).toNatClampNeg) (xs (x4 + (2 : Int32)).toNatClampNeg) m234 (fun (r239 : Int32) (m238 : Mm) =>
                                                  ((r235 = r239 →
                                                  ∀ v241 : Int32, v241 = x4 + (5 : Int32) →
                                                  BK23 v241 m238) ∧
                                                 (¬ r235 = r239 →
                                                  False))))) ∧
                                               (¬ ((xs x4.toNatClampNeg) &&& (63 : Int32)) = 21 →
                                                ((((xs x4.toNatClampNeg) &&& (63 : Int32)) = 22 →
                                                  vp_in (x4 + (1 : Int32)) L ∧
                                                  vp_in (x4 + (2 : Int32)) L ∧
                                                  f_X10_means S a1 (xs (x4 + (1 : Int32)).toNatClampNeg) (xs (x4 + (2 : Int32)).toNatClampNeg) M (fun (r246 : Int32) (m245 : Mm) =>
                                                    vp_in (x4 + (1 : Int32)) L ∧
                                                  vp_in (x4 + (2 : Int32)) L ∧
                                                  f_X11_means S a2 (xs (x4 + (1 : Int32)).toNatClampNeg) (xs (x4 + (2 : Int32)).toNatClampNeg) m245 (fun (r250 : Int32) (m249 : Mm) =>
                                                    ((r246 = r250 →
                                                    ∀ v252 : Int32, v252 = x4 + (5 : Int32) →
                                                    BK23 v252 m249) ∧
                                                   (¬ r246 = r250 →
                                                    False))))) ∧
                                                 (¬ ((xs x4.toNatClampNeg) &&& (63 : Int32)) = 22 →
                                                  ((((xs x4.toNatClampNeg) &&& (63 : Int32)) = 23 →
                                                    vp_in (x4 + (1 : Int32)) L ∧
                                                    vp_in (x4 + (2 : Int32)) L ∧
                                                    f_X10_hid S a1 (xs (x4 + (1 : Int32)).toNatClampNeg) (xs (x4 + (2 : Int32)).toNatClampNeg) M (fun (r257 : Int32) (m256 : Mm) =>
                                                      vp_in (x4 + (1 : Int32)) L ∧
                                                    vp_in (x4 + (2 : Int32)) L ∧
                                                    f_X11_hid S a2 (xs (x4 + (1 : Int32)).toNatClampNeg) (xs (x4 + (2 : Int32)).toNatClampNeg) m256 (fun (r261 : Int32) (m260 : Mm) =>
                                                      ((r257 = r261 →
                                                      ∀ v263 : Int32, v263 = x4 + (5 : Int32) →
                                                      BK23 v263 m260) ∧
                                                     (¬ r257 = r261 →
                                                      False))))) ∧
                                                   (¬ ((xs x4.toNatClampNeg) &&& (63 : Int32)) = 23 →
                                                    ((((xs x4.toNatClampNeg) &&& (63 : Int32)) = 24 →
                                                      vp_in (x4 + (1 : Int32)) L ∧
                                                      f_X10_iron S a1 (xs (x4 + (1 : Int32)).toNatClampNeg) M (fun (r267 : Int32) (m266 : Mm) =>
                                                        vp_in (x4 + (1 : Int32)) L ∧
                                                      f_X11_iron S a2 (xs (x4 + (1 : Int32)).toNatClampNeg) m266 (fun (r270 : Int32) (m269 : Mm) =>
                                                        ((r267 = r270 →
                                                        ∀ v272 : Int32, v272 = x4 + (5 : Int32) →
                                                        BK23 v272 m269) ∧
                                                       (¬ r267 = r270 →
                                                        False))))) ∧
                                                     (¬ ((xs x4.toNatClampNeg) &&& (63 : Int32)) = 24 →
                                                      ((((xs x4.toNatClampNeg) &&& (63 : Int32)) = 25 →
                                                        vp_in (x4 + (1 : Int32)) L ∧
                                                        vp_in (x4 + (2 : Int32)) L ∧
                                                        f_X10_patch S a1 (xs (x4 + (1 : Int32)).toNatClampNeg) (xs (x4 + (2 : Int32)).toNatClampNeg) M (fun (r277 : Int32) (m276 : Mm) =>
                                                          vp_in (x4 + (1 : Int32)) L ∧
                                                        vp_in (x4 + (2 : Int32)) L ∧
                                                        f_X11_patch S a2 (xs (x4 + (1 : Int32)).toNatClampNeg) (xs (x4 + (2 : Int32)).toNatClampNeg) m276 (fun (r281 : Int32) (m280 : Mm) =>
                                                          ((r277 = r281 →
                                                          ∀ v283 : Int32, v283 = x4 + (5 : Int32) →
                                                          BK23 v283 m280) ∧
                                                         (¬ r277 = r281 →
                                                          False))))) ∧
                                                       (¬ ((xs x4.toNatClampNeg) &&& (63 : Int32)) = 25 →
                                                        ((((xs x4.toNatClampNeg) &&& (63 : Int32)) = 26 →
                                                          vp_in (x4 + (1 : Int32)) L ∧
                                                          f_X10_mend S a1 (xs (x4 + (1 : Int32)).toNatClampNeg) M (fun (r287 : Int32) (m286 : Mm) =>
                                                            vp_in (x4 + (1 : Int32)) L ∧
                                                          f_X11_mend S a2 (xs (x4 + (1 : Int32)).toNatClampNeg) m286 (fun (r290 : Int32) (m289 : Mm) =>
                                                            ((r287 = r290 →
                                                            ∀ v292 : Int32, v292 = x4 + (5 : Int32) →
                                                            BK23 v292 m289) ∧
                                                           (¬ r287 = r290 →
                                                            False))))) ∧
                                                         (¬ ((xs x4.toNatClampNeg) &&& (63 : Int32)) = 26 →
                                                          ((((xs x4.toNatClampNeg) &&& (63 : Int32)) = 27 →
                                                            f_X10_drop S a1  M (fun (r295 : Int32) (m294 : Mm) =>
                                                              f_X11_drop S a2  m294 (fun (r297 : Int32) (m296 : Mm) =>
                                                              ((r295 = r297 →
                                                              ∀ v299 : Int32, v299 = x4 + (5 : Int32) →
                                                              BK23 v299 m296) ∧
                                                             (¬ r295 = r297 →
                                                              False))))) ∧
                                                           (¬ ((xs x4.toNatClampNeg) &&& (63 : Int32)) = 27 →
                                                            ((((xs x4.toNatClampNeg) &&& (63 : Int32)) = 28 →
                                                              vp_in (x4 + (1 : Int32)) L ∧
                                                              f_X10_type S a1 (xs (x4 + (1 : Int32)).toNatClampNeg) M (fun (r303 : Int32) (m302 : Mm) =>
                                                                vp_in (x4 + (1 : Int32)) L ∧
                                                              f_X11_type S a2 (xs (x4 + (1 : Int32)).toNatClampNeg) m302 (fun (r306 : Int32) (m305 : Mm) =>
                                                                ((r303 = r306 →
                                                                ∀ v308 : Int32, v308 = x4 + (5 : Int32) →
                                                                BK23 v308 m305) ∧
                                                               (¬ r303 = r306 →
                                                                False))))) ∧
                                                             (¬ ((xs x4.toNatClampNeg) &&& (63 : Int32)) = 28 →
                                                              ((((xs x4.toNatClampNeg) &&& (63 : Int32)) = 29 →
                                                                f_X10_wipe S a1  M (fun (r311 : Int32) (m310 : Mm) =>
                                                                  f_X11_wipe S a2  m310 (fun (r313 : Int32) (m312 : Mm) =>
                                                                  ((r311 = r313 →
                                                                  ∀ v315 : Int32, v315 = x4 + (5 : Int32) →
                                                                  BK23 v315 m312) ∧
                                                                 (¬ r311 = r313 →
                                                                  False))))) ∧
                                                               (¬ ((xs x4.toNatClampNeg) &&& (63 : Int32)) = 29 →
                                                                ((((xs x4.toNatClampNeg) &&& (63 : Int32)) = 30 →
                                                                  f_X10_fits S a1  M (fun (r318 : Int32) (m317 : Mm) =>
                                                                    f_X11_fits S a2  m317 (fun (r320 : Int32) (m319 : Mm) =>
                                                                    ((r318 = r320 →
                                                                    ∀ v322 : Int32, v322 = x4 + (5 : Int32) →
                                                                    BK23 v322 m319) ∧
                                                                   (¬ r318 = r320 →
                                                                    False))))) ∧
                                                                 (¬ ((xs x4.toNatClampNeg) &&& (63 : Int32)) = 30 →
                                                                  ((((xs x4.toNatClampNeg) &&& (63 : Int32)) = 31 →
                                                                    f_X10_many S a1  M (fun (r325 : Int32) (m324 : Mm) =>
                                                                      f_X11_many S a2  m324 (fun (r327 : Int32) (m326 : Mm) =>
                                                                      ((r325 = r327 →
                                                                      ∀ v329 : Int32, v329 = x4 + (5 : Int32) →
                                                                      BK23 v329 m326) ∧
                                                                     (¬ r325 = r327 →
                                                                      False))))) ∧
                                                                   (¬ ((xs x4.toNatClampNeg) &&& (63 : Int32)) = 31 →
                                                                    ((((xs x4.toNatClampNeg) &&& (63 : Int32)) = 32 →
                                                                      f_X10_spare S a1  M (fun (r332 : Int32) (m331 : Mm) =>
                                                                        f_X11_spare S a2  m331 (fun (r334 : Int32) (m333 : Mm) =>
                                                                        ((r332 = r334 →
                                                                        ∀ v336 : Int32, v336 = x4 + (5 : Int32) →
                                                                        BK23 v336 m333) ∧
                                                                       (¬ r332 = r334 →
                                                                        False))))) ∧
                                                                     (¬ ((xs x4.toNatClampNeg) &&& (63 : Int32)) = 32 →
                                                                      ((((xs x4.toNatClampNeg) &&& (63 : Int32)) = 33 →
                                                                        vp_in (x4 + (1 : Int32)) L ∧
                                                                        vp_in (x4 + (2 : Int32)) L ∧
                                                                        f_X10_like S a1 (xs (x4 + (1 : Int32)).toNatClampNeg) (xs (x4 + (2 : Int32)).toNatClampNeg) M (fun (r341 : Int32) (m340 : Mm) =>
                                                                          vp_in (x4 + (1 : Int32)) L ∧
                                                                        vp_in (x4 + (2 : Int32)) L ∧
                                                                        f_X11_like S a2 (xs (x4 + (1 : Int32)).toNatClampNeg) (xs (x4 + (2 : Int32)).toNatClampNeg) m340 (fun (r345 : Int32) (m344 : Mm) =>
                                                                          ((r341 = r345 →
                                                                          ∀ v347 : Int32, v347 = x4 + (5 : Int32) →
                                                                          BK23 v347 m344) ∧
                                                                         (¬ r341 = r345 →
                                                                          False))))) ∧
                                                                       (¬ ((xs x4.toNatClampNeg) &&& (63 : Int32)) = 33 →
                                                                        ((((xs x4.toNatClampNeg) &&& (63 : Int32)) = 34 →
                                                                          vp_in (x4 + (1 : Int32)) L ∧
                                                                          vp_in (x4 + (2 : Int32)) L ∧
                                                                          vp_in (x4 + (3 : Int32)) L ∧
                                                                          f_X10_given S a1 (xs (x4 + (1 : Int32)).toNatClampNeg) (xs (x4 + (2 : Int32)).toNatClampNeg) (xs (x4 + (3 : Int32)).toNatClampNeg) M (fun (r353 : Int32) (m352 : Mm) =>
                                                                            vp_in (x4 + (1 : Int32)) L ∧
                                                                          vp_in (x4 + (2 : Int32)) L ∧
                                                                          vp_in (x4 + (3 : Int32)) L ∧
                                                                          f_X11_given S a2 (xs (x4 + (1 : Int32)).toNatClampNeg) (xs (x4 + (2 : Int32)).toNatClampNeg) (xs (x4 + (3 : Int32)).toNatClampNeg) m352 (fun (r358 : Int32) (m357 : Mm) =>
                                                                            ((r353 = r358 →
                                                                            ∀ v360 : Int32, v360 = x4 + (5 : Int32) →
                                                                            BK23 v360 m357) ∧
                                                                           (¬ r353 = r358 →
                                                                            False))))) ∧
                                                                         (¬ ((xs x4.toNatClampNeg) &&& (63 : Int32)) = 34 →
                                                                          ((((xs x4.toNatClampNeg) &&& (63 : Int32)) = 35 →
                                                                            vp_in (x4 + (1 : Int32)) L ∧
                                                                            vp_in (x4 + (2 : Int32)) L ∧
                                                                            vp_in (x4 + (3 : Int32)) L ∧
                                                                            vp_in (x4 + (4 : Int32)) L ∧
                                                                            f_X10_letter S a1 (xs (x4 + (1 : Int32)).toNatClampNeg) (xs (x4 + (2 : Int32)).toNatClampNeg) (xs (x4 + (3 : Int32)).toNatClampNeg) (xs (x4 + (4 : Int32)).toNatClampNeg) M (fun (r367 : Int32) (m366 : Mm) =>
                                                                              vp_in (x4 + (1 : Int32)) L ∧
                                                                            vp_in (x4 + (2 : Int32)) L ∧
                                                                            vp_in (x4 + (3 : Int32)) L ∧
                                                                            vp_in (x4 + (4 : Int32)) L ∧
                                                                            f_X11_letter_ S a2 (xs (x4 + (1 : Int32)).toNatClampNeg) (xs (x4 + (2 : Int32)).toNatClampNeg) (xs (x4 + (3 : Int32)).toNatClampNeg) (xs (x4 + (4 : Int32)).toNatClampNeg) m366 (fun (r373 : Int32) (m372 : Mm) =>
                                                                              ((r367 = r373 →
                                                                              ∀ v375 : Int32, v375 = x4 + (5 : Int32) →
                                                                              BK23 v375 m372) ∧
                                                                             (¬ r367 = r373 →
                                                                              False))))) ∧
                                                                           (¬ ((xs x4.toNatClampNeg) &&& (63 : Int32)) = 35 →
                                                                            ((((xs x4.toNatClampNeg) &&& (63 : Int32)) = 36 →
                                                                              vp_in (x4 + (1 : Int32)) L ∧
                                                                              vp_in (x4 + (2 : Int32)) L ∧
                                                                              f_X10_knew S a1 (xs (x4 + (1 : Int32)).toNatClampNeg) (xs (x4 + (2 : Int32)).toNatClampNeg) M (fun (r380 : Int32) (m379 : Mm) =>
                                                                                vp_in (x4 + (1 : Int32)) L ∧
                                                                              vp_in (x4 + (2 : Int32)) L ∧
                                                                              f_X11_knew S a2 (xs (x4 + (1 : Int32)).toNatClampNeg) (xs (x4 + (2 : Int32)).toNatClampNeg) m379 (fun (r384 : Int32) (m383 : Mm) =>
                                                                                ((r380 = r384 →
                                                                                ∀ v386 : Int32, v386 = x4 + (5 : Int32) →
                                                                                BK23 v386 m383) ∧
                                                                               (¬ r380 = r384 →
                                                                                False))))) ∧
                                                                             (¬ ((xs x4.toNatClampNeg) &&& (63 : Int32)) = 36 →
                                                                              ((((xs x4.toNatClampNeg) &&& (63 : Int32)) = 37 →
                                                                                vp_in (x4 + (1 : Int32)) L ∧
                                                                                vp_in (x4 + (2 : Int32)) L ∧
                                                                                f_X10_enough S a1 (xs (x4 + (1 : Int32)).toNatClampNeg) (xs (x4 + (2 : Int32)).toNatClampNeg) M (fun (r391 : Int32) (m390 : Mm) =>
                                                                                  vp_in (x4 + (1 : Int32)) L ∧
                                                                                vp_in (x4 + (2 : Int32)) L ∧
                                                                                f_X11_enough S a2 (xs (x4 + (1 : Int32)).toNatClampNeg) (xs (x4 + (2 : Int32)).toNatClampNeg) m390 (fun (r395 : Int32) (m394 : Mm) =>
                                                                                  ((r391 = r395 →
                                                                                  ∀ v397 : Int32, v397 = x4 + (5 : Int32) →
                                                                                  BK23 v397 m394) ∧
                                                                                 (¬ r391 = r395 →
                                                                                  False))))) ∧
                                                                               (¬ ((xs x4.toNatClampNeg) &&& (63 : Int32)) = 37 →
                                                                                ((((xs x4.toNatClampNeg) &&& (63 : Int32)) = 38 →
                                                                                  vp_in (x4 + (1 : Int32)) L ∧
                                                                                  f_X10_keep S a1 (xs (x4 + (1 : Int32)).toNatClampNeg) M (fun (r401 : Int32) (m400 : Mm) =>
                                                                                    vp_in (x4 + (1 : Int32)) L ∧
                                                                                  f_X11_keep S a2 (xs (x4 + (1 : Int32)).toNatClampNeg) m400 (fun (r404 : Int32) (m403 : Mm) =>
                                                                                    ((r401 = r404 →
                                                                                    ∀ v406 : Int32, v406 = x4 + (5 : Int32) →
                                                                                    BK23 v406 m403) ∧
                                                                                   (¬ r401 = r404 →
                                                                                    False))))) ∧
                                                                                 (¬ ((xs x4.toNatClampNeg) &&& (63 : Int32)) = 38 →
                                                                                  ((((xs x4.toNatClampNeg) &&& (63 : Int32)) = 39 →
                                                                                    vp_in (x4 + (1 : Int32)) L ∧
                                                                                    f_X10_again S a1 (xs (x4 + (1 : Int32)).toNatClampNeg) M (fun (r410 : Int32) (m409 : Mm) =>
                                                                                      vp_in (x4 + (1 : Int32)) L ∧
                                                                                    f_X11_again S a2 (xs (x4 + (1 : Int32)).toNatClampNeg) m409 (fun (r413 : Int32) (m412 : Mm) =>
                                                                                      ((r410 = r413 →
                                                                                      ∀ v415 : Int32, v415 = x4 + (5 : Int32) →
                                                                                      BK23 v415 m412) ∧
                                                                                     (¬ r410 = r413 →
                                                                                      False))))) ∧
                                                                                   (¬ ((xs x4.toNatClampNeg) &&& (63 : Int32)) = 39 →
                                                                                    ((((xs x4.toNatClampNeg) &&& (63 : Int32)) = 40 →
                                                                                      vp_in (x4 + (1 : Int32)) L ∧
                                                                                      f_X10_count S a1 (xs (x4 + (1 : Int32)).toNatClampNeg) M (fun (r419 : Int32) (m418 : Mm) =>
                                                                                        vp_in (x4 + (1 : Int32)) L ∧
                                                                                      f_X11_count S a2 (xs (x4 + (1 : Int32)).toNatClampNeg) m418 (fun (r422 : Int32) (m421 : Mm) =>
                                                                                        ((r419 = r422 →
                                                                                        ∀ v424 : Int32, v424 = x4 + (5 : Int32) →
                                                                                        BK23 v424 m421) ∧
                                                                                       (¬ r419 = r422 →
                                                                                        False))))) ∧
                                                                                     (¬ ((xs x4.toNatClampNeg) &&& (63 : Int32)) = 40 →
                                                                                      ((((xs x4.toNatClampNeg) &&& (63 : Int32)) = 41 →
                                                                                        vp_in (x4 + (1 : Int32)) L ∧
                                                                                        f_L_row S  a1 (xs (x4 + (1 : Int32)).toNatClampNeg) a3 M (fun (r428 : Int32) (m427 : Mm) =>
                                                                                          vp_in (x4 + (1 : Int32)) L ∧
                                                                                        f_X11_row S a2 (xs (x4 + (1 : Int32)).toNatClampNeg) m427 (fun (r431 : Int64) (m430 : Mm) =>
                                                                                          f_X11_thrown S a2  m430 (fun (r433 : Int32) (m432 : Mm) =>
                                                                                          ((r433 = r428 →
                                                                                          ((r428 = 0 →
                                                                                            ∃ n437 : Nat, S[a3]? = some (53, n437) ∧ vp_in (0 : Int32) n437 ∧
                                                                                            (((m432.2.1 a3 (0 : Int32).toNatClampNeg) = r431 →
                                                                                              ∀ v439 : Int32, v439 = x4 + (5 : Int32) →
                                                                                              BK23 v439 m432) ∧
                                                                                             (¬ (m432.2.1 a3 (0 : Int32).toNatClampNeg) = r431 →
                                                                                              False))) ∧
                                                                                           (¬ r428 = 0 →
                                                                                            ∀ v436 : Int32, v436 = x4 + (5 : Int32) →
                                                                                            BK23 v436 m432))) ∧
                                                                                         (¬ r433 = r428 →
                                                                                          False)))))) ∧
                                                                                       (¬ ((xs x4.toNatClampNeg) &&& (63 : Int32)) = 41 →
                                                                                        ∀ v440 : Int32, v440 = x4 + (5 : Int32) →
                                                                                        BK23 v440 M))))))))))))))))))))))))))))))))))))))))))))))))))))))))))))))))))))))))))))))))))))))
def f_L_law_L (S : Ss) (xs : Nat → Int32) (L : Nat) (a1 a2 a3 : Nat) : Nat → Int32 → Mm → Prop
  | 0, _, _ => False
  | n + 1, x4, M => f_L_law_B S xs L a1 a2 a3 x4 M (fun (x4 : Int32) (M : Mm) => f_L_law_L S xs L a1 a2 a3 n x4 M)
set_option maxHeartbeats 40000000 in
set_option maxRecDepth 100000 in
theorem w_L_law_B {p : Program} {l : Launch} {e : Env} {s : State} {m : MethodId} {below : List Frame} {meth : Method} {c : Code} {g : Gg} {S : Ss} {b L : Nat} {xs : Nat → Int32} {a1 a2 a3 : Nat} (E : EN p s m #[Value.ref b] meth c cL_law 8 ret RL g) (hst : l.stackTraces = false) (hT : TW g s) (hg1 : g.1 = s.heap.size) (hX : va_X b L xs s s.heap) (hbl : b < s.heap.size) (hbA : ¬ gA g b) (hw : ad g 100000 < s.heap.size) (hs1 : S[a1]? = some (9, 0)) (hs2 : S[a2]? = some (10, 0)) (cells slots : Nat) (hce : cells + 1 ≤ 601024) (hsl : slots + 6 ≤ 7293034) (x4 : Int32) (M : Mm) (BK23 : Int32 → Mm → Prop) (hBK23 : ∀ (x4' : Int32) (M' : Mm) (cells' slots' : Nat) (H : Heap) (locs : List Loc) (ls : Array Slot), cells' ≤ cells + 1 → slots' ≤ slots + 6 → BK23 x4' M' → RP g S M' H → va_S (gA g) s.heap H locs → lv_has ls 8 [(0, .ref b), (1, .ref (ad g a1)), (2, .ref (ad g a2)), (3, .ref (ad g a3)), (4, .int x4')] → W p l e room_1 s m #[Value.ref b] below meth c H locs cells' slots' (lw_Z below #[Value.ref b] s) (F0 m 23 ls [])) (hf : f_L_law_B S xs L a1 a2 a3 x4 M BK23) (H : Heap) (locs : List Loc) (ls : Array Slot) (hR : RP g S M H) (hS : va_S (gA g) s.heap H locs) (hl : lv_has ls 8 [(0, .ref b), (1, .ref (ad g a1)), (2, .ref (ad g a2)), (3, .ref (ad g a3)), (4, .int x4)]) : W p l e room_1 s m #[Value.ref b] below meth c H locs cells slots (lw_Z below #[Value.ref b] s) (F0 m 23 ls []) := by
  have hx := E.1
  have hb := E.2.1
  unfold f_L_law_B at hf
  refine lv_iload hx hb dL_law_23 (lv_at hl 4 rfl) ?_
  refine lv_aload_n hx hb dL_law_25 rfl (lv_at hl 0 rfl) ?_
  refine va_slen hx hb hX hbl hbA hS dL_law_26 ?_
  refine lv_iconst (v := 5) hx hb dL_law_27 (by decide) ?_
  refine lv_isub hx hb dL_law_28 ?_
  refine lv_icmp_gt (tgt := 1521) hx hb dL_law_29 (by decide) (fun c1 => ?_) (fun c1 => ?_)
  · replace hf := hf.1 c1
    refine lv_iconst (v := 1) hx hb dL_law_1521 (by decide) ?_
    refine va_forget (fun q hq => by rw [← hg1]; exact hS.2.2 q hq) ?_
    refine W.widen (k := 601024) (n := 7293034) (by omega) (by omega) ?_
    exact lw_ret hx hb E.2.2.1 E.2.2.2.2.2.2.2.1 dL_law_1522
  · replace hf := hf.2 c1
    refine lv_aload_n hx hb dL_law_32 rfl (lv_at hl 0 rfl) ?_
    refine lv_iload hx hb dL_law_33 (lv_at hl 4 rfl) ?_
    obtain ⟨i2, hf⟩ := hf
    refine va_sld hx hb hX hbl hbA hS i2 dL_law_35 ?_
    refine lv_bipush (v := 63) hx hb dL_law_36 (by decide) ?_
    refine lv_iand hx hb dL_law_38 ?_
    rcases Decidable.em (((xs x4.toNatClampNeg) &&& (63 : Int32)) = 0) with w3 | w3
    · replace hf := hf.1 w3
      refine lv_tableIn (tgt := 220) hx hb dL_law_39 (by rw [w3]; decide) (by rw [w3]; decide) (by rw [w3]; rfl) (by decide) ?_
      refine lv_aload_n hx hb dL_law_220 rfl (lv_at hl 1 rfl) ?_
      refine lv_aload_n hx hb dL_law_221 rfl (lv_at hl 0 rfl) ?_
      refine lv_iload hx hb dL_law_222 (lv_at hl 4 rfl) ?_
      refine lv_iconst (v := 1) hx hb dL_law_224 (by decide) ?_
      refine lv_iadd hx hb dL_law_225 ?_
      obtain ⟨i4, hf⟩ := hf
      refine va_sld hx hb hX hbl hbA hS i4 dL_law_226 ?_
      refine hw_callVG E hR hS (As := [.int (xs (x4 + (1 : Int32)).toNatClampNeg)]) (rest := []) cI9 hs1 rfl mcX10_sign miX10_sign lmL_23 (ok_X10_sign hs1 hf) rfl rfl (Nat.le_of_ble_eq_true rfl) (Nat.le_of_ble_eq_true rfl) (by show _ ≤ 601024; omega) (by show _ ≤ 7293034; omega) hl.1 (Nat.le_of_ble_eq_true rfl) dL_law_227 (fun rr m5 H locs hp hR hS => ?_)
      obtain ⟨r6, rfl, hf⟩ := hp
      refine W.eq (g2 := F0 m 230 ls [.int r6]) rfl ?_
      refine lv_aload_n hx hb dL_law_230 rfl (lv_at hl 2 rfl) ?_
      refine lv_aload_n hx hb dL_law_231 rfl (lv_at hl 0 rfl) ?_
      refine lv_iload hx hb dL_law_232 (lv_at hl 4 rfl) ?_
      refine lv_iconst (v := 1) hx hb dL_law_234 (by decide) ?_
      refine lv_iadd hx hb dL_law_235 ?_
      obtain ⟨i7, hf⟩ := hf
      refine va_sld hx hb hX hbl hbA hS i7 dL_law_236 ?_
      refine hw_callVG E hR hS (As := [.int (xs (x4 + (1 : Int32)).toNatClampNeg)]) (rest := [.int r6]) cI10 hs2 rfl mcX11_sign miX11_sign lmL_26 (ok_X11_sign hs2 hf) rfl rfl (Nat.le_of_ble_eq_true rfl) (Nat.le_of_ble_eq_true rfl) (by show _ ≤ 601024; omega) (by show _ ≤ 7293034; omega) hl.1 (Nat.le_of_ble_eq_true rfl) dL_law_237 (fun rr m8 H locs hp hR hS => ?_)
      obtain ⟨r9, rfl, hf⟩ := hp
      refine W.eq (g2 := F0 m 240 ls [.int r9, .int r6]) rfl ?_
      refine lv_icmp_eq (tgt := 1515) hx hb dL_law_240 (by decide) (fun c10 => ?_) (fun c10 => ?_)
      · replace hf := hf.1 c10
        obtain ⟨v11, ev11⟩ : ∃ y : Int32, y = x4 + (5 : Int32) := ⟨_, rfl⟩
        replace hf := hf v11 ev11
        refine lv_iinc (v := v11) (lv' := [(4, .int v11), (0, .ref b), (1, .ref (ad g a1)), (2, .ref (ad g a2)), (3, .ref (ad g a3))]) hx hb dL_law_1515 hl (k := 4) rfl (by rw [ev11]; rfl) (by decide) rfl (fun ls hl => ?_)
        refine lv_goto (tgt := 23) hx hb dL_law_1518 (by decide) ?_
        exact hBK23 _ _ _ _ _ _ _ (by omega) (by omega) hf hR hS (lv_sub hl [1, 2, 3, 4, 0] rfl)
      · replace hf := hf.2 c10
        refine lv_iconst (v := 0) hx hb dL_law_243 (by decide) ?_
        exact hf.elim
    · replace hf := hf.2 w3
      rcases Decidable.em (((xs x4.toNatClampNeg) &&& (63 : Int32)) = 1) with w12 | w12
      · replace hf := hf.1 w12
        refine lv_tableIn (tgt := 245) hx hb dL_law_39 (by rw [w12]; decide) (by rw [w12]; decide) (by rw [w12]; rfl) (by decide) ?_
        refine lv_aload_n hx hb dL_law_245 rfl (lv_at hl 1 rfl) ?_
        refine lv_aload_n hx hb dL_law_246 rfl (lv_at hl 0 rfl) ?_
        refine lv_iload hx hb dL_law_247 (lv_at hl 4 rfl) ?_
        refine lv_iconst (v := 1) hx hb dL_law_249 (by decide) ?_
        refine lv_iadd hx hb dL_law_250 ?_
        obtain ⟨i13, hf⟩ := hf
        refine va_sld hx hb hX hbl hbA hS i13 dL_law_251 ?_
        refine hw_callVG E hR hS (As := [.int (xs (x4 + (1 : Int32)).toNatClampNeg)]) (rest := []) cI9 hs1 rfl mcX10_end miX10_end lmL_27 (ok_X10_end hs1 hf) rfl rfl (Nat.le_of_ble_eq_true rfl) (Nat.le_of_ble_eq_true rfl) (by show _ ≤ 601024; omega) (by show _ ≤ 7293034; omega) hl.1 (Nat.le_of_ble_eq_true rfl) dL_law_252 (fun rr m14 H locs hp hR hS => ?_)
        obtain ⟨r15, rfl, hf⟩ := hp
        refine W.eq (g2 := F0 m 255 ls [.int r15]) rfl ?_
        refine lv_aload_n hx hb dL_law_255 rfl (lv_at hl 2 rfl) ?_
        refine lv_aload_n hx hb dL_law_256 rfl (lv_at hl 0 rfl) ?_
        refine lv_iload hx hb dL_law_257 (lv_at hl 4 rfl) ?_
        refine lv_iconst (v := 1) hx hb dL_law_259 (by decide) ?_
        refine lv_iadd hx hb dL_law_260 ?_
        obtain ⟨i16, hf⟩ := hf
        refine va_sld hx hb hX hbl hbA hS i16 dL_law_261 ?_
        refine hw_callVG E hR hS (As := [.int (xs (x4 + (1 : Int32)).toNatClampNeg)]) (rest := [.int r15]) cI10 hs2 rfl mcX11_end miX11_end lmL_31 (ok_X11_end hs2 hf) rfl rfl (Nat.le_of_ble_eq_true rfl) (Nat.le_of_ble_eq_true rfl) (by show _ ≤ 601024; omega) (by show _ ≤ 7293034; omega) hl.1 (Nat.le_of_ble_eq_true rfl) dL_law_262 (fun rr m17 H locs hp hR hS => ?_)
        obtain ⟨r18, rfl, hf⟩ := hp
        refine W.eq (g2 := F0 m 265 ls [.int r18, .int r15]) rfl ?_
        refine lv_icmp_eq (tgt := 1515) hx hb dL_law_265 (by decide) (fun c19 => ?_) (fun c19 => ?_)
        · replace hf := hf.1 c19
          obtain ⟨v20, ev20⟩ : ∃ y : Int32, y = x4 + (5 : Int32) := ⟨_, rfl⟩
          replace hf := hf v20 ev20
          refine lv_iinc (v := v20) (lv' := [(4, .int v20), (0, .ref b), (1, .ref (ad g a1)), (2, .ref (ad g a2)), (3, .ref (ad g a3))]) hx hb dL_law_1515 hl (k := 4) rfl (by rw [ev20]; rfl) (by decide) rfl (fun ls hl => ?_)
          refine lv_goto (tgt := 23) hx hb dL_law_1518 (by decide) ?_
          exact hBK23 _ _ _ _ _ _ _ (by omega) (by omega) hf hR hS (lv_sub hl [1, 2, 3, 4, 0] rfl)
        · replace hf := hf.2 c19
          refine lv_iconst (v := 0) hx hb dL_law_268 (by decide) ?_
          exact hf.elim
      · replace hf := hf.2 w12
        rcases Decidable.em (((xs x4.toNatClampNeg) &&& (63 : Int32)) = 2) with w21 | w21
        · replace hf := hf.1 w21
          refine lv_tableIn (tgt := 270) hx hb dL_law_39 (by rw [w21]; decide) (by rw [w21]; decide) (by rw [w21]; rfl) (by decide) ?_
          refine lv_aload_n hx hb dL_law_270 rfl (lv_at hl 1 rfl) ?_
          refine lv_aload_n hx hb dL_law_271 rfl (lv_at hl 0 rfl) ?_
          refine lv_iload hx hb dL_law_272 (lv_at hl 4 rfl) ?_
          refine lv_iconst (v := 1) hx hb dL_law_274 (by decide) ?_
          refine lv_iadd hx hb dL_law_275 ?_
          obtain ⟨i22, hf⟩ := hf
          refine va_sld hx hb hX hbl hbA hS i22 dL_law_276 ?_
          refine hw_callVG E hR hS (As := [.int (xs (x4 + (1 : Int32)).toNatClampNeg)]) (rest := []) cI9 hs1 rfl mcX10_task miX10_task lmL_32 (ok_X10_task hs1 hf) rfl rfl (Nat.le_of_ble_eq_true rfl) (Nat.le_of_ble_eq_true rfl) (by show _ ≤ 601024; omega) (by show _ ≤ 7293034; omega) hl.1 (Nat.le_of_ble_eq_true rfl) dL_law_277 (fun rr m23 H locs hp hR hS => ?_)
          obtain ⟨r24, rfl, hf⟩ := hp
          refine W.eq (g2 := F0 m 280 ls [.int r24]) rfl ?_
          refine lv_aload_n hx hb dL_law_280 rfl (lv_at hl 2 rfl) ?_
          refine lv_aload_n hx hb dL_law_281 rfl (lv_at hl 0 rfl) ?_
          refine lv_iload hx hb dL_law_282 (lv_at hl 4 rfl) ?_
          refine lv_iconst (v := 1) hx hb dL_law_284 (by decide) ?_
          refine lv_iadd hx hb dL_law_285 ?_
          obtain ⟨i25, hf⟩ := hf
          refine va_sld hx hb hX hbl hbA hS i25 dL_law_286 ?_
          refine hw_callVG E hR hS (As := [.int (xs (x4 + (1 : Int32)).toNatClampNeg)]) (rest := [.int r24]) cI10 hs2 rfl mcX11_task miX11_task lmL_35 (ok_X11_task hs2 hf) rfl rfl (Nat.le_of_ble_eq_true rfl) (Nat.le_of_ble_eq_true rfl) (by show _ ≤ 601024; omega) (by show _ ≤ 7293034; omega) hl.1 (Nat.le_of_ble_eq_true rfl) dL_law_287 (fun rr m26 H locs hp hR hS => ?_)
          obtain ⟨r27, rfl, hf⟩ := hp
          refine W.eq (g2 := F0 m 290 ls [.int r27, .int r24]) rfl ?_
          refine lv_icmp_eq (tgt := 1515) hx hb dL_law_290 (by decide) (fun c28 => ?_) (fun c28 => ?_)
          · replace hf := hf.1 c28
            obtain ⟨v29, ev29⟩ : ∃ y : Int32, y = x4 + (5 : Int32) := ⟨_, rfl⟩
            replace hf := hf v29 ev29
            refine lv_iinc (v := v29) (lv' := [(4, .int v29), (0, .ref b), (1, .ref (ad g a1)), (2, .ref (ad g a2)), (3, .ref (ad g a3))]) hx hb dL_law_1515 hl (k := 4) rfl (by rw [ev29]; rfl) (by decide) rfl (fun ls hl => ?_)
            refine lv_goto (tgt := 23) hx hb dL_law_1518 (by decide) ?_
            exact hBK23 _ _ _ _ _ _ _ (by omega) (by omega) hf hR hS (lv_sub hl [1, 2, 3, 4, 0] rfl)
          · replace hf := hf.2 c28
            refine lv_iconst (v := 0) hx hb dL_law_293 (by decide) ?_
            exact hf.elim
        · replace hf := hf.2 w21
          rcases Decidable.em (((xs x4.toNatClampNeg) &&& (63 : Int32)) = 3) with w30 | w30
          · replace hf := hf.1 w30
            refine lv_tableIn (tgt := 295) hx hb dL_law_39 (by rw [w30]; decide) (by rw [w30]; decide) (by rw [w30]; rfl) (by decide) ?_
            refine lv_aload_n hx hb dL_law_295 rfl (lv_at hl 1 rfl) ?_
            refine hw_callVG E hR hS (As := []) (rest := []) cI9 hs1 rfl mcX10_must miX10_must lmL_36 (ok_X10_must hs1 hf) rfl rfl (Nat.le_of_ble_eq_true rfl) (Nat.le_of_ble_eq_true rfl) (by show _ ≤ 601024; omega) (by show _ ≤ 7293034; omega) hl.1 (Nat.le_of_ble_eq_true rfl) dL_law_296 (fun rr m31 H locs hp hR hS => ?_)
            obtain ⟨r32, rfl, hf⟩ := hp
            refine W.eq (g2 := F0 m 299 ls [.int r32]) rfl ?_
            refine lv_aload_n hx hb dL_law_299 rfl (lv_at hl 2 rfl) ?_
            refine hw_callVG E hR hS (As := []) (rest := [.int r32]) cI10 hs2 rfl mcX11_must miX11_must lmL_40 (ok_X11_must hs2 hf) rfl rfl (Nat.le_of_ble_eq_true rfl) (Nat.le_of_ble_eq_true rfl) (by show _ ≤ 601024; omega) (by show _ ≤ 7293034; omega) hl.1 (Nat.le_of_ble_eq_true rfl) dL_law_300 (fun rr m33 H locs hp hR hS => ?_)
            obtain ⟨r34, rfl, hf⟩ := hp
            refine W.eq (g2 := F0 m 303 ls [.int r34, .int r32]) rfl ?_
            refine lv_icmp_eq (tgt := 1515) hx hb dL_law_303 (by decide) (fun c35 => ?_) (fun c35 => ?_)
            · replace hf := hf.1 c35
              obtain ⟨v36, ev36⟩ : ∃ y : Int32, y = x4 + (5 : Int32) := ⟨_, rfl⟩
              replace hf := hf v36 ev36
              refine lv_iinc (v := v36) (lv' := [(4, .int v36), (0, .ref b), (1, .ref (ad g a1)), (2, .ref (ad g a2)), (3, .ref (ad g a3))]) hx hb dL_law_1515 hl (k := 4) rfl (by rw [ev36]; rfl) (by decide) rfl (fun ls hl => ?_)
              refine lv_goto (tgt := 23) hx hb dL_law_1518 (by decide) ?_
              exact hBK23 _ _ _ _ _ _ _ (by omega) (by omega) hf hR hS (lv_sub hl [1, 2, 3, 4, 0] rfl)
            · replace hf := hf.2 c35
              refine lv_iconst (v := 0) hx hb dL_law_306 (by decide) ?_
              exact hf.elim
          · replace hf := hf.2 w30
            rcases Decidable.em (((xs x4.toNatClampNeg) &&& (63 : Int32)) = 4) with w37 | w37
            · replace hf := hf.1 w37
              refine lv_tableIn (tgt := 308) hx hb dL_law_39 (by rw [w37]; decide) (by rw [w37]; decide) (by rw [w37]; rfl) (by decide) ?_
              refine lv_aload_n hx hb dL_law_308 rfl (lv_at hl 1 rfl) ?_
              refine hw_callVG E hR hS (As := []) (rest := []) cI9 hs1 rfl mcX10_bolt miX10_bolt lmL_41 (ok_X10_bolt hs1 hf) rfl rfl (Nat.le_of_ble_eq_true rfl) (Nat.le_of_ble_eq_true rfl) (by show _ ≤ 601024; omega) (by show _ ≤ 7293034; omega) hl.1 (Nat.le_of_ble_eq_true rfl) dL_law_309 (fun rr m38 H locs hp hR hS => ?_)
              obtain ⟨r39, rfl, hf⟩ := hp
              refine W.eq (g2 := F0 m 312 ls [.int r39]) rfl ?_
              refine lv_aload_n hx hb dL_law_312 rfl (lv_at hl 2 rfl) ?_
              refine hw_callVG E hR hS (As := []) (rest := [.int r39]) cI10 hs2 rfl mcX11_bolt miX11_bolt lmL_44 (ok_X11_bolt hs2 hf) rfl rfl (Nat.le_of_ble_eq_true rfl) (Nat.le_of_ble_eq_true rfl) (by show _ ≤ 601024; omega) (by show _ ≤ 7293034; omega) hl.1 (Nat.le_of_ble_eq_true rfl) dL_law_313 (fun rr m40 H locs hp hR hS => ?_)
              obtain ⟨r41, rfl, hf⟩ := hp
              refine W.eq (g2 := F0 m 316 ls [.int r41, .int r39]) rfl ?_
              refine lv_icmp_eq (tgt := 1515) hx hb dL_law_316 (by decide) (fun c42 => ?_) (fun c42 => ?_)
              · replace hf := hf.1 c42
                obtain ⟨v43, ev43⟩ : ∃ y : Int32, y = x4 + (5 : Int32) := ⟨_, rfl⟩
                replace hf := hf v43 ev43
                refine lv_iinc (v := v43) (lv' := [(4, .int v43), (0, .ref b), (1, .ref (ad g a1)), (2, .ref (ad g a2)), (3, .ref (ad g a3))]) hx hb dL_law_1515 hl (k := 4) rfl (by rw [ev43]; rfl) (by decide) rfl (fun ls hl => ?_)
                refine lv_goto (tgt := 23) hx hb dL_law_1518 (by decide) ?_
                exact hBK23 _ _ _ _ _ _ _ (by omega) (by omega) hf hR hS (lv_sub hl [1, 2, 3, 4, 0] rfl)
              · replace hf := hf.2 c42
                refine lv_iconst (v := 0) hx hb dL_law_319 (by decide) ?_
                exact hf.elim
            · replace hf := hf.2 w37
              rcases Decidable.em (((xs x4.toNatClampNeg) &&& (63 : Int32)) = 5) with w44 | w44
              · replace hf := hf.1 w44
                refine lv_tableIn (tgt := 321) hx hb dL_law_39 (by rw [w44]; decide) (by rw [w44]; decide) (by rw [w44]; rfl) (by decide) ?_
                refine lv_aload_n hx hb dL_law_321 rfl (lv_at hl 1 rfl) ?_
                refine lv_aload_n hx hb dL_law_322 rfl (lv_at hl 0 rfl) ?_
                refine lv_iload hx hb dL_law_323 (lv_at hl 4 rfl) ?_
                refine lv_iconst (v := 1) hx hb dL_law_325 (by decide) ?_
                refine lv_iadd hx hb dL_law_326 ?_
                obtain ⟨i45, hf⟩ := hf
                refine va_sld hx hb hX hbl hbA hS i45 dL_law_327 ?_
                refine lv_aload_n hx hb dL_law_328 rfl (lv_at hl 0 rfl) ?_
                refine lv_iload hx hb dL_law_329 (lv_at hl 4 rfl) ?_
                refine lv_iconst (v := 2) hx hb dL_law_331 (by decide) ?_
                refine lv_iadd hx hb dL_law_332 ?_
                obtain ⟨i46, hf⟩ := hf
                refine va_sld hx hb hX hbl hbA hS i46 dL_law_333 ?_
                refine lv_if_eq (tgt := 341) hx hb dL_law_334 (by decide) (fun c47 => ?_) (fun c47 => ?_)
                · replace hf := hf.1 c47
                  refine lv_iconst (v := 0) hx hb dL_law_341 (by decide) ?_
                  refine hw_callVG E hR hS (As := [.int (xs (x4 + (1 : Int32)).toNatClampNeg), .int (0 : Int32)]) (rest := []) cI9 hs1 rfl mcX10_turn miX10_turn lmL_45 (ok_X10_turn hs1 hf) rfl rfl (Nat.le_of_ble_eq_true rfl) (Nat.le_of_ble_eq_true rfl) (by show _ ≤ 601024; omega) (by show _ ≤ 7293034; omega) hl.1 (Nat.le_of_ble_eq_true rfl) dL_law_342 (fun rr m48 H locs hp hR hS => ?_)
                  obtain ⟨r49, rfl, hf⟩ := hp
                  refine W.eq (g2 := F0 m 345 ls [.int r49]) rfl ?_
                  refine lv_aload_n hx hb dL_law_345 rfl (lv_at hl 2 rfl) ?_
                  refine lv_aload_n hx hb dL_law_346 rfl (lv_at hl 0 rfl) ?_
                  refine lv_iload hx hb dL_law_347 (lv_at hl 4 rfl) ?_
                  refine lv_iconst (v := 1) hx hb dL_law_349 (by decide) ?_
                  refine lv_iadd hx hb dL_law_350 ?_
                  obtain ⟨i50, hf⟩ := hf
                  refine va_sld hx hb hX hbl hbA hS i50 dL_law_351 ?_
                  refine lv_aload_n hx hb dL_law_352 rfl (lv_at hl 0 rfl) ?_
                  refine lv_iload hx hb dL_law_353 (lv_at hl 4 rfl) ?_
                  refine lv_iconst (v := 2) hx hb dL_law_355 (by decide) ?_
                  refine lv_iadd hx hb dL_law_356 ?_
                  obtain ⟨i51, hf⟩ := hf
                  refine va_sld hx hb hX hbl hbA hS i51 dL_law_357 ?_
                  refine lv_if_eq (tgt := 365) hx hb dL_law_358 (by decide) (fun c52 => ?_) (fun c52 => ?_)
                  · replace hf := hf.1 c52
                    refine lv_iconst (v := 0) hx hb dL_law_365 (by decide) ?_
                    refine hw_callVG E hR hS (As := [.int (xs (x4 + (1 : Int32)).toNatClampNeg), .int (0 : Int32)]) (rest := [.int r49]) cI10 hs2 rfl mcX11_turn miX11_turn lmL_49 (ok_X11_turn hs2 hf) rfl rfl (Nat.le_of_ble_eq_true rfl) (Nat.le_of_ble_eq_true rfl) (by show _ ≤ 601024; omega) (by show _ ≤ 7293034; omega) hl.1 (Nat.le_of_ble_eq_true rfl) dL_law_366 (fun rr m53 H locs hp hR hS => ?_)
                    obtain ⟨r54, rfl, hf⟩ := hp
                    refine W.eq (g2 := F0 m 369 ls [.int r54, .int r49]) rfl ?_
                    refine lv_icmp_eq (tgt := 1515) hx hb dL_law_369 (by decide) (fun c55 => ?_) (fun c55 => ?_)
                    · replace hf := hf.1 c55
                      obtain ⟨v56, ev56⟩ : ∃ y : Int32, y = x4 + (5 : Int32) := ⟨_, rfl⟩
                      replace hf := hf v56 ev56
                      refine lv_iinc (v := v56) (lv' := [(4, .int v56), (0, .ref b), (1, .ref (ad g a1)), (2, .ref (ad g a2)), (3, .ref (ad g a3))]) hx hb dL_law_1515 hl (k := 4) rfl (by rw [ev56]; rfl) (by decide) rfl (fun ls hl => ?_)
                      refine lv_goto (tgt := 23) hx hb dL_law_1518 (by decide) ?_
                      exact hBK23 _ _ _ _ _ _ _ (by omega) (by omega) hf hR hS (lv_sub hl [1, 2, 3, 4, 0] rfl)
                    · replace hf := hf.2 c55
                      refine lv_iconst (v := 0) hx hb dL_law_372 (by decide) ?_
                      exact hf.elim
                  · replace hf := hf.2 c52
                    refine lv_iconst (v := 1) hx hb dL_law_361 (by decide) ?_
                    refine lv_goto (tgt := 366) hx hb dL_law_362 (by decide) ?_
                    refine hw_callVG E hR hS (As := [.int (xs (x4 + (1 : Int32)).toNatClampNeg), .int (1 : Int32)]) (rest := [.int r49]) cI10 hs2 rfl mcX11_turn miX11_turn lmL_49 (ok_X11_turn hs2 hf) rfl rfl (Nat.le_of_ble_eq_true rfl) (Nat.le_of_ble_eq_true rfl) (by show _ ≤ 601024; omega) (by show _ ≤ 7293034; omega) hl.1 (Nat.le_of_ble_eq_true rfl) dL_law_366 (fun rr m57 H locs hp hR hS => ?_)
                    obtain ⟨r58, rfl, hf⟩ := hp
                    refine W.eq (g2 := F0 m 369 ls [.int r58, .int r49]) rfl ?_
                    refine lv_icmp_eq (tgt := 1515) hx hb dL_law_369 (by decide) (fun c59 => ?_) (fun c59 => ?_)
                    · replace hf := hf.1 c59
                      obtain ⟨v60, ev60⟩ : ∃ y : Int32, y = x4 + (5 : Int32) := ⟨_, rfl⟩
                      replace hf := hf v60 ev60
                      refine lv_iinc (v := v60) (lv' := [(4, .int v60), (0, .ref b), (1, .ref (ad g a1)), (2, .ref (ad g a2)), (3, .ref (ad g a3))]) hx hb dL_law_1515 hl (k := 4) rfl (by rw [ev60]; rfl) (by decide) rfl (fun ls hl => ?_)
                      refine lv_goto (tgt := 23) hx hb dL_law_1518 (by decide) ?_
                      exact hBK23 _ _ _ _ _ _ _ (by omega) (by omega) hf hR hS (lv_sub hl [1, 2, 3, 4, 0] rfl)
                    · replace hf := hf.2 c59
                      refine lv_iconst (v := 0) hx hb dL_law_372 (by decide) ?_
                      exact hf.elim
                · replace hf := hf.2 c47
                  refine lv_iconst (v := 1) hx hb dL_law_337 (by decide) ?_
                  refine lv_goto (tgt := 342) hx hb dL_law_338 (by decide) ?_
                  refine hw_callVG E hR hS (As := [.int (xs (x4 + (1 : Int32)).toNatClampNeg), .int (1 : Int32)]) (rest := []) cI9 hs1 rfl mcX10_turn miX10_turn lmL_45 (ok_X10_turn hs1 hf) rfl rfl (Nat.le_of_ble_eq_true rfl) (Nat.le_of_ble_eq_true rfl) (by show _ ≤ 601024; omega) (by show _ ≤ 7293034; omega) hl.1 (Nat.le_of_ble_eq_true rfl) dL_law_342 (fun rr m61 H locs hp hR hS => ?_)
                  obtain ⟨r62, rfl, hf⟩ := hp
                  refine W.eq (g2 := F0 m 345 ls [.int r62]) rfl ?_
                  refine lv_aload_n hx hb dL_law_345 rfl (lv_at hl 2 rfl) ?_
                  refine lv_aload_n hx hb dL_law_346 rfl (lv_at hl 0 rfl) ?_
                  refine lv_iload hx hb dL_law_347 (lv_at hl 4 rfl) ?_
                  refine lv_iconst (v := 1) hx hb dL_law_349 (by decide) ?_
                  refine lv_iadd hx hb dL_law_350 ?_
                  obtain ⟨i63, hf⟩ := hf
                  refine va_sld hx hb hX hbl hbA hS i63 dL_law_351 ?_
                  refine lv_aload_n hx hb dL_law_352 rfl (lv_at hl 0 rfl) ?_
                  refine lv_iload hx hb dL_law_353 (lv_at hl 4 rfl) ?_
                  refine lv_iconst (v := 2) hx hb dL_law_355 (by decide) ?_
                  refine lv_iadd hx hb dL_law_356 ?_
                  obtain ⟨i64, hf⟩ := hf
                  refine va_sld hx hb hX hbl hbA hS i64 dL_law_357 ?_
                  refine lv_if_eq (tgt := 365) hx hb dL_law_358 (by decide) (fun c65 => ?_) (fun c65 => ?_)
                  · replace hf := hf.1 c65
                    refine lv_iconst (v := 0) hx hb dL_law_365 (by decide) ?_
                    refine hw_callVG E hR hS (As := [.int (xs (x4 + (1 : Int32)).toNatClampNeg), .int (0 : Int32)]) (rest := [.int r62]) cI10 hs2 rfl mcX11_turn miX11_turn lmL_49 (ok_X11_turn hs2 hf) rfl rfl (Nat.le_of_ble_eq_true rfl) (Nat.le_of_ble_eq_true rfl) (by show _ ≤ 601024; omega) (by show _ ≤ 7293034; omega) hl.1 (Nat.le_of_ble_eq_true rfl) dL_law_366 (fun rr m66 H locs hp hR hS => ?_)
                    obtain ⟨r67, rfl, hf⟩ := hp
                    refine W.eq (g2 := F0 m 369 ls [.int r67, .int r62]) rfl ?_
                    refine lv_icmp_eq (tgt := 1515) hx hb dL_law_369 (by decide) (fun c68 => ?_) (fun c68 => ?_)
                    · replace hf := hf.1 c68
                      obtain ⟨v69, ev69⟩ : ∃ y : Int32, y = x4 + (5 : Int32) := ⟨_, rfl⟩
                      replace hf := hf v69 ev69
                      refine lv_iinc (v := v69) (lv' := [(4, .int v69), (0, .ref b), (1, .ref (ad g a1)), (2, .ref (ad g a2)), (3, .ref (ad g a3))]) hx hb dL_law_1515 hl (k := 4) rfl (by rw [ev69]; rfl) (by decide) rfl (fun ls hl => ?_)
                      refine lv_goto (tgt := 23) hx hb dL_law_1518 (by decide) ?_
                      exact hBK23 _ _ _ _ _ _ _ (by omega) (by omega) hf hR hS (lv_sub hl [1, 2, 3, 4, 0] rfl)
                    · replace hf := hf.2 c68
                      refine lv_iconst (v := 0) hx hb dL_law_372 (by decide) ?_
                      exact hf.elim
                  · replace hf := hf.2 c65
                    refine lv_iconst (v := 1) hx hb dL_law_361 (by decide) ?_
                    refine lv_goto (tgt := 366) hx hb dL_law_362 (by decide) ?_
                    refine hw_callVG E hR hS (As := [.int (xs (x4 + (1 : Int32)).toNatClampNeg), .int (1 : Int32)]) (rest := [.int r62]) cI10 hs2 rfl mcX11_turn miX11_turn lmL_49 (ok_X11_turn hs2 hf) rfl rfl (Nat.le_of_ble_eq_true rfl) (Nat.le_of_ble_eq_true rfl) (by show _ ≤ 601024; omega) (by show _ ≤ 7293034; omega) hl.1 (Nat.le_of_ble_eq_true rfl) dL_law_366 (fun rr m70 H locs hp hR hS => ?_)
                    obtain ⟨r71, rfl, hf⟩ := hp
                    refine W.eq (g2 := F0 m 369 ls [.int r71, .int r62]) rfl ?_
                    refine lv_icmp_eq (tgt := 1515) hx hb dL_law_369 (by decide) (fun c72 => ?_) (fun c72 => ?_)
                    · replace hf := hf.1 c72
                      obtain ⟨v73, ev73⟩ : ∃ y : Int32, y = x4 + (5 : Int32) := ⟨_, rfl⟩
                      replace hf := hf v73 ev73
                      refine lv_iinc (v := v73) (lv' := [(4, .int v73), (0, .ref b), (1, .ref (ad g a1)), (2, .ref (ad g a2)), (3, .ref (ad g a3))]) hx hb dL_law_1515 hl (k := 4) rfl (by rw [ev73]; rfl) (by decide) rfl (fun ls hl => ?_)
                      refine lv_goto (tgt := 23) hx hb dL_law_1518 (by decide) ?_
                      exact hBK23 _ _ _ _ _ _ _ (by omega) (by omega) hf hR hS (lv_sub hl [1, 2, 3, 4, 0] rfl)
                    · replace hf := hf.2 c72
                      refine lv_iconst (v := 0) hx hb dL_law_372 (by decide) ?_
                      exact hf.elim
              · replace hf := hf.2 w44
                rcases Decidable.em (((xs x4.toNatClampNeg) &&& (63 : Int32)) = 6) with w74 | w74
                · replace hf := hf.1 w74
                  refine lv_tableIn (tgt := 374) hx hb dL_law_39 (by rw [w74]; decide) (by rw [w74]; decide) (by rw [w74]; rfl) (by decide) ?_
                  refine lv_aload_n hx hb dL_law_374 rfl (lv_at hl 1 rfl) ?_
                  refine lv_aload_n hx hb dL_law_375 rfl (lv_at hl 0 rfl) ?_
                  refine lv_iload hx hb dL_law_376 (lv_at hl 4 rfl) ?_
                  refine lv_iconst (v := 1) hx hb dL_law_378 (by decide) ?_
                  refine lv_iadd hx hb dL_law_379 ?_
                  obtain ⟨i75, hf⟩ := hf
                  refine va_sld hx hb hX hbl hbA hS i75 dL_law_380 ?_
                  refine lv_aload_n hx hb dL_law_381 rfl (lv_at hl 0 rfl) ?_
                  refine lv_iload hx hb dL_law_382 (lv_at hl 4 rfl) ?_
                  refine lv_iconst (v := 2) hx hb dL_law_384 (by decide) ?_
                  refine lv_iadd hx hb dL_law_385 ?_
                  obtain ⟨i76, hf⟩ := hf
                  refine va_sld hx hb hX hbl hbA hS i76 dL_law_386 ?_
                  refine hw_callVG E hR hS (As := [.int (xs (x4 + (1 : Int32)).toNatClampNeg), .int (xs (x4 + (2 : Int32)).toNatClampNeg)]) (rest := []) cI9 hs1 rfl mcX10_slot miX10_slot lmL_50 (ok_X10_slot hs1 hf) rfl rfl (Nat.le_of_ble_eq_true rfl) (Nat.le_of_ble_eq_true rfl) (by show _ ≤ 601024; omega) (by show _ ≤ 7293034; omega) hl.1 (Nat.le_of_ble_eq_true rfl) dL_law_387 (fun rr m77 H locs hp hR hS => ?_)
                  obtain ⟨r78, rfl, hf⟩ := hp
                  refine W.eq (g2 := F0 m 390 ls [.int r78]) rfl ?_
                  refine lv_aload_n hx hb dL_law_390 rfl (lv_at hl 2 rfl) ?_
                  refine lv_aload_n hx hb dL_law_391 rfl (lv_at hl 0 rfl) ?_
                  refine lv_iload hx hb dL_law_392 (lv_at hl 4 rfl) ?_
                  refine lv_iconst (v := 1) hx hb dL_law_394 (by decide) ?_
                  refine lv_iadd hx hb dL_law_395 ?_
                  obtain ⟨i79, hf⟩ := hf
                  refine va_sld hx hb hX hbl hbA hS i79 dL_law_396 ?_
                  refine lv_aload_n hx hb dL_law_397 rfl (lv_at hl 0 rfl) ?_
                  refine lv_iload hx hb dL_law_398 (lv_at hl 4 rfl) ?_
                  refine lv_iconst (v := 2) hx hb dL_law_400 (by decide) ?_
                  refine lv_iadd hx hb dL_law_401 ?_
                  obtain ⟨i80, hf⟩ := hf
                  refine va_sld hx hb hX hbl hbA hS i80 dL_law_402 ?_
                  refine hw_callVG E hR hS (As := [.int (xs (x4 + (1 : Int32)).toNatClampNeg), .int (xs (x4 + (2 : Int32)).toNatClampNeg)]) (rest := [.int r78]) cI10 hs2 rfl mcX11_slot miX11_slot lmL_54 (ok_X11_slot hs2 hf) rfl rfl (Nat.le_of_ble_eq_true rfl) (Nat.le_of_ble_eq_true rfl) (by show _ ≤ 601024; omega) (by show _ ≤ 7293034; omega) hl.1 (Nat.le_of_ble_eq_true rfl) dL_law_403 (fun rr m81 H locs hp hR hS => ?_)
                  obtain ⟨r82, rfl, hf⟩ := hp
                  refine W.eq (g2 := F0 m 406 ls [.int r82, .int r78]) rfl ?_
                  refine lv_icmp_eq (tgt := 1515) hx hb dL_law_406 (by decide) (fun c83 => ?_) (fun c83 => ?_)
                  · replace hf := hf.1 c83
                    obtain ⟨v84, ev84⟩ : ∃ y : Int32, y = x4 + (5 : Int32) := ⟨_, rfl⟩
                    replace hf := hf v84 ev84
                    refine lv_iinc (v := v84) (lv' := [(4, .int v84), (0, .ref b), (1, .ref (ad g a1)), (2, .ref (ad g a2)), (3, .ref (ad g a3))]) hx hb dL_law_1515 hl (k := 4) rfl (by rw [ev84]; rfl) (by decide) rfl (fun ls hl => ?_)
                    refine lv_goto (tgt := 23) hx hb dL_law_1518 (by decide) ?_
                    exact hBK23 _ _ _ _ _ _ _ (by omega) (by omega) hf hR hS (lv_sub hl [1, 2, 3, 4, 0] rfl)
                  · replace hf := hf.2 c83
                    refine lv_iconst (v := 0) hx hb dL_law_409 (by decide) ?_
                    exact hf.elim
                · replace hf := hf.2 w74
                  rcases Decidable.em (((xs x4.toNatClampNeg) &&& (63 : Int32)) = 7) with w85 | w85
                  · replace hf := hf.1 w85
                    refine lv_tableIn (tgt := 411) hx hb dL_law_39 (by rw [w85]; decide) (by rw [w85]; decide) (by rw [w85]; rfl) (by decide) ?_
                    refine lv_aload_n hx hb dL_law_411 rfl (lv_at hl 1 rfl) ?_
                    refine lv_aload_n hx hb dL_law_412 rfl (lv_at hl 0 rfl) ?_
                    refine lv_iload hx hb dL_law_413 (lv_at hl 4 rfl) ?_
                    refine lv_iconst (v := 1) hx hb dL_law_415 (by decide) ?_
                    refine lv_iadd hx hb dL_law_416 ?_
                    obtain ⟨i86, hf⟩ := hf
                    refine va_sld hx hb hX hbl hbA hS i86 dL_law_417 ?_
                    refine lv_aload_n hx hb dL_law_418 rfl (lv_at hl 0 rfl) ?_
                    refine lv_iload hx hb dL_law_419 (lv_at hl 4 rfl) ?_
                    refine lv_iconst (v := 2) hx hb dL_law_421 (by decide) ?_
                    refine lv_iadd hx hb dL_law_422 ?_
                    obtain ⟨i87, hf⟩ := hf
                    refine va_sld hx hb hX hbl hbA hS i87 dL_law_423 ?_
                    refine hw_callVG E hR hS (As := [.int (xs (x4 + (1 : Int32)).toNatClampNeg), .int (xs (x4 + (2 : Int32)).toNatClampNeg)]) (rest := []) cI9 hs1 rfl mcX10_speed miX10_speed lmL_55 (ok_X10_speed hs1 hf) rfl rfl (Nat.le_of_ble_eq_true rfl) (Nat.le_of_ble_eq_true rfl) (by show _ ≤ 601024; omega) (by show _ ≤ 7293034; omega) hl.1 (Nat.le_of_ble_eq_true rfl) dL_law_424 (fun rr m88 H locs hp hR hS => ?_)
                    obtain ⟨r89, rfl, hf⟩ := hp
                    refine W.eq (g2 := F0 m 427 ls [.int r89]) rfl ?_
                    refine lv_aload_n hx hb dL_law_427 rfl (lv_at hl 2 rfl) ?_
                    refine lv_aload_n hx hb dL_law_428 rfl (lv_at hl 0 rfl) ?_
                    refine lv_iload hx hb dL_law_429 (lv_at hl 4 rfl) ?_
                    refine lv_iconst (v := 1) hx hb dL_law_431 (by decide) ?_
                    refine lv_iadd hx hb dL_law_432 ?_
                    obtain ⟨i90, hf⟩ := hf
                    refine va_sld hx hb hX hbl hbA hS i90 dL_law_433 ?_
                    refine lv_aload_n hx hb dL_law_434 rfl (lv_at hl 0 rfl) ?_
                    refine lv_iload hx hb dL_law_435 (lv_at hl 4 rfl) ?_
                    refine lv_iconst (v := 2) hx hb dL_law_437 (by decide) ?_
                    refine lv_iadd hx hb dL_law_438 ?_
                    obtain ⟨i91, hf⟩ := hf
                    refine va_sld hx hb hX hbl hbA hS i91 dL_law_439 ?_
                    refine hw_callVG E hR hS (As := [.int (xs (x4 + (1 : Int32)).toNatClampNeg), .int (xs (x4 + (2 : Int32)).toNatClampNeg)]) (rest := [.int r89]) cI10 hs2 rfl mcX11_speed miX11_speed lmL_58 (ok_X11_speed hs2 hf) rfl rfl (Nat.le_of_ble_eq_true rfl) (Nat.le_of_ble_eq_true rfl) (by show _ ≤ 601024; omega) (by show _ ≤ 7293034; omega) hl.1 (Nat.le_of_ble_eq_true rfl) dL_law_440 (fun rr m92 H locs hp hR hS => ?_)
                    obtain ⟨r93, rfl, hf⟩ := hp
                    refine W.eq (g2 := F0 m 443 ls [.int r93, .int r89]) rfl ?_
                    refine lv_icmp_eq (tgt := 1515) hx hb dL_law_443 (by decide) (fun c94 => ?_) (fun c94 => ?_)
                    · replace hf := hf.1 c94
                      obtain ⟨v95, ev95⟩ : ∃ y : Int32, y = x4 + (5 : Int32) := ⟨_, rfl⟩
                      replace hf := hf v95 ev95
                      refine lv_iinc (v := v95) (lv' := [(4, .int v95), (0, .ref b), (1, .ref (ad g a1)), (2, .ref (ad g a2)), (3, .ref (ad g a3))]) hx hb dL_law_1515 hl (k := 4) rfl (by rw [ev95]; rfl) (by decide) rfl (fun ls hl => ?_)
                      refine lv_goto (tgt := 23) hx hb dL_law_1518 (by decide) ?_
                      exact hBK23 _ _ _ _ _ _ _ (by omega) (by omega) hf hR hS (lv_sub hl [1, 2, 3, 4, 0] rfl)
                    · replace hf := hf.2 c94
                      refine lv_iconst (v := 0) hx hb dL_law_446 (by decide) ?_
                      exact hf.elim
                  · replace hf := hf.2 w85
                    rcases Decidable.em (((xs x4.toNatClampNeg) &&& (63 : Int32)) = 8) with w96 | w96
                    · replace hf := hf.1 w96
                      refine lv_tableIn (tgt := 448) hx hb dL_law_39 (by rw [w96]; decide) (by rw [w96]; decide) (by rw [w96]; rfl) (by decide) ?_
                      refine lv_aload_n hx hb dL_law_448 rfl (lv_at hl 1 rfl) ?_
                      refine lv_aload_n hx hb dL_law_449 rfl (lv_at hl 0 rfl) ?_
                      refine lv_iload hx hb dL_law_450 (lv_at hl 4 rfl) ?_
                      refine lv_iconst (v := 1) hx hb dL_law_452 (by decide) ?_
                      refine lv_iadd hx hb dL_law_453 ?_
                      obtain ⟨i97, hf⟩ := hf
                      refine va_sld hx hb hX hbl hbA hS i97 dL_law_454 ?_
                      refine hw_callVG E hR hS (As := [.int (xs (x4 + (1 : Int32)).toNatClampNeg)]) (rest := []) cI9 hs1 rfl mcX10_keys miX10_keys lmL_59 (ok_X10_keys hs1 hf) rfl rfl (Nat.le_of_ble_eq_true rfl) (Nat.le_of_ble_eq_true rfl) (by show _ ≤ 601024; omega) (by show _ ≤ 7293034; omega) hl.1 (Nat.le_of_ble_eq_true rfl) dL_law_455 (fun rr m98 H locs hp hR hS => ?_)
                      obtain ⟨r99, rfl, hf⟩ := hp
                      refine W.eq (g2 := F0 m 458 ls [.int r99]) rfl ?_
                      refine lv_aload_n hx hb dL_law_458 rfl (lv_at hl 2 rfl) ?_
                      refine lv_aload_n hx hb dL_law_459 rfl (lv_at hl 0 rfl) ?_
                      refine lv_iload hx hb dL_law_460 (lv_at hl 4 rfl) ?_
                      refine lv_iconst (v := 1) hx hb dL_law_462 (by decide) ?_
                      refine lv_iadd hx hb dL_law_463 ?_
                      obtain ⟨i100, hf⟩ := hf
                      refine va_sld hx hb hX hbl hbA hS i100 dL_law_464 ?_
                      refine hw_callVG E hR hS (As := [.int (xs (x4 + (1 : Int32)).toNatClampNeg)]) (rest := [.int r99]) cI10 hs2 rfl mcX11_keys miX11_keys lmL_62 (ok_X11_keys hs2 hf) rfl rfl (Nat.le_of_ble_eq_true rfl) (Nat.le_of_ble_eq_true rfl) (by show _ ≤ 601024; omega) (by show _ ≤ 7293034; omega) hl.1 (Nat.le_of_ble_eq_true rfl) dL_law_465 (fun rr m101 H locs hp hR hS => ?_)
                      obtain ⟨r102, rfl, hf⟩ := hp
                      refine W.eq (g2 := F0 m 468 ls [.int r102, .int r99]) rfl ?_
                      refine lv_icmp_eq (tgt := 1515) hx hb dL_law_468 (by decide) (fun c103 => ?_) (fun c103 => ?_)
                      · replace hf := hf.1 c103
                        obtain ⟨v104, ev104⟩ : ∃ y : Int32, y = x4 + (5 : Int32) := ⟨_, rfl⟩
                        replace hf := hf v104 ev104
                        refine lv_iinc (v := v104) (lv' := [(4, .int v104), (0, .ref b), (1, .ref (ad g a1)), (2, .ref (ad g a2)), (3, .ref (ad g a3))]) hx hb dL_law_1515 hl (k := 4) rfl (by rw [ev104]; rfl) (by decide) rfl (fun ls hl => ?_)
                        refine lv_goto (tgt := 23) hx hb dL_law_1518 (by decide) ?_
                        exact hBK23 _ _ _ _ _ _ _ (by omega) (by omega) hf hR hS (lv_sub hl [1, 2, 3, 4, 0] rfl)
                      · replace hf := hf.2 c103
                        refine lv_iconst (v := 0) hx hb dL_law_471 (by decide) ?_
                        exact hf.elim
                    · replace hf := hf.2 w96
                      rcases Decidable.em (((xs x4.toNatClampNeg) &&& (63 : Int32)) = 9) with w105 | w105
                      · replace hf := hf.1 w105
                        refine lv_tableIn (tgt := 473) hx hb dL_law_39 (by rw [w105]; decide) (by rw [w105]; decide) (by rw [w105]; rfl) (by decide) ?_
                        refine lv_aload_n hx hb dL_law_473 rfl (lv_at hl 1 rfl) ?_
                        refine lv_aload_n hx hb dL_law_474 rfl (lv_at hl 0 rfl) ?_
                        refine lv_iload hx hb dL_law_475 (lv_at hl 4 rfl) ?_
                        refine lv_iconst (v := 1) hx hb dL_law_477 (by decide) ?_
                        refine lv_iadd hx hb dL_law_478 ?_
                        obtain ⟨i106, hf⟩ := hf
                        refine va_sld hx hb hX hbl hbA hS i106 dL_law_479 ?_
                        refine lv_aload_n hx hb dL_law_480 rfl (lv_at hl 0 rfl) ?_
                        refine lv_iload hx hb dL_law_481 (lv_at hl 4 rfl) ?_
                        refine lv_iconst (v := 2) hx hb dL_law_483 (by decide) ?_
                        refine lv_iadd hx hb dL_law_484 ?_
                        obtain ⟨i107, hf⟩ := hf
                        refine va_sld hx hb hX hbl hbA hS i107 dL_law_485 ?_
                        refine hw_callVG E hR hS (As := [.int (xs (x4 + (1 : Int32)).toNatClampNeg), .int (xs (x4 + (2 : Int32)).toNatClampNeg)]) (rest := []) cI9 hs1 rfl mcX10_step miX10_step lmL_63 (ok_X10_step hs1 hf) rfl rfl (Nat.le_of_ble_eq_true rfl) (Nat.le_of_ble_eq_true rfl) (by show _ ≤ 601024; omega) (by show _ ≤ 7293034; omega) hl.1 (Nat.le_of_ble_eq_true rfl) dL_law_486 (fun rr m108 H locs hp hR hS => ?_)
                        obtain ⟨r109, rfl, hf⟩ := hp
                        refine W.eq (g2 := F0 m 489 ls [.int r109]) rfl ?_
                        refine lv_aload_n hx hb dL_law_489 rfl (lv_at hl 2 rfl) ?_
                        refine lv_aload_n hx hb dL_law_490 rfl (lv_at hl 0 rfl) ?_
                        refine lv_iload hx hb dL_law_491 (lv_at hl 4 rfl) ?_
                        refine lv_iconst (v := 1) hx hb dL_law_493 (by decide) ?_
                        refine lv_iadd hx hb dL_law_494 ?_
                        obtain ⟨i110, hf⟩ := hf
                        refine va_sld hx hb hX hbl hbA hS i110 dL_law_495 ?_
                        refine lv_aload_n hx hb dL_law_496 rfl (lv_at hl 0 rfl) ?_
                        refine lv_iload hx hb dL_law_497 (lv_at hl 4 rfl) ?_
                        refine lv_iconst (v := 2) hx hb dL_law_499 (by decide) ?_
                        refine lv_iadd hx hb dL_law_500 ?_
                        obtain ⟨i111, hf⟩ := hf
                        refine va_sld hx hb hX hbl hbA hS i111 dL_law_501 ?_
                        refine hw_callVG E hR hS (As := [.int (xs (x4 + (1 : Int32)).toNatClampNeg), .int (xs (x4 + (2 : Int32)).toNatClampNeg)]) (rest := [.int r109]) cI10 hs2 rfl mcX11_step miX11_step lmL_66 (ok_X11_step hs2 hf) rfl rfl (Nat.le_of_ble_eq_true rfl) (Nat.le_of_ble_eq_true rfl) (by show _ ≤ 601024; omega) (by show _ ≤ 7293034; omega) hl.1 (Nat.le_of_ble_eq_true rfl) dL_law_502 (fun rr m112 H locs hp hR hS => ?_)
                        obtain ⟨r113, rfl, hf⟩ := hp
                        refine W.eq (g2 := F0 m 505 ls [.int r113, .int r109]) rfl ?_
                        refine lv_icmp_eq (tgt := 1515) hx hb dL_law_505 (by decide) (fun c114 => ?_) (fun c114 => ?_)
                        · replace hf := hf.1 c114
                          obtain ⟨v115, ev115⟩ : ∃ y : Int32, y = x4 + (5 : Int32) := ⟨_, rfl⟩
                          replace hf := hf v115 ev115
                          refine lv_iinc (v := v115) (lv' := [(4, .int v115), (0, .ref b), (1, .ref (ad g a1)), (2, .ref (ad g a2)), (3, .ref (ad g a3))]) hx hb dL_law_1515 hl (k := 4) rfl (by rw [ev115]; rfl) (by decide) rfl (fun ls hl => ?_)
                          refine lv_goto (tgt := 23) hx hb dL_law_1518 (by decide) ?_
                          exact hBK23 _ _ _ _ _ _ _ (by omega) (by omega) hf hR hS (lv_sub hl [1, 2, 3, 4, 0] rfl)
                        · replace hf := hf.2 c114
                          refine lv_iconst (v := 0) hx hb dL_law_508 (by decide) ?_
                          exact hf.elim
                      · replace hf := hf.2 w105
                        rcases Decidable.em (((xs x4.toNatClampNeg) &&& (63 : Int32)) = 10) with w116 | w116
                        · replace hf := hf.1 w116
                          refine lv_tableIn (tgt := 510) hx hb dL_law_39 (by rw [w116]; decide) (by rw [w116]; decide) (by rw [w116]; rfl) (by decide) ?_
                          refine lv_aload_n hx hb dL_law_510 rfl (lv_at hl 1 rfl) ?_
                          refine lv_aload_n hx hb dL_law_511 rfl (lv_at hl 0 rfl) ?_
                          refine lv_iload hx hb dL_law_512 (lv_at hl 4 rfl) ?_
                          refine lv_iconst (v := 1) hx hb dL_law_514 (by decide) ?_
                          refine lv_iadd hx hb dL_law_515 ?_
                          obtain ⟨i117, hf⟩ := hf
                          refine va_sld hx hb hX hbl hbA hS i117 dL_law_516 ?_
                          refine lv_aload_n hx hb dL_law_517 rfl (lv_at hl 0 rfl) ?_
                          refine lv_iload hx hb dL_law_518 (lv_at hl 4 rfl) ?_
                          refine lv_iconst (v := 2) hx hb dL_law_520 (by decide) ?_
                          refine lv_iadd hx hb dL_law_521 ?_
                          obtain ⟨i118, hf⟩ := hf
                          refine va_sld hx hb hX hbl hbA hS i118 dL_law_522 ?_
                          refine lv_aload_n hx hb dL_law_523 rfl (lv_at hl 0 rfl) ?_
                          refine lv_iload hx hb dL_law_524 (lv_at hl 4 rfl) ?_
                          refine lv_iconst (v := 3) hx hb dL_law_526 (by decide) ?_
                          refine lv_iadd hx hb dL_law_527 ?_
                          obtain ⟨i119, hf⟩ := hf
                          refine va_sld hx hb hX hbl hbA hS i119 dL_law_528 ?_
                          refine lv_aload_n hx hb dL_law_529 rfl (lv_at hl 0 rfl) ?_
                          refine lv_iload hx hb dL_law_530 (lv_at hl 4 rfl) ?_
                          refine lv_iconst (v := 4) hx hb dL_law_532 (by decide) ?_
                          refine lv_iadd hx hb dL_law_533 ?_
                          obtain ⟨i120, hf⟩ := hf
                          refine va_sld hx hb hX hbl hbA hS i120 dL_law_534 ?_
                          refine hw_callVG E hR hS (As := [.int (xs (x4 + (1 : Int32)).toNatClampNeg), .int (xs (x4 + (2 : Int32)).toNatClampNeg), .int (xs (x4 + (3 : Int32)).toNatClampNeg), .int (xs (x4 + (4 : Int32)).toNatClampNeg)]) (rest := []) cI9 hs1 rfl mcX10_steps miX10_steps lmL_67 (ok_X10_steps hs1 hf) rfl rfl (Nat.le_of_ble_eq_true rfl) (Nat.le_of_ble_eq_true rfl) (by show _ ≤ 601024; omega) (by show _ ≤ 7293034; omega) hl.1 (Nat.le_of_ble_eq_true rfl) dL_law_535 (fun rr m121 H locs hp hR hS => ?_)
                          obtain ⟨r122, rfl, hf⟩ := hp
                          refine W.eq (g2 := F0 m 538 ls [.int r122]) rfl ?_
                          refine lv_aload_n hx hb dL_law_538 rfl (lv_at hl 2 rfl) ?_
                          refine lv_aload_n hx hb dL_law_539 rfl (lv_at hl 0 rfl) ?_
                          refine lv_iload hx hb dL_law_540 (lv_at hl 4 rfl) ?_
                          refine lv_iconst (v := 1) hx hb dL_law_542 (by decide) ?_
                          refine lv_iadd hx hb dL_law_543 ?_
                          obtain ⟨i123, hf⟩ := hf
                          refine va_sld hx hb hX hbl hbA hS i123 dL_law_544 ?_
                          refine lv_aload_n hx hb dL_law_545 rfl (lv_at hl 0 rfl) ?_
                          refine lv_iload hx hb dL_law_546 (lv_at hl 4 rfl) ?_
                          refine lv_iconst (v := 2) hx hb dL_law_548 (by decide) ?_
                          refine lv_iadd hx hb dL_law_549 ?_
                          obtain ⟨i124, hf⟩ := hf
                          refine va_sld hx hb hX hbl hbA hS i124 dL_law_550 ?_
                          refine lv_aload_n hx hb dL_law_551 rfl (lv_at hl 0 rfl) ?_
                          refine lv_iload hx hb dL_law_552 (lv_at hl 4 rfl) ?_
                          refine lv_iconst (v := 3) hx hb dL_law_554 (by decide) ?_
                          refine lv_iadd hx hb dL_law_555 ?_
                          obtain ⟨i125, hf⟩ := hf
                          refine va_sld hx hb hX hbl hbA hS i125 dL_law_556 ?_
                          refine lv_aload_n hx hb dL_law_557 rfl (lv_at hl 0 rfl) ?_
                          refine lv_iload hx hb dL_law_558 (lv_at hl 4 rfl) ?_
                          refine lv_iconst (v := 4) hx hb dL_law_560 (by decide) ?_
                          refine lv_iadd hx hb dL_law_561 ?_
                          obtain ⟨i126, hf⟩ := hf
                          refine va_sld hx hb hX hbl hbA hS i126 dL_law_562 ?_
                          refine hw_callVG E hR hS (As := [.int (xs (x4 + (1 : Int32)).toNatClampNeg), .int (xs (x4 + (2 : Int32)).toNatClampNeg), .int (xs (x4 + (3 : Int32)).toNatClampNeg), .int (xs (x4 + (4 : Int32)).toNatClampNeg)]) (rest := [.int r122]) cI10 hs2 rfl mcX11_steps miX11_steps lmL_71 (ok_X11_steps hs2 hf) rfl rfl (Nat.le_of_ble_eq_true rfl) (Nat.le_of_ble_eq_true rfl) (by show _ ≤ 601024; omega) (by show _ ≤ 7293034; omega) hl.1 (Nat.le_of_ble_eq_true rfl) dL_law_563 (fun rr m127 H locs hp hR hS => ?_)
                          obtain ⟨r128, rfl, hf⟩ := hp
                          refine W.eq (g2 := F0 m 566 ls [.int r128, .int r122]) rfl ?_
                          refine lv_icmp_eq (tgt := 1515) hx hb dL_law_566 (by decide) (fun c129 => ?_) (fun c129 => ?_)
                          · replace hf := hf.1 c129
                            obtain ⟨v130, ev130⟩ : ∃ y : Int32, y = x4 + (5 : Int32) := ⟨_, rfl⟩
                            replace hf := hf v130 ev130
                            refine lv_iinc (v := v130) (lv' := [(4, .int v130), (0, .ref b), (1, .ref (ad g a1)), (2, .ref (ad g a2)), (3, .ref (ad g a3))]) hx hb dL_law_1515 hl (k := 4) rfl (by rw [ev130]; rfl) (by decide) rfl (fun ls hl => ?_)
                            refine lv_goto (tgt := 23) hx hb dL_law_1518 (by decide) ?_
                            exact hBK23 _ _ _ _ _ _ _ (by omega) (by omega) hf hR hS (lv_sub hl [1, 2, 3, 4, 0] rfl)
                          · replace hf := hf.2 c129
                            refine lv_iconst (v := 0) hx hb dL_law_569 (by decide) ?_
                            exact hf.elim
                        · replace hf := hf.2 w116
                          rcases Decidable.em (((xs x4.toNatClampNeg) &&& (63 : Int32)) = 11) with w131 | w131
                          · replace hf := hf.1 w131
                            refine lv_tableIn (tgt := 571) hx hb dL_law_39 (by rw [w131]; decide) (by rw [w131]; decide) (by rw [w131]; rfl) (by decide) ?_
                            refine lv_aload_n hx hb dL_law_571 rfl (lv_at hl 1 rfl) ?_
                            refine lv_aload_n hx hb dL_law_572 rfl (lv_at hl 0 rfl) ?_
                            refine lv_iload hx hb dL_law_573 (lv_at hl 4 rfl) ?_
                            refine lv_iconst (v := 1) hx hb dL_law_575 (by decide) ?_
                            refine lv_iadd hx hb dL_law_576 ?_
                            obtain ⟨i132, hf⟩ := hf
                            refine va_sld hx hb hX hbl hbA hS i132 dL_law_577 ?_
                            refine lv_aload_n hx hb dL_law_578 rfl (lv_at hl 3 rfl) ?_
                            refine hw_callLT hT E hR hS (As := [.ref (ad g a1), .int (xs (x4 + (1 : Int32)).toNatClampNeg), .ref (ad g a3)]) (rest := []) cwL_at (ok_L_at hst hs1 hf) rfl rfl (Nat.le_of_ble_eq_true rfl) (Nat.le_of_ble_eq_true rfl) (by show _ ≤ 601024; omega) (by show _ ≤ 7293034; omega) hl.1 (Nat.le_of_ble_eq_true rfl) dL_law_579 (fun rr m133 H locs hp hR hS => ?_)
                            obtain ⟨r134, rfl, hf⟩ := hp
                            refine W.eq (g2 := F0 m 582 ls [.int r134]) rfl ?_
                            refine lv_istore (lv' := [(5, .int r134), (0, .ref b), (1, .ref (ad g a1)), (2, .ref (ad g a2)), (3, .ref (ad g a3)), (4, .int x4)]) hx hb dL_law_582 hl (by decide) rfl (fun ls hl => ?_)
                            refine lv_aload_n hx hb dL_law_584 rfl (lv_at hl 3 rfl) ?_
                            refine lv_aload_n hx hb dL_law_585 rfl (lv_at hl 1 rfl) ?_
                            refine lv_iload hx hb dL_law_586 (lv_at hl 5 rfl) ?_
                            refine lv_iconst (v := 1) hx hb dL_law_588 (by decide) ?_
                            refine lv_iadd hx hb dL_law_589 ?_
                            obtain ⟨i135, hf⟩ := hf
                            refine va_sld hx hb hX hbl hbA hS i135 dL_law_590 ?_
                            refine hw_callVG E hR hS (As := [.int (xs (x4 + (1 : Int32)).toNatClampNeg)]) (rest := []) cI10 hs2 rfl mcX11_at miX11_at lmL_77 (ok_X11_at hs2 hf) rfl rfl (Nat.le_of_ble_eq_true rfl) (Nat.le_of_ble_eq_true rfl) (by show _ ≤ 601024; omega) (by show _ ≤ 7293034; omega) hl.1 (Nat.le_of_ble_eq_true rfl) dL_law_591 (fun rr m136 H locs hp hR hS => ?_)
                            obtain ⟨r137, rfl, hf⟩ := hp
                            refine W.eq (g2 := F0 m 594 ls [.int r137]) rfl ?_
                            refine lv_istore (lv' := [(6, .int r137), (5, .int r134), (0, .ref b), (1, .ref (ad g a1)), (2, .ref (ad g a2)), (3, .ref (ad g a3)), (4, .int x4)]) hx hb dL_law_594 hl (by decide) rfl (fun ls hl => ?_)
                            refine lv_aload_n hx hb dL_law_596 rfl (lv_at hl 4 rfl) ?_
                            refine hw_callVG E hR hS (As := []) (rest := []) cI10 hs2 rfl mcX11_thrown miX11_thrown lmL_78 (ok_X11_thrown hs2 hf) rfl rfl (Nat.le_of_ble_eq_true rfl) (Nat.le_of_ble_eq_true rfl) (by show _ ≤ 601024; omega) (by show _ ≤ 7293034; omega) hl.1 (Nat.le_of_ble_eq_true rfl) dL_law_597 (fun rr m138 H locs hp hR hS => ?_)
                            obtain ⟨r139, rfl, hf⟩ := hp
                            refine W.eq (g2 := F0 m 600 ls [.int r139]) rfl ?_
                            refine lv_iload hx hb dL_law_600 (lv_at hl 1 rfl) ?_
                            refine lv_icmp_eq (tgt := 607) hx hb dL_law_602 (by decide) (fun c140 => ?_) (fun c140 => ?_)
                            · replace hf := hf.1 c140
                              refine lv_iload hx hb dL_law_607 (lv_at hl 1 rfl) ?_
                              refine lv_if_ne (tgt := 624) hx hb dL_law_609 (by decide) (fun c141 => ?_) (fun c141 => ?_)
                              · replace hf := hf.2 c141
                                refine lv_goto (tgt := 1515) hx hb dL_law_624 (by decide) ?_
                                obtain ⟨v142, ev142⟩ : ∃ y : Int32, y = x4 + (5 : Int32) := ⟨_, rfl⟩
                                replace hf := hf v142 ev142
                                refine lv_iinc (v := v142) (lv' := [(4, .int v142), (6, .int r137), (5, .int r134), (0, .ref b), (1, .ref (ad g a1)), (2, .ref (ad g a2)), (3, .ref (ad g a3))]) hx hb dL_law_1515 hl (k := 6) rfl (by rw [ev142]; rfl) (by decide) rfl (fun ls hl => ?_)
                                refine lv_goto (tgt := 23) hx hb dL_law_1518 (by decide) ?_
                                exact hBK23 _ _ _ _ _ _ _ (by omega) (by omega) hf hR hS (lv_sub hl [3, 4, 5, 6, 0] rfl)
                              · replace hf := hf.1 c141
                                refine lv_aload_n hx hb dL_law_612 rfl (lv_at hl 5 rfl) ?_
                                refine lv_iconst (v := 0) hx hb dL_law_613 (by decide) ?_
                                obtain ⟨n143, hn143, in143, hf⟩ := hf
                                refine hw_lald E hR hn143 in143 dL_law_614 ?_
                                refine lv_iload hx hb dL_law_615 (lv_at hl 0 rfl) ?_
                                refine lv_i2l hx hb dL_law_617 rfl ?_
                                refine hw_lif_eq (tgt := 624) hx hb dL_law_618 dL_law_619 (by decide) (fun c144 => ?_) (fun c144 => ?_)
                                · replace hf := hf.1 c144
                                  refine lv_goto (tgt := 1515) hx hb dL_law_624 (by decide) ?_
                                  obtain ⟨v145, ev145⟩ : ∃ y : Int32, y = x4 + (5 : Int32) := ⟨_, rfl⟩
                                  replace hf := hf v145 ev145
                                  refine lv_iinc (v := v145) (lv' := [(4, .int v145), (6, .int r137), (5, .int r134), (0, .ref b), (1, .ref (ad g a1)), (2, .ref (ad g a2)), (3, .ref (ad g a3))]) hx hb dL_law_1515 hl (k := 6) rfl (by rw [ev145]; rfl) (by decide) rfl (fun ls hl => ?_)
                                  refine lv_goto (tgt := 23) hx hb dL_law_1518 (by decide) ?_
                                  exact hBK23 _ _ _ _ _ _ _ (by omega) (by omega) hf hR hS (lv_sub hl [3, 4, 5, 6, 0] rfl)
                                · replace hf := hf.2 c144
                                  refine lv_iconst (v := 0) hx hb dL_law_622 (by decide) ?_
                                  exact hf.elim
                            · replace hf := hf.2 c140
                              refine lv_iconst (v := 0) hx hb dL_law_605 (by decide) ?_
                              exact hf.elim
                          · replace hf := hf.2 w131
                            rcases Decidable.em (((xs x4.toNatClampNeg) &&& (63 : Int32)) = 12) with w146 | w146
                            · replace hf := hf.1 w146
                              refine lv_tableIn (tgt := 627) hx hb dL_law_39 (by rw [w146]; decide) (by rw [w146]; decide) (by rw [w146]; rfl) (by decide) ?_
                              refine lv_aload_n hx hb dL_law_627 rfl (lv_at hl 1 rfl) ?_
                              refine hw_callVG E hR hS (As := []) (rest := []) cI9 hs1 rfl mcX10_ask miX10_ask lmL_81 (ok_X10_ask hs1 hf) rfl rfl (Nat.le_of_ble_eq_true rfl) (Nat.le_of_ble_eq_true rfl) (by show _ ≤ 601024; omega) (by show _ ≤ 7293034; omega) hl.1 (Nat.le_of_ble_eq_true rfl) dL_law_628 (fun rr m147 H locs hp hR hS => ?_)
                              obtain ⟨r148, rfl, hf⟩ := hp
                              refine W.eq (g2 := F0 m 631 ls [.int r148]) rfl ?_
                              refine lv_aload_n hx hb dL_law_631 rfl (lv_at hl 2 rfl) ?_
                              refine hw_callVG E hR hS (As := []) (rest := [.int r148]) cI10 hs2 rfl mcX11_ask miX11_ask lmL_84 (ok_X11_ask hs2 hf) rfl rfl (Nat.le_of_ble_eq_true rfl) (Nat.le_of_ble_eq_true rfl) (by show _ ≤ 601024; omega) (by show _ ≤ 7293034; omega) hl.1 (Nat.le_of_ble_eq_true rfl) dL_law_632 (fun rr m149 H locs hp hR hS => ?_)
                              obtain ⟨r150, rfl, hf⟩ := hp
                              refine W.eq (g2 := F0 m 635 ls [.int r150, .int r148]) rfl ?_
                              refine lv_icmp_eq (tgt := 1515) hx hb dL_law_635 (by decide) (fun c151 => ?_) (fun c151 => ?_)
                              · replace hf := hf.1 c151
                                obtain ⟨v152, ev152⟩ : ∃ y : Int32, y = x4 + (5 : Int32) := ⟨_, rfl⟩
                                replace hf := hf v152 ev152
                                refine lv_iinc (v := v152) (lv' := [(4, .int v152), (0, .ref b), (1, .ref (ad g a1)), (2, .ref (ad g a2)), (3, .ref (ad g a3))]) hx hb dL_law_1515 hl (k := 4) rfl (by rw [ev152]; rfl) (by decide) rfl (fun ls hl => ?_)
                                refine lv_goto (tgt := 23) hx hb dL_law_1518 (by decide) ?_
                                exact hBK23 _ _ _ _ _ _ _ (by omega) (by omega) hf hR hS (lv_sub hl [1, 2, 3, 4, 0] rfl)
                              · replace hf := hf.2 c151
                                refine lv_iconst (v := 0) hx hb dL_law_638 (by decide) ?_
                                exact hf.elim
                            · replace hf := hf.2 w146
                              rcases Decidable.em (((xs x4.toNatClampNeg) &&& (63 : Int32)) = 13) with w153 | w153
                              · replace hf := hf.1 w153
                                refine lv_tableIn (tgt := 640) hx hb dL_law_39 (by rw [w153]; decide) (by rw [w153]; decide) (by rw [w153]; rfl) (by decide) ?_
                                refine lv_aload_n hx hb dL_law_640 rfl (lv_at hl 1 rfl) ?_
                                refine lv_aload_n hx hb dL_law_641 rfl (lv_at hl 0 rfl) ?_
                                refine lv_iload hx hb dL_law_642 (lv_at hl 4 rfl) ?_
                                refine lv_iconst (v := 1) hx hb dL_law_644 (by decide) ?_
                                refine lv_iadd hx hb dL_law_645 ?_
                                obtain ⟨i154, hf⟩ := hf
                                refine va_sld hx hb hX hbl hbA hS i154 dL_law_646 ?_
                                refine hw_callVG E hR hS (As := [.int (xs (x4 + (1 : Int32)).toNatClampNeg)]) (rest := []) cI9 hs1 rfl mcX10_all miX10_all lmL_85 (ok_X10_all hs1 hf) rfl rfl (Nat.le_of_ble_eq_true rfl) (Nat.le_of_ble_eq_true rfl) (by show _ ≤ 601024; omega) (by show _ ≤ 7293034; omega) hl.1 (Nat.le_of_ble_eq_true rfl) dL_law_647 (fun rr m155 H locs hp hR hS => ?_)
                                obtain ⟨r156, rfl, hf⟩ := hp
                                refine W.eq (g2 := F0 m 650 ls [.int r156]) rfl ?_
                                refine lv_aload_n hx hb dL_law_650 rfl (lv_at hl 2 rfl) ?_
                                refine lv_aload_n hx hb dL_law_651 rfl (lv_at hl 0 rfl) ?_
                                refine lv_iload hx hb dL_law_652 (lv_at hl 4 rfl) ?_
                                refine lv_iconst (v := 1) hx hb dL_law_654 (by decide) ?_
                                refine lv_iadd hx hb dL_law_655 ?_
                                obtain ⟨i157, hf⟩ := hf
                                refine va_sld hx hb hX hbl hbA hS i157 dL_law_656 ?_
                                refine hw_callVG E hR hS (As := [.int (xs (x4 + (1 : Int32)).toNatClampNeg)]) (rest := [.int r156]) cI10 hs2 rfl mcX11_all miX11_all lmL_88 (ok_X11_all hs2 hf) rfl rfl (Nat.le_of_ble_eq_true rfl) (Nat.le_of_ble_eq_true rfl) (by show _ ≤ 601024; omega) (by show _ ≤ 7293034; omega) hl.1 (Nat.le_of_ble_eq_true rfl) dL_law_657 (fun rr m158 H locs hp hR hS => ?_)
                                obtain ⟨r159, rfl, hf⟩ := hp
                                refine W.eq (g2 := F0 m 660 ls [.int r159, .int r156]) rfl ?_
                                refine lv_icmp_eq (tgt := 1515) hx hb dL_law_660 (by decide) (fun c160 => ?_) (fun c160 => ?_)
                                · replace hf := hf.1 c160
                                  obtain ⟨v161, ev161⟩ : ∃ y : Int32, y = x4 + (5 : Int32) := ⟨_, rfl⟩
                                  replace hf := hf v161 ev161
                                  refine lv_iinc (v := v161) (lv' := [(4, .int v161), (0, .ref b), (1, .ref (ad g a1)), (2, .ref (ad g a2)), (3, .ref (ad g a3))]) hx hb dL_law_1515 hl (k := 4) rfl (by rw [ev161]; rfl) (by decide) rfl (fun ls hl => ?_)
                                  refine lv_goto (tgt := 23) hx hb dL_law_1518 (by decide) ?_
                                  exact hBK23 _ _ _ _ _ _ _ (by omega) (by omega) hf hR hS (lv_sub hl [1, 2, 3, 4, 0] rfl)
                                · replace hf := hf.2 c160
                                  refine lv_iconst (v := 0) hx hb dL_law_663 (by decide) ?_
                                  exact hf.elim
                              · replace hf := hf.2 w153
                                rcases Decidable.em (((xs x4.toNatClampNeg) &&& (63 : Int32)) = 14) with w162 | w162
                                · replace hf := hf.1 w162
                                  refine lv_tableIn (tgt := 665) hx hb dL_law_39 (by rw [w162]; decide) (by rw [w162]; decide) (by rw [w162]; rfl) (by decide) ?_
                                  refine lv_aload_n hx hb dL_law_665 rfl (lv_at hl 1 rfl) ?_
                                  refine lv_aload_n hx hb dL_law_666 rfl (lv_at hl 0 rfl) ?_
                                  refine lv_iload hx hb dL_law_667 (lv_at hl 4 rfl) ?_
                                  refine lv_iconst (v := 1) hx hb dL_law_669 (by decide) ?_
                                  refine lv_iadd hx hb dL_law_670 ?_
                                  obtain ⟨i163, hf⟩ := hf
                                  refine va_sld hx hb hX hbl hbA hS i163 dL_law_671 ?_
                                  refine hw_callVG E hR hS (As := [.int (xs (x4 + (1 : Int32)).toNatClampNeg)]) (rest := []) cI9 hs1 rfl mcX10_never miX10_never lmL_89 (ok_X10_never hs1 hf) rfl rfl (Nat.le_of_ble_eq_true rfl) (Nat.le_of_ble_eq_true rfl) (by show _ ≤ 601024; omega) (by show _ ≤ 7293034; omega) hl.1 (Nat.le_of_ble_eq_true rfl) dL_law_672 (fun rr m164 H locs hp hR hS => ?_)
                                  obtain ⟨r165, rfl, hf⟩ := hp
                                  refine W.eq (g2 := F0 m 675 ls [.int r165]) rfl ?_
                                  refine lv_aload_n hx hb dL_law_675 rfl (lv_at hl 2 rfl) ?_
                                  refine lv_aload_n hx hb dL_law_676 rfl (lv_at hl 0 rfl) ?_
                                  refine lv_iload hx hb dL_law_677 (lv_at hl 4 rfl) ?_
                                  refine lv_iconst (v := 1) hx hb dL_law_679 (by decide) ?_
                                  refine lv_iadd hx hb dL_law_680 ?_
                                  obtain ⟨i166, hf⟩ := hf
                                  refine va_sld hx hb hX hbl hbA hS i166 dL_law_681 ?_
                                  refine hw_callVG E hR hS (As := [.int (xs (x4 + (1 : Int32)).toNatClampNeg)]) (rest := [.int r165]) cI10 hs2 rfl mcX11_never miX11_never lmL_92 (ok_X11_never hs2 hf) rfl rfl (Nat.le_of_ble_eq_true rfl) (Nat.le_of_ble_eq_true rfl) (by show _ ≤ 601024; omega) (by show _ ≤ 7293034; omega) hl.1 (Nat.le_of_ble_eq_true rfl) dL_law_682 (fun rr m167 H locs hp hR hS => ?_)
                                  obtain ⟨r168, rfl, hf⟩ := hp
                                  refine W.eq (g2 := F0 m 685 ls [.int r168, .int r165]) rfl ?_
                                  refine lv_icmp_eq (tgt := 1515) hx hb dL_law_685 (by decide) (fun c169 => ?_) (fun c169 => ?_)
                                  · replace hf := hf.1 c169
                                    obtain ⟨v170, ev170⟩ : ∃ y : Int32, y = x4 + (5 : Int32) := ⟨_, rfl⟩
                                    replace hf := hf v170 ev170
                                    refine lv_iinc (v := v170) (lv' := [(4, .int v170), (0, .ref b), (1, .ref (ad g a1)), (2, .ref (ad g a2)), (3, .ref (ad g a3))]) hx hb dL_law_1515 hl (k := 4) rfl (by rw [ev170]; rfl) (by decide) rfl (fun ls hl => ?_)
                                    refine lv_goto (tgt := 23) hx hb dL_law_1518 (by decide) ?_
                                    exact hBK23 _ _ _ _ _ _ _ (by omega) (by omega) hf hR hS (lv_sub hl [1, 2, 3, 4, 0] rfl)
                                  · replace hf := hf.2 c169
                                    refine lv_iconst (v := 0) hx hb dL_law_688 (by decide) ?_
                                    exact hf.elim
                                · replace hf := hf.2 w162
                                  rcases Decidable.em (((xs x4.toNatClampNeg) &&& (63 : Int32)) = 15) with w171 | w171
                                  · replace hf := hf.1 w171
                                    refine lv_tableIn (tgt := 690) hx hb dL_law_39 (by rw [w171]; decide) (by rw [w171]; decide) (by rw [w171]; rfl) (by decide) ?_
                                    refine lv_aload_n hx hb dL_law_690 rfl (lv_at hl 1 rfl) ?_
                                    refine lv_aload_n hx hb dL_law_691 rfl (lv_at hl 0 rfl) ?_
                                    refine lv_iload hx hb dL_law_692 (lv_at hl 4 rfl) ?_
                                    refine lv_iconst (v := 1) hx hb dL_law_694 (by decide) ?_
                                    refine lv_iadd hx hb dL_law_695 ?_
                                    obtain ⟨i172, hf⟩ := hf
                                    refine va_sld hx hb hX hbl hbA hS i172 dL_law_696 ?_
                                    refine hw_callVG E hR hS (As := [.int (xs (x4 + (1 : Int32)).toNatClampNeg)]) (rest := []) cI9 hs1 rfl mcX10_reach miX10_reach lmL_93 (ok_X10_reach hs1 hf) rfl rfl (Nat.le_of_ble_eq_true rfl) (Nat.le_of_ble_eq_true rfl) (by show _ ≤ 601024; omega) (by show _ ≤ 7293034; omega) hl.1 (Nat.le_of_ble_eq_true rfl) dL_law_697 (fun rr m173 H locs hp hR hS => ?_)
                                    obtain ⟨r174, rfl, hf⟩ := hp
                                    refine W.eq (g2 := F0 m 700 ls [.int r174]) rfl ?_
                                    refine lv_aload_n hx hb dL_law_700 rfl (lv_at hl 2 rfl) ?_
                                    refine lv_aload_n hx hb dL_law_701 rfl (lv_at hl 0 rfl) ?_
                                    refine lv_iload hx hb dL_law_702 (lv_at hl 4 rfl) ?_
                                    refine lv_iconst (v := 1) hx hb dL_law_704 (by decide) ?_
                                    refine lv_iadd hx hb dL_law_705 ?_
                                    obtain ⟨i175, hf⟩ := hf
                                    refine va_sld hx hb hX hbl hbA hS i175 dL_law_706 ?_
                                    refine hw_callVG E hR hS (As := [.int (xs (x4 + (1 : Int32)).toNatClampNeg)]) (rest := [.int r174]) cI10 hs2 rfl mcX11_reach miX11_reach lmL_96 (ok_X11_reach hs2 hf) rfl rfl (Nat.le_of_ble_eq_true rfl) (Nat.le_of_ble_eq_true rfl) (by show _ ≤ 601024; omega) (by show _ ≤ 7293034; omega) hl.1 (Nat.le_of_ble_eq_true rfl) dL_law_707 (fun rr m176 H locs hp hR hS => ?_)
                                    obtain ⟨r177, rfl, hf⟩ := hp
                                    refine W.eq (g2 := F0 m 710 ls [.int r177, .int r174]) rfl ?_
                                    refine lv_icmp_eq (tgt := 1515) hx hb dL_law_710 (by decide) (fun c178 => ?_) (fun c178 => ?_)
                                    · replace hf := hf.1 c178
                                      obtain ⟨v179, ev179⟩ : ∃ y : Int32, y = x4 + (5 : Int32) := ⟨_, rfl⟩
                                      replace hf := hf v179 ev179
                                      refine lv_iinc (v := v179) (lv' := [(4, .int v179), (0, .ref b), (1, .ref (ad g a1)), (2, .ref (ad g a2)), (3, .ref (ad g a3))]) hx hb dL_law_1515 hl (k := 4) rfl (by rw [ev179]; rfl) (by decide) rfl (fun ls hl => ?_)
                                      refine lv_goto (tgt := 23) hx hb dL_law_1518 (by decide) ?_
                                      exact hBK23 _ _ _ _ _ _ _ (by omega) (by omega) hf hR hS (lv_sub hl [1, 2, 3, 4, 0] rfl)
                                    · replace hf := hf.2 c178
                                      refine lv_iconst (v := 0) hx hb dL_law_713 (by decide) ?_
                                      exact hf.elim
                                  · replace hf := hf.2 w171
                                    rcases Decidable.em (((xs x4.toNatClampNeg) &&& (63 : Int32)) = 16) with w180 | w180
                                    · replace hf := hf.1 w180
                                      refine lv_tableIn (tgt := 715) hx hb dL_law_39 (by rw [w180]; decide) (by rw [w180]; decide) (by rw [w180]; rfl) (by decide) ?_
                                      refine lv_aload_n hx hb dL_law_715 rfl (lv_at hl 1 rfl) ?_
                                      refine lv_aload_n hx hb dL_law_716 rfl (lv_at hl 0 rfl) ?_
                                      refine lv_iload hx hb dL_law_717 (lv_at hl 4 rfl) ?_
                                      refine lv_iconst (v := 1) hx hb dL_law_719 (by decide) ?_
                                      refine lv_iadd hx hb dL_law_720 ?_
                                      obtain ⟨i181, hf⟩ := hf
                                      refine va_sld hx hb hX hbl hbA hS i181 dL_law_721 ?_
                                      refine hw_callVG E hR hS (As := [.int (xs (x4 + (1 : Int32)).toNatClampNeg)]) (rest := []) cI9 hs1 rfl mcX10_stuck miX10_stuck lmL_97 (ok_X10_stuck hs1 hf) rfl rfl (Nat.le_of_ble_eq_true rfl) (Nat.le_of_ble_eq_true rfl) (by show _ ≤ 601024; omega) (by show _ ≤ 7293034; omega) hl.1 (Nat.le_of_ble_eq_true rfl) dL_law_722 (fun rr m182 H locs hp hR hS => ?_)
                                      obtain ⟨r183, rfl, hf⟩ := hp
                                      refine W.eq (g2 := F0 m 725 ls [.int r183]) rfl ?_
                                      refine lv_aload_n hx hb dL_law_725 rfl (lv_at hl 2 rfl) ?_
                                      refine lv_aload_n hx hb dL_law_726 rfl (lv_at hl 0 rfl) ?_
                                      refine lv_iload hx hb dL_law_727 (lv_at hl 4 rfl) ?_
                                      refine lv_iconst (v := 1) hx hb dL_law_729 (by decide) ?_
                                      refine lv_iadd hx hb dL_law_730 ?_
                                      obtain ⟨i184, hf⟩ := hf
                                      refine va_sld hx hb hX hbl hbA hS i184 dL_law_731 ?_
                                      refine hw_callVG E hR hS (As := [.int (xs (x4 + (1 : Int32)).toNatClampNeg)]) (rest := [.int r183]) cI10 hs2 rfl mcX11_stuck miX11_stuck lmL_100 (ok_X11_stuck hs2 hf) rfl rfl (Nat.le_of_ble_eq_true rfl) (Nat.le_of_ble_eq_true rfl) (by show _ ≤ 601024; omega) (by show _ ≤ 7293034; omega) hl.1 (Nat.le_of_ble_eq_true rfl) dL_law_732 (fun rr m185 H locs hp hR hS => ?_)
                                      obtain ⟨r186, rfl, hf⟩ := hp
                                      refine W.eq (g2 := F0 m 735 ls [.int r186, .int r183]) rfl ?_
                                      refine lv_icmp_eq (tgt := 1515) hx hb dL_law_735 (by decide) (fun c187 => ?_) (fun c187 => ?_)
                                      · replace hf := hf.1 c187
                                        obtain ⟨v188, ev188⟩ : ∃ y : Int32, y = x4 + (5 : Int32) := ⟨_, rfl⟩
                                        replace hf := hf v188 ev188
                                        refine lv_iinc (v := v188) (lv' := [(4, .int v188), (0, .ref b), (1, .ref (ad g a1)), (2, .ref (ad g a2)), (3, .ref (ad g a3))]) hx hb dL_law_1515 hl (k := 4) rfl (by rw [ev188]; rfl) (by decide) rfl (fun ls hl => ?_)
                                        refine lv_goto (tgt := 23) hx hb dL_law_1518 (by decide) ?_
                                        exact hBK23 _ _ _ _ _ _ _ (by omega) (by omega) hf hR hS (lv_sub hl [1, 2, 3, 4, 0] rfl)
                                      · replace hf := hf.2 c187
                                        refine lv_iconst (v := 0) hx hb dL_law_738 (by decide) ?_
                                        exact hf.elim
                                    · replace hf := hf.2 w180
                                      rcases Decidable.em (((xs x4.toNatClampNeg) &&& (63 : Int32)) = 17) with w189 | w189
                                      · replace hf := hf.1 w189
                                        refine lv_tableIn (tgt := 740) hx hb dL_law_39 (by rw [w189]; decide) (by rw [w189]; decide) (by rw [w189]; rfl) (by decide) ?_
                                        refine lv_aload_n hx hb dL_law_740 rfl (lv_at hl 1 rfl) ?_
                                        refine lv_aload_n hx hb dL_law_741 rfl (lv_at hl 0 rfl) ?_
                                        refine lv_iload hx hb dL_law_742 (lv_at hl 4 rfl) ?_
                                        refine lv_iconst (v := 1) hx hb dL_law_744 (by decide) ?_
                                        refine lv_iadd hx hb dL_law_745 ?_
                                        obtain ⟨i190, hf⟩ := hf
                                        refine va_sld hx hb hX hbl hbA hS i190 dL_law_746 ?_
                                        refine hw_callVG E hR hS (As := [.int (xs (x4 + (1 : Int32)).toNatClampNeg)]) (rest := []) cI9 hs1 rfl mcX10_runs miX10_runs lmL_101 (ok_X10_runs hs1 hf) rfl rfl (Nat.le_of_ble_eq_true rfl) (Nat.le_of_ble_eq_true rfl) (by show _ ≤ 601024; omega) (by show _ ≤ 7293034; omega) hl.1 (Nat.le_of_ble_eq_true rfl) dL_law_747 (fun rr m191 H locs hp hR hS => ?_)
                                        obtain ⟨r192, rfl, hf⟩ := hp
                                        refine W.eq (g2 := F0 m 750 ls [.int r192]) rfl ?_
                                        refine lv_aload_n hx hb dL_law_750 rfl (lv_at hl 2 rfl) ?_
                                        refine lv_aload_n hx hb dL_law_751 rfl (lv_at hl 0 rfl) ?_
                                        refine lv_iload hx hb dL_law_752 (lv_at hl 4 rfl) ?_
                                        refine lv_iconst (v := 1) hx hb dL_law_754 (by decide) ?_
                                        refine lv_iadd hx hb dL_law_755 ?_
                                        obtain ⟨i193, hf⟩ := hf
                                        refine va_sld hx hb hX hbl hbA hS i193 dL_law_756 ?_
                                        refine hw_callVG E hR hS (As := [.int (xs (x4 + (1 : Int32)).toNatClampNeg)]) (rest := [.int r192]) cI10 hs2 rfl mcX11_runs miX11_runs lmL_104 (ok_X11_runs hs2 hf) rfl rfl (Nat.le_of_ble_eq_true rfl) (Nat.le_of_ble_eq_true rfl) (by show _ ≤ 601024; omega) (by show _ ≤ 7293034; omega) hl.1 (Nat.le_of_ble_eq_true rfl) dL_law_757 (fun rr m194 H locs hp hR hS => ?_)
                                        obtain ⟨r195, rfl, hf⟩ := hp
                                        refine W.eq (g2 := F0 m 760 ls [.int r195, .int r192]) rfl ?_
                                        refine lv_icmp_eq (tgt := 1515) hx hb dL_law_760 (by decide) (fun c196 => ?_) (fun c196 => ?_)
                                        · replace hf := hf.1 c196
                                          obtain ⟨v197, ev197⟩ : ∃ y : Int32, y = x4 + (5 : Int32) := ⟨_, rfl⟩
                                          replace hf := hf v197 ev197
                                          refine lv_iinc (v := v197) (lv' := [(4, .int v197), (0, .ref b), (1, .ref (ad g a1)), (2, .ref (ad g a2)), (3, .ref (ad g a3))]) hx hb dL_law_1515 hl (k := 4) rfl (by rw [ev197]; rfl) (by decide) rfl (fun ls hl => ?_)
                                          refine lv_goto (tgt := 23) hx hb dL_law_1518 (by decide) ?_
                                          exact hBK23 _ _ _ _ _ _ _ (by omega) (by omega) hf hR hS (lv_sub hl [1, 2, 3, 4, 0] rfl)
                                        · replace hf := hf.2 c196
                                          refine lv_iconst (v := 0) hx hb dL_law_763 (by decide) ?_
                                          exact hf.elim
                                      · replace hf := hf.2 w189
                                        rcases Decidable.em (((xs x4.toNatClampNeg) &&& (63 : Int32)) = 18) with w198 | w198
                                        · replace hf := hf.1 w198
                                          refine lv_tableIn (tgt := 765) hx hb dL_law_39 (by rw [w198]; decide) (by rw [w198]; decide) (by rw [w198]; rfl) (by decide) ?_
                                          refine lv_aload_n hx hb dL_law_765 rfl (lv_at hl 1 rfl) ?_
                                          refine lv_aload_n hx hb dL_law_766 rfl (lv_at hl 0 rfl) ?_
                                          refine lv_iload hx hb dL_law_767 (lv_at hl 4 rfl) ?_
                                          refine lv_iconst (v := 1) hx hb dL_law_769 (by decide) ?_
                                          refine lv_iadd hx hb dL_law_770 ?_
                                          obtain ⟨i199, hf⟩ := hf
                                          refine va_sld hx hb hX hbl hbA hS i199 dL_law_771 ?_
                                          refine lv_aload_n hx hb dL_law_772 rfl (lv_at hl 0 rfl) ?_
                                          refine lv_iload hx hb dL_law_773 (lv_at hl 4 rfl) ?_
                                          refine lv_iconst (v := 2) hx hb dL_law_775 (by decide) ?_
                                          refine lv_iadd hx hb dL_law_776 ?_
                                          obtain ⟨i200, hf⟩ := hf
                                          refine va_sld hx hb hX hbl hbA hS i200 dL_law_777 ?_
                                          refine lv_aload_n hx hb dL_law_778 rfl (lv_at hl 0 rfl) ?_
                                          refine lv_iload hx hb dL_law_779 (lv_at hl 4 rfl) ?_
                                          refine lv_iconst (v := 3) hx hb dL_law_781 (by decide) ?_
                                          refine lv_iadd hx hb dL_law_782 ?_
                                          obtain ⟨i201, hf⟩ := hf
                                          refine va_sld hx hb hX hbl hbA hS i201 dL_law_783 ?_
                                          refine hw_callVG E hR hS (As := [.int (xs (x4 + (1 : Int32)).toNatClampNeg), .int (xs (x4 + (2 : Int32)).toNatClampNeg), .int (xs (x4 + (3 : Int32)).toNatClampNeg)]) (rest := []) cI9 hs1 rfl mcX10_weight miX10_weight lmL_105 (ok_X10_weight hs1 hf) rfl rfl (Nat.le_of_ble_eq_true rfl) (Nat.le_of_ble_eq_true rfl) (by show _ ≤ 601024; omega) (by show _ ≤ 7293034; omega) hl.1 (Nat.le_of_ble_eq_true rfl) dL_law_784 (fun rr m202 H locs hp hR hS => ?_)
                                          obtain ⟨r203, rfl, hf⟩ := hp
                                          refine W.eq (g2 := F0 m 787 ls [.int r203]) rfl ?_
                                          refine lv_aload_n hx hb dL_law_787 rfl (lv_at hl 2 rfl) ?_
                                          refine lv_aload_n hx hb dL_law_788 rfl (lv_at hl 0 rfl) ?_
                                          refine lv_iload hx hb dL_law_789 (lv_at hl 4 rfl) ?_
                                          refine lv_iconst (v := 1) hx hb dL_law_791 (by decide) ?_
                                          refine lv_iadd hx hb dL_law_792 ?_
                                          obtain ⟨i204, hf⟩ := hf
                                          refine va_sld hx hb hX hbl hbA hS i204 dL_law_793 ?_
                                          refine lv_aload_n hx hb dL_law_794 rfl (lv_at hl 0 rfl) ?_
                                          refine lv_iload hx hb dL_law_795 (lv_at hl 4 rfl) ?_
                                          refine lv_iconst (v := 2) hx hb dL_law_797 (by decide) ?_
                                          refine lv_iadd hx hb dL_law_798 ?_
                                          obtain ⟨i205, hf⟩ := hf
                                          refine va_sld hx hb hX hbl hbA hS i205 dL_law_799 ?_
                                          refine lv_aload_n hx hb dL_law_800 rfl (lv_at hl 0 rfl) ?_
                                          refine lv_iload hx hb dL_law_801 (lv_at hl 4 rfl) ?_
                                          refine lv_iconst (v := 3) hx hb dL_law_803 (by decide) ?_
                                          refine lv_iadd hx hb dL_law_804 ?_
                                          obtain ⟨i206, hf⟩ := hf
                                          refine va_sld hx hb hX hbl hbA hS i206 dL_law_805 ?_
                                          refine hw_callVG E hR hS (As := [.int (xs (x4 + (1 : Int32)).toNatClampNeg), .int (xs (x4 + (2 : Int32)).toNatClampNeg), .int (xs (x4 + (3 : Int32)).toNatClampNeg)]) (rest := [.int r203]) cI10 hs2 rfl mcX11_weight miX11_weight lmL_109 (ok_X11_weight hs2 hf) rfl rfl (Nat.le_of_ble_eq_true rfl) (Nat.le_of_ble_eq_true rfl) (by show _ ≤ 601024; omega) (by show _ ≤ 7293034; omega) hl.1 (Nat.le_of_ble_eq_true rfl) dL_law_806 (fun rr m207 H locs hp hR hS => ?_)
                                          obtain ⟨r208, rfl, hf⟩ := hp
                                          refine W.eq (g2 := F0 m 809 ls [.int r208, .int r203]) rfl ?_
                                          refine lv_icmp_eq (tgt := 1515) hx hb dL_law_809 (by decide) (fun c209 => ?_) (fun c209 => ?_)
                                          · replace hf := hf.1 c209
                                            obtain ⟨v210, ev210⟩ : ∃ y : Int32, y = x4 + (5 : Int32) := ⟨_, rfl⟩
                                            replace hf := hf v210 ev210
                                            refine lv_iinc (v := v210) (lv' := [(4, .int v210), (0, .ref b), (1, .ref (ad g a1)), (2, .ref (ad g a2)), (3, .ref (ad g a3))]) hx hb dL_law_1515 hl (k := 4) rfl (by rw [ev210]; rfl) (by decide) rfl (fun ls hl => ?_)
                                            refine lv_goto (tgt := 23) hx hb dL_law_1518 (by decide) ?_
                                            exact hBK23 _ _ _ _ _ _ _ (by omega) (by omega) hf hR hS (lv_sub hl [1, 2, 3, 4, 0] rfl)
                                          · replace hf := hf.2 c209
                                            refine lv_iconst (v := 0) hx hb dL_law_812 (by decide) ?_
                                            exact hf.elim
                                        · replace hf := hf.2 w198
                                          rcases Decidable.em (((xs x4.toNatClampNeg) &&& (63 : Int32)) = 19) with w211 | w211
                                          · replace hf := hf.1 w211
                                            refine lv_tableIn (tgt := 814) hx hb dL_law_39 (by rw [w211]; decide) (by rw [w211]; decide) (by rw [w211]; rfl) (by decide) ?_
                                            refine lv_aload_n hx hb dL_law_814 rfl (lv_at hl 1 rfl) ?_
                                            refine lv_aload_n hx hb dL_law_815 rfl (lv_at hl 0 rfl) ?_
                                            refine lv_iload hx hb dL_law_816 (lv_at hl 4 rfl) ?_
                                            refine lv_iconst (v := 1) hx hb dL_law_818 (by decide) ?_
                                            refine lv_iadd hx hb dL_law_819 ?_
                                            obtain ⟨i212, hf⟩ := hf
                                            refine va_sld hx hb hX hbl hbA hS i212 dL_law_820 ?_
                                            refine lv_aload_n hx hb dL_law_821 rfl (lv_at hl 0 rfl) ?_
                                            refine lv_iload hx hb dL_law_822 (lv_at hl 4 rfl) ?_
                                            refine lv_iconst (v := 2) hx hb dL_law_824 (by decide) ?_
                                            refine lv_iadd hx hb dL_law_825 ?_
                                            obtain ⟨i213, hf⟩ := hf
                                            refine va_sld hx hb hX hbl hbA hS i213 dL_law_826 ?_
                                            refine hw_callVG E hR hS (As := [.int (xs (x4 + (1 : Int32)).toNatClampNeg), .int (xs (x4 + (2 : Int32)).toNatClampNeg)]) (rest := []) cI9 hs1 rfl mcX10_odds miX10_odds lmL_110 (ok_X10_odds hs1 hf) rfl rfl (Nat.le_of_ble_eq_true rfl) (Nat.le_of_ble_eq_true rfl) (by show _ ≤ 601024; omega) (by show _ ≤ 7293034; omega) hl.1 (Nat.le_of_ble_eq_true rfl) dL_law_827 (fun rr m214 H locs hp hR hS => ?_)
                                            obtain ⟨r215, rfl, hf⟩ := hp
                                            refine W.eq (g2 := F0 m 830 ls [.int r215]) rfl ?_
                                            refine lv_aload_n hx hb dL_law_830 rfl (lv_at hl 2 rfl) ?_
                                            refine lv_aload_n hx hb dL_law_831 rfl (lv_at hl 0 rfl) ?_
                                            refine lv_iload hx hb dL_law_832 (lv_at hl 4 rfl) ?_
                                            refine lv_iconst (v := 1) hx hb dL_law_834 (by decide) ?_
                                            refine lv_iadd hx hb dL_law_835 ?_
                                            obtain ⟨i216, hf⟩ := hf
                                            refine va_sld hx hb hX hbl hbA hS i216 dL_law_836 ?_
                                            refine lv_aload_n hx hb dL_law_837 rfl (lv_at hl 0 rfl) ?_
                                            refine lv_iload hx hb dL_law_838 (lv_at hl 4 rfl) ?_
                                            refine lv_iconst (v := 2) hx hb dL_law_840 (by decide) ?_
                                            refine lv_iadd hx hb dL_law_841 ?_
                                            obtain ⟨i217, hf⟩ := hf
                                            refine va_sld hx hb hX hbl hbA hS i217 dL_law_842 ?_
                                            refine hw_callVG E hR hS (As := [.int (xs (x4 + (1 : Int32)).toNatClampNeg), .int (xs (x4 + (2 : Int32)).toNatClampNeg)]) (rest := [.int r215]) cI10 hs2 rfl mcX11_odds miX11_odds lmL_113 (ok_X11_odds hs2 hf) rfl rfl (Nat.le_of_ble_eq_true rfl) (Nat.le_of_ble_eq_true rfl) (by show _ ≤ 601024; omega) (by show _ ≤ 7293034; omega) hl.1 (Nat.le_of_ble_eq_true rfl) dL_law_843 (fun rr m218 H locs hp hR hS => ?_)
                                            obtain ⟨r219, rfl, hf⟩ := hp
                                            refine W.eq (g2 := F0 m 846 ls [.int r219, .int r215]) rfl ?_
                                            refine lv_icmp_eq (tgt := 1515) hx hb dL_law_846 (by decide) (fun c220 => ?_) (fun c220 => ?_)
                                            · replace hf := hf.1 c220
                                              obtain ⟨v221, ev221⟩ : ∃ y : Int32, y = x4 + (5 : Int32) := ⟨_, rfl⟩
                                              replace hf := hf v221 ev221
                                              refine lv_iinc (v := v221) (lv' := [(4, .int v221), (0, .ref b), (1, .ref (ad g a1)), (2, .ref (ad g a2)), (3, .ref (ad g a3))]) hx hb dL_law_1515 hl (k := 4) rfl (by rw [ev221]; rfl) (by decide) rfl (fun ls hl => ?_)
                                              refine lv_goto (tgt := 23) hx hb dL_law_1518 (by decide) ?_
                                              exact hBK23 _ _ _ _ _ _ _ (by omega) (by omega) hf hR hS (lv_sub hl [1, 2, 3, 4, 0] rfl)
                                            · replace hf := hf.2 c220
                                              refine lv_iconst (v := 0) hx hb dL_law_849 (by decide) ?_
                                              exact hf.elim
                                          · replace hf := hf.2 w211
                                            rcases Decidable.em (((xs x4.toNatClampNeg) &&& (63 : Int32)) = 20) with w222 | w222
                                            · replace hf := hf.1 w222
                                              refine lv_tableIn (tgt := 851) hx hb dL_law_39 (by rw [w222]; decide) (by rw [w222]; decide) (by rw [w222]; rfl) (by decide) ?_
                                              refine lv_aload_n hx hb dL_law_851 rfl (lv_at hl 1 rfl) ?_
                                              refine lv_aload_n hx hb dL_law_852 rfl (lv_at hl 0 rfl) ?_
                                              refine lv_iload hx hb dL_law_853 (lv_at hl 4 rfl) ?_
                                              refine lv_iconst (v := 1) hx hb dL_law_855 (by decide) ?_
                                              refine lv_iadd hx hb dL_law_856 ?_
                                              obtain ⟨i223, hf⟩ := hf
                                              refine va_sld hx hb hX hbl hbA hS i223 dL_law_857 ?_
                                              refine hw_callVG E hR hS (As := [.int (xs (x4 + (1 : Int32)).toNatClampNeg)]) (rest := []) cI9 hs1 rfl mcX10_quick miX10_quick lmL_114 (ok_X10_quick hs1 hf) rfl rfl (Nat.le_of_ble_eq_true rfl) (Nat.le_of_ble_eq_true rfl) (by show _ ≤ 601024; omega) (by show _ ≤ 7293034; omega) hl.1 (Nat.le_of_ble_eq_true rfl) dL_law_858 (fun rr m224 H locs hp hR hS => ?_)
                                              obtain ⟨r225, rfl, hf⟩ := hp
                                              refine W.eq (g2 := F0 m 861 ls [.int r225]) rfl ?_
                                              refine lv_aload_n hx hb dL_law_861 rfl (lv_at hl 2 rfl) ?_
                                              refine lv_aload_n hx hb dL_law_862 rfl (lv_at hl 0 rfl) ?_
                                              refine lv_iload hx hb dL_law_863 (lv_at hl 4 rfl) ?_
                                              refine lv_iconst (v := 1) hx hb dL_law_865 (by decide) ?_
                                              refine lv_iadd hx hb dL_law_866 ?_
                                              obtain ⟨i226, hf⟩ := hf
                                              refine va_sld hx hb hX hbl hbA hS i226 dL_law_867 ?_
                                              refine hw_callVG E hR hS (As := [.int (xs (x4 + (1 : Int32)).toNatClampNeg)]) (rest := [.int r225]) cI10 hs2 rfl mcX11_quick miX11_quick lmL_117 (ok_X11_quick hs2 hf) rfl rfl (Nat.le_of_ble_eq_true rfl) (Nat.le_of_ble_eq_true rfl) (by show _ ≤ 601024; omega) (by show _ ≤ 7293034; omega) hl.1 (Nat.le_of_ble_eq_true rfl) dL_law_868 (fun rr m227 H locs hp hR hS => ?_)
                                              obtain ⟨r228, rfl, hf⟩ := hp
                                              refine W.eq (g2 := F0 m 871 ls [.int r228, .int r225]) rfl ?_
                                              refine lv_icmp_eq (tgt := 1515) hx hb dL_law_871 (by decide) (fun c229 => ?_) (fun c229 => ?_)
                                              · replace hf := hf.1 c229
                                                obtain ⟨v230, ev230⟩ : ∃ y : Int32, y = x4 + (5 : Int32) := ⟨_, rfl⟩
                                                replace hf := hf v230 ev230
                                                refine lv_iinc (v := v230) (lv' := [(4, .int v230), (0, .ref b), (1, .ref (ad g a1)), (2, .ref (ad g a2)), (3, .ref (ad g a3))]) hx hb dL_law_1515 hl (k := 4) rfl (by rw [ev230]; rfl) (by decide) rfl (fun ls hl => ?_)
                                                refine lv_goto (tgt := 23) hx hb dL_law_1518 (by decide) ?_
                                                exact hBK23 _ _ _ _ _ _ _ (by omega) (by omega) hf hR hS (lv_sub hl [1, 2, 3, 4, 0] rfl)
                                              · replace hf := hf.2 c229
                                                refine lv_iconst (v := 0) hx hb dL_law_874 (by decide) ?_
                                                exact hf.elim
                                            · replace hf := hf.2 w222
                                              rcases Decidable.em (((xs x4.toNatClampNeg) &&& (63 : Int32)) = 21) with w231 | w231
                                              · replace hf := hf.1 w231
                                                refine lv_tableIn (tgt := 876) hx hb dL_law_39 (by rw [w231]; decide) (by rw [w231]; decide) (by rw [w231]; rfl) (by decide) ?_
                                                refine lv_aload_n hx hb dL_law_876 rfl (lv_at hl 1 rfl) ?_
                                                refine lv_aload_n hx hb dL_law_877 rfl (lv_at hl 0 rfl) ?_
                                                refine lv_iload hx hb dL_law_878 (lv_at hl 4 rfl) ?_
                                                refine lv_iconst (v := 1) hx hb dL_law_880 (by decide) ?_
                                                refine lv_iadd hx hb dL_law_881 ?_
                                                obtain ⟨i232, hf⟩ := hf
                                                refine va_sld hx hb hX hbl hbA hS i232 dL_law_882 ?_
                                                refine lv_aload_n hx hb dL_law_883 rfl (lv_at hl 0 rfl) ?_
                                                refine lv_iload hx hb dL_law_884 (lv_at hl 4 rfl) ?_
                                                refine lv_iconst (v := 2) hx hb dL_law_886 (by decide) ?_
                                                refine lv_iadd hx hb dL_law_887 ?_
                                                obtain ⟨i233, hf⟩ := hf
                                                refine va_sld hx hb hX hbl hbA hS i233 dL_law_888 ?_
                                                refine hw_callVG E hR hS (As := [.int (xs (x4 + (1 : Int32)).toNatClampNeg), .int (xs (x4 + (2 : Int32)).toNatClampNeg)]) (rest := []) cI9 hs1 rfl mcX10_round miX10_round lmL_118 (ok_X10_round hs1 hf) rfl rfl (Nat.le_of_ble_eq_true rfl) (Nat.le_of_ble_eq_true rfl) (by show _ ≤ 601024; omega) (by show _ ≤ 7293034; omega) hl.1 (Nat.le_of_ble_eq_true rfl) dL_law_889 (fun rr m234 H locs hp hR hS => ?_)
                                                obtain ⟨r235, rfl, hf⟩ := hp
                                                refine W.eq (g2 := F0 m 892 ls [.int r235]) rfl ?_
                                                refine lv_aload_n hx hb dL_law_892 rfl (lv_at hl 2 rfl) ?_
                                                refine lv_aload_n hx hb dL_law_893 rfl (lv_at hl 0 rfl) ?_
                                                refine lv_iload hx hb dL_law_894 (lv_at hl 4 rfl) ?_
                                                refine lv_iconst (v := 1) hx hb dL_law_896 (by decide) ?_
                                                refine lv_iadd hx hb dL_law_897 ?_
                                                obtain ⟨i236, hf⟩ := hf
                                                refine va_sld hx hb hX hbl hbA hS i236 dL_law_898 ?_
                                                refine lv_aload_n hx hb dL_law_899 rfl (lv_at hl 0 rfl) ?_
                                                refine lv_iload hx hb dL_law_900 (lv_at hl 4 rfl) ?_
                                                refine lv_iconst (v := 2) hx hb dL_law_902 (by decide) ?_
                                                refine lv_iadd hx hb dL_law_903 ?_
                                                obtain ⟨i237, hf⟩ := hf
                                                refine va_sld hx hb hX hbl hbA hS i237 dL_law_904 ?_
                                                refine hw_callVG E hR hS (As := [.int (xs (x4 + (1 : Int32)).toNatClampNeg), .int (xs (x4 + (2 : Int32)).toNatClampNeg)]) (rest := [.int r235]) cI10 hs2 rfl mcX11_round miX11_round lmL_121 (ok_X11_round hs2 hf) rfl rfl (Nat.le_of_ble_eq_true rfl) (Nat.le_of_ble_eq_true rfl) (by show _ ≤ 601024; omega) (by show _ ≤ 7293034; omega) hl.1 (Nat.le_of_ble_eq_true rfl) dL_law_905 (fun rr m238 H locs hp hR hS => ?_)
                                                obtain ⟨r239, rfl, hf⟩ := hp
                                                refine W.eq (g2 := F0 m 908 ls [.int r239, .int r235]) rfl ?_
                                                refine lv_icmp_eq (tgt := 1515) hx hb dL_law_908 (by decide) (fun c240 => ?_) (fun c240 => ?_)
                                                · replace hf := hf.1 c240
                                                  obtain ⟨v241, ev241⟩ : ∃ y : Int32, y = x4 + (5 : Int32) := ⟨_, rfl⟩
                                                  replace hf := hf v241 ev241
                                                  refine lv_iinc (v := v241) (lv' := [(4, .int v241), (0, .ref b), (1, .ref (ad g a1)), (2, .ref (ad g a2)), (3, .ref (ad g a3))]) hx hb dL_law_1515 hl (k := 4) rfl (by rw [ev241]; rfl) (by decide) rfl (fun ls hl => ?_)
                                                  refine lv_goto (tgt := 23) hx hb dL_law_1518 (by decide) ?_
                                                  exact hBK23 _ _ _ _ _ _ _ (by omega) (by omega) hf hR hS (lv_sub hl [1, 2, 3, 4, 0] rfl)
                                                · replace hf := hf.2 c240
                                                  refine lv_iconst (v := 0) hx hb dL_law_911 (by decide) ?_
                                                  exact hf.elim
                                              · replace hf := hf.2 w231
                                                rcases Decidable.em (((xs x4.toNatClampNeg) &&& (63 : Int32)) = 22) with w242 | w242
                                                · replace hf := hf.1 w242
                                                  refine lv_tableIn (tgt := 913) hx hb dL_law_39 (by rw [w242]; decide) (by rw [w242]; decide) (by rw [w242]; rfl) (by decide) ?_
                                                  refine lv_aload_n hx hb dL_law_913 rfl (lv_at hl 1 rfl) ?_
                                                  refine lv_aload_n hx hb dL_law_914 rfl (lv_at hl 0 rfl) ?_
                                                  refine lv_iload hx hb dL_law_915 (lv_at hl 4 rfl) ?_
                                                  refine lv_iconst (v := 1) hx hb dL_law_917 (by decide) ?_
                                                  refine lv_iadd hx hb dL_law_918 ?_
                                                  obtain ⟨i243, hf⟩ := hf
                                                  refine va_sld hx hb hX hbl hbA hS i243 dL_law_919 ?_
                                                  refine lv_aload_n hx hb dL_law_920 rfl (lv_at hl 0 rfl) ?_
                                                  refine lv_iload hx hb dL_law_921 (lv_at hl 4 rfl) ?_
                                                  refine lv_iconst (v := 2) hx hb dL_law_923 (by decide) ?_
                                                  refine lv_iadd hx hb dL_law_924 ?_
                                                  obtain ⟨i244, hf⟩ := hf
                                                  refine va_sld hx hb hX hbl hbA hS i244 dL_law_925 ?_
                                                  refine hw_callVG E hR hS (As := [.int (xs (x4 + (1 : Int32)).toNatClampNeg), .int (xs (x4 + (2 : Int32)).toNatClampNeg)]) (rest := []) cI9 hs1 rfl mcX10_means miX10_means lmL_122 (ok_X10_means hs1 hf) rfl rfl (Nat.le_of_ble_eq_true rfl) (Nat.le_of_ble_eq_true rfl) (by show _ ≤ 601024; omega) (by show _ ≤ 7293034; omega) hl.1 (Nat.le_of_ble_eq_true rfl) dL_law_926 (fun rr m245 H locs hp hR hS => ?_)
                                                  obtain ⟨r246, rfl, hf⟩ := hp
                                                  refine W.eq (g2 := F0 m 929 ls [.int r246]) rfl ?_
                                                  refine lv_aload_n hx hb dL_law_929 rfl (lv_at hl 2 rfl) ?_
                                                  refine lv_aload_n hx hb dL_law_930 rfl (lv_at hl 0 rfl) ?_
                                                  refine lv_iload hx hb dL_law_931 (lv_at hl 4 rfl) ?_
                                                  refine lv_iconst (v := 1) hx hb dL_law_933 (by decide) ?_
                                                  refine lv_iadd hx hb dL_law_934 ?_
                                                  obtain ⟨i247, hf⟩ := hf
                                                  refine va_sld hx hb hX hbl hbA hS i247 dL_law_935 ?_
                                                  refine lv_aload_n hx hb dL_law_936 rfl (lv_at hl 0 rfl) ?_
                                                  refine lv_iload hx hb dL_law_937 (lv_at hl 4 rfl) ?_
                                                  refine lv_iconst (v := 2) hx hb dL_law_939 (by decide) ?_
                                                  refine lv_iadd hx hb dL_law_940 ?_
                                                  obtain ⟨i248, hf⟩ := hf
                                                  refine va_sld hx hb hX hbl hbA hS i248 dL_law_941 ?_
                                                  refine hw_callVG E hR hS (As := [.int (xs (x4 + (1 : Int32)).toNatClampNeg), .int (xs (x4 + (2 : Int32)).toNatClampNeg)]) (rest := [.int r246]) cI10 hs2 rfl mcX11_means miX11_means lmL_125 (ok_X11_means hs2 hf) rfl rfl (Nat.le_of_ble_eq_true rfl) (Nat.le_of_ble_eq_true rfl) (by show _ ≤ 601024; omega) (by show _ ≤ 7293034; omega) hl.1 (Nat.le_of_ble_eq_true rfl) dL_law_942 (fun rr m249 H locs hp hR hS => ?_)
                                                  obtain ⟨r250, rfl, hf⟩ := hp
                                                  refine W.eq (g2 := F0 m 945 ls [.int r250, .int r246]) rfl ?_
                                                  refine lv_icmp_eq (tgt := 1515) hx hb dL_law_945 (by decide) (fun c251 => ?_) (fun c251 => ?_)
                                                  · replace hf := hf.1 c251
                                                    obtain ⟨v252, ev252⟩ : ∃ y : Int32, y = x4 + (5 : Int32) := ⟨_, rfl⟩
                                                    replace hf := hf v252 ev252
                                                    refine lv_iinc (v := v252) (lv' := [(4, .int v252), (0, .ref b), (1, .ref (ad g a1)), (2, .ref (ad g a2)), (3, .ref (ad g a3))]) hx hb dL_law_1515 hl (k := 4) rfl (by rw [ev252]; rfl) (by decide) rfl (fun ls hl => ?_)
                                                    refine lv_goto (tgt := 23) hx hb dL_law_1518 (by decide) ?_
                                                    exact hBK23 _ _ _ _ _ _ _ (by omega) (by omega) hf hR hS (lv_sub hl [1, 2, 3, 4, 0] rfl)
                                                  · replace hf := hf.2 c251
                                                    refine lv_iconst (v := 0) hx hb dL_law_948 (by decide) ?_
                                                    exact hf.elim
                                                · replace hf := hf.2 w242
                                                  rcases Decidable.em (((xs x4.toNatClampNeg) &&& (63 : Int32)) = 23) with w253 | w253
                                                  · replace hf := hf.1 w253
                                                    refine lv_tableIn (tgt := 950) hx hb dL_law_39 (by rw [w253]; decide) (by rw [w253]; decide) (by rw [w253]; rfl) (by decide) ?_
                                                    refine lv_aload_n hx hb dL_law_950 rfl (lv_at hl 1 rfl) ?_
                                                    refine lv_aload_n hx hb dL_law_951 rfl (lv_at hl 0 rfl) ?_
                                                    refine lv_iload hx hb dL_law_952 (lv_at hl 4 rfl) ?_
                                                    refine lv_iconst (v := 1) hx hb dL_law_954 (by decide) ?_
                                                    refine lv_iadd hx hb dL_law_955 ?_
                                                    obtain ⟨i254, hf⟩ := hf
                                                    refine va_sld hx hb hX hbl hbA hS i254 dL_law_956 ?_
                                                    refine lv_aload_n hx hb dL_law_957 rfl (lv_at hl 0 rfl) ?_
                                                    refine lv_iload hx hb dL_law_958 (lv_at hl 4 rfl) ?_
                                                    refine lv_iconst (v := 2) hx hb dL_law_960 (by decide) ?_
                                                    refine lv_iadd hx hb dL_law_961 ?_
                                                    obtain ⟨i255, hf⟩ := hf
                                                    refine va_sld hx hb hX hbl hbA hS i255 dL_law_962 ?_
                                                    refine hw_callVG E hR hS (As := [.int (xs (x4 + (1 : Int32)).toNatClampNeg), .int (xs (x4 + (2 : Int32)).toNatClampNeg)]) (rest := []) cI9 hs1 rfl mcX10_hid miX10_hid lmL_126 (ok_X10_hid hs1 hf) rfl rfl (Nat.le_of_ble_eq_true rfl) (Nat.le_of_ble_eq_true rfl) (by show _ ≤ 601024; omega) (by show _ ≤ 7293034; omega) hl.1 (Nat.le_of_ble_eq_true rfl) dL_law_963 (fun rr m256 H locs hp hR hS => ?_)
                                                    obtain ⟨r257, rfl, hf⟩ := hp
                                                    refine W.eq (g2 := F0 m 966 ls [.int r257]) rfl ?_
                                                    refine lv_aload_n hx hb dL_law_966 rfl (lv_at hl 2 rfl) ?_
                                                    refine lv_aload_n hx hb dL_law_967 rfl (lv_at hl 0 rfl) ?_
                                                    refine lv_iload hx hb dL_law_968 (lv_at hl 4 rfl) ?_
                                                    refine lv_iconst (v := 1) hx hb dL_law_970 (by decide) ?_
                                                    refine lv_iadd hx hb dL_law_971 ?_
                                                    obtain ⟨i258, hf⟩ := hf
                                                    refine va_sld hx hb hX hbl hbA hS i258 dL_law_972 ?_
                                                    refine lv_aload_n hx hb dL_law_973 rfl (lv_at hl 0 rfl) ?_
                                                    refine lv_iload hx hb dL_law_974 (lv_at hl 4 rfl) ?_
                                                    refine lv_iconst (v := 2) hx hb dL_law_976 (by decide) ?_
                                                    refine lv_iadd hx hb dL_law_977 ?_
                                                    obtain ⟨i259, hf⟩ := hf
                                                    refine va_sld hx hb hX hbl hbA hS i259 dL_law_978 ?_
                                                    refine hw_callVG E hR hS (As := [.int (xs (x4 + (1 : Int32)).toNatClampNeg), .int (xs (x4 + (2 : Int32)).toNatClampNeg)]) (rest := [.int r257]) cI10 hs2 rfl mcX11_hid miX11_hid lmL_129 (ok_X11_hid hs2 hf) rfl rfl (Nat.le_of_ble_eq_true rfl) (Nat.le_of_ble_eq_true rfl) (by show _ ≤ 601024; omega) (by show _ ≤ 7293034; omega) hl.1 (Nat.le_of_ble_eq_true rfl) dL_law_979 (fun rr m260 H locs hp hR hS => ?_)
                                                    obtain ⟨r261, rfl, hf⟩ := hp
                                                    refine W.eq (g2 := F0 m 982 ls [.int r261, .int r257]) rfl ?_
                                                    refine lv_icmp_eq (tgt := 1515) hx hb dL_law_982 (by decide) (fun c262 => ?_) (fun c262 => ?_)
                                                    · replace hf := hf.1 c262
                                                      obtain ⟨v263, ev263⟩ : ∃ y : Int32, y = x4 + (5 : Int32) := ⟨_, rfl⟩
                                                      replace hf := hf v263 ev263
                                                      refine lv_iinc (v := v263) (lv' := [(4, .int v263), (0, .ref b), (1, .ref (ad g a1)), (2, .ref (ad g a2)), (3, .ref (ad g a3))]) hx hb dL_law_1515 hl (k := 4) rfl (by rw [ev263]; rfl) (by decide) rfl (fun ls hl => ?_)
                                                      refine lv_goto (tgt := 23) hx hb dL_law_1518 (by decide) ?_
                                                      exact hBK23 _ _ _ _ _ _ _ (by omega) (by omega) hf hR hS (lv_sub hl [1, 2, 3, 4, 0] rfl)
                                                    · replace hf := hf.2 c262
                                                      refine lv_iconst (v := 0) hx hb dL_law_985 (by decide) ?_
                                                      exact hf.elim
                                                  · replace hf := hf.2 w253
                                                    rcases Decidable.em (((xs x4.toNatClampNeg) &&& (63 : Int32)) = 24) with w264 | w264
                                                    · replace hf := hf.1 w264
                                                      refine lv_tableIn (tgt := 987) hx hb dL_law_39 (by rw [w264]; decide) (by rw [w264]; decide) (by rw [w264]; rfl) (by decide) ?_
                                                      refine lv_aload_n hx hb dL_law_987 rfl (lv_at hl 1 rfl) ?_
                                                      refine lv_aload_n hx hb dL_law_988 rfl (lv_at hl 0 rfl) ?_
                                                      refine lv_iload hx hb dL_law_989 (lv_at hl 4 rfl) ?_
                                                      refine lv_iconst (v := 1) hx hb dL_law_991 (by decide) ?_
                                                      refine lv_iadd hx hb dL_law_992 ?_
                                                      obtain ⟨i265, hf⟩ := hf
                                                      refine va_sld hx hb hX hbl hbA hS i265 dL_law_993 ?_
                                                      refine hw_callVG E hR hS (As := [.int (xs (x4 + (1 : Int32)).toNatClampNeg)]) (rest := []) cI9 hs1 rfl mcX10_iron miX10_iron lmL_130 (ok_X10_iron hs1 hf) rfl rfl (Nat.le_of_ble_eq_true rfl) (Nat.le_of_ble_eq_true rfl) (by show _ ≤ 601024; omega) (by show _ ≤ 7293034; omega) hl.1 (Nat.le_of_ble_eq_true rfl) dL_law_994 (fun rr m266 H locs hp hR hS => ?_)
                                                      obtain ⟨r267, rfl, hf⟩ := hp
                                                      refine W.eq (g2 := F0 m 997 ls [.int r267]) rfl ?_
                                                      refine lv_aload_n hx hb dL_law_997 rfl (lv_at hl 2 rfl) ?_
                                                      refine lv_aload_n hx hb dL_law_998 rfl (lv_at hl 0 rfl) ?_
                                                      refine lv_iload hx hb dL_law_999 (lv_at hl 4 rfl) ?_
                                                      refine lv_iconst (v := 1) hx hb dL_law_1001 (by decide) ?_
                                                      refine lv_iadd hx hb dL_law_1002 ?_
                                                      obtain ⟨i268, hf⟩ := hf
                                                      refine va_sld hx hb hX hbl hbA hS i268 dL_law_1003 ?_
                                                      refine hw_callVG E hR hS (As := [.int (xs (x4 + (1 : Int32)).toNatClampNeg)]) (rest := [.int r267]) cI10 hs2 rfl mcX11_iron miX11_iron lmL_133 (ok_X11_iron hs2 hf) rfl rfl (Nat.le_of_ble_eq_true rfl) (Nat.le_of_ble_eq_true rfl) (by show _ ≤ 601024; omega) (by show _ ≤ 7293034; omega) hl.1 (Nat.le_of_ble_eq_true rfl) dL_law_1004 (fun rr m269 H locs hp hR hS => ?_)
                                                      obtain ⟨r270, rfl, hf⟩ := hp
                                                      refine W.eq (g2 := F0 m 1007 ls [.int r270, .int r267]) rfl ?_
                                                      refine lv_icmp_eq (tgt := 1515) hx hb dL_law_1007 (by decide) (fun c271 => ?_) (fun c271 => ?_)
                                                      · replace hf := hf.1 c271
                                                        obtain ⟨v272, ev272⟩ : ∃ y : Int32, y = x4 + (5 : Int32) := ⟨_, rfl⟩
                                                        replace hf := hf v272 ev272
                                                        refine lv_iinc (v := v272) (lv' := [(4, .int v272), (0, .ref b), (1, .ref (ad g a1)), (2, .ref (ad g a2)), (3, .ref (ad g a3))]) hx hb dL_law_1515 hl (k := 4) rfl (by rw [ev272]; rfl) (by decide) rfl (fun ls hl => ?_)
                                                        refine lv_goto (tgt := 23) hx hb dL_law_1518 (by decide) ?_
                                                        exact hBK23 _ _ _ _ _ _ _ (by omega) (by omega) hf hR hS (lv_sub hl [1, 2, 3, 4, 0] rfl)
                                                      · replace hf := hf.2 c271
                                                        refine lv_iconst (v := 0) hx hb dL_law_1010 (by decide) ?_
                                                        exact hf.elim
                                                    · replace hf := hf.2 w264
                                                      rcases Decidable.em (((xs x4.toNatClampNeg) &&& (63 : Int32)) = 25) with w273 | w273
                                                      · replace hf := hf.1 w273
                                                        refine lv_tableIn (tgt := 1012) hx hb dL_law_39 (by rw [w273]; decide) (by rw [w273]; decide) (by rw [w273]; rfl) (by decide) ?_
                                                        refine lv_aload_n hx hb dL_law_1012 rfl (lv_at hl 1 rfl) ?_
                                                        refine lv_aload_n hx hb dL_law_1013 rfl (lv_at hl 0 rfl) ?_
                                                        refine lv_iload hx hb dL_law_1014 (lv_at hl 4 rfl) ?_
                                                        refine lv_iconst (v := 1) hx hb dL_law_1016 (by decide) ?_
                                                        refine lv_iadd hx hb dL_law_1017 ?_
                                                        obtain ⟨i274, hf⟩ := hf
                                                        refine va_sld hx hb hX hbl hbA hS i274 dL_law_1018 ?_
                                                        refine lv_aload_n hx hb dL_law_1019 rfl (lv_at hl 0 rfl) ?_
                                                        refine lv_iload hx hb dL_law_1020 (lv_at hl 4 rfl) ?_
                                                        refine lv_iconst (v := 2) hx hb dL_law_1022 (by decide) ?_
                                                        refine lv_iadd hx hb dL_law_1023 ?_
                                                        obtain ⟨i275, hf⟩ := hf
                                                        refine va_sld hx hb hX hbl hbA hS i275 dL_law_1024 ?_
                                                        refine hw_callVG E hR hS (As := [.int (xs (x4 + (1 : Int32)).toNatClampNeg), .int (xs (x4 + (2 : Int32)).toNatClampNeg)]) (rest := []) cI9 hs1 rfl mcX10_patch miX10_patch lmL_134 (ok_X10_patch hs1 hf) rfl rfl (Nat.le_of_ble_eq_true rfl) (Nat.le_of_ble_eq_true rfl) (by show _ ≤ 601024; omega) (by show _ ≤ 7293034; omega) hl.1 (Nat.le_of_ble_eq_true rfl) dL_law_1025 (fun rr m276 H locs hp hR hS => ?_)
                                                        obtain ⟨r277, rfl, hf⟩ := hp
                                                        refine W.eq (g2 := F0 m 1028 ls [.int r277]) rfl ?_
                                                        refine lv_aload_n hx hb dL_law_1028 rfl (lv_at hl 2 rfl) ?_
                                                        refine lv_aload_n hx hb dL_law_1029 rfl (lv_at hl 0 rfl) ?_
                                                        refine lv_iload hx hb dL_law_1030 (lv_at hl 4 rfl) ?_
                                                        refine lv_iconst (v := 1) hx hb dL_law_1032 (by decide) ?_
                                                        refine lv_iadd hx hb dL_law_1033 ?_
                                                        obtain ⟨i278, hf⟩ := hf
                                                        refine va_sld hx hb hX hbl hbA hS i278 dL_law_1034 ?_
                                                        refine lv_aload_n hx hb dL_law_1035 rfl (lv_at hl 0 rfl) ?_
                                                        refine lv_iload hx hb dL_law_1036 (lv_at hl 4 rfl) ?_
                                                        refine lv_iconst (v := 2) hx hb dL_law_1038 (by decide) ?_
                                                        refine lv_iadd hx hb dL_law_1039 ?_
                                                        obtain ⟨i279, hf⟩ := hf
                                                        refine va_sld hx hb hX hbl hbA hS i279 dL_law_1040 ?_
                                                        refine hw_callVG E hR hS (As := [.int (xs (x4 + (1 : Int32)).toNatClampNeg), .int (xs (x4 + (2 : Int32)).toNatClampNeg)]) (rest := [.int r277]) cI10 hs2 rfl mcX11_patch miX11_patch lmL_137 (ok_X11_patch hs2 hf) rfl rfl (Nat.le_of_ble_eq_true rfl) (Nat.le_of_ble_eq_true rfl) (by show _ ≤ 601024; omega) (by show _ ≤ 7293034; omega) hl.1 (Nat.le_of_ble_eq_true rfl) dL_law_1041 (fun rr m280 H locs hp hR hS => ?_)
                                                        obtain ⟨r281, rfl, hf⟩ := hp
                                                        refine W.eq (g2 := F0 m 1044 ls [.int r281, .int r277]) rfl ?_
                                                        refine lv_icmp_eq (tgt := 1515) hx hb dL_law_1044 (by decide) (fun c282 => ?_) (fun c282 => ?_)
                                                        · replace hf := hf.1 c282
                                                          obtain ⟨v283, ev283⟩ : ∃ y : Int32, y = x4 + (5 : Int32) := ⟨_, rfl⟩
                                                          replace hf := hf v283 ev283
                                                          refine lv_iinc (v := v283) (lv' := [(4, .int v283), (0, .ref b), (1, .ref (ad g a1)), (2, .ref (ad g a2)), (3, .ref (ad g a3))]) hx hb dL_law_1515 hl (k := 4) rfl (by rw [ev283]; rfl) (by decide) rfl (fun ls hl => ?_)
                                                          refine lv_goto (tgt := 23) hx hb dL_law_1518 (by decide) ?_
                                                          exact hBK23 _ _ _ _ _ _ _ (by omega) (by omega) hf hR hS (lv_sub hl [1, 2, 3, 4, 0] rfl)
                                                        · replace hf := hf.2 c282
                                                          refine lv_iconst (v := 0) hx hb dL_law_1047 (by decide) ?_
                                                          exact hf.elim
                                                      · replace hf := hf.2 w273
                                                        rcases Decidable.em (((xs x4.toNatClampNeg) &&& (63 : Int32)) = 26) with w284 | w284
                                                        · replace hf := hf.1 w284
                                                          refine lv_tableIn (tgt := 1049) hx hb dL_law_39 (by rw [w284]; decide) (by rw [w284]; decide) (by rw [w284]; rfl) (by decide) ?_
                                                          refine lv_aload_n hx hb dL_law_1049 rfl (lv_at hl 1 rfl) ?_
                                                          refine lv_aload_n hx hb dL_law_1050 rfl (lv_at hl 0 rfl) ?_
                                                          refine lv_iload hx hb dL_law_1051 (lv_at hl 4 rfl) ?_
                                                          refine lv_iconst (v := 1) hx hb dL_law_1053 (by decide) ?_
                                                          refine lv_iadd hx hb dL_law_1054 ?_
                                                          obtain ⟨i285, hf⟩ := hf
                                                          refine va_sld hx hb hX hbl hbA hS i285 dL_law_1055 ?_
                                                          refine hw_callVG E hR hS (As := [.int (xs (x4 + (1 : Int32)).toNatClampNeg)]) (rest := []) cI9 hs1 rfl mcX10_mend miX10_mend lmL_138 (ok_X10_mend hs1 hf) rfl rfl (Nat.le_of_ble_eq_true rfl) (Nat.le_of_ble_eq_true rfl) (by show _ ≤ 601024; omega) (by show _ ≤ 7293034; omega) hl.1 (Nat.le_of_ble_eq_true rfl) dL_law_1056 (fun rr m286 H locs hp hR hS => ?_)
                                                          obtain ⟨r287, rfl, hf⟩ := hp
                                                          refine W.eq (g2 := F0 m 1059 ls [.int r287]) rfl ?_
                                                          refine lv_aload_n hx hb dL_law_1059 rfl (lv_at hl 2 rfl) ?_
                                                          refine lv_aload_n hx hb dL_law_1060 rfl (lv_at hl 0 rfl) ?_
                                                          refine lv_iload hx hb dL_law_1061 (lv_at hl 4 rfl) ?_
                                                          refine lv_iconst (v := 1) hx hb dL_law_1063 (by decide) ?_
                                                          refine lv_iadd hx hb dL_law_1064 ?_
                                                          obtain ⟨i288, hf⟩ := hf
                                                          refine va_sld hx hb hX hbl hbA hS i288 dL_law_1065 ?_
                                                          refine hw_callVG E hR hS (As := [.int (xs (x4 + (1 : Int32)).toNatClampNeg)]) (rest := [.int r287]) cI10 hs2 rfl mcX11_mend miX11_mend lmL_141 (ok_X11_mend hs2 hf) rfl rfl (Nat.le_of_ble_eq_true rfl) (Nat.le_of_ble_eq_true rfl) (by show _ ≤ 601024; omega) (by show _ ≤ 7293034; omega) hl.1 (Nat.le_of_ble_eq_true rfl) dL_law_1066 (fun rr m289 H locs hp hR hS => ?_)
                                                          obtain ⟨r290, rfl, hf⟩ := hp
                                                          refine W.eq (g2 := F0 m 1069 ls [.int r290, .int r287]) rfl ?_
                                                          refine lv_icmp_eq (tgt := 1515) hx hb dL_law_1069 (by decide) (fun c291 => ?_) (fun c291 => ?_)
                                                          · replace hf := hf.1 c291
                                                            obtain ⟨v292, ev292⟩ : ∃ y : Int32, y = x4 + (5 : Int32) := ⟨_, rfl⟩
                                                            replace hf := hf v292 ev292
                                                            refine lv_iinc (v := v292) (lv' := [(4, .int v292), (0, .ref b), (1, .ref (ad g a1)), (2, .ref (ad g a2)), (3, .ref (ad g a3))]) hx hb dL_law_1515 hl (k := 4) rfl (by rw [ev292]; rfl) (by decide) rfl (fun ls hl => ?_)
                                                            refine lv_goto (tgt := 23) hx hb dL_law_1518 (by decide) ?_
                                                            exact hBK23 _ _ _ _ _ _ _ (by omega) (by omega) hf hR hS (lv_sub hl [1, 2, 3, 4, 0] rfl)
                                                          · replace hf := hf.2 c291
                                                            refine lv_iconst (v := 0) hx hb dL_law_1072 (by decide) ?_
                                                            exact hf.elim
                                                        · replace hf := hf.2 w284
                                                          rcases Decidable.em (((xs x4.toNatClampNeg) &&& (63 : Int32)) = 27) with w293 | w293
                                                          · replace hf := hf.1 w293
                                                            refine lv_tableIn (tgt := 1074) hx hb dL_law_39 (by rw [w293]; decide) (by rw [w293]; decide) (by rw [w293]; rfl) (by decide) ?_
                                                            refine lv_aload_n hx hb dL_law_1074 rfl (lv_at hl 1 rfl) ?_
                                                            refine hw_callVG E hR hS (As := []) (rest := []) cI9 hs1 rfl mcX10_drop miX10_drop lmL_142 (ok_X10_drop hs1 hf) rfl rfl (Nat.le_of_ble_eq_true rfl) (Nat.le_of_ble_eq_true rfl) (by show _ ≤ 601024; omega) (by show _ ≤ 7293034; omega) hl.1 (Nat.le_of_ble_eq_true rfl) dL_law_1075 (fun rr m294 H locs hp hR hS => ?_)
                                                            obtain ⟨r295, rfl, hf⟩ := hp
                                                            refine W.eq (g2 := F0 m 1078 ls [.int r295]) rfl ?_
                                                            refine lv_aload_n hx hb dL_law_1078 rfl (lv_at hl 2 rfl) ?_
                                                            refine hw_callVG E hR hS (As := []) (rest := [.int r295]) cI10 hs2 rfl mcX11_drop miX11_drop lmL_145 (ok_X11_drop hs2 hf) rfl rfl (Nat.le_of_ble_eq_true rfl) (Nat.le_of_ble_eq_true rfl) (by show _ ≤ 601024; omega) (by show _ ≤ 7293034; omega) hl.1 (Nat.le_of_ble_eq_true rfl) dL_law_1079 (fun rr m296 H locs hp hR hS => ?_)
                                                            obtain ⟨r297, rfl, hf⟩ := hp
                                                            refine W.eq (g2 := F0 m 1082 ls [.int r297, .int r295]) rfl ?_
                                                            refine lv_icmp_eq (tgt := 1515) hx hb dL_law_1082 (by decide) (fun c298 => ?_) (fun c298 => ?_)
                                                            · replace hf := hf.1 c298
                                                              obtain ⟨v299, ev299⟩ : ∃ y : Int32, y = x4 + (5 : Int32) := ⟨_, rfl⟩
                                                              replace hf := hf v299 ev299
                                                              refine lv_iinc (v := v299) (lv' := [(4, .int v299), (0, .ref b), (1, .ref (ad g a1)), (2, .ref (ad g a2)), (3, .ref (ad g a3))]) hx hb dL_law_1515 hl (k := 4) rfl (by rw [ev299]; rfl) (by decide) rfl (fun ls hl => ?_)
                                                              refine lv_goto (tgt := 23) hx hb dL_law_1518 (by decide) ?_
                                                              exact hBK23 _ _ _ _ _ _ _ (by omega) (by omega) hf hR hS (lv_sub hl [1, 2, 3, 4, 0] rfl)
                                                            · replace hf := hf.2 c298
                                                              refine lv_iconst (v := 0) hx hb dL_law_1085 (by decide) ?_
                                                              exact hf.elim
                                                          · replace hf := hf.2 w293
                                                            rcases Decidable.em (((xs x4.toNatClampNeg) &&& (63 : Int32)) = 28) with w300 | w300
                                                            · replace hf := hf.1 w300
                                                              refine lv_tableIn (tgt := 1087) hx hb dL_law_39 (by rw [w300]; decide) (by rw [w300]; decide) (by rw [w300]; rfl) (by decide) ?_
                                                              refine lv_aload_n hx hb dL_law_1087 rfl (lv_at hl 1 rfl) ?_
                                                              refine lv_aload_n hx hb dL_law_1088 rfl (lv_at hl 0 rfl) ?_
                                                              refine lv_iload hx hb dL_law_1089 (lv_at hl 4 rfl) ?_
                                                              refine lv_iconst (v := 1) hx hb dL_law_1091 (by decide) ?_
                                                              refine lv_iadd hx hb dL_law_1092 ?_
                                                              obtain ⟨i301, hf⟩ := hf
                                                              refine va_sld hx hb hX hbl hbA hS i301 dL_law_1093 ?_
                                                              refine hw_callVG E hR hS (As := [.int (xs (x4 + (1 : Int32)).toNatClampNeg)]) (rest := []) cI9 hs1 rfl mcX10_type miX10_type lmL_146 (ok_X10_type hs1 hf) rfl rfl (Nat.le_of_ble_eq_true rfl) (Nat.le_of_ble_eq_true rfl) (by show _ ≤ 601024; omega) (by show _ ≤ 7293034; omega) hl.1 (Nat.le_of_ble_eq_true rfl) dL_law_1094 (fun rr m302 H locs hp hR hS => ?_)
                                                              obtain ⟨r303, rfl, hf⟩ := hp
                                                              refine W.eq (g2 := F0 m 1097 ls [.int r303]) rfl ?_
                                                              refine lv_aload_n hx hb dL_law_1097 rfl (lv_at hl 2 rfl) ?_
                                                              refine lv_aload_n hx hb dL_law_1098 rfl (lv_at hl 0 rfl) ?_
                                                              refine lv_iload hx hb dL_law_1099 (lv_at hl 4 rfl) ?_
                                                              refine lv_iconst (v := 1) hx hb dL_law_1101 (by decide) ?_
                                                              refine lv_iadd hx hb dL_law_1102 ?_
                                                              obtain ⟨i304, hf⟩ := hf
                                                              refine va_sld hx hb hX hbl hbA hS i304 dL_law_1103 ?_
                                                              refine hw_callVG E hR hS (As := [.int (xs (x4 + (1 : Int32)).toNatClampNeg)]) (rest := [.int r303]) cI10 hs2 rfl mcX11_type miX11_type lmL_149 (ok_X11_type hs2 hf) rfl rfl (Nat.le_of_ble_eq_true rfl) (Nat.le_of_ble_eq_true rfl) (by show _ ≤ 601024; omega) (by show _ ≤ 7293034; omega) hl.1 (Nat.le_of_ble_eq_true rfl) dL_law_1104 (fun rr m305 H locs hp hR hS => ?_)
                                                              obtain ⟨r306, rfl, hf⟩ := hp
                                                              refine W.eq (g2 := F0 m 1107 ls [.int r306, .int r303]) rfl ?_
                                                              refine lv_icmp_eq (tgt := 1515) hx hb dL_law_1107 (by decide) (fun c307 => ?_) (fun c307 => ?_)
                                                              · replace hf := hf.1 c307
                                                                obtain ⟨v308, ev308⟩ : ∃ y : Int32, y = x4 + (5 : Int32) := ⟨_, rfl⟩
                                                                replace hf := hf v308 ev308
                                                                refine lv_iinc (v := v308) (lv' := [(4, .int v308), (0, .ref b), (1, .ref (ad g a1)), (2, .ref (ad g a2)), (3, .ref (ad g a3))]) hx hb dL_law_1515 hl (k := 4) rfl (by rw [ev308]; rfl) (by decide) rfl (fun ls hl => ?_)
                                                                refine lv_goto (tgt := 23) hx hb dL_law_1518 (by decide) ?_
                                                                exact hBK23 _ _ _ _ _ _ _ (by omega) (by omega) hf hR hS (lv_sub hl [1, 2, 3, 4, 0] rfl)
                                                              · replace hf := hf.2 c307
                                                                refine lv_iconst (v := 0) hx hb dL_law_1110 (by decide) ?_
                                                                exact hf.elim
                                                            · replace hf := hf.2 w300
                                                              rcases Decidable.em (((xs x4.toNatClampNeg) &&& (63 : Int32)) = 29) with w309 | w309
                                                              · replace hf := hf.1 w309
                                                                refine lv_tableIn (tgt := 1112) hx hb dL_law_39 (by rw [w309]; decide) (by rw [w309]; decide) (by rw [w309]; rfl) (by decide) ?_
                                                                refine lv_aload_n hx hb dL_law_1112 rfl (lv_at hl 1 rfl) ?_
                                                                refine hw_callVG E hR hS (As := []) (rest := []) cI9 hs1 rfl mcX10_wipe miX10_wipe lmL_150 (ok_X10_wipe hs1 hf) rfl rfl (Nat.le_of_ble_eq_true rfl) (Nat.le_of_ble_eq_true rfl) (by show _ ≤ 601024; omega) (by show _ ≤ 7293034; omega) hl.1 (Nat.le_of_ble_eq_true rfl) dL_law_1113 (fun rr m310 H locs hp hR hS => ?_)
                                                                obtain ⟨r311, rfl, hf⟩ := hp
                                                                refine W.eq (g2 := F0 m 1116 ls [.int r311]) rfl ?_
                                                                refine lv_aload_n hx hb dL_law_1116 rfl (lv_at hl 2 rfl) ?_
                                                                refine hw_callVG E hR hS (As := []) (rest := [.int r311]) cI10 hs2 rfl mcX11_wipe miX11_wipe lmL_153 (ok_X11_wipe hs2 hf) rfl rfl (Nat.le_of_ble_eq_true rfl) (Nat.le_of_ble_eq_true rfl) (by show _ ≤ 601024; omega) (by show _ ≤ 7293034; omega) hl.1 (Nat.le_of_ble_eq_true rfl) dL_law_1117 (fun rr m312 H locs hp hR hS => ?_)
                                                                obtain ⟨r313, rfl, hf⟩ := hp
                                                                refine W.eq (g2 := F0 m 1120 ls [.int r313, .int r311]) rfl ?_
                                                                refine lv_icmp_eq (tgt := 1515) hx hb dL_law_1120 (by decide) (fun c314 => ?_) (fun c314 => ?_)
                                                                · replace hf := hf.1 c314
                                                                  obtain ⟨v315, ev315⟩ : ∃ y : Int32, y = x4 + (5 : Int32) := ⟨_, rfl⟩
                                                                  replace hf := hf v315 ev315
                                                                  refine lv_iinc (v := v315) (lv' := [(4, .int v315), (0, .ref b), (1, .ref (ad g a1)), (2, .ref (ad g a2)), (3, .ref (ad g a3))]) hx hb dL_law_1515 hl (k := 4) rfl (by rw [ev315]; rfl) (by decide) rfl (fun ls hl => ?_)
                                                                  refine lv_goto (tgt := 23) hx hb dL_law_1518 (by decide) ?_
                                                                  exact hBK23 _ _ _ _ _ _ _ (by omega) (by omega) hf hR hS (lv_sub hl [1, 2, 3, 4, 0] rfl)
                                                                · replace hf := hf.2 c314
                                                                  refine lv_iconst (v := 0) hx hb dL_law_1123 (by decide) ?_
                                                                  exact hf.elim
                                                              · replace hf := hf.2 w309
                                                                rcases Decidable.em (((xs x4.toNatClampNeg) &&& (63 : Int32)) = 30) with w316 | w316
                                                                · replace hf := hf.1 w316
                                                                  refine lv_tableIn (tgt := 1125) hx hb dL_law_39 (by rw [w316]; decide) (by rw [w316]; decide) (by rw [w316]; rfl) (by decide) ?_
                                                                  refine lv_aload_n hx hb dL_law_1125 rfl (lv_at hl 1 rfl) ?_
                                                                  refine hw_callVG E hR hS (As := []) (rest := []) cI9 hs1 rfl mcX10_fits miX10_fits lmL_154 (ok_X10_fits hs1 hf) rfl rfl (Nat.le_of_ble_eq_true rfl) (Nat.le_of_ble_eq_true rfl) (by show _ ≤ 601024; omega) (by show _ ≤ 7293034; omega) hl.1 (Nat.le_of_ble_eq_true rfl) dL_law_1126 (fun rr m317 H locs hp hR hS => ?_)
                                                                  obtain ⟨r318, rfl, hf⟩ := hp
                                                                  refine W.eq (g2 := F0 m 1129 ls [.int r318]) rfl ?_
                                                                  refine lv_aload_n hx hb dL_law_1129 rfl (lv_at hl 2 rfl) ?_
                                                                  refine hw_callVG E hR hS (As := []) (rest := [.int r318]) cI10 hs2 rfl mcX11_fits miX11_fits lmL_157 (ok_X11_fits hs2 hf) rfl rfl (Nat.le_of_ble_eq_true rfl) (Nat.le_of_ble_eq_true rfl) (by show _ ≤ 601024; omega) (by show _ ≤ 7293034; omega) hl.1 (Nat.le_of_ble_eq_true rfl) dL_law_1130 (fun rr m319 H locs hp hR hS => ?_)
                                                                  obtain ⟨r320, rfl, hf⟩ := hp
                                                                  refine W.eq (g2 := F0 m 1133 ls [.int r320, .int r318]) rfl ?_
                                                                  refine lv_icmp_eq (tgt := 1515) hx hb dL_law_1133 (by decide) (fun c321 => ?_) (fun c321 => ?_)
                                                                  · replace hf := hf.1 c321
                                                                    obtain ⟨v322, ev322⟩ : ∃ y : Int32, y = x4 + (5 : Int32) := ⟨_, rfl⟩
                                                                    replace hf := hf v322 ev322
                                                                    refine lv_iinc (v := v322) (lv' := [(4, .int v322), (0, .ref b), (1, .ref (ad g a1)), (2, .ref (ad g a2)), (3, .ref (ad g a3))]) hx hb dL_law_1515 hl (k := 4) rfl (by rw [ev322]; rfl) (by decide) rfl (fun ls hl => ?_)
                                                                    refine lv_goto (tgt := 23) hx hb dL_law_1518 (by decide) ?_
                                                                    exact hBK23 _ _ _ _ _ _ _ (by omega) (by omega) hf hR hS (lv_sub hl [1, 2, 3, 4, 0] rfl)
                                                                  · replace hf := hf.2 c321
                                                                    refine lv_iconst (v := 0) hx hb dL_law_1136 (by decide) ?_
                                                                    exact hf.elim
                                                                · replace hf := hf.2 w316
                                                                  rcases Decidable.em (((xs x4.toNatClampNeg) &&& (63 : Int32)) = 31) with w323 | w323
                                                                  · replace hf := hf.1 w323
                                                                    refine lv_tableIn (tgt := 1138) hx hb dL_law_39 (by rw [w323]; decide) (by rw [w323]; decide) (by rw [w323]; rfl) (by decide) ?_
                                                                    refine lv_aload_n hx hb dL_law_1138 rfl (lv_at hl 1 rfl) ?_
                                                                    refine hw_callVG E hR hS (As := []) (rest := []) cI9 hs1 rfl mcX10_many miX10_many lmL_158 (ok_X10_many hs1 hf) rfl rfl (Nat.le_of_ble_eq_true rfl) (Nat.le_of_ble_eq_true rfl) (by show _ ≤ 601024; omega) (by show _ ≤ 7293034; omega) hl.1 (Nat.le_of_ble_eq_true rfl) dL_law_1139 (fun rr m324 H locs hp hR hS => ?_)
                                                                    obtain ⟨r325, rfl, hf⟩ := hp
                                                                    refine W.eq (g2 := F0 m 1142 ls [.int r325]) rfl ?_
                                                                    refine lv_aload_n hx hb dL_law_1142 rfl (lv_at hl 2 rfl) ?_
                                                                    refine hw_callVG E hR hS (As := []) (rest := [.int r325]) cI10 hs2 rfl mcX11_many miX11_many lmL_161 (ok_X11_many hs2 hf) rfl rfl (Nat.le_of_ble_eq_true rfl) (Nat.le_of_ble_eq_true rfl) (by show _ ≤ 601024; omega) (by show _ ≤ 7293034; omega) hl.1 (Nat.le_of_ble_eq_true rfl) dL_law_1143 (fun rr m326 H locs hp hR hS => ?_)
                                                                    obtain ⟨r327, rfl, hf⟩ := hp
                                                                    refine W.eq (g2 := F0 m 1146 ls [.int r327, .int r325]) rfl ?_
                                                                    refine lv_icmp_eq (tgt := 1515) hx hb dL_law_1146 (by decide) (fun c328 => ?_) (fun c328 => ?_)
                                                                    · replace hf := hf.1 c328
                                                                      obtain ⟨v329, ev329⟩ : ∃ y : Int32, y = x4 + (5 : Int32) := ⟨_, rfl⟩
                                                                      replace hf := hf v329 ev329
                                                                      refine lv_iinc (v := v329) (lv' := [(4, .int v329), (0, .ref b), (1, .ref (ad g a1)), (2, .ref (ad g a2)), (3, .ref (ad g a3))]) hx hb dL_law_1515 hl (k := 4) rfl (by rw [ev329]; rfl) (by decide) rfl (fun ls hl => ?_)
                                                                      refine lv_goto (tgt := 23) hx hb dL_law_1518 (by decide) ?_
                                                                      exact hBK23 _ _ _ _ _ _ _ (by omega) (by omega) hf hR hS (lv_sub hl [1, 2, 3, 4, 0] rfl)
                                                                    · replace hf := hf.2 c328
                                                                      refine lv_iconst (v := 0) hx hb dL_law_1149 (by decide) ?_
                                                                      exact hf.elim
                                                                  · replace hf := hf.2 w323
                                                                    rcases Decidable.em (((xs x4.toNatClampNeg) &&& (63 : Int32)) = 32) with w330 | w330
                                                                    · replace hf := hf.1 w330
                                                                      refine lv_tableIn (tgt := 1151) hx hb dL_law_39 (by rw [w330]; decide) (by rw [w330]; decide) (by rw [w330]; rfl) (by decide) ?_
                                                                      refine lv_aload_n hx hb dL_law_1151 rfl (lv_at hl 1 rfl) ?_
                                                                      refine hw_callVG E hR hS (As := []) (rest := []) cI9 hs1 rfl mcX10_spare miX10_spare lmL_162 (ok_X10_spare hs1 hf) rfl rfl (Nat.le_of_ble_eq_true rfl) (Nat.le_of_ble_eq_true rfl) (by show _ ≤ 601024; omega) (by show _ ≤ 7293034; omega) hl.1 (Nat.le_of_ble_eq_true rfl) dL_law_1152 (fun rr m331 H locs hp hR hS => ?_)
                                                                      obtain ⟨r332, rfl, hf⟩ := hp
                                                                      refine W.eq (g2 := F0 m 1155 ls [.int r332]) rfl ?_
                                                                      refine lv_aload_n hx hb dL_law_1155 rfl (lv_at hl 2 rfl) ?_
                                                                      refine hw_callVG E hR hS (As := []) (rest := [.int r332]) cI10 hs2 rfl mcX11_spare miX11_spare lmL_165 (ok_X11_spare hs2 hf) rfl rfl (Nat.le_of_ble_eq_true rfl) (Nat.le_of_ble_eq_true rfl) (by show _ ≤ 601024; omega) (by show _ ≤ 7293034; omega) hl.1 (Nat.le_of_ble_eq_true rfl) dL_law_1156 (fun rr m333 H locs hp hR hS => ?_)
                                                                      obtain ⟨r334, rfl, hf⟩ := hp
                                                                      refine W.eq (g2 := F0 m 1159 ls [.int r334, .int r332]) rfl ?_
                                                                      refine lv_icmp_eq (tgt := 1515) hx hb dL_law_1159 (by decide) (fun c335 => ?_) (fun c335 => ?_)
                                                                      · replace hf := hf.1 c335
                                                                        obtain ⟨v336, ev336⟩ : ∃ y : Int32, y = x4 + (5 : Int32) := ⟨_, rfl⟩
                                                                        replace hf := hf v336 ev336
                                                                        refine lv_iinc (v := v336) (lv' := [(4, .int v336), (0, .ref b), (1, .ref (ad g a1)), (2, .ref (ad g a2)), (3, .ref (ad g a3))]) hx hb dL_law_1515 hl (k := 4) rfl (by rw [ev336]; rfl) (by decide) rfl (fun ls hl => ?_)
                                                                        refine lv_goto (tgt := 23) hx hb dL_law_1518 (by decide) ?_
                                                                        exact hBK23 _ _ _ _ _ _ _ (by omega) (by omega) hf hR hS (lv_sub hl [1, 2, 3, 4, 0] rfl)
                                                                      · replace hf := hf.2 c335
                                                                        refine lv_iconst (v := 0) hx hb dL_law_1162 (by decide) ?_
                                                                        exact hf.elim
                                                                    · replace hf := hf.2 w330
                                                                      rcases Decidable.em (((xs x4.toNatClampNeg) &&& (63 : Int32)) = 33) with w337 | w337
                                                                      · replace hf := hf.1 w337
                                                                        refine lv_tableIn (tgt := 1164) hx hb dL_law_39 (by rw [w337]; decide) (by rw [w337]; decide) (by rw [w337]; rfl) (by decide) ?_
                                                                        refine lv_aload_n hx hb dL_law_1164 rfl (lv_at hl 1 rfl) ?_
                                                                        refine lv_aload_n hx hb dL_law_1165 rfl (lv_at hl 0 rfl) ?_
                                                                        refine lv_iload hx hb dL_law_1166 (lv_at hl 4 rfl) ?_
                                                                        refine lv_iconst (v := 1) hx hb dL_law_1168 (by decide) ?_
                                                                        refine lv_iadd hx hb dL_law_1169 ?_
                                                                        obtain ⟨i338, hf⟩ := hf
                                                                        refine va_sld hx hb hX hbl hbA hS i338 dL_law_1170 ?_
                                                                        refine lv_aload_n hx hb dL_law_1171 rfl (lv_at hl 0 rfl) ?_
                                                                        refine lv_iload hx hb dL_law_1172 (lv_at hl 4 rfl) ?_
                                                                        refine lv_iconst (v := 2) hx hb dL_law_1174 (by decide) ?_
                                                                        refine lv_iadd hx hb dL_law_1175 ?_
                                                                        obtain ⟨i339, hf⟩ := hf
                                                                        refine va_sld hx hb hX hbl hbA hS i339 dL_law_1176 ?_
                                                                        refine hw_callVG E hR hS (As := [.int (xs (x4 + (1 : Int32)).toNatClampNeg), .int (xs (x4 + (2 : Int32)).toNatClampNeg)]) (rest := []) cI9 hs1 rfl mcX10_like miX10_like lmL_166 (ok_X10_like hs1 hf) rfl rfl (Nat.le_of_ble_eq_true rfl) (Nat.le_of_ble_eq_true rfl) (by show _ ≤ 601024; omega) (by show _ ≤ 7293034; omega) hl.1 (Nat.le_of_ble_eq_true rfl) dL_law_1177 (fun rr m340 H locs hp hR hS => ?_)
                                                                        obtain ⟨r341, rfl, hf⟩ := hp
                                                                        refine W.eq (g2 := F0 m 1180 ls [.int r341]) rfl ?_
                                                                        refine lv_aload_n hx hb dL_law_1180 rfl (lv_at hl 2 rfl) ?_
                                                                        refine lv_aload_n hx hb dL_law_1181 rfl (lv_at hl 0 rfl) ?_
                                                                        refine lv_iload hx hb dL_law_1182 (lv_at hl 4 rfl) ?_
                                                                        refine lv_iconst (v := 1) hx hb dL_law_1184 (by decide) ?_
                                                                        refine lv_iadd hx hb dL_law_1185 ?_
                                                                        obtain ⟨i342, hf⟩ := hf
                                                                        refine va_sld hx hb hX hbl hbA hS i342 dL_law_1186 ?_
                                                                        refine lv_aload_n hx hb dL_law_1187 rfl (lv_at hl 0 rfl) ?_
                                                                        refine lv_iload hx hb dL_law_1188 (lv_at hl 4 rfl) ?_
                                                                        refine lv_iconst (v := 2) hx hb dL_law_1190 (by decide) ?_
                                                                        refine lv_iadd hx hb dL_law_1191 ?_
                                                                        obtain ⟨i343, hf⟩ := hf
                                                                        refine va_sld hx hb hX hbl hbA hS i343 dL_law_1192 ?_
                                                                        refine hw_callVG E hR hS (As := [.int (xs (x4 + (1 : Int32)).toNatClampNeg), .int (xs (x4 + (2 : Int32)).toNatClampNeg)]) (rest := [.int r341]) cI10 hs2 rfl mcX11_like miX11_like lmL_169 (ok_X11_like hs2 hf) rfl rfl (Nat.le_of_ble_eq_true rfl) (Nat.le_of_ble_eq_true rfl) (by show _ ≤ 601024; omega) (by show _ ≤ 7293034; omega) hl.1 (Nat.le_of_ble_eq_true rfl) dL_law_1193 (fun rr m344 H locs hp hR hS => ?_)
                                                                        obtain ⟨r345, rfl, hf⟩ := hp
                                                                        refine W.eq (g2 := F0 m 1196 ls [.int r345, .int r341]) rfl ?_
                                                                        refine lv_icmp_eq (tgt := 1515) hx hb dL_law_1196 (by decide) (fun c346 => ?_) (fun c346 => ?_)
                                                                        · replace hf := hf.1 c346
                                                                          obtain ⟨v347, ev347⟩ : ∃ y : Int32, y = x4 + (5 : Int32) := ⟨_, rfl⟩
                                                                          replace hf := hf v347 ev347
                                                                          refine lv_iinc (v := v347) (lv' := [(4, .int v347), (0, .ref b), (1, .ref (ad g a1)), (2, .ref (ad g a2)), (3, .ref (ad g a3))]) hx hb dL_law_1515 hl (k := 4) rfl (by rw [ev347]; rfl) (by decide) rfl (fun ls hl => ?_)
                                                                          refine lv_goto (tgt := 23) hx hb dL_law_1518 (by decide) ?_
                                                                          exact hBK23 _ _ _ _ _ _ _ (by omega) (by omega) hf hR hS (lv_sub hl [1, 2, 3, 4, 0] rfl)
                                                                        · replace hf := hf.2 c346
                                                                          refine lv_iconst (v := 0) hx hb dL_law_1199 (by decide) ?_
                                                                          exact hf.elim
                                                                      · replace hf := hf.2 w337
                                                                        rcases Decidable.em (((xs x4.toNatClampNeg) &&& (63 : Int32)) = 34) with w348 | w348
                                                                        · replace hf := hf.1 w348
                                                                          refine lv_tableIn (tgt := 1201) hx hb dL_law_39 (by rw [w348]; decide) (by rw [w348]; decide) (by rw [w348]; rfl) (by decide) ?_
                                                                          refine lv_aload_n hx hb dL_law_1201 rfl (lv_at hl 1 rfl) ?_
                                                                          refine lv_aload_n hx hb dL_law_1202 rfl (lv_at hl 0 rfl) ?_
                                                                          refine lv_iload hx hb dL_law_1203 (lv_at hl 4 rfl) ?_
                                                                          refine lv_iconst (v := 1) hx hb dL_law_1205 (by decide) ?_
                                                                          refine lv_iadd hx hb dL_law_1206 ?_
                                                                          obtain ⟨i349, hf⟩ := hf
                                                                          refine va_sld hx hb hX hbl hbA hS i349 dL_law_1207 ?_
                                                                          refine lv_aload_n hx hb dL_law_1208 rfl (lv_at hl 0 rfl) ?_
                                                                          refine lv_iload hx hb dL_law_1209 (lv_at hl 4 rfl) ?_
                                                                          refine lv_iconst (v := 2) hx hb dL_law_1211 (by decide) ?_
                                                                          refine lv_iadd hx hb dL_law_1212 ?_
                                                                          obtain ⟨i350, hf⟩ := hf
                                                                          refine va_sld hx hb hX hbl hbA hS i350 dL_law_1213 ?_
                                                                          refine lv_aload_n hx hb dL_law_1214 rfl (lv_at hl 0 rfl) ?_
                                                                          refine lv_iload hx hb dL_law_1215 (lv_at hl 4 rfl) ?_
                                                                          refine lv_iconst (v := 3) hx hb dL_law_1217 (by decide) ?_
                                                                          refine lv_iadd hx hb dL_law_1218 ?_
                                                                          obtain ⟨i351, hf⟩ := hf
                                                                          refine va_sld hx hb hX hbl hbA hS i351 dL_law_1219 ?_
                                                                          refine hw_callVG E hR hS (As := [.int (xs (x4 + (1 : Int32)).toNatClampNeg), .int (xs (x4 + (2 : Int32)).toNatClampNeg), .int (xs (x4 + (3 : Int32)).toNatClampNeg)]) (rest := []) cI9 hs1 rfl mcX10_given miX10_given lmL_170 (ok_X10_given hs1 hf) rfl rfl (Nat.le_of_ble_eq_true rfl) (Nat.le_of_ble_eq_true rfl) (by show _ ≤ 601024; omega) (by show _ ≤ 7293034; omega) hl.1 (Nat.le_of_ble_eq_true rfl) dL_law_1220 (fun rr m352 H locs hp hR hS => ?_)
                                                                          obtain ⟨r353, rfl, hf⟩ := hp
                                                                          refine W.eq (g2 := F0 m 1223 ls [.int r353]) rfl ?_
                                                                          refine lv_aload_n hx hb dL_law_1223 rfl (lv_at hl 2 rfl) ?_
                                                                          refine lv_aload_n hx hb dL_law_1224 rfl (lv_at hl 0 rfl) ?_
                                                                          refine lv_iload hx hb dL_law_1225 (lv_at hl 4 rfl) ?_
                                                                          refine lv_iconst (v := 1) hx hb dL_law_1227 (by decide) ?_
                                                                          refine lv_iadd hx hb dL_law_1228 ?_
                                                                          obtain ⟨i354, hf⟩ := hf
                                                                          refine va_sld hx hb hX hbl hbA hS i354 dL_law_1229 ?_
                                                                          refine lv_aload_n hx hb dL_law_1230 rfl (lv_at hl 0 rfl) ?_
                                                                          refine lv_iload hx hb dL_law_1231 (lv_at hl 4 rfl) ?_
                                                                          refine lv_iconst (v := 2) hx hb dL_law_1233 (by decide) ?_
                                                                          refine lv_iadd hx hb dL_law_1234 ?_
                                                                          obtain ⟨i355, hf⟩ := hf
                                                                          refine va_sld hx hb hX hbl hbA hS i355 dL_law_1235 ?_
                                                                          refine lv_aload_n hx hb dL_law_1236 rfl (lv_at hl 0 rfl) ?_
                                                                          refine lv_iload hx hb dL_law_1237 (lv_at hl 4 rfl) ?_
                                                                          refine lv_iconst (v := 3) hx hb dL_law_1239 (by decide) ?_
                                                                          refine lv_iadd hx hb dL_law_1240 ?_
                                                                          obtain ⟨i356, hf⟩ := hf
                                                                          refine va_sld hx hb hX hbl hbA hS i356 dL_law_1241 ?_
                                                                          refine hw_callVG E hR hS (As := [.int (xs (x4 + (1 : Int32)).toNatClampNeg), .int (xs (x4 + (2 : Int32)).toNatClampNeg), .int (xs (x4 + (3 : Int32)).toNatClampNeg)]) (rest := [.int r353]) cI10 hs2 rfl mcX11_given miX11_given lmL_173 (ok_X11_given hs2 hf) rfl rfl (Nat.le_of_ble_eq_true rfl) (Nat.le_of_ble_eq_true rfl) (by show _ ≤ 601024; omega) (by show _ ≤ 7293034; omega) hl.1 (Nat.le_of_ble_eq_true rfl) dL_law_1242 (fun rr m357 H locs hp hR hS => ?_)
                                                                          obtain ⟨r358, rfl, hf⟩ := hp
                                                                          refine W.eq (g2 := F0 m 1245 ls [.int r358, .int r353]) rfl ?_
                                                                          refine lv_icmp_eq (tgt := 1515) hx hb dL_law_1245 (by decide) (fun c359 => ?_) (fun c359 => ?_)
                                                                          · replace hf := hf.1 c359
                                                                            obtain ⟨v360, ev360⟩ : ∃ y : Int32, y = x4 + (5 : Int32) := ⟨_, rfl⟩
                                                                            replace hf := hf v360 ev360
                                                                            refine lv_iinc (v := v360) (lv' := [(4, .int v360), (0, .ref b), (1, .ref (ad g a1)), (2, .ref (ad g a2)), (3, .ref (ad g a3))]) hx hb dL_law_1515 hl (k := 4) rfl (by rw [ev360]; rfl) (by decide) rfl (fun ls hl => ?_)
                                                                            refine lv_goto (tgt := 23) hx hb dL_law_1518 (by decide) ?_
                                                                            exact hBK23 _ _ _ _ _ _ _ (by omega) (by omega) hf hR hS (lv_sub hl [1, 2, 3, 4, 0] rfl)
                                                                          · replace hf := hf.2 c359
                                                                            refine lv_iconst (v := 0) hx hb dL_law_1248 (by decide) ?_
                                                                            exact hf.elim
                                                                        · replace hf := hf.2 w348
                                                                          rcases Decidable.em (((xs x4.toNatClampNeg) &&& (63 : Int32)) = 35) with w361 | w361
                                                                          · replace hf := hf.1 w361
                                                                            refine lv_tableIn (tgt := 1250) hx hb dL_law_39 (by rw [w361]; decide) (by rw [w361]; decide) (by rw [w361]; rfl) (by decide) ?_
                                                                            refine lv_aload_n hx hb dL_law_1250 rfl (lv_at hl 1 rfl) ?_
                                                                            refine lv_aload_n hx hb dL_law_1251 rfl (lv_at hl 0 rfl) ?_
                                                                            refine lv_iload hx hb dL_law_1252 (lv_at hl 4 rfl) ?_
                                                                            refine lv_iconst (v := 1) hx hb dL_law_1254 (by decide) ?_
                                                                            refine lv_iadd hx hb dL_law_1255 ?_
                                                                            obtain ⟨i362, hf⟩ := hf
                                                                            refine va_sld hx hb hX hbl hbA hS i362 dL_law_1256 ?_
                                                                            refine lv_aload_n hx hb dL_law_1257 rfl (lv_at hl 0 rfl) ?_
                                                                            refine lv_iload hx hb dL_law_1258 (lv_at hl 4 rfl) ?_
                                                                            refine lv_iconst (v := 2) hx hb dL_law_1260 (by decide) ?_
                                                                            refine lv_iadd hx hb dL_law_1261 ?_
                                                                            obtain ⟨i363, hf⟩ := hf
                                                                            refine va_sld hx hb hX hbl hbA hS i363 dL_law_1262 ?_
                                                                            refine lv_aload_n hx hb dL_law_1263 rfl (lv_at hl 0 rfl) ?_
                                                                            refine lv_iload hx hb dL_law_1264 (lv_at hl 4 rfl) ?_
                                                                            refine lv_iconst (v := 3) hx hb dL_law_1266 (by decide) ?_
                                                                            refine lv_iadd hx hb dL_law_1267 ?_
                                                                            obtain ⟨i364, hf⟩ := hf
                                                                            refine va_sld hx hb hX hbl hbA hS i364 dL_law_1268 ?_
                                                                            refine lv_aload_n hx hb dL_law_1269 rfl (lv_at hl 0 rfl) ?_
                                                                            refine lv_iload hx hb dL_law_1270 (lv_at hl 4 rfl) ?_
                                                                            refine lv_iconst (v := 4) hx hb dL_law_1272 (by decide) ?_
                                                                            refine lv_iadd hx hb dL_law_1273 ?_
                                                                            obtain ⟨i365, hf⟩ := hf
                                                                            refine va_sld hx hb hX hbl hbA hS i365 dL_law_1274 ?_
                                                                            refine hw_callVG E hR hS (As := [.int (xs (x4 + (1 : Int32)).toNatClampNeg), .int (xs (x4 + (2 : Int32)).toNatClampNeg), .int (xs (x4 + (3 : Int32)).toNatClampNeg), .int (xs (x4 + (4 : Int32)).toNatClampNeg)]) (rest := []) cI9 hs1 rfl mcX10_letter miX10_letter lmL_174 (ok_X10_letter hs1 hf) rfl rfl (Nat.le_of_ble_eq_true rfl) (Nat.le_of_ble_eq_true rfl) (by show _ ≤ 601024; omega) (by show _ ≤ 7293034; omega) hl.1 (Nat.le_of_ble_eq_true rfl) dL_law_1275 (fun rr m366 H locs hp hR hS => ?_)
                                                                            obtain ⟨r367, rfl, hf⟩ := hp
                                                                            refine W.eq (g2 := F0 m 1278 ls [.int r367]) rfl ?_
                                                                            refine lv_aload_n hx hb dL_law_1278 rfl (lv_at hl 2 rfl) ?_
                                                                            refine lv_aload_n hx hb dL_law_1279 rfl (lv_at hl 0 rfl) ?_
                                                                            refine lv_iload hx hb dL_law_1280 (lv_at hl 4 rfl) ?_
                                                                            refine lv_iconst (v := 1) hx hb dL_law_1282 (by decide) ?_
                                                                            refine lv_iadd hx hb dL_law_1283 ?_
                                                                            obtain ⟨i368, hf⟩ := hf
                                                                            refine va_sld hx hb hX hbl hbA hS i368 dL_law_1284 ?_
                                                                            refine lv_aload_n hx hb dL_law_1285 rfl (lv_at hl 0 rfl) ?_
                                                                            refine lv_iload hx hb dL_law_1286 (lv_at hl 4 rfl) ?_
                                                                            refine lv_iconst (v := 2) hx hb dL_law_1288 (by decide) ?_
                                                                            refine lv_iadd hx hb dL_law_1289 ?_
                                                                            obtain ⟨i369, hf⟩ := hf
                                                                            refine va_sld hx hb hX hbl hbA hS i369 dL_law_1290 ?_
                                                                            refine lv_aload_n hx hb dL_law_1291 rfl (lv_at hl 0 rfl) ?_
                                                                            refine lv_iload hx hb dL_law_1292 (lv_at hl 4 rfl) ?_
                                                                            refine lv_iconst (v := 3) hx hb dL_law_1294 (by decide) ?_
                                                                            refine lv_iadd hx hb dL_law_1295 ?_
                                                                            obtain ⟨i370, hf⟩ := hf
                                                                            refine va_sld hx hb hX hbl hbA hS i370 dL_law_1296 ?_
                                                                            refine lv_aload_n hx hb dL_law_1297 rfl (lv_at hl 0 rfl) ?_
                                                                            refine lv_iload hx hb dL_law_1298 (lv_at hl 4 rfl) ?_
                                                                            refine lv_iconst (v := 4) hx hb dL_law_1300 (by decide) ?_
                                                                            refine lv_iadd hx hb dL_law_1301 ?_
                                                                            obtain ⟨i371, hf⟩ := hf
                                                                            refine va_sld hx hb hX hbl hbA hS i371 dL_law_1302 ?_
                                                                            refine hw_callVG E hR hS (As := [.int (xs (x4 + (1 : Int32)).toNatClampNeg), .int (xs (x4 + (2 : Int32)).toNatClampNeg), .int (xs (x4 + (3 : Int32)).toNatClampNeg), .int (xs (x4 + (4 : Int32)).toNatClampNeg)]) (rest := [.int r367]) cI10 hs2 rfl mcX11_letter_ miX11_letter_ lmL_177 (ok_X11_letter_ hs2 hf) rfl rfl (Nat.le_of_ble_eq_true rfl) (Nat.le_of_ble_eq_true rfl) (by show _ ≤ 601024; omega) (by show _ ≤ 7293034; omega) hl.1 (Nat.le_of_ble_eq_true rfl) dL_law_1303 (fun rr m372 H locs hp hR hS => ?_)
                                                                            obtain ⟨r373, rfl, hf⟩ := hp
                                                                            refine W.eq (g2 := F0 m 1306 ls [.int r373, .int r367]) rfl ?_
                                                                            refine lv_icmp_eq (tgt := 1515) hx hb dL_law_1306 (by decide) (fun c374 => ?_) (fun c374 => ?_)
                                                                            · replace hf := hf.1 c374
                                                                              obtain ⟨v375, ev375⟩ : ∃ y : Int32, y = x4 + (5 : Int32) := ⟨_, rfl⟩
                                                                              replace hf := hf v375 ev375
                                                                              refine lv_iinc (v := v375) (lv' := [(4, .int v375), (0, .ref b), (1, .ref (ad g a1)), (2, .ref (ad g a2)), (3, .ref (ad g a3))]) hx hb dL_law_1515 hl (k := 4) rfl (by rw [ev375]; rfl) (by decide) rfl (fun ls hl => ?_)
                                                                              refine lv_goto (tgt := 23) hx hb dL_law_1518 (by decide) ?_
                                                                              exact hBK23 _ _ _ _ _ _ _ (by omega) (by omega) hf hR hS (lv_sub hl [1, 2, 3, 4, 0] rfl)
                                                                            · replace hf := hf.2 c374
                                                                              refine lv_iconst (v := 0) hx hb dL_law_1309 (by decide) ?_
                                                                              exact hf.elim
                                                                          · replace hf := hf.2 w361
                                                                            rcases Decidable.em (((xs x4.toNatClampNeg) &&& (63 : Int32)) = 36) with w376 | w376
                                                                            · replace hf := hf.1 w376
                                                                              refine lv_tableIn (tgt := 1311) hx hb dL_law_39 (by rw [w376]; decide) (by rw [w376]; decide) (by rw [w376]; rfl) (by decide) ?_
                                                                              refine lv_aload_n hx hb dL_law_1311 rfl (lv_at hl 1 rfl) ?_
                                                                              refine lv_aload_n hx hb dL_law_1312 rfl (lv_at hl 0 rfl) ?_
                                                                              refine lv_iload hx hb dL_law_1313 (lv_at hl 4 rfl) ?_
                                                                              refine lv_iconst (v := 1) hx hb dL_law_1315 (by decide) ?_
                                                                              refine lv_iadd hx hb dL_law_1316 ?_
                                                                              obtain ⟨i377, hf⟩ := hf
                                                                              refine va_sld hx hb hX hbl hbA hS i377 dL_law_1317 ?_
                                                                              refine lv_aload_n hx hb dL_law_1318 rfl (lv_at hl 0 rfl) ?_
                                                                              refine lv_iload hx hb dL_law_1319 (lv_at hl 4 rfl) ?_
                                                                              refine lv_iconst (v := 2) hx hb dL_law_1321 (by decide) ?_
                                                                              refine lv_iadd hx hb dL_law_1322 ?_
                                                                              obtain ⟨i378, hf⟩ := hf
                                                                              refine va_sld hx hb hX hbl hbA hS i378 dL_law_1323 ?_
                                                                              refine hw_callVG E hR hS (As := [.int (xs (x4 + (1 : Int32)).toNatClampNeg), .int (xs (x4 + (2 : Int32)).toNatClampNeg)]) (rest := []) cI9 hs1 rfl mcX10_knew miX10_knew lmL_178 (ok_X10_knew hs1 hf) rfl rfl (Nat.le_of_ble_eq_true rfl) (Nat.le_of_ble_eq_true rfl) (by show _ ≤ 601024; omega) (by show _ ≤ 7293034; omega) hl.1 (Nat.le_of_ble_eq_true rfl) dL_law_1324 (fun rr m379 H locs hp hR hS => ?_)
                                                                              obtain ⟨r380, rfl, hf⟩ := hp
                                                                              refine W.eq (g2 := F0 m 1327 ls [.int r380]) rfl ?_
                                                                              refine lv_aload_n hx hb dL_law_1327 rfl (lv_at hl 2 rfl) ?_
                                                                              refine lv_aload_n hx hb dL_law_1328 rfl (lv_at hl 0 rfl) ?_
                                                                              refine lv_iload hx hb dL_law_1329 (lv_at hl 4 rfl) ?_
                                                                              refine lv_iconst (v := 1) hx hb dL_law_1331 (by decide) ?_
                                                                              refine lv_iadd hx hb dL_law_1332 ?_
                                                                              obtain ⟨i381, hf⟩ := hf
                                                                              refine va_sld hx hb hX hbl hbA hS i381 dL_law_1333 ?_
                                                                              refine lv_aload_n hx hb dL_law_1334 rfl (lv_at hl 0 rfl) ?_
                                                                              refine lv_iload hx hb dL_law_1335 (lv_at hl 4 rfl) ?_
                                                                              refine lv_iconst (v := 2) hx hb dL_law_1337 (by decide) ?_
                                                                              refine lv_iadd hx hb dL_law_1338 ?_
                                                                              obtain ⟨i382, hf⟩ := hf
                                                                              refine va_sld hx hb hX hbl hbA hS i382 dL_law_1339 ?_
                                                                              refine hw_callVG E hR hS (As := [.int (xs (x4 + (1 : Int32)).toNatClampNeg), .int (xs (x4 + (2 : Int32)).toNatClampNeg)]) (rest := [.int r380]) cI10 hs2 rfl mcX11_knew miX11_knew lmL_181 (ok_X11_knew hs2 hf) rfl rfl (Nat.le_of_ble_eq_true rfl) (Nat.le_of_ble_eq_true rfl) (by show _ ≤ 601024; omega) (by show _ ≤ 7293034; omega) hl.1 (Nat.le_of_ble_eq_true rfl) dL_law_1340 (fun rr m383 H locs hp hR hS => ?_)
                                                                              obtain ⟨r384, rfl, hf⟩ := hp
                                                                              refine W.eq (g2 := F0 m 1343 ls [.int r384, .int r380]) rfl ?_
                                                                              refine lv_icmp_eq (tgt := 1515) hx hb dL_law_1343 (by decide) (fun c385 => ?_) (fun c385 => ?_)
                                                                              · replace hf := hf.1 c385
                                                                                obtain ⟨v386, ev386⟩ : ∃ y : Int32, y = x4 + (5 : Int32) := ⟨_, rfl⟩
                                                                                replace hf := hf v386 ev386
                                                                                refine lv_iinc (v := v386) (lv' := [(4, .int v386), (0, .ref b), (1, .ref (ad g a1)), (2, .ref (ad g a2)), (3, .ref (ad g a3))]) hx hb dL_law_1515 hl (k := 4) rfl (by rw [ev386]; rfl) (by decide) rfl (fun ls hl => ?_)
                                                                                refine lv_goto (tgt := 23) hx hb dL_law_1518 (by decide) ?_
                                                                                exact hBK23 _ _ _ _ _ _ _ (by omega) (by omega) hf hR hS (lv_sub hl [1, 2, 3, 4, 0] rfl)
                                                                              · replace hf := hf.2 c385
                                                                                refine lv_iconst (v := 0) hx hb dL_law_1346 (by decide) ?_
                                                                                exact hf.elim
                                                                            · replace hf := hf.2 w376
                                                                              rcases Decidable.em (((xs x4.toNatClampNeg) &&& (63 : Int32)) = 37) with w387 | w387
                                                                              · replace hf := hf.1 w387
                                                                                refine lv_tableIn (tgt := 1348) hx hb dL_law_39 (by rw [w387]; decide) (by rw [w387]; decide) (by rw [w387]; rfl) (by decide) ?_
                                                                                refine lv_aload_n hx hb dL_law_1348 rfl (lv_at hl 1 rfl) ?_
                                                                                refine lv_aload_n hx hb dL_law_1349 rfl (lv_at hl 0 rfl) ?_
                                                                                refine lv_iload hx hb dL_law_1350 (lv_at hl 4 rfl) ?_
                                                                                refine lv_iconst (v := 1) hx hb dL_law_1352 (by decide) ?_
                                                                                refine lv_iadd hx hb dL_law_1353 ?_
                                                                                obtain ⟨i388, hf⟩ := hf
                                                                                refine va_sld hx hb hX hbl hbA hS i388 dL_law_1354 ?_
                                                                                refine lv_aload_n hx hb dL_law_1355 rfl (lv_at hl 0 rfl) ?_
                                                                                refine lv_iload hx hb dL_law_1356 (lv_at hl 4 rfl) ?_
                                                                                refine lv_iconst (v := 2) hx hb dL_law_1358 (by decide) ?_
                                                                                refine lv_iadd hx hb dL_law_1359 ?_
                                                                                obtain ⟨i389, hf⟩ := hf
                                                                                refine va_sld hx hb hX hbl hbA hS i389 dL_law_1360 ?_
                                                                                refine hw_callVG E hR hS (As := [.int (xs (x4 + (1 : Int32)).toNatClampNeg), .int (xs (x4 + (2 : Int32)).toNatClampNeg)]) (rest := []) cI9 hs1 rfl mcX10_enough miX10_enough lmL_182 (ok_X10_enough hs1 hf) rfl rfl (Nat.le_of_ble_eq_true rfl) (Nat.le_of_ble_eq_true rfl) (by show _ ≤ 601024; omega) (by show _ ≤ 7293034; omega) hl.1 (Nat.le_of_ble_eq_true rfl) dL_law_1361 (fun rr m390 H locs hp hR hS => ?_)
                                                                                obtain ⟨r391, rfl, hf⟩ := hp
                                                                                refine W.eq (g2 := F0 m 1364 ls [.int r391]) rfl ?_
                                                                                refine lv_aload_n hx hb dL_law_1364 rfl (lv_at hl 2 rfl) ?_
                                                                                refine lv_aload_n hx hb dL_law_1365 rfl (lv_at hl 0 rfl) ?_
                                                                                refine lv_iload hx hb dL_law_1366 (lv_at hl 4 rfl) ?_
                                                                                refine lv_iconst (v := 1) hx hb dL_law_1368 (by decide) ?_
                                                                                refine lv_iadd hx hb dL_law_1369 ?_
                                                                                obtain ⟨i392, hf⟩ := hf
                                                                                refine va_sld hx hb hX hbl hbA hS i392 dL_law_1370 ?_
                                                                                refine lv_aload_n hx hb dL_law_1371 rfl (lv_at hl 0 rfl) ?_
                                                                                refine lv_iload hx hb dL_law_1372 (lv_at hl 4 rfl) ?_
                                                                                refine lv_iconst (v := 2) hx hb dL_law_1374 (by decide) ?_
                                                                                refine lv_iadd hx hb dL_law_1375 ?_
                                                                                obtain ⟨i393, hf⟩ := hf
                                                                                refine va_sld hx hb hX hbl hbA hS i393 dL_law_1376 ?_
                                                                                refine hw_callVG E hR hS (As := [.int (xs (x4 + (1 : Int32)).toNatClampNeg), .int (xs (x4 + (2 : Int32)).toNatClampNeg)]) (rest := [.int r391]) cI10 hs2 rfl mcX11_enough miX11_enough lmL_185 (ok_X11_enough hs2 hf) rfl rfl (Nat.le_of_ble_eq_true rfl) (Nat.le_of_ble_eq_true rfl) (by show _ ≤ 601024; omega) (by show _ ≤ 7293034; omega) hl.1 (Nat.le_of_ble_eq_true rfl) dL_law_1377 (fun rr m394 H locs hp hR hS => ?_)
                                                                                obtain ⟨r395, rfl, hf⟩ := hp
                                                                                refine W.eq (g2 := F0 m 1380 ls [.int r395, .int r391]) rfl ?_
                                                                                refine lv_icmp_eq (tgt := 1515) hx hb dL_law_1380 (by decide) (fun c396 => ?_) (fun c396 => ?_)
                                                                                · replace hf := hf.1 c396
                                                                                  obtain ⟨v397, ev397⟩ : ∃ y : Int32, y = x4 + (5 : Int32) := ⟨_, rfl⟩
                                                                                  replace hf := hf v397 ev397
                                                                                  refine lv_iinc (v := v397) (lv' := [(4, .int v397), (0, .ref b), (1, .ref (ad g a1)), (2, .ref (ad g a2)), (3, .ref (ad g a3))]) hx hb dL_law_1515 hl (k := 4) rfl (by rw [ev397]; rfl) (by decide) rfl (fun ls hl => ?_)
                                                                                  refine lv_goto (tgt := 23) hx hb dL_law_1518 (by decide) ?_
                                                                                  exact hBK23 _ _ _ _ _ _ _ (by omega) (by omega) hf hR hS (lv_sub hl [1, 2, 3, 4, 0] rfl)
                                                                                · replace hf := hf.2 c396
                                                                                  refine lv_iconst (v := 0) hx hb dL_law_1383 (by decide) ?_
                                                                                  exact hf.elim
                                                                              · replace hf := hf.2 w387
                                                                                rcases Decidable.em (((xs x4.toNatClampNeg) &&& (63 : Int32)) = 38) with w398 | w398
                                                                                · replace hf := hf.1 w398
                                                                                  refine lv_tableIn (tgt := 1385) hx hb dL_law_39 (by rw [w398]; decide) (by rw [w398]; decide) (by rw [w398]; rfl) (by decide) ?_
                                                                                  refine lv_aload_n hx hb dL_law_1385 rfl (lv_at hl 1 rfl) ?_
                                                                                  refine lv_aload_n hx hb dL_law_1386 rfl (lv_at hl 0 rfl) ?_
                                                                                  refine lv_iload hx hb dL_law_1387 (lv_at hl 4 rfl) ?_
                                                                                  refine lv_iconst (v := 1) hx hb dL_law_1389 (by decide) ?_
                                                                                  refine lv_iadd hx hb dL_law_1390 ?_
                                                                                  obtain ⟨i399, hf⟩ := hf
                                                                                  refine va_sld hx hb hX hbl hbA hS i399 dL_law_1391 ?_
                                                                                  refine hw_callVG E hR hS (As := [.int (xs (x4 + (1 : Int32)).toNatClampNeg)]) (rest := []) cI9 hs1 rfl mcX10_keep miX10_keep lmL_186 (ok_X10_keep hs1 hf) rfl rfl (Nat.le_of_ble_eq_true rfl) (Nat.le_of_ble_eq_true rfl) (by show _ ≤ 601024; omega) (by show _ ≤ 7293034; omega) hl.1 (Nat.le_of_ble_eq_true rfl) dL_law_1392 (fun rr m400 H locs hp hR hS => ?_)
                                                                                  obtain ⟨r401, rfl, hf⟩ := hp
                                                                                  refine W.eq (g2 := F0 m 1395 ls [.int r401]) rfl ?_
                                                                                  refine lv_aload_n hx hb dL_law_1395 rfl (lv_at hl 2 rfl) ?_
                                                                                  refine lv_aload_n hx hb dL_law_1396 rfl (lv_at hl 0 rfl) ?_
                                                                                  refine lv_iload hx hb dL_law_1397 (lv_at hl 4 rfl) ?_
                                                                                  refine lv_iconst (v := 1) hx hb dL_law_1399 (by decide) ?_
                                                                                  refine lv_iadd hx hb dL_law_1400 ?_
                                                                                  obtain ⟨i402, hf⟩ := hf
                                                                                  refine va_sld hx hb hX hbl hbA hS i402 dL_law_1401 ?_
                                                                                  refine hw_callVG E hR hS (As := [.int (xs (x4 + (1 : Int32)).toNatClampNeg)]) (rest := [.int r401]) cI10 hs2 rfl mcX11_keep miX11_keep lmL_189 (ok_X11_keep hs2 hf) rfl rfl (Nat.le_of_ble_eq_true rfl) (Nat.le_of_ble_eq_true rfl) (by show _ ≤ 601024; omega) (by show _ ≤ 7293034; omega) hl.1 (Nat.le_of_ble_eq_true rfl) dL_law_1402 (fun rr m403 H locs hp hR hS => ?_)
                                                                                  obtain ⟨r404, rfl, hf⟩ := hp
                                                                                  refine W.eq (g2 := F0 m 1405 ls [.int r404, .int r401]) rfl ?_
                                                                                  refine lv_icmp_eq (tgt := 1515) hx hb dL_law_1405 (by decide) (fun c405 => ?_) (fun c405 => ?_)
                                                                                  · replace hf := hf.1 c405
                                                                                    obtain ⟨v406, ev406⟩ : ∃ y : Int32, y = x4 + (5 : Int32) := ⟨_, rfl⟩
                                                                                    replace hf := hf v406 ev406
                                                                                    refine lv_iinc (v := v406) (lv' := [(4, .int v406), (0, .ref b), (1, .ref (ad g a1)), (2, .ref (ad g a2)), (3, .ref (ad g a3))]) hx hb dL_law_1515 hl (k := 4) rfl (by rw [ev406]; rfl) (by decide) rfl (fun ls hl => ?_)
                                                                                    refine lv_goto (tgt := 23) hx hb dL_law_1518 (by decide) ?_
                                                                                    exact hBK23 _ _ _ _ _ _ _ (by omega) (by omega) hf hR hS (lv_sub hl [1, 2, 3, 4, 0] rfl)
                                                                                  · replace hf := hf.2 c405
                                                                                    refine lv_iconst (v := 0) hx hb dL_law_1408 (by decide) ?_
                                                                                    exact hf.elim
                                                                                · replace hf := hf.2 w398
                                                                                  rcases Decidable.em (((xs x4.toNatClampNeg) &&& (63 : Int32)) = 39) with w407 | w407
                                                                                  · replace hf := hf.1 w407
                                                                                    refine lv_tableIn (tgt := 1410) hx hb dL_law_39 (by rw [w407]; decide) (by rw [w407]; decide) (by rw [w407]; rfl) (by decide) ?_
                                                                                    refine lv_aload_n hx hb dL_law_1410 rfl (lv_at hl 1 rfl) ?_
                                                                                    refine lv_aload_n hx hb dL_law_1411 rfl (lv_at hl 0 rfl) ?_
                                                                                    refine lv_iload hx hb dL_law_1412 (lv_at hl 4 rfl) ?_
                                                                                    refine lv_iconst (v := 1) hx hb dL_law_1414 (by decide) ?_
                                                                                    refine lv_iadd hx hb dL_law_1415 ?_
                                                                                    obtain ⟨i408, hf⟩ := hf
                                                                                    refine va_sld hx hb hX hbl hbA hS i408 dL_law_1416 ?_
                                                                                    refine hw_callVG E hR hS (As := [.int (xs (x4 + (1 : Int32)).toNatClampNeg)]) (rest := []) cI9 hs1 rfl mcX10_again miX10_again lmL_190 (ok_X10_again hs1 hf) rfl rfl (Nat.le_of_ble_eq_true rfl) (Nat.le_of_ble_eq_true rfl) (by show _ ≤ 601024; omega) (by show _ ≤ 7293034; omega) hl.1 (Nat.le_of_ble_eq_true rfl) dL_law_1417 (fun rr m409 H locs hp hR hS => ?_)
                                                                                    obtain ⟨r410, rfl, hf⟩ := hp
                                                                                    refine W.eq (g2 := F0 m 1420 ls [.int r410]) rfl ?_
                                                                                    refine lv_aload_n hx hb dL_law_1420 rfl (lv_at hl 2 rfl) ?_
                                                                                    refine lv_aload_n hx hb dL_law_1421 rfl (lv_at hl 0 rfl) ?_
                                                                                    refine lv_iload hx hb dL_law_1422 (lv_at hl 4 rfl) ?_
                                                                                    refine lv_iconst (v := 1) hx hb dL_law_1424 (by decide) ?_
                                                                                    refine lv_iadd hx hb dL_law_1425 ?_
                                                                                    obtain ⟨i411, hf⟩ := hf
                                                                                    refine va_sld hx hb hX hbl hbA hS i411 dL_law_1426 ?_
                                                                                    refine hw_callVG E hR hS (As := [.int (xs (x4 + (1 : Int32)).toNatClampNeg)]) (rest := [.int r410]) cI10 hs2 rfl mcX11_again miX11_again lmL_193 (ok_X11_again hs2 hf) rfl rfl (Nat.le_of_ble_eq_true rfl) (Nat.le_of_ble_eq_true rfl) (by show _ ≤ 601024; omega) (by show _ ≤ 7293034; omega) hl.1 (Nat.le_of_ble_eq_true rfl) dL_law_1427 (fun rr m412 H locs hp hR hS => ?_)
                                                                                    obtain ⟨r413, rfl, hf⟩ := hp
                                                                                    refine W.eq (g2 := F0 m 1430 ls [.int r413, .int r410]) rfl ?_
                                                                                    refine lv_icmp_eq (tgt := 1515) hx hb dL_law_1430 (by decide) (fun c414 => ?_) (fun c414 => ?_)
                                                                                    · replace hf := hf.1 c414
                                                                                      obtain ⟨v415, ev415⟩ : ∃ y : Int32, y = x4 + (5 : Int32) := ⟨_, rfl⟩
                                                                                      replace hf := hf v415 ev415
                                                                                      refine lv_iinc (v := v415) (lv' := [(4, .int v415), (0, .ref b), (1, .ref (ad g a1)), (2, .ref (ad g a2)), (3, .ref (ad g a3))]) hx hb dL_law_1515 hl (k := 4) rfl (by rw [ev415]; rfl) (by decide) rfl (fun ls hl => ?_)
                                                                                      refine lv_goto (tgt := 23) hx hb dL_law_1518 (by decide) ?_
                                                                                      exact hBK23 _ _ _ _ _ _ _ (by omega) (by omega) hf hR hS (lv_sub hl [1, 2, 3, 4, 0] rfl)
                                                                                    · replace hf := hf.2 c414
                                                                                      refine lv_iconst (v := 0) hx hb dL_law_1433 (by decide) ?_
                                                                                      exact hf.elim
                                                                                  · replace hf := hf.2 w407
                                                                                    rcases Decidable.em (((xs x4.toNatClampNeg) &&& (63 : Int32)) = 40) with w416 | w416
                                                                                    · replace hf := hf.1 w416
                                                                                      refine lv_tableIn (tgt := 1435) hx hb dL_law_39 (by rw [w416]; decide) (by rw [w416]; decide) (by rw [w416]; rfl) (by decide) ?_
                                                                                      refine lv_aload_n hx hb dL_law_1435 rfl (lv_at hl 1 rfl) ?_
                                                                                      refine lv_aload_n hx hb dL_law_1436 rfl (lv_at hl 0 rfl) ?_
                                                                                      refine lv_iload hx hb dL_law_1437 (lv_at hl 4 rfl) ?_
                                                                                      refine lv_iconst (v := 1) hx hb dL_law_1439 (by decide) ?_
                                                                                      refine lv_iadd hx hb dL_law_1440 ?_
                                                                                      obtain ⟨i417, hf⟩ := hf
                                                                                      refine va_sld hx hb hX hbl hbA hS i417 dL_law_1441 ?_
                                                                                      refine hw_callVG E hR hS (As := [.int (xs (x4 + (1 : Int32)).toNatClampNeg)]) (rest := []) cI9 hs1 rfl mcX10_count miX10_count lmL_194 (ok_X10_count hs1 hf) rfl rfl (Nat.le_of_ble_eq_true rfl) (Nat.le_of_ble_eq_true rfl) (by show _ ≤ 601024; omega) (by show _ ≤ 7293034; omega) hl.1 (Nat.le_of_ble_eq_true rfl) dL_law_1442 (fun rr m418 H locs hp hR hS => ?_)
                                                                                      obtain ⟨r419, rfl, hf⟩ := hp
                                                                                      refine W.eq (g2 := F0 m 1445 ls [.int r419]) rfl ?_
                                                                                      refine lv_aload_n hx hb dL_law_1445 rfl (lv_at hl 2 rfl) ?_
                                                                                      refine lv_aload_n hx hb dL_law_1446 rfl (lv_at hl 0 rfl) ?_
                                                                                      refine lv_iload hx hb dL_law_1447 (lv_at hl 4 rfl) ?_
                                                                                      refine lv_iconst (v := 1) hx hb dL_law_1449 (by decide) ?_
                                                                                      refine lv_iadd hx hb dL_law_1450 ?_
                                                                                      obtain ⟨i420, hf⟩ := hf
                                                                                      refine va_sld hx hb hX hbl hbA hS i420 dL_law_1451 ?_
                                                                                      refine hw_callVG E hR hS (As := [.int (xs (x4 + (1 : Int32)).toNatClampNeg)]) (rest := [.int r419]) cI10 hs2 rfl mcX11_count miX11_count lmL_197 (ok_X11_count hs2 hf) rfl rfl (Nat.le_of_ble_eq_true rfl) (Nat.le_of_ble_eq_true rfl) (by show _ ≤ 601024; omega) (by show _ ≤ 7293034; omega) hl.1 (Nat.le_of_ble_eq_true rfl) dL_law_1452 (fun rr m421 H locs hp hR hS => ?_)
                                                                                      obtain ⟨r422, rfl, hf⟩ := hp
                                                                                      refine W.eq (g2 := F0 m 1455 ls [.int r422, .int r419]) rfl ?_
                                                                                      refine lv_icmp_eq (tgt := 1515) hx hb dL_law_1455 (by decide) (fun c423 => ?_) (fun c423 => ?_)
                                                                                      · replace hf := hf.1 c423
                                                                                        obtain ⟨v424, ev424⟩ : ∃ y : Int32, y = x4 + (5 : Int32) := ⟨_, rfl⟩
                                                                                        replace hf := hf v424 ev424
                                                                                        refine lv_iinc (v := v424) (lv' := [(4, .int v424), (0, .ref b), (1, .ref (ad g a1)), (2, .ref (ad g a2)), (3, .ref (ad g a3))]) hx hb dL_law_1515 hl (k := 4) rfl (by rw [ev424]; rfl) (by decide) rfl (fun ls hl => ?_)
                                                                                        refine lv_goto (tgt := 23) hx hb dL_law_1518 (by decide) ?_
                                                                                        exact hBK23 _ _ _ _ _ _ _ (by omega) (by omega) hf hR hS (lv_sub hl [1, 2, 3, 4, 0] rfl)
                                                                                      · replace hf := hf.2 c423
                                                                                        refine lv_iconst (v := 0) hx hb dL_law_1458 (by decide) ?_
                                                                                        exact hf.elim
                                                                                    · replace hf := hf.2 w416
                                                                                      rcases Decidable.em (((xs x4.toNatClampNeg) &&& (63 : Int32)) = 41) with w425 | w425
                                                                                      · replace hf := hf.1 w425
                                                                                        refine lv_tableIn (tgt := 1460) hx hb dL_law_39 (by rw [w425]; decide) (by rw [w425]; decide) (by rw [w425]; rfl) (by decide) ?_
                                                                                        refine lv_aload_n hx hb dL_law_1460 rfl (lv_at hl 1 rfl) ?_
                                                                                        refine lv_aload_n hx hb dL_law_1461 rfl (lv_at hl 0 rfl) ?_
                                                                                        refine lv_iload hx hb dL_law_1462 (lv_at hl 4 rfl) ?_
                                                                                        refine lv_iconst (v := 1) hx hb dL_law_1464 (by decide) ?_
                                                                                        refine lv_iadd hx hb dL_law_1465 ?_
                                                                                        obtain ⟨i426, hf⟩ := hf
                                                                                        refine va_sld hx hb hX hbl hbA hS i426 dL_law_1466 ?_
                                                                                        refine lv_aload_n hx hb dL_law_1467 rfl (lv_at hl 3 rfl) ?_
                                                                                        refine hw_callLT hT E hR hS (As := [.ref (ad g a1), .int (xs (x4 + (1 : Int32)).toNatClampNeg), .ref (ad g a3)]) (rest := []) cwL_row (ok_L_row hst hs1 hf) rfl rfl (Nat.le_of_ble_eq_true rfl) (Nat.le_of_ble_eq_true rfl) (by show _ ≤ 601024; omega) (by show _ ≤ 7293034; omega) hl.1 (Nat.le_of_ble_eq_true rfl) dL_law_1468 (fun rr m427 H locs hp hR hS => ?_)
                                                                                        obtain ⟨r428, rfl, hf⟩ := hp
                                                                                        refine W.eq (g2 := F0 m 1471 ls [.int r428]) rfl ?_
                                                                                        refine lv_istore (lv' := [(5, .int r428), (0, .ref b), (1, .ref (ad g a1)), (2, .ref (ad g a2)), (3, .ref (ad g a3)), (4, .int x4)]) hx hb dL_law_1471 hl (by decide) rfl (fun ls hl => ?_)
                                                                                        refine lv_aload_n hx hb dL_law_1473 rfl (lv_at hl 3 rfl) ?_
                                                                                        refine lv_aload_n hx hb dL_law_1474 rfl (lv_at hl 1 rfl) ?_
                                                                                        refine lv_iload hx hb dL_law_1475 (lv_at hl 5 rfl) ?_
                                                                                        refine lv_iconst (v := 1) hx hb dL_law_1477 (by decide) ?_
                                                                                        refine lv_iadd hx hb dL_law_1478 ?_
                                                                                        obtain ⟨i429, hf⟩ := hf
                                                                                        refine va_sld hx hb hX hbl hbA hS i429 dL_law_1479 ?_
                                                                                        refine hw_callVG E hR hS (As := [.int (xs (x4 + (1 : Int32)).toNatClampNeg)]) (rest := []) cI10 hs2 rfl mcX11_row miX11_row lmL_200 (ok_X11_row hs2 hf) rfl rfl (Nat.le_of_ble_eq_true rfl) (Nat.le_of_ble_eq_true rfl) (by show _ ≤ 601024; omega) (by show _ ≤ 7293034; omega) hl.1 (Nat.le_of_ble_eq_true rfl) dL_law_1480 (fun rr m430 H locs hp hR hS => ?_)
                                                                                        obtain ⟨r431, rfl, hf⟩ := hp
                                                                                        refine W.eq (g2 := F0 m 1483 ls [.long r431]) rfl ?_
                                                                                        refine lv_lstore (lv' := [(6, .long r431), (5, .int r428), (0, .ref b), (1, .ref (ad g a1)), (2, .ref (ad g a2)), (3, .ref (ad g a3)), (4, .int x4)]) hx hb dL_law_1483 hl (by decide) rfl (fun ls hl => ?_)
                                                                                        refine lv_aload_n hx hb dL_law_1485 rfl (lv_at hl 4 rfl) ?_
                                                                                        refine hw_callVG E hR hS (As := []) (rest := []) cI10 hs2 rfl mcX11_thrown miX11_thrown lmL_78 (ok_X11_thrown hs2 hf) rfl rfl (Nat.le_of_ble_eq_true rfl) (Nat.le_of_ble_eq_true rfl) (by show _ ≤ 601024; omega) (by show _ ≤ 7293034; omega) hl.1 (Nat.le_of_ble_eq_true rfl) dL_law_1486 (fun rr m432 H locs hp hR hS => ?_)
                                                                                        obtain ⟨r433, rfl, hf⟩ := hp
                                                                                        refine W.eq (g2 := F0 m 1489 ls [.int r433]) rfl ?_
                                                                                        refine lv_iload hx hb dL_law_1489 (lv_at hl 1 rfl) ?_
                                                                                        refine lv_icmp_eq (tgt := 1496) hx hb dL_law_1491 (by decide) (fun c434 => ?_) (fun c434 => ?_)
                                                                                        · replace hf := hf.1 c434
                                                                                          refine lv_iload hx hb dL_law_1496 (lv_at hl 1 rfl) ?_
                                                                                          refine lv_if_ne (tgt := 1512) hx hb dL_law_1498 (by decide) (fun c435 => ?_) (fun c435 => ?_)
                                                                                          · replace hf := hf.2 c435
                                                                                            refine lv_goto (tgt := 1515) hx hb dL_law_1512 (by decide) ?_
                                                                                            obtain ⟨v436, ev436⟩ : ∃ y : Int32, y = x4 + (5 : Int32) := ⟨_, rfl⟩
                                                                                            replace hf := hf v436 ev436
                                                                                            refine lv_iinc (v := v436) (lv' := [(4, .int v436), (6, .long r431), (5, .int r428), (0, .ref b), (1, .ref (ad g a1)), (2, .ref (ad g a2)), (3, .ref (ad g a3))]) hx hb dL_law_1515 hl (k := 6) rfl (by rw [ev436]; rfl) (by decide) rfl (fun ls hl => ?_)
                                                                                            refine lv_goto (tgt := 23) hx hb dL_law_1518 (by decide) ?_
                                                                                            exact hBK23 _ _ _ _ _ _ _ (by omega) (by omega) hf hR hS (lv_sub hl [3, 4, 5, 6, 0] rfl)
                                                                                          · replace hf := hf.1 c435
                                                                                            refine lv_aload_n hx hb dL_law_1501 rfl (lv_at hl 5 rfl) ?_
                                                                                            refine lv_iconst (v := 0) hx hb dL_law_1502 (by decide) ?_
                                                                                            obtain ⟨n437, hn437, in437, hf⟩ := hf
                                                                                            refine hw_lald E hR hn437 in437 dL_law_1503 ?_
                                                                                            refine lv_lload hx hb dL_law_1504 (lv_at hl 0 rfl) ?_
                                                                                            refine hw_lif_eq (tgt := 1512) hx hb dL_law_1506 dL_law_1507 (by decide) (fun c438 => ?_) (fun c438 => ?_)
                                                                                            · replace hf := hf.1 c438
                                                                                              refine lv_goto (tgt := 1515) hx hb dL_law_1512 (by decide) ?_
                                                                                              obtain ⟨v439, ev439⟩ : ∃ y : Int32, y = x4 + (5 : Int32) := ⟨_, rfl⟩
                                                                                              replace hf := hf v439 ev439
                                                                                              refine lv_iinc (v := v439) (lv' := [(4, .int v439), (6, .long r431), (5, .int r428), (0, .ref b), (1, .ref (ad g a1)), (2, .ref (ad g a2)), (3, .ref (ad g a3))]) hx hb dL_law_1515 hl (k := 6) rfl (by rw [ev439]; rfl) (by decide) rfl (fun ls hl => ?_)
                                                                                              refine lv_goto (tgt := 23) hx hb dL_law_1518 (by decide) ?_
                                                                                              exact hBK23 _ _ _ _ _ _ _ (by omega) (by omega) hf hR hS (lv_sub hl [3, 4, 5, 6, 0] rfl)
                                                                                            · replace hf := hf.2 c438
                                                                                              refine lv_iconst (v := 0) hx hb dL_law_1510 (by decide) ?_
                                                                                              exact hf.elim
                                                                                        · replace hf := hf.2 c434
                                                                                          refine lv_iconst (v := 0) hx hb dL_law_1494 (by decide) ?_
                                                                                          exact hf.elim
                                                                                      · replace hf := hf.2 w425
                                                                                        refine lv_tableOut (tgt := 1515) hx hb dL_law_39 (by have := lv_neT w3 (a := 0) (by decide); have := lv_neT w12 (a := 1) (by decide); have := lv_neT w21 (a := 2) (by decide); have := lv_neT w30 (a := 3) (by decide); have := lv_neT w37 (a := 4) (by decide); have := lv_neT w44 (a := 5) (by decide); have := lv_neT w74 (a := 6) (by decide); have := lv_neT w85 (a := 7) (by decide); have := lv_neT w96 (a := 8) (by decide); have := lv_neT w105 (a := 9) (by decide); have := lv_neT w116 (a := 10) (by decide); have := lv_neT w131 (a := 11) (by decide); have := lv_neT w146 (a := 12) (by decide); have := lv_neT w153 (a := 13) (by decide); have := lv_neT w162 (a := 14) (by decide); have := lv_neT w171 (a := 15) (by decide); have := lv_neT w180 (a := 16) (by decide); have := lv_neT w189 (a := 17) (by decide); have := lv_neT w198 (a := 18) (by decide); have := lv_neT w211 (a := 19) (by decide); have := lv_neT w222 (a := 20) (by decide); have := lv_neT w231 (a := 21) (by decide); have := lv_neT w242 (a := 22) (by decide); have := lv_neT w253 (a := 23) (by decide); have := lv_neT w264 (a := 24) (by decide); have := lv_neT w273 (a := 25) (by decide); have := lv_neT w284 (a := 26) (by decide); have := lv_neT w293 (a := 27) (by decide); have := lv_neT w300 (a := 28) (by decide); have := lv_neT w309 (a := 29) (by decide); have := lv_neT w316 (a := 30) (by decide); have := lv_neT w323 (a := 31) (by decide); have := lv_neT w330 (a := 32) (by decide); have := lv_neT w337 (a := 33) (by decide); have := lv_neT w348 (a := 34) (by decide); have := lv_neT w361 (a := 35) (by decide); have := lv_neT w376 (a := 36) (by decide); have := lv_neT w387 (a := 37) (by decide); have := lv_neT w398 (a := 38) (by decide); have := lv_neT w407 (a := 39) (by decide); have := lv_neT w416 (a := 40) (by decide); have := lv_neT w425 (a := 41) (by decide); omega) (by decide) ?_
                                                                                        obtain ⟨v440, ev440⟩ : ∃ y : Int32, y = x4 + (5 : Int32) := ⟨_, rfl⟩
                                                                                        replace hf := hf v440 ev440
                                                                                        refine lv_iinc (v := v440) (lv' := [(4, .int v440), (0, .ref b), (1, .ref (ad g a1)), (2, .ref (ad g a2)), (3, .ref (ad g a3))]) hx hb dL_law_1515 hl (k := 4) rfl (by rw [ev440]; rfl) (by decide) rfl (fun ls hl => ?_)
                                                                                        refine lv_goto (tgt := 23) hx hb dL_law_1518 (by decide) ?_
                                                                                        exact hBK23 _ _ _ _ _ _ _ (by omega) (by omega) hf hR hS (lv_sub hl [1, 2, 3, 4, 0] rfl)
theorem w_L_law_L {p : Program} {l : Launch} {e : Env} {s : State} {m : MethodId} {below : List Frame} {meth : Method} {c : Code} {g : Gg} {S : Ss} {b L : Nat} {xs : Nat → Int32} {a1 a2 a3 : Nat} (E : EN p s m #[Value.ref b] meth c cL_law 8 ret RL g) (hst : l.stackTraces = false) (hT : TW g s) (hg1 : g.1 = s.heap.size) (hX : va_X b L xs s s.heap) (hbl : b < s.heap.size) (hbA : ¬ gA g b) (hw : ad g 100000 < s.heap.size) (hs1 : S[a1]? = some (9, 0)) (hs2 : S[a2]? = some (10, 0)) : ∀ (n : Nat) (x4 : Int32) (M : Mm), f_L_law_L S xs L a1 a2 a3 n x4 M → ∀ (cells slots : Nat), cells + n ≤ 601024 → slots + 6 * n ≤ 7293034 → ∀ (H : Heap) (locs : List Loc) (ls : Array Slot), RP g S M H → va_S (gA g) s.heap H locs → lv_has ls 8 [(0, .ref b), (1, .ref (ad g a1)), (2, .ref (ad g a2)), (3, .ref (ad g a3)), (4, .int x4)] → W p l e room_1 s m #[Value.ref b] below meth c H locs cells slots (lw_Z below #[Value.ref b] s) (F0 m 23 ls []) := by
  intro n
  induction n with
  | zero => intro x4 M hf; exact hf.elim
  | succ n ih =>
    intro x4 M hf cells slots hce hsl H locs ls hR hS hl
    exact w_L_law_B E hst hT hg1 hX hbl hbA hw hs1 hs2 cells slots (by omega) (by omega) x4 M _ (fun x4' M' cells' slots' H locs ls h1 h2 h hR hS hl => ih x4' M' h cells' slots' (by omega) (by omega) H locs ls hR hS hl) hf H locs ls hR hS hl
