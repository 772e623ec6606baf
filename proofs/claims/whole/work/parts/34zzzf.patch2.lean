/-- the model reads one line alone, and says how it went -/
theorem line1M_ok {c : Nat → Nat} {n len N q kd nu : Nat} {b : Bool} {e : List Nat} {M : Mm} {K : Int32 → Mm → Prop} (hL : LX c len N 0 b q kd nu e) (hF : FX M) (hn : n ≤ 100) (hlen : len = if 60 < n then 60 else n) (htx : ∀ j, j < len → M.1 144 j = nI (c j) ∧ c j < 256) (h5 : M.1 142 5 = nI 0) (h7 : M.1 142 7 = nI 0) (h8 : M.1 142 8 = 0) (h6 : M.1 142 6 = nI len)
    (hbad : (b = true → q ≠ len) → ∀ M', Fr (dLm 74) eN M M' → K ((-1 : Int32) - nI q) M') (hlong : b = true → q = len → 60 < n → ∀ M', Fr (dLm 74) eN M M' → K (-61) M') (hok : b = true → q = len → n ≤ 60 → ∀ M', Fr (dLm 74) eN M M' → LnM M' 74 kd nu e → K 0 M') : f_X11_line S0 142 (74 : Int32) M (fun r14 m13 => f_X11_fault S0 142 (nI n) r14 m13 K) := by
  have hle : len ≤ 60 := by rw [hlen]; split <;> omega
  have bd := LX_bd hle (by omega) hL
  have hq : q ≤ len := by
    rcases hb : b with _ | _
    · exact (bd.2 hb).2
    · exact (bd.1 hb).2.1
  have d6 : ∀ M', Fr (dLm 74) eN M M' → M'.1 142 6 = nI len := fun M' f' => by rw [f'.1 142 6 rfl]; exact h6
  refine lineM_ok (r := 74) hL (by omega) hF h6 hle htx h8 h5 h7 (by omega) (fun hb M2 f2 p2 => ?_) (fun hb M2 f2 p2 p7 x1 x2 x3 => ?_)
  · exact fault_ok (b := b) p2 (d6 M2 f2) hq hn hlen (by rw [hb]; rfl) (fun h => hbad h M2 f2) (fun h => by rw [hb] at h; exact absurd h (by decide)) (fun h => by rw [hb] at h; exact absurd h (by decide))
  · exact fault_ok (b := b) p2 (d6 M2 f2) hq hn hlen (by rw [hb]; rfl) (fun h => hbad h M2 f2) (fun h1 h2 h3 => hlong h1 h2 h3 M2 f2) (fun h1 h2 h3 => hok h1 h2 h3 M2 f2 ⟨x1, x2, x3⟩)
/-- as D3, the patches' count and places too -/
def D5 : Nat → Nat → Bool := fun b j => D3 b j || (b == 11 && j == 12) || (b == 142 && j == 34) || b == 15 || b == 16 || b == 158 || b == 159
theorem V_mk5 {M M' : Mm} (h : V M) (I : ∀ b j, D5 b j = false → M'.1 b j = M.1 b j) (J : ∀ b, E3 b = false → M'.2.1 b = M.2.1 b) (hF : FX M') (r10 : M'.2.2 10 = M.2.2 10) (w1 : V_txt M') (w2 : V_told M') (w9 : V_cnt M') (w10 : V_prg M') (w11 : V_task M') (w12 : V_must M') (w13 : V_bolt M') (w14 : V_ptch M') : V M' := by
  obtain ⟨h1, h2, h3, h4, h5, h6, h7, h8, h9, h10, h11, h12, h13, h14, h15, h16, h17, h18, h19⟩ := h
  have R : ∀ a, (∀ j, D5 a j = false) → M'.1 a = M.1 a := fun a ha => funext fun j => I a j (ha j)
  have rg : ∀ a, ((121 ≤ a ∧ a ≤ 141) ∨ (150 ≤ a ∧ a ≤ 152) ∨ (177 ≤ a ∧ a ≤ 183) ∨ (185 ≤ a ∧ a ≤ 190)) → M'.1 a = M.1 a := fun a ha => R a (fun j => by
    unfold D5 D3; simp only [Bool.or_eq_false_iff, Bool.and_eq_false_iff, beq_eq_false_iff_ne, decide_eq_false_iff_not]; omega)
  have jg : ∀ a, ((118 ≤ a ∧ a ≤ 141) ∨ (175 ≤ a ∧ a ≤ 190)) → M'.2.1 a = M.2.1 a := fun a ha => J a (by unfold E3; simp only [Bool.or_eq_false_iff, beq_eq_false_iff_ne]; omega)
  exact ⟨hF, w1, V_typ_ag (I _ _ rfl) (I _ _ rfl) (R _ fun _ => rfl) (R _ fun _ => rfl) h3, V_spd_ag (R _ fun _ => rfl) (R _ fun _ => rfl) h4, V_key_ag (I _ _ rfl) (I _ _ rfl) h5, V_wgt_ag (R _ fun _ => rfl) (R _ fun _ => rfl) (R _ fun _ => rfl) (R _ fun _ => rfl) h6, w2, V_last_ag (I _ _ rfl) (I _ _ rfl) (R _ fun _ => rfl) (I _ _ rfl) (I _ _ rfl) (I _ _ rfl) (I _ _ rfl) h8, w9, w10, w11, w12, w13, w14, V_now_ag (R _ fun _ => rfl) (R _ fun _ => rfl) (R _ fun _ => rfl) (R _ fun _ => rfl) (J _ rfl) (I _ _ rfl) (rg _ (by omega)) h15, V_kept_ag (fun a h1 h2 => ⟨rg a (by omega), jg a (by omega)⟩) (fun a h1 h2 => ⟨rg a (by omega), jg a (by omega)⟩) (I _ _ rfl) (I _ _ rfl) (rg _ (by omega)) h16, V_walk_ag (I _ _ rfl) (R _ fun _ => rfl) (R _ fun _ => rfl) r10 h17, V_hous_ag (rg _ (by omega)) (I _ _ rfl) (I _ _ rfl) (fun a h1 h2 => rg a (by omega)) (fun a h1 h2 => rg a (by omega)) h18, V_tell_ag (rg _ (by omega)) (fun a h1 h2 => rg a (by omega)) h19⟩
