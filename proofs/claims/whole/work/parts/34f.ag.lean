/-! which cells each part of the invariant speaks of: it holds of every memory that agrees there -/
def prc (a : Nat) : Prop := (4 ≤ a ∧ a ≤ 9) ∨ (20 ≤ a ∧ a ≤ 103)
theorem pr_prc {p : Nat} (h : p ∈ PR) (j : Nat) (hj : j < 6) : prc (p + j) := by
  simp only [PR, List.mem_cons, List.not_mem_nil, or_false] at h
  unfold prc
  omega
theorem pr_prc0 {p : Nat} (h : p ∈ PR) : prc p := pr_prc h 0 (by omega)
theorem RwM_ag {M M' : Mm} (e7 : M'.1 147 = M.1 147) (e8 : M'.1 148 = M.1 148) {r : Nat} {e : List Nat} (h : RwM M r e) : RwM M' r e := by
  unfold RwM at *
  rw [e7, e8]; exact h
theorem LN_ag {M M' : Mm} (ep : ∀ a, prc a → M'.1 a = M.1 a) (e5 : M'.1 145 = M.1 145) (e6 : M'.1 146 = M.1 146) (e7 : M'.1 147 = M.1 147) (e8 : M'.1 148 = M.1 148) {p i r : Nat} (hp : p ∈ PR) (h : LN M p i r) : LN M' p i r := by
  obtain ⟨kd, nu, e, h1, h2, h3⟩ := h
  refine ⟨kd, nu, e, h1, ?_, ?_⟩
  · unfold LnC at *
    rw [ep _ (pr_prc hp 2 (by omega)), ep _ (pr_prc hp 3 (by omega)), ep _ (pr_prc hp 4 (by omega)), ep _ (pr_prc hp 5 (by omega))]
    exact h2
  · unfold LnM at *
    rw [e5, e6]
    exact ⟨h3.1, h3.2.1, RwM_ag e7 e8 h3.2.2⟩
theorem XP_ag {M M' : Mm} (ep : ∀ a, prc a → M'.1 a = M.1 a) (e7 : M'.1 147 = M.1 147) (e8 : M'.1 148 = M.1 148) {p r : Nat} (hp : p ∈ PR) (h : XP M p r) : XP M' p r := by
  obtain ⟨h1, e, h2, h3, h4, h5, h6⟩ := h
  refine ⟨by rw [ep _ (pr_prc0 hp)]; exact h1, e, h2, ?_, ?_, ?_, RwM_ag e7 e8 h6⟩
  · rw [ep _ (pr_prc hp 4 (by omega))]; exact h3
  · rw [ep _ (pr_prc hp 4 (by omega))]; exact h4
  · rw [ep _ (pr_prc hp 5 (by omega))]; exact h5
theorem V_txt_ag {M M' : Mm} (f1 : M'.1 1 1 = M.1 1 1) (f2 : M'.1 142 4 = M.1 142 4) (e1 : M'.1 2 = M.1 2) (e2 : M'.1 144 = M.1 144) (h : V_txt M) : V_txt M' := by
  unfold V_txt at *; rw [f1, f2, e1, e2]; exact h
theorem V_typ_ag {M M' : Mm} (f1 : M'.1 118 2 = M.1 118 2) (f2 : M'.1 142 60 = M.1 142 60) (e1 : M'.1 119 = M.1 119) (e2 : M'.1 173 = M.1 173) (h : V_typ M) : V_typ M' := by
  unfold V_typ at *; rw [f1, f2, e1, e2]; exact h
theorem V_spd_ag {M M' : Mm} (e1 : M'.1 18 = M.1 18) (e2 : M'.1 157 = M.1 157) (h : V_spd M) : V_spd M' := by
  unfold V_spd at *; rw [e1, e2]; exact h
theorem V_key_ag {M M' : Mm} (f1 : M'.1 11 13 = M.1 11 13) (f2 : M'.1 142 27 = M.1 142 27) (h : V_key M) : V_key M' := by
  unfold V_key at *; rw [f1, f2]; exact h
theorem V_wgt_ag {M M' : Mm} (e1 : M'.1 131 = M.1 131) (e2 : M'.1 132 = M.1 132) (e3 : M'.1 171 = M.1 171) (e4 : M'.1 100000 = M.1 100000) (h : V_wgt M) : V_wgt M' := by
  unfold V_wgt at *; rw [e1, e2, e3, e4]; exact h
theorem V_told_ag {M M' : Mm} (f1 : M'.1 116 1 = M.1 116 1) (f2 : M'.1 142 1 = M.1 142 1) (e1 : M'.2.1 117 = M.2.1 117) (e2 : M'.2.1 143 = M.2.1 143) (h : V_told M) : V_told M' := by
  unfold V_told at *; rw [f1, f2, e1, e2]; exact h
theorem V_last_ag {M M' : Mm} (f0 : M'.1 0 12 = M.1 0 12) (f1 : M'.1 142 32 = M.1 142 32) (f2 : M'.1 113 = M.1 113) (f3 : M'.1 142 28 = M.1 142 28) (f4 : M'.1 142 29 = M.1 142 29) (f5 : M'.1 142 30 = M.1 142 30) (f6 : M'.1 142 31 = M.1 142 31) (h : V_last M) : V_last M' := by
  unfold V_last at *; rw [f0, f1, f2, f3, f4, f5, f6]; exact h
theorem V_cnt_ag {M M' : Mm} (f0 : M'.1 11 10 = M.1 11 10) (f1 : M'.1 11 11 = M.1 11 11) (f2 : M'.1 11 12 = M.1 11 12) (f3 : M'.1 11 14 = M.1 11 14) (f4 : M'.1 142 15 = M.1 142 15) (f5 : M'.1 142 20 = M.1 142 20) (f6 : M'.1 142 21 = M.1 142 21) (f7 : M'.1 142 34 = M.1 142 34) (f8 : M'.1 142 33 = M.1 142 33) (h : V_cnt M) : V_cnt M' := by
  unfold V_cnt at *; rw [f0, f1, f2, f3, f4, f5, f6, f7, f8]; exact h
theorem V_prg_ag {M M' : Mm} (e : M'.2.2 = M.2.2) (h : V_prg M) : V_prg M' := by
  unfold V_prg plc at *; rw [e]; exact h
theorem V_task_ag {M M' : Mm} (e : M'.2.2 12 = M.2.2 12) (ep : ∀ a, prc a → M'.1 a = M.1 a) (f : M'.1 11 10 = M.1 11 10) (e5 : M'.1 145 = M.1 145) (e6 : M'.1 146 = M.1 146) (e7 : M'.1 147 = M.1 147) (e8 : M'.1 148 = M.1 148) (e0 : M'.1 150 = M.1 150) (e1 : M'.1 151 = M.1 151) (e2 : M'.1 152 = M.1 152) (h : V_task M) : V_task M' := by
  intro t ht hl
  rw [f] at hl
  obtain ⟨p, n, z, hp, h1, h2, h3, h4, h5, h6, h7, h8, h9, h10⟩ := h t ht hl
  refine ⟨p, n, z, hp, by rw [e]; exact h1, h2, h3, h4, by rw [ep _ (pr_prc0 hp)]; exact h5, by rw [e0]; exact h6, fun i hi => LN_ag ep e5 e6 e7 e8 hp (h7 i hi), by rw [ep _ (pr_prc0 hp)]; exact h8, by rw [e2]; exact h9, ?_⟩
  rw [ep _ (pr_prc hp 1 (by omega)), e1]
  exact h10
theorem V_must_ag {M M' : Mm} (e : M'.2.2 11 8 = M.2.2 11 8) (ep : ∀ a, prc a → M'.1 a = M.1 a) (f : M'.1 142 19 = M.1 142 19) (e7 : M'.1 147 = M.1 147) (e8 : M'.1 148 = M.1 148) (h : V_must M) : V_must M' := by
  obtain ⟨p, hp, h1, h2⟩ := h
  refine ⟨p, hp, by rw [e]; exact h1, ?_⟩
  rw [f, ep _ (pr_prc0 hp)]
  exact h2.imp id (fun q => ⟨q.1, XP_ag ep e7 e8 hp q.2⟩)
theorem V_bolt_ag {M M' : Mm} (e : M'.2.2 13 = M.2.2 13) (ep : ∀ a, prc a → M'.1 a = M.1 a) (f : M'.1 11 11 = M.1 11 11) (e7 : M'.1 147 = M.1 147) (e8 : M'.1 148 = M.1 148) (h : V_bolt M) : V_bolt M' := by
  intro b hb hl
  rw [f] at hl
  obtain ⟨p, hp, h1, h2⟩ := h b hb hl
  exact ⟨p, hp, by rw [e]; exact h1, XP_ag ep e7 e8 hp h2⟩
theorem V_ptch_ag {M M' : Mm} (e : M'.2.2 14 = M.2.2 14) (ep : ∀ a, prc a → M'.1 a = M.1 a) (f : M'.1 11 12 = M.1 11 12) (f2 : M'.1 11 10 = M.1 11 10) (g1 : M'.1 15 = M.1 15) (g2 : M'.1 16 = M.1 16) (g3 : M'.1 158 = M.1 158) (g4 : M'.1 159 = M.1 159) (e5 : M'.1 145 = M.1 145) (e6 : M'.1 146 = M.1 146) (e7 : M'.1 147 = M.1 147) (e8 : M'.1 148 = M.1 148) (h : V_ptch M) : V_ptch M' := by
  intro j hj hl
  rw [f] at hl
  obtain ⟨p, hp, h1, h2, h3, h4⟩ := h j hj hl
  refine ⟨p, hp, by rw [e]; exact h1, by rw [ep _ (pr_prc0 hp)]; exact h2, LN_ag ep e5 e6 e7 e8 hp h3, ?_⟩
  rw [f2, g1, g2, g3, g4]
  exact h4
theorem V_now_ag {M M' : Mm} (e1 : M'.1 153 = M.1 153) (e2 : M'.1 154 = M.1 154) (e3 : M'.1 155 = M.1 155) (e4 : M'.1 156 = M.1 156) (e5 : M'.2.1 113 = M.2.1 113) (f : M'.1 11 10 = M.1 11 10) (e6 : M'.1 150 = M.1 150) (h : V_now M) : V_now M' := by
  unfold V_now MS at *; rw [e1, e2, e3, e4, e5, f, e6]; exact h
theorem V_walk_ag {M M' : Mm} (f : M'.1 10 10 = M.1 10 10) (e1 : M'.1 108 = M.1 108) (e2 : M'.1 109 = M.1 109) (e3 : M'.2.2 10 = M.2.2 10) (h : V_walk M) : V_walk M' := by
  unfold V_walk at *; rw [f, e1, e2, e3]; exact h
theorem V_hous_ag {M M' : Mm} (e1 : M'.1 121 = M.1 121) (f1 : M'.1 142 70 = M.1 142 70) (f2 : M'.1 142 74 = M.1 142 74) (ec : ∀ a, 122 ≤ a → a ≤ 128 → M'.1 a = M.1 a) (em : ∀ a, 177 ≤ a → a ≤ 183 → M'.1 a = M.1 a) (h : V_hous M) : V_hous M' := by
  unfold V_hous at *
  rw [e1, f1, f2, ec 122 (by omega) (by omega), ec 123 (by omega) (by omega), ec 124 (by omega) (by omega), ec 125 (by omega) (by omega), ec 126 (by omega) (by omega), ec 127 (by omega) (by omega), ec 128 (by omega) (by omega), em 177 (by omega) (by omega), em 178 (by omega) (by omega), em 179 (by omega) (by omega), em 180 (by omega) (by omega), em 181 (by omega) (by omega), em 182 (by omega) (by omega), em 183 (by omega) (by omega)]
  exact h
theorem V_tell_ag {M M' : Mm} (e1 : M'.1 121 = M.1 121) (ec : ∀ a, 122 ≤ a → a ≤ 129 → M'.1 a = M.1 a) (h : V_tell M) : V_tell M' := by
  unfold V_tell ar at *
  rw [e1, ec 122 (by omega) (by omega), ec 123 (by omega) (by omega), ec 125 (by omega) (by omega), ec 126 (by omega) (by omega), ec 127 (by omega) (by omega), ec 128 (by omega) (by omega), ec 129 (by omega) (by omega)]
  exact h
theorem V_kept_ag {M M' : Mm} (ec : ∀ a, 133 ≤ a → a ≤ 141 → M'.1 a = M.1 a ∧ M'.2.1 a = M.2.1 a) (em : ∀ a, 185 ≤ a → a ≤ 190 → M'.1 a = M.1 a ∧ M'.2.1 a = M.2.1 a) (f1 : M'.1 11 10 = M.1 11 10) (f2 : M'.1 11 11 = M.1 11 11) (e0 : M'.1 150 = M.1 150) (h : V_kept M) : V_kept M' := by
  intro i hi
  have h := h i hi
  rw [(ec (133 + 3 * i) (by omega) (by omega)).1, (ec (134 + 3 * i) (by omega) (by omega)).2, (ec (135 + 3 * i) (by omega) (by omega)).1, (em 185 (by omega) (by omega)).1, (em 186 (by omega) (by omega)).2, (em 187 (by omega) (by omega)).2, (em 188 (by omega) (by omega)).1, (em 189 (by omega) (by omega)).1, (em 190 (by omega) (by omega)).1, f1, f2, e0]
  exact h
