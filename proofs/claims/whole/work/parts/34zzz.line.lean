/-! a line read, pure -/
/-- from p: read (b), to q, its kind, its number, its expression -/
def LX (c : Nat → Nat) (len N p : Nat) (b : Bool) (q kd nu : Nat) (e : List Nat) : Prop :=
  (97 ≤ gcx c len p ∧ gcx c len p ≤ 104 ∧ ((gcx c len (p + 1) ≠ 61 ∧ b = false ∧ q = p + 1) ∨ (gcx c len (p + 1) = 61 ∧ RX c len false N 0 (p + 2) 0 [] b q e ∧ kd = 0 ∧ nu = gcx c len p - 97)))
  ∨ (gcx c len p = 63 ∧ RX c len false N 0 (p + 1) 0 [] b q e ∧ kd = 1 ∧ nu = 0)
  ∨ (gcx c len p = 120 ∧ b = true ∧ q = p + 1 ∧ e = [] ∧ kd = 5 ∧ nu = 0)
  ∨ (gcx c len p = 109 ∧ ((¬ (48 ≤ gcx c len (p + 1) ∧ gcx c len (p + 1) ≤ 51) ∧ b = false ∧ q = p + 1) ∨ (48 ≤ gcx c len (p + 1) ∧ gcx c len (p + 1) ≤ 51 ∧ ((gcx c len (p + 2) ≠ 58 ∧ b = false ∧ q = p + 2) ∨ (gcx c len (p + 2) = 58 ∧ RX c len false N 0 (p + 3) 0 [] b q e ∧ kd = 2 ∧ nu = gcx c len (p + 1) - 48)))))
  ∨ (gcx c len p = 106 ∧ ((dgx (gcx c len (p + 1)) = false ∧ b = false ∧ q = p + 1) ∨ (dgx (gcx c len (p + 1)) = true ∧ ((gcx c len (nmv c len 2 (p + 1) 0).2 ≠ 58 ∧ b = false ∧ q = (nmv c len 2 (p + 1) 0).2) ∨ (gcx c len (nmv c len 2 (p + 1) 0).2 = 58 ∧ RX c len false N 0 ((nmv c len 2 (p + 1) 0).2 + 1) 0 [] b q e ∧ kd = 3 ∧ nu = (nmv c len 2 (p + 1) 0).1)))))
  ∨ (gcx c len p = 115 ∧ ((dgx (gcx c len (p + 1)) = false ∧ b = false ∧ q = p + 1) ∨ (dgx (gcx c len (p + 1)) = true ∧ b = true ∧ q = (nmv c len 2 (p + 1) 0).2 ∧ e = [] ∧ kd = 4 ∧ nu = (nmv c len 2 (p + 1) 0).1)))
  ∨ (¬ (97 ≤ gcx c len p ∧ gcx c len p ≤ 104) ∧ gcx c len p ≠ 63 ∧ gcx c len p ≠ 120 ∧ gcx c len p ≠ 109 ∧ gcx c len p ≠ 106 ∧ gcx c len p ≠ 115 ∧ b = false ∧ q = p)
theorem LX_ex {c : Nat → Nat} {len p : Nat} (hl : len ≤ 60) : ∃ b q kd nu e, LX c len 2000 p b q kd nu e := by
  have rx : ∀ p', ∃ b q e, RX c len false 2000 0 p' 0 [] b q e := fun p' => RX_ex 2000 0 p' 0 [] (fun _ => ⟨rfl, by omega⟩) (fun z => absurd z (by omega))
  unfold LX
  by_cases h1 : 97 ≤ gcx c len p ∧ gcx c len p ≤ 104
  · by_cases h2 : gcx c len (p + 1) = 61
    · obtain ⟨b, q, e, h⟩ := rx (p + 2)
      exact ⟨b, q, 0, _, e, Or.inl ⟨h1.1, h1.2, Or.inr ⟨h2, h, rfl, rfl⟩⟩⟩
    · exact ⟨false, p + 1, 0, 0, [], Or.inl ⟨h1.1, h1.2, Or.inl ⟨h2, rfl, rfl⟩⟩⟩
  · by_cases h2 : gcx c len p = 63
    · obtain ⟨b, q, e, h⟩ := rx (p + 1)
      exact ⟨b, q, 1, 0, e, Or.inr (Or.inl ⟨h2, h, rfl, rfl⟩)⟩
    · by_cases h3 : gcx c len p = 120
      · exact ⟨true, p + 1, 5, 0, [], Or.inr (Or.inr (Or.inl ⟨h3, rfl, rfl, rfl, rfl, rfl⟩))⟩
      · by_cases h4 : gcx c len p = 109
        · by_cases h5 : 48 ≤ gcx c len (p + 1) ∧ gcx c len (p + 1) ≤ 51
          · by_cases h6 : gcx c len (p + 2) = 58
            · obtain ⟨b, q, e, h⟩ := rx (p + 3)
              exact ⟨b, q, 2, _, e, Or.inr (Or.inr (Or.inr (Or.inl ⟨h4, Or.inr ⟨h5.1, h5.2, Or.inr ⟨h6, h, rfl, rfl⟩⟩⟩)))⟩
            · exact ⟨false, p + 2, 0, 0, [], Or.inr (Or.inr (Or.inr (Or.inl ⟨h4, Or.inr ⟨h5.1, h5.2, Or.inl ⟨h6, rfl, rfl⟩⟩⟩)))⟩
          · exact ⟨false, p + 1, 0, 0, [], Or.inr (Or.inr (Or.inr (Or.inl ⟨h4, Or.inl ⟨h5, rfl, rfl⟩⟩)))⟩
        · by_cases h5 : gcx c len p = 106
          · rcases hd : dgx (gcx c len (p + 1)) with _ | _
            · exact ⟨false, p + 1, 0, 0, [], Or.inr (Or.inr (Or.inr (Or.inr (Or.inl ⟨h5, Or.inl ⟨rfl, rfl, rfl⟩⟩))))⟩
            · by_cases h6 : gcx c len (nmv c len 2 (p + 1) 0).2 = 58
              · obtain ⟨b, q, e, h⟩ := rx ((nmv c len 2 (p + 1) 0).2 + 1)
                exact ⟨b, q, 3, _, e, Or.inr (Or.inr (Or.inr (Or.inr (Or.inl ⟨h5, Or.inr ⟨rfl, Or.inr ⟨h6, h, rfl, rfl⟩⟩⟩))))⟩
              · exact ⟨false, _, 0, 0, [], Or.inr (Or.inr (Or.inr (Or.inr (Or.inl ⟨h5, Or.inr ⟨rfl, Or.inl ⟨h6, rfl, rfl⟩⟩⟩))))⟩
          · by_cases h6 : gcx c len p = 115
            · rcases hd : dgx (gcx c len (p + 1)) with _ | _
              · exact ⟨false, p + 1, 0, 0, [], Or.inr (Or.inr (Or.inr (Or.inr (Or.inr (Or.inl ⟨h6, Or.inl ⟨rfl, rfl, rfl⟩⟩)))))⟩
              · exact ⟨true, _, 4, _, [], Or.inr (Or.inr (Or.inr (Or.inr (Or.inr (Or.inl ⟨h6, Or.inr ⟨rfl, rfl, rfl, rfl, rfl, rfl⟩⟩)))))⟩
            · exact ⟨false, p, 0, 0, [], Or.inr (Or.inr (Or.inr (Or.inr (Or.inr (Or.inr ⟨h1, h2, h3, h4, h5, h6, rfl, rfl⟩)))))⟩
theorem nmv2_bd {c : Nat → Nat} {len p : Nat} (h : dgx (gcx c len p) = true) : p < (nmv c len 2 p 0).2 ∧ (nmv c len 2 p 0).2 ≤ len ∧ (nmv c len 2 p 0).1 < 100 := by
  have hl : p < len := gcx_lt (c := c) (fun z => by rw [z] at h; simp [dgx] at h)
  have := nmv_bd (c := c) (len := len) 1 (p + 1) (10 * 0 + gcx c len p - 48)
  have e : nmv c len 2 p 0 = nmv c len 1 (p + 1) (10 * 0 + gcx c len p - 48) := by
    conv => lhs; unfold nmv
    rw [if_pos h]
  have hv := nmv_v (c := c) (len := len) 2 p 0
  refine ⟨?_, ?_, by omega⟩
  · rw [e]; exact Nat.lt_of_lt_of_le (Nat.lt_succ_self p) this.1
  · rw [e]; exact this.2 (by omega)
/-- its bounds, and that it is a line -/
theorem LX_bd {c : Nat → Nat} {len N p q kd nu : Nat} {b : Bool} {e : List Nat} (hl : len ≤ 60) (hp : p ≤ len) (h : LX c len N p b q kd nu e) : (b = true → p < q ∧ q ≤ len ∧ e.length + p ≤ q ∧ LnOk kd nu e) ∧ (b = false → p ≤ q ∧ q ≤ len) := by
  have nd : ∀ p', 48 ≤ gcx c len p' ∧ gcx c len p' ≤ 57 ∨ gcx c len p' < 256 → p' < len := fun p' h => gcx_lt (c := c) (by omega)
  have ex : ∀ p' kd' nu', p' ≤ len → p < p' → RX c len false N 0 p' 0 [] b q e → kd' < 4 → nu' < 100 → (kd' = 0 → nu' < 8) → (kd' = 2 → nu' < 4) → kd = kd' → nu = nu' → (b = true → p < q ∧ q ≤ len ∧ e.length + p ≤ q ∧ LnOk kd nu e) ∧ (b = false → p ≤ q ∧ q ≤ len) := by
    intro p' kd' nu' g1 g2 hR k1 k2 k3 k4 ek en
    have bd := RX_bd _ _ _ _ _ _ _ _ hR
    refine ⟨fun hb => ?_, fun hb => ?_⟩
    · have := bd.1 (by omega) hb
      refine ⟨by omega, this.2.1, by omega, by omega, by omega, fun z => by rw [en]; exact k3 (by omega), fun z => by rw [en]; exact k4 (by omega), fun _ => ?_, fun z => by omega⟩
      subst hb
      exact ⟨RX_wf _ _ _ _ _ _ _ hR (fun z => absurd z (by omega)) 0, by omega⟩
    · have := bd.2.2 hb
      exact ⟨by omega, this.2 g1⟩
  have bad : ∀ q', b = false → q = q' → p ≤ q' → q' ≤ len → (b = true → p < q ∧ q ≤ len ∧ e.length + p ≤ q ∧ LnOk kd nu e) ∧ (b = false → p ≤ q ∧ q ≤ len) := by
    intro q' hb hq g1 g2
    exact ⟨fun z => by rw [hb] at z; exact absurd z (by decide), fun _ => by omega⟩
  unfold LX at h
  rcases h with ⟨a1, a2, h⟩ | ⟨a1, h, ek, en⟩ | ⟨a1, hb, hq, he, ek, en⟩ | ⟨a1, h⟩ | ⟨a1, h⟩ | ⟨a1, h⟩ | ⟨_, _, _, _, _, _, hb, hq⟩
  · have hpl := nd p (by omega)
    rcases h with ⟨g, hb, hq⟩ | ⟨g, hR, ek, en⟩
    · exact bad _ hb hq (by omega) (by omega)
    · have := nd (p + 1) (by omega)
      exact ex (p + 2) 0 _ (by omega) (by omega) hR (by omega) (by omega) (fun _ => by omega) (fun z => by omega) ek en
  · have hpl := nd p (by omega)
    exact ex (p + 1) 1 0 (by omega) (by omega) h (by omega) (by omega) (fun _ => by omega) (fun z => by omega) ek en
  · have hpl := nd p (by omega)
    refine ⟨fun _ => ⟨by omega, by omega, by rw [he]; simp; omega, by omega, by omega, fun z => by omega, fun z => by omega, fun z => by omega, fun _ => he⟩, fun z => by rw [hb] at z; exact absurd z (by decide)⟩
  · have hpl := nd p (by omega)
    rcases h with ⟨g, hb, hq⟩ | ⟨g1, g2, h⟩
    · exact bad _ hb hq (by omega) (by omega)
    · have := nd (p + 1) (by omega)
      rcases h with ⟨g, hb, hq⟩ | ⟨g, hR, ek, en⟩
      · exact bad _ hb hq (by omega) (by omega)
      · have := nd (p + 2) (by omega)
        exact ex (p + 3) 2 _ (by omega) (by omega) hR (by omega) (by omega) (fun z => by omega) (fun _ => by omega) ek en
  · have hpl := nd p (by omega)
    rcases h with ⟨g, hb, hq⟩ | ⟨g, h⟩
    · exact bad _ hb hq (by omega) (by omega)
    · obtain ⟨n1, n2, n3⟩ := nmv2_bd g
      rcases h with ⟨g', hb, hq⟩ | ⟨g', hR, ek, en⟩
      · exact bad _ hb hq (by omega) n2
      · have := nd (nmv c len 2 (p + 1) 0).2 (by omega)
        exact ex ((nmv c len 2 (p + 1) 0).2 + 1) 3 _ (by omega) (by omega) hR (by omega) n3 (fun z => by omega) (fun z => by omega) ek en
  · have hpl := nd p (by omega)
    rcases h with ⟨g, hb, hq⟩ | ⟨g, hb, hq, he, ek, en⟩
    · exact bad _ hb hq (by omega) (by omega)
    · obtain ⟨n1, n2, n3⟩ := nmv2_bd g
      refine ⟨fun _ => ⟨by omega, by omega, by rw [he]; simp; omega, by omega, by omega, fun z => by omega, fun z => by omega, fun z => by omega, fun _ => he⟩, fun z => by rw [hb] at z; exact absurd z (by decide)⟩
  · exact bad _ hb hq (by omega) hp
