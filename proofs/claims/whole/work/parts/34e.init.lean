/-! the first memory keeps the invariant's parts -/
set_option maxRecDepth 100000 in
theorem v0_txt : V_txt Mi := ⟨0, by omega, by decide +kernel, by decide +kernel, fun j hj => absurd hj (by omega)⟩
set_option maxRecDepth 100000 in
theorem v0_typ : V_typ Mi := ⟨0, by omega, by decide +kernel, by decide +kernel, fun j hj => absurd hj (by omega)⟩
set_option maxRecDepth 100000 in
theorem v0_told : V_told Mi := ⟨0, by omega, by decide +kernel, by decide +kernel, fun j hj => absurd hj (by omega)⟩
set_option maxRecDepth 100000 in
theorem v0_spd : V_spd Mi := by
  intro k hk
  match k, hk with
  | 0, _ => exact ⟨by decide +kernel, 3, by decide, by decide +kernel⟩
  | 1, _ => exact ⟨by decide +kernel, 3, by decide, by decide +kernel⟩
  | 2, _ => exact ⟨by decide +kernel, 3, by decide, by decide +kernel⟩
  | 3, _ => exact ⟨by decide +kernel, 3, by decide, by decide +kernel⟩
  | k + 4, h => exact absurd h (by omega)
set_option maxRecDepth 100000 in
theorem v0_key : V_key Mi := ⟨by decide +kernel, 2, by decide, by decide +kernel⟩
set_option maxRecDepth 100000 in
theorem v0_wgt : V_wgt Mi := by
  intro k hk
  match k, hk with
  | 0, _ => exact ⟨by decide +kernel, by decide +kernel, ⟨1, by decide, by decide +kernel⟩, ⟨1, by decide, by decide +kernel⟩, by decide +kernel⟩
  | 1, _ => exact ⟨by decide +kernel, by decide +kernel, ⟨1, by decide, by decide +kernel⟩, ⟨1, by decide, by decide +kernel⟩, by decide +kernel⟩
  | 2, _ => exact ⟨by decide +kernel, by decide +kernel, ⟨1, by decide, by decide +kernel⟩, ⟨1, by decide, by decide +kernel⟩, by decide +kernel⟩
  | 3, _ => exact ⟨by decide +kernel, by decide +kernel, ⟨1, by decide, by decide +kernel⟩, ⟨1, by decide, by decide +kernel⟩, by decide +kernel⟩
  | 4, _ => exact ⟨by decide +kernel, by decide +kernel, ⟨1, by decide, by decide +kernel⟩, ⟨1, by decide, by decide +kernel⟩, by decide +kernel⟩
  | k + 5, h => exact absurd h (by omega)
set_option maxRecDepth 100000 in
theorem v0_last : V_last Mi := by unfold V_last; decide +kernel
set_option maxRecDepth 100000 in
theorem v0_cnt : V_cnt Mi := ⟨0, 0, 0, 0, by decide, by decide, by decide, by decide, by decide +kernel, by decide +kernel, by decide +kernel, by decide +kernel, by decide +kernel, by decide +kernel, by decide +kernel, by decide +kernel, by decide +kernel⟩
set_option maxRecDepth 100000 in
theorem v0_prg : V_prg Mi := by
  refine ⟨⟨[4, 20, 26, 32, 38, 44, 50, 56, 62, 68, 74, 80, 86, 92, 98], by decide +kernel, by decide +kernel, by decide +kernel⟩, ?_⟩
  decide +kernel
set_option maxRecDepth 100000 in
theorem v0_task : V_task Mi := fun t _ h => absurd h (by rw [show Mi.1 11 10 = nI 0 by decide +kernel]; exact nI_nlt (by omega) (by omega))
set_option maxRecDepth 100000 in
theorem v0_must : V_must Mi := ⟨20, by decide, by decide +kernel, Or.inl ⟨by decide +kernel, by decide +kernel⟩⟩
set_option maxRecDepth 100000 in
theorem v0_bolt : V_bolt Mi := fun t _ h => absurd h (by rw [show Mi.1 11 11 = nI 0 by decide +kernel]; exact nI_nlt (by omega) (by omega))
set_option maxRecDepth 100000 in
theorem v0_ptch : V_ptch Mi := fun t _ h => absurd h (by rw [show Mi.1 11 12 = nI 0 by decide +kernel]; exact nI_nlt (by omega) (by omega))
set_option maxRecDepth 100000 in
theorem v0_now : V_now Mi := by
  refine ⟨0, 0, by decide, by decide, ⟨?_, ?_⟩, by decide +kernel, by decide +kernel, fun k _ h => absurd h (by rw [show Mi.1 11 10 = nI 0 by decide +kernel]; exact nI_nlt (by omega) (by omega))⟩
  · decide +kernel
  · decide +kernel
set_option maxRecDepth 100000 in
theorem v0_kept : V_kept Mi := by
  intro i hi
  match i, hi with
  | 0, _ => exact ⟨by decide +kernel, Or.inl (by decide +kernel)⟩
  | 1, _ => exact ⟨by decide +kernel, Or.inl (by decide +kernel)⟩
  | 2, _ => exact ⟨by decide +kernel, Or.inl (by decide +kernel)⟩
  | i + 3, h => exact absurd h (by omega)
set_option maxRecDepth 1000000 in
set_option maxHeartbeats 4000000 in
theorem v0_tab (k : Nat) : Mi.1 109 k = 0 := by rfl
set_option maxRecDepth 100000 in
theorem v0_walk : V_walk Mi := ⟨⟨0, by omega, by decide +kernel, fun _ => 0, fun s hs => absurd hs (by omega), fun k _ _ => v0_tab k⟩, Or.inl ⟨by decide +kernel, by decide +kernel⟩⟩
set_option maxRecDepth 100000 in
theorem v0_hous : V_hous Mi := ⟨0, 0, by omega, by omega, by decide +kernel, by decide +kernel, by decide +kernel, by decide +kernel, fun j hj => absurd hj (by omega), fun j hj => absurd hj (by omega)⟩
set_option maxRecDepth 100000 in
theorem v0_tell : V_tell Mi := fun i _ h => absurd h (by rw [show Mi.1 121 9 = nI 0 by decide +kernel]; exact nI_nlt (by omega) (by omega))
theorem v0 : V Mi := ⟨fx_Mi, v0_txt, v0_typ, v0_spd, v0_key, v0_wgt, v0_told, v0_last, v0_cnt, v0_prg, v0_task, v0_must, v0_bolt, v0_ptch, v0_now, v0_kept, v0_walk, v0_hous, v0_tell⟩
