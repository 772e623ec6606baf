/-! a told typing gone through, as numbers -/
abbrev TS : Type := List En × (Nat → Nat) × Option (Nat × Nat) × Option (Nat × Nat) × Nat
/-- states, ways to them, the first break, the first in the last step, the ways of those -/
def tL (σ : TS) : List En := σ.1
def tW (σ : TS) : Nat → Nat := σ.2.1
def tF (σ : TS) : Option (Nat × Nat) := σ.2.2.1
def tE (σ : TS) : Option (Nat × Nat) := σ.2.2.2.1
def tB (σ : TS) : Nat := σ.2.2.2.2
def orE (o : Option (Nat × Nat)) (p : Nat × Nat) : Option (Nat × Nat) := match o with
  | none => some p
  | some q => some q
def fdx (L : List En) (hi A B : Nat) : Option Nat := (List.range L.length).find? (fun s => decide (hi ≤ s) && (decide ((gt L s).1 = A) && decide ((gt L s).2.1 = B)))
theorem fdx_some {L : List En} {hi A B s : Nat} (h : fdx L hi A B = some s) : hi ≤ s ∧ s < L.length ∧ isE L A B s := by
  unfold fdx at h
  have h1 := List.find?_some h
  have h2 := List.mem_of_find?_eq_some h
  simp only [Bool.and_eq_true, decide_eq_true_eq] at h1
  rw [List.mem_range] at h2
  exact ⟨h1.1, h2, h1.2.1, h1.2.2⟩
theorem fdx_none {L : List En} {hi A B : Nat} (h : fdx L hi A B = none) : ∀ s, hi ≤ s → s < L.length → ¬ isE L A B s := by
  unfold fdx at h
  rw [List.find?_eq_none] at h
  intro s h1 h2 h3
  refine h s (List.mem_range.mpr h2) ?_
  simp only [Bool.and_eq_true, decide_eq_true_eq]
  exact ⟨h1, h3.1, h3.2⟩
/-- one try: the task t from the state s -/
def t1 (C : Cf) (mu : Option (List Nat)) (hi s t key : Nat) (last : Bool) (σ : TS) : TS :=
  if brk mu (stp C (gt (tL σ) s).1 (gt (tL σ) s).2.1 t key).1 (stp C (gt (tL σ) s).1 (gt (tL σ) s).2.1 t key).2.1 (stp C (gt (tL σ) s).1 (gt (tL σ) s).2.1 t key).2.2.1 = true then (tL σ, tW σ, orE (tF σ) (s, t), if last then orE (tE σ) (s, t) else tE σ, if last then tB σ + tW σ s else tB σ)
  else match fdx (tL σ) hi (stp C (gt (tL σ) s).1 (gt (tL σ) s).2.1 t key).1 (stp C (gt (tL σ) s).1 (gt (tL σ) s).2.1 t key).2.1 with
    | some s' => (tL σ, upn (tW σ) s' (tW σ s' + tW σ s), tF σ, tE σ, tB σ)
    | none => (tL σ ++ [((stp C (gt (tL σ) s).1 (gt (tL σ) s).2.1 t key).1, (stp C (gt (tL σ) s).1 (gt (tL σ) s).2.1 t key).2.1, s, t, (gt (tL σ) s).2.2.2.2 + 1)], upn (tW σ) (tL σ).length (tW σ s), tF σ, tE σ, tB σ)
def tryT (C : Cf) (mu : Option (List Nat)) (hi s key : Nat) (last : Bool) : Nat → Nat → TS → Option TS
  | 0, _, σ => some σ
  | n + 1, t, σ => if 4000 < (tL (t1 C mu hi s t key last σ)).length then none else tryT C mu hi s key last n (t + 1) (t1 C mu hi s t key last σ)
def tryS (C : Cf) (mu : Option (List Nat)) (hi key : Nat) (last : Bool) : Nat → Nat → TS → Option TS
  | 0, _, σ => some σ
  | n + 1, s, σ => match tryT C mu hi s key last (cT C) 0 σ with
    | none => none
    | some σ' => tryS C mu hi key last n (s + 1) σ'
def tryI (C : Cf) (mu : Option (List Nat)) (ks : Nat → Nat) (len : Nat) : Nat → Nat → Nat → TS → Option TS
  | 0, _, _, σ => some σ
  | n + 1, i, lo, σ => match tryS C mu (tL σ).length (ks i) (decide (i + 1 = len)) ((tL σ).length - lo) lo σ with
    | none => none
    | some σ' => tryI C mu ks len n (i + 1) (tL σ).length σ'
def ts0 (A0 B0 : Nat) : TS := ([(A0, B0, 0, 0, 0)], fun s => if s = 0 then 1 else 0, none, none, 0)
/-- what holds among the tries of step d -/
def TIv (C : Cf) (hi d D : Nat) (σ : TS) : Prop := hi ≤ (tL σ).length ∧ 1 ≤ hi ∧ (tL σ).length ≤ 4000 ∧ (∀ s, s < (tL σ).length → SI C (gt (tL σ) s).1 (gt (tL σ) s).2.1) ∧ (∀ s s', hi ≤ s → s < (tL σ).length → hi ≤ s' → s' < (tL σ).length → (gt (tL σ) s).1 = (gt (tL σ) s').1 → (gt (tL σ) s).2.1 = (gt (tL σ) s').2.1 → s = s') ∧ TR 4 (tL σ) ∧ (∀ s, hi ≤ s → s < (tL σ).length → (gt (tL σ) s).2.2.2.2 = d + 1) ∧ (∀ p, tF σ = some p → p.1 < (tL σ).length ∧ p.2 < 4) ∧ ∀ p, tE σ = some p → p.1 < (tL σ).length ∧ p.2 < 4 ∧ (gt (tL σ) p.1).2.2.2.2 = D
def PFx (σ σ' : TS) : Prop := (tL σ).length ≤ (tL σ').length ∧ ∀ s, s < (tL σ).length → gt (tL σ') s = gt (tL σ) s
theorem PFx_refl (σ : TS) : PFx σ σ := ⟨Nat.le_refl _, fun _ _ => rfl⟩
theorem PFx_tr {a b c : TS} (h : PFx a b) (h' : PFx b c) : PFx a c := ⟨Nat.le_trans h.1 h'.1, fun s hs => (h'.2 s (Nat.lt_of_lt_of_le hs h.1)).trans (h.2 s hs)⟩
theorem orE_ok {o : Option (Nat × Nat)} {p q : Nat × Nat} (h : orE o p = some q) : o = some q ∨ p = q := by
  unfold orE at h
  match o, h with
  | none, h => simp only [Option.some.injEq] at h; exact Or.inr h
  | some r, h => simp only [Option.some.injEq] at h; rw [h]; exact Or.inl rfl
theorem t1_inv {C : Cf} {mu : Option (List Nat)} {hi s t key d D : Nat} {last : Bool} {σ : TS} (hC : CO C) (h : TIv C hi d D σ) (hs : s < hi) (hd : (gt (tL σ) s).2.2.2.2 = d) (ht : t < cT C) (hkey : key < 256) (hl : last = true → d = D) (hle : (tL (t1 C mu hi s t key last σ)).length ≤ 4000) : TIv C hi d D (t1 C mu hi s t key last σ) ∧ PFx σ (t1 C mu hi s t key last σ) := by
  obtain ⟨i1, i2, i3, i4, i5, i6, i7, i8, i9⟩ := h
  have c1 := hC.1
  have hsl : s < (tL σ).length := by omega
  have hsi := i4 s hsl
  have hbd := stp_bd (key := key) hC ht hsi.2.2 hkey hsi.1 hsi.2.1
  have hln := stp_ln (A := (gt (tL σ) s).1) (key := key) hC ht hsi.2.2
  unfold t1 at hle ⊢
  split at hle
  · rename_i hb
    rw [if_pos hb]
    refine ⟨⟨i1, i2, i3, i4, i5, i6, i7, fun p hp => ?_, fun p hp => ?_⟩, PFx_refl σ⟩
    · rcases orE_ok hp with z | z
      · exact i8 p z
      · rw [← z]; exact ⟨hsl, by show t < 4; omega⟩
    · have hp : (if last then orE (tE σ) (s, t) else tE σ) = some p := hp
      by_cases el : last = true
      · rw [if_pos el] at hp
        rcases orE_ok hp with z | z
        · exact i9 p z
        · rw [← z]; exact ⟨hsl, by show t < 4; omega, hd.trans (hl el)⟩
      · rw [if_neg el] at hp; exact i9 p hp
  · rename_i hb
    rw [if_neg hb]
    split at hle
    · rename_i s' hf
      exact ⟨⟨i1, i2, i3, i4, i5, i6, i7, i8, i9⟩, PFx_refl σ⟩
    · rename_i hf
      generalize stp C (gt (tL σ) s).1 (gt (tL σ) s).2.1 t key = q at *
      have hno := fdx_none hf
      have hlen : (tL σ ++ [(q.1, q.2.1, s, t, (gt (tL σ) s).2.2.2.2 + 1)]).length = (tL σ).length + 1 := by simp
      have gl : ∀ a, a < (tL σ).length → gt (tL σ ++ [(q.1, q.2.1, s, t, (gt (tL σ) s).2.2.2.2 + 1)]) a = gt (tL σ) a := fun a ha => gt_lt ha
      have ge : gt (tL σ ++ [(q.1, q.2.1, s, t, (gt (tL σ) s).2.2.2.2 + 1)]) (tL σ).length = (q.1, q.2.1, s, t, (gt (tL σ) s).2.2.2.2 + 1) := gt_eq
      have hle' : (tL σ).length + 1 ≤ 4000 := by rw [← hlen]; exact hle
      unfold TIv PFx
      show (hi ≤ (tL σ ++ [(q.1, q.2.1, s, t, (gt (tL σ) s).2.2.2.2 + 1)]).length ∧ _) ∧ _
      simp only [show tL (tL σ ++ [(q.1, q.2.1, s, t, (gt (tL σ) s).2.2.2.2 + 1)], upn (tW σ) (tL σ).length (tW σ s), tF σ, tE σ, tB σ) = tL σ ++ [(q.1, q.2.1, s, t, (gt (tL σ) s).2.2.2.2 + 1)] from rfl, show tF (tL σ ++ [(q.1, q.2.1, s, t, (gt (tL σ) s).2.2.2.2 + 1)], upn (tW σ) (tL σ).length (tW σ s), tF σ, tE σ, tB σ) = tF σ from rfl, show tE (tL σ ++ [(q.1, q.2.1, s, t, (gt (tL σ) s).2.2.2.2 + 1)], upn (tW σ) (tL σ).length (tW σ s), tF σ, tE σ, tB σ) = tE σ from rfl, hlen]
      refine ⟨⟨by omega, i2, hle', fun a ha => ?_, fun a a' h1 h2 h3 h4 e1 e2 => ?_, ?_, fun a h1 h2 => ?_, fun p hp => ?_, fun p hp => ?_⟩, by omega, fun a ha => gl a ha⟩
      · by_cases e : a = (tL σ).length
        · rw [e, ge]; exact ⟨hbd.1, hbd.2, hln⟩
        · rw [gl a (by omega)]; exact i4 a (by omega)
      · by_cases e : a = (tL σ).length <;> by_cases e' : a' = (tL σ).length
        · omega
        · rw [e, ge, gl a' (by omega)] at e1 e2
          exact absurd ⟨e1.symm, e2.symm⟩ (hno a' h3 (by omega))
        · rw [e', ge, gl a (by omega)] at e1 e2
          exact absurd ⟨e1, e2⟩ (hno a h1 (by omega))
        · rw [gl a (by omega), gl a' (by omega)] at e1 e2
          exact i5 a a' h1 (by omega) h3 (by omega) e1 e2
      · refine ⟨by rw [gl 0 (by omega)]; exact i6.1, fun a ha hz => ?_⟩
        rw [hlen] at ha
        by_cases e : a = (tL σ).length
        · rw [e, ge]
          show s < (tL σ).length ∧ t < 4 ∧ (gt (tL σ) s).2.2.2.2 + 1 = (gt (tL σ ++ [(q.1, q.2.1, s, t, (gt (tL σ) s).2.2.2.2 + 1)]) s).2.2.2.2 + 1
          rw [gl s hsl]
          exact ⟨hsl, by omega, rfl⟩
        · obtain ⟨u1, u2, u3⟩ := i6.2 a (by omega) hz
          rw [gl a (by omega), gl _ (by omega)]
          exact ⟨u1, u2, u3⟩
      · by_cases e : a = (tL σ).length
        · rw [e, ge]; show (gt (tL σ) s).2.2.2.2 + 1 = d + 1; rw [hd]
        · rw [gl a (by omega)]; exact i7 a h1 (by omega)
      · obtain ⟨u1, u2⟩ := i8 p hp
        exact ⟨by omega, u2⟩
      · obtain ⟨u1, u2, u3⟩ := i9 p hp
        exact ⟨by omega, u2, by rw [gl _ u1]; exact u3⟩
theorem tryT_inv {C : Cf} {mu : Option (List Nat)} {hi s key d D : Nat} {last : Bool} (hC : CO C) (hs : s < hi) (hkey : key < 256) (hl : last = true → d = D) : ∀ (n t : Nat) (σ σ' : TS), t + n = cT C → TIv C hi d D σ → (gt (tL σ) s).2.2.2.2 = d → tryT C mu hi s key last n t σ = some σ' → TIv C hi d D σ' ∧ PFx σ σ'
  | 0, t, σ, σ', ht, h, hd, e => by
    simp only [tryT, Option.some.injEq] at e
    rw [← e]; exact ⟨h, PFx_refl σ⟩
  | n + 1, t, σ, σ', ht, h, hd, e => by
    unfold tryT at e
    split at e
    · exact absurd e (by simp)
    · rename_i hle
      obtain ⟨h1, p1⟩ := t1_inv (mu := mu) hC h hs hd (show t < cT C by omega) hkey hl (by omega)
      have hsl : s < (tL σ).length := Nat.lt_of_lt_of_le hs h.1
      obtain ⟨h2, p2⟩ := tryT_inv hC hs hkey hl n (t + 1) _ σ' (by omega) h1 (by rw [p1.2 s hsl]; exact hd) e
      exact ⟨h2, PFx_tr p1 p2⟩
theorem tryS_inv {C : Cf} {mu : Option (List Nat)} {hi key d D : Nat} {last : Bool} (hC : CO C) (hkey : key < 256) (hl : last = true → d = D) : ∀ (n s : Nat) (σ σ' : TS), s + n = hi → TIv C hi d D σ → (∀ a, s ≤ a → a < hi → (gt (tL σ) a).2.2.2.2 = d) → tryS C mu hi key last n s σ = some σ' → TIv C hi d D σ' ∧ PFx σ σ'
  | 0, s, σ, σ', hs, h, hd, e => by
    simp only [tryS, Option.some.injEq] at e
    rw [← e]; exact ⟨h, PFx_refl σ⟩
  | n + 1, s, σ, σ', hs, h, hd, e => by
    unfold tryS at e
    split at e
    · exact absurd e (by simp)
    · rename_i σ1 h1
      obtain ⟨v1, p1⟩ := tryT_inv hC (show s < hi by omega) hkey hl (cT C) 0 σ σ1 (by omega) h (hd s (by omega) (by omega)) h1
      have hsl := h.1
      obtain ⟨v2, p2⟩ := tryS_inv hC hkey hl n (s + 1) σ1 σ' (by omega) v1 (fun a h1 h2 => by rw [p1.2 a (by omega)]; exact hd a (by omega) h2) e
      exact ⟨v2, PFx_tr p1 p2⟩
/-- the next step begins -/
theorem TIv_next {C : Cf} {hi d D : Nat} {σ : TS} (h : TIv C hi d D σ) : TIv C (tL σ).length (d + 1) D σ ∧ ∀ a, hi ≤ a → a < (tL σ).length → (gt (tL σ) a).2.2.2.2 = d + 1 := by
  obtain ⟨i1, i2, i3, i4, i5, i6, i7, i8, i9⟩ := h
  exact ⟨⟨Nat.le_refl _, by omega, i3, i4, fun s s' h1 h2 => absurd h2 (by omega), i6, fun s h1 h2 => absurd h2 (by omega), i8, i9⟩, i7⟩
theorem TIv_0 {C : Cf} {A0 B0 D : Nat} (h : SI C A0 B0) : TIv C 1 0 D (ts0 A0 B0) ∧ ∀ a, 0 ≤ a → a < 1 → (gt (tL (ts0 A0 B0)) a).2.2.2.2 = 0 := by
  refine ⟨⟨Nat.le_refl _, Nat.le_refl _, by show (1 : Nat) ≤ 4000; omega, fun s hs => ?_, fun s s' h1 h2 => ?_, ⟨rfl, fun s hs hz => ?_⟩, fun s h1 h2 => ?_, fun p hp => absurd hp (by simp [ts0, tF]), fun p hp => absurd hp (by simp [ts0, tE])⟩, fun a _ ha => ?_⟩
  · have hs : s < 1 := hs
    have : s = 0 := by omega
    subst this; exact h
  · have h2 : s < 1 := h2
    omega
  · have hs : s < 1 := hs
    omega
  · have h2 : s < 1 := h2
    omega
  · have : a = 0 := by omega
    subst this; rfl
