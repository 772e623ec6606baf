/-! THE INVARIANT between class and model, over one memory. Addresses: see layout.py; fields: FIELDS.txt. Each part speaks of few cells. -/
/-- the fifteen programs of the class -/
def PR : List Nat := [4, 20, 26, 32, 38, 44, 50, 56, 62, 68, 74, 80, 86, 92, 98]
/-- an int that is a small number -/
def isN (x : Int32) (b : Nat) : Prop := ∃ q : Nat, q < b ∧ x = nI q
/-- a class code as the model's mark -/
def cmk (c : Nat) : Nat := if c < 1030 then c else if c = 1030 then 2124 else if c = 1031 then 2038 else if c = 1032 then 2060 else if c = 1033 then 2062 else if c = 1034 then 2061 else if c = 1035 then 2043 else if c = 1036 then 2045 else if c = 1037 then 2033 else 2126
/-- a thing, a sign ahead, a sign between -/
def cThing (c : Nat) : Bool := decide (c < 1000) || (decide (1000 ≤ c) && decide (c < 1008)) || (decide (1010 ≤ c) && decide (c < 1014)) || (decide (1020 ≤ c) && decide (c < 1024))
def cOne (c : Nat) : Bool := decide (c = 1037) || decide (c = 1038)
def cTwo (c : Nat) : Bool := decide (1030 ≤ c) && decide (c < 1037)
/-- the height of the stack behind a code; none where it can't be worked -/
def hgt : List Nat → Nat → Option Nat
  | [], h => some h
  | c :: r, h => if cThing c then hgt r (h + 1) else if cOne c then (if 1 ≤ h then hgt r h else none) else if cTwo c then (if 2 ≤ h then hgt r (h - 1) else none) else none
/-- a whole expression -/
def WFx (e : List Nat) : Prop := hgt e 0 = some 1 ∧ e.length ≤ 60
/-- the kinds of lines -/
def kmk (k : Nat) : Nat := if k = 0 then 61 else if k = 1 then 63 else if k = 2 then 109 else if k = 3 then 106 else if k = 4 then 115 else 120
/-- line i of the class's program at p, and the model's row r, hold (kd, nu, e) -/
def LnC (M : Mm) (p i : Nat) (kd nu : Nat) (e : List Nat) : Prop :=
  M.1 (p + 2) i = nI kd ∧ M.1 (p + 3) i = nI nu ∧ ∃ s : Nat, s + e.length ≤ 60 ∧ M.1 (p + 4) i = nI s ∧ M.1 (p + 4) (i + 1) = nI (s + e.length) ∧ ∀ j, j < e.length → M.1 (p + 5) (s + j) = nI (e.getD j 0)
def RwM (M : Mm) (r : Nat) (e : List Nat) : Prop := M.1 148 r = nI e.length ∧ ∀ j, j < e.length → M.1 147 (64 * r + j) = nI (cmk (e.getD j 0))
def LnM (M : Mm) (r : Nat) (kd nu : Nat) (e : List Nat) : Prop := M.1 145 r = nI (kmk kd) ∧ M.1 146 r = nI nu ∧ RwM M r e
def LnOk (kd nu : Nat) (e : List Nat) : Prop := kd < 6 ∧ nu < 100 ∧ (kd = 0 → nu < 8) ∧ (kd = 2 → nu < 4) ∧ (kd < 4 → WFx e) ∧ (4 ≤ kd → e = [])
def LN (M : Mm) (p i r : Nat) : Prop := ∃ (kd nu : Nat) (e : List Nat), LnOk kd nu e ∧ LnC M p i kd nu e ∧ LnM M r kd nu e
/-- an expression alone: the class's program at p, the model's row r -/
def XP (M : Mm) (p r : Nat) : Prop := M.1 p 6 = 1 ∧ ∃ e : List Nat, WFx e ∧ M.1 (p + 4) 0 = 0 ∧ M.1 (p + 4) 1 = nI e.length ∧ (∀ j, j < e.length → M.1 (p + 5) j = nI (e.getD j 0)) ∧ RwM M r e
/-- the model's own packing -/
def pmS (sl : Nat → Nat) : Nat := sl 7 + 256 * (sl 6 + 256 * (sl 5 + 256 * (sl 4 + 256 * (sl 3 + 256 * (sl 2 + 256 * (sl 1 + 256 * sl 0))))))
def pmR (a t ln : Nat → Nat) : Nat := ln 3 + 16 * (ln 2 + 16 * (ln 1 + 16 * (ln 0 + 16 * (t 3 + 16 * (a 3 + 4 * (t 2 + 16 * (a 2 + 4 * (t 1 + 16 * (a 1 + 4 * (t 0 + 16 * a 0))))))))))
-- ===== the parts
def V_txt (M : Mm) : Prop := ∃ n : Nat, n ≤ 100 ∧ M.1 1 1 = nI n ∧ M.1 142 4 = nI n ∧ ∀ j, j < n → M.1 2 j = M.1 144 j ∧ isN (M.1 2 j) 256
def V_typ (M : Mm) : Prop := ∃ n : Nat, n ≤ 8 ∧ M.1 118 2 = nI n ∧ M.1 142 60 = nI n ∧ ∀ j, j < n → M.1 119 j = M.1 173 j ∧ isN (M.1 119 j) 5
def V_spd (M : Mm) : Prop := ∀ k, k < 4 → M.1 18 k = M.1 157 k ∧ isN (M.1 18 k) 16
def V_key (M : Mm) : Prop := M.1 11 13 = M.1 142 27 ∧ isN (M.1 11 13) 5
def V_wgt (M : Mm) : Prop := ∀ k, k < 5 → M.1 131 k = M.1 171 k ∧ M.1 132 k = M.1 171 (5 + k) ∧ isN (M.1 131 k) 10 ∧ isN (M.1 132 k) 10 ∧ M.1 100000 k = 1
def V_told (M : Mm) : Prop := ∃ n : Nat, n ≤ 20 ∧ M.1 116 1 = nI n ∧ M.1 142 1 = nI n ∧ ∀ j, j < n → M.2.1 117 j = M.2.1 143 j
def V_last (M : Mm) : Prop := M.1 0 12 = M.1 142 32 ∧ M.1 113 2 = M.1 142 28 ∧ M.1 113 3 = M.1 142 29 ∧ M.1 113 4 = M.1 142 30 ∧ M.1 113 5 = M.1 142 31
/-- the counts: tasks, bolts, those that are on, patches -/
def V_cnt (M : Mm) : Prop := ∃ nt nb on np : Nat, nt ≤ 4 ∧ nb ≤ 3 ∧ on < 2 ^ nb ∧ np ≤ 5 ∧ M.1 11 10 = nI nt ∧ M.1 142 15 = nI nt ∧ M.1 11 11 = nI nb ∧ M.1 142 20 = nI nb ∧ M.1 11 14 = nI on ∧ M.1 142 21 = nI on ∧ M.1 11 12 = nI np ∧ M.1 142 34 = nI np ∧ M.1 142 33 = 0
/-- the programs: each place has one of the fifteen, no two the same -/
def plc (M : Mm) : List (Option Nat) := [M.2.2 1 6, M.2.2 11 8, M.2.2 11 9, M.2.2 12 0, M.2.2 12 1, M.2.2 12 2, M.2.2 12 3, M.2.2 13 0, M.2.2 13 1, M.2.2 13 2, M.2.2 14 0, M.2.2 14 1, M.2.2 14 2, M.2.2 14 3, M.2.2 14 4]
def V_prg (M : Mm) : Prop := (∃ q : List Nat, plc M = q.map some ∧ q.Nodup ∧ ∀ p ∈ q, p ∈ PR) ∧ ∀ j, j < 64 → M.2.2 17 j = none
def V_task (M : Mm) : Prop := ∀ t : Nat, t < 4 → nI t < M.1 11 10 → ∃ p n z : Nat, p ∈ PR ∧ M.2.2 12 t = some p ∧ 1 ≤ n ∧ n ≤ 16 ∧ z ≤ 60 ∧ M.1 p 6 = nI n ∧ M.1 150 t = nI n ∧ (∀ i, i < n → LN M p i (16 * t + i)) ∧ M.1 p 5 = nI z ∧ M.1 152 t = nI z ∧ ∀ j, j < z → M.1 (p + 1) j = M.1 151 (60 * t + j) ∧ isN (M.1 (p + 1) j) 256
def V_must (M : Mm) : Prop := ∃ p : Nat, p ∈ PR ∧ M.2.2 11 8 = some p ∧ ((M.1 p 6 = 0 ∧ M.1 142 19 = 0) ∨ (M.1 142 19 = 1 ∧ XP M p 69))
def V_bolt (M : Mm) : Prop := ∀ b : Nat, b < 3 → nI b < M.1 11 11 → ∃ p : Nat, p ∈ PR ∧ M.2.2 13 b = some p ∧ XP M p (70 + b)
def V_ptch (M : Mm) : Prop := ∀ j : Nat, j < 5 → nI j < M.1 11 12 → ∃ p : Nat, p ∈ PR ∧ M.2.2 14 j = some p ∧ M.1 p 6 = 1 ∧ LN M p 0 (64 + j) ∧ M.1 15 j = M.1 158 j ∧ M.1 16 j = M.1 159 j ∧ isN (M.1 15 j) 4 ∧ M.1 15 j < M.1 11 10 ∧ isN (M.1 16 j) 16
/-- the model's state is (A, B) -/
def MS (M : Mm) (A B : Nat) : Prop := (∀ k, k < 8 → M.1 153 k = nI (qS A k)) ∧ ∀ k, k < 4 → M.1 154 k = nI (qA B k) ∧ M.1 155 k = nI (qT B k) ∧ M.1 156 k = nI (qL B k)
/-- the state now, and its lines within the tasks' -/
def V_now (M : Mm) : Prop := ∃ A B : Nat, A < 2 ^ 64 ∧ B < 2 ^ 40 ∧ MS M A B ∧ M.2.1 113 0 = lN A ∧ M.2.1 113 1 = lN B ∧ ∀ k, k < 4 → nI k < M.1 11 10 → nI (qL B k) < M.1 150 k
def V_kept (M : Mm) : Prop := ∀ i : Nat, i < 3 → M.1 (133 + 3 * i) 4 = M.1 185 i ∧ (M.1 185 i = 0 ∨ (M.1 185 i = 1 ∧ (∃ A B : Nat, A < 2 ^ 64 ∧ B < 2 ^ 40 ∧ M.2.1 (134 + 3 * i) 0 = lN A ∧ M.2.1 (134 + 3 * i) 1 = lN B ∧ M.2.1 186 i = lN (pmS (qS A)) ∧ M.2.1 187 i = lN (pmR (qA B) (qT B) (qL B)) ∧ ∀ k, k < 4 → nI k < M.1 11 10 → nI (qL B k) < M.1 150 k) ∧ M.1 (133 + 3 * i) 2 = M.1 188 i ∧ isN (M.1 188 i) 5 ∧ M.1 (133 + 3 * i) 3 = M.1 189 i ∧ (∃ nb on : Nat, nb ≤ 3 ∧ M.1 11 11 = nI nb ∧ on < 2 ^ nb ∧ M.1 189 i = nI on) ∧ ∀ k, k < 4 → M.1 (135 + 3 * i) k = M.1 190 (4 * i + k) ∧ isN (M.1 190 (4 * i + k)) 16))
/-- the class's walk: its table holds nothing but at the spots of its states -/
def V_walk (M : Mm) : Prop := (∃ n : Nat, n ≤ 4000 ∧ M.1 10 10 = nI n ∧ ∃ sp : Nat → Nat, (∀ s, s < n → sp s < 8192 ∧ M.1 108 s = nI (sp s)) ∧ ∀ k, k < 8192 → (∀ s, s < n → sp s ≠ k) → M.1 109 k = 0) ∧ ((M.2.2 10 8 = some 111 ∧ M.2.2 10 9 = some 112) ∨ (M.2.2 10 8 = some 112 ∧ M.2.2 10 9 = some 111))
/-- the houses' cases and letters (what letters tell: a part of its own, V_tell) -/
def V_hous (M : Mm) : Prop := ∃ nc nl : Nat, nc ≤ 12 ∧ nl ≤ 12 ∧ M.1 121 8 = nI nc ∧ M.1 142 70 = nI nc ∧ M.1 121 9 = nI nl ∧ M.1 142 74 = nI nl ∧ (∀ j, j < nc → M.1 122 j = M.1 177 j ∧ M.1 123 j = M.1 178 j ∧ M.1 124 j = M.1 179 j ∧ isN (M.1 122 j) 6 ∧ isN (M.1 123 j) 100 ∧ isN (M.1 124 j) 256) ∧ ∀ j, j < nl → M.1 125 j = M.1 180 j ∧ M.1 126 j = M.1 181 j ∧ M.1 127 j = M.1 182 j ∧ M.1 128 j = M.1 182 j + M.1 183 j ∧ isN (M.1 125 j) 6 ∧ isN (M.1 126 j) 6 ∧ isN (M.1 127 j) 100 ∧ isN (M.1 183 j) 51
/-- letter i tells of case c, by a chain of at most k letters -/
def tlk (ch cw ls lr lt lc : Nat → Nat) (nl : Nat) : Nat → Nat → Nat → Prop
  | 0, _, _ => False
  | k + 1, i, c => (ch c = ls i ∧ cw c ≤ lt i) ∨ ∃ i' : Nat, i' < nl ∧ lr i' = ls i ∧ lc i' ≤ lt i ∧ tlk ch cw ls lr lt lc nl k i' c
def ar (M : Mm) (a : Nat) : Nat → Nat := fun j => (M.1 a j).toNatClampNeg
def V_tell (M : Mm) : Prop := ∀ i : Nat, i < 12 → nI i < M.1 121 9 → ∃ t : Nat, t < 4096 ∧ M.1 129 i = nI t ∧ ∀ c : Nat, t.testBit c = true ↔ (c < (M.1 121 8).toNatClampNeg ∧ ∃ k : Nat, tlk (ar M 122) (ar M 123) (ar M 125) (ar M 126) (ar M 127) (ar M 128) (M.1 121 9).toNatClampNeg k i c)
def V (M : Mm) : Prop := FX M ∧ V_txt M ∧ V_typ M ∧ V_spd M ∧ V_key M ∧ V_wgt M ∧ V_told M ∧ V_last M ∧ V_cnt M ∧ V_prg M ∧ V_task M ∧ V_must M ∧ V_bolt M ∧ V_ptch M ∧ V_now M ∧ V_kept M ∧ V_walk M ∧ V_hous M ∧ V_tell M
