set_option maxRecDepth 100000 in
def S0 : Ss := [(9, 0), (5, 0), (51, 100), (50, 60), (4, 0), (51, 60), (50, 16), (50, 16), (50, 17), (50, 60), (8, 0), (2, 0), (55, 4), (55, 3), (55, 5), (50, 5), (50, 5), (55, 64), (50, 4), (50, 64), (4, 0), (51, 60), (50, 16), (50, 16), (50, 17), (50, 60), (4, 0), (51, 60), (50, 16), (50, 16), (50, 17), (50, 60), (4, 0), (51, 60), (50, 16), (50, 16), (50, 17), (50, 60), (4, 0), (51, 60), (50, 16), (50, 16), (50, 17), (50, 60), (4, 0), (51, 60), (50, 16), (50, 16), (50, 17), (50, 60), (4, 0), (51, 60), (50, 16), (50, 16), (50, 17), (50, 60), (4, 0), (51, 60), (50, 16), (50, 16), (50, 17), (50, 60), (4, 0), (51, 60), (50, 16), (50, 16), (50, 17), (50, 60), (4, 0), (51, 60), (50, 16), (50, 16), (50, 17), (50, 60), (4, 0), (51, 60), (50, 16), (50, 16), (50, 17), (50, 60), (4, 0), (51, 60), (50, 16), (50, 16), (50, 17), (50, 60), (4, 0), (51, 60), (50, 16), (50, 16), (50, 17), (50, 60), (4, 0), (51, 60), (50, 16), (50, 16), (50, 17), (50, 60), (4, 0), (51, 60), (50, 16), (50, 16), (50, 17), (50, 60), (3, 0), (53, 4000), (53, 4000), (50, 4000), (50, 4000), (50, 8192), (50, 80000), (53, 4000), (53, 4000), (3, 0), (3, 0), (52, 256), (6, 0), (53, 20), (7, 0), (50, 8), (50, 8), (0, 0), (50, 12), (50, 12), (50, 12), (50, 12), (50, 12), (50, 12), (50, 12), (50, 12), (54, 3), (50, 5), (50, 5), (1, 0), (3, 0), (50, 4), (1, 0), (3, 0), (50, 4), (1, 0), (3, 0), (50, 4), (10, 0), (53, 64), (50, 100), (50, 90), (50, 90), (50, 5760), (50, 90), (50, 64), (50, 4), (50, 240), (50, 4), (50, 8), (50, 4), (50, 4), (50, 4), (50, 4), (50, 5), (50, 5), (53, 4001), (53, 4001), (50, 4001), (50, 4001), (50, 4001), (50, 16384), (53, 16004), (53, 16004), (50, 80020), (52, 80020), (50, 80020), (50, 10), (50, 20), (50, 8), (53, 4001), (50, 8), (50, 8), (50, 12), (50, 12), (50, 12), (50, 12), (50, 12), (50, 12), (50, 12), (50, 72), (52, 3), (53, 3), (53, 3), (50, 3), (50, 3), (50, 12), (53, 1)]
set_option maxRecDepth 100000 in
def Mi : Mm := (zr (stR (zr (stR (zr (stR (zr (stR (zr (stR (zr (stR (zr (stR (zr (stR (zr (stR (zr (stR (zr (stR (zr (stR (zr (stR (zr (stR (zr (stR (zr (stR (zr (stR (zr (stR (zr (stR (zr (stR (stI (stI (stI (stI (stI (stI (stI (stI (stI (stI (zr (stR (zr (stR (zr (stR (zr (stR (zr (stR (zr (stR (zr (stR (zr (stR (zr (stR (zr (stR (zr (stR (zr (stR (zr (stR (zr (stI (stR (stI (stI (stI (stI (zr (stR (zr (stR (zr (stR (zr (stR (zr (stR (zr (stR (zr (stR (zr (stR (zr (stR (zr (stR (zr (stR (zr (stR (zr (stR (zr (stR (zr (zr (stR (stI (stI (stI (stR (zr (stR (stI (stI (stI (stI (stI (stJ (stJ (zr (zr (stR (stI (stI (stI (stR (zr (stR (stI (stI (stI (stI (stI (stJ (stJ (zr (zr (stR (stI (stI (stI (stR (zr (stR (stI (stI (stI (stI (stI (stJ (stJ (zr (zr (stI (stR (stI (stI (stI (stI (stI (zr (stR (stI (stI (stI (stI (stI (zr (stR (zr (stR (stI (stI (stR (zr (stR (zr (stR (zr (stR (zr (stR (zr (stR (zr (stR (zr (stR (zr (zr (stR (stI (stR (zr (stR (zr (zr (stR (stI (stR (zr (zr (stR (zr (stR (stI (stI (stI (stI (stI (stJ (stJ (zr (stR (stI (stI (stI (stI (stI (stJ (stJ (zr (stR (stR (stJ (stI (stI (stI (stI (stI (stI (stI (stI (stR (zr (stR (zr (stR (zr (stR (zr (stR (zr (stR (zr (stR (zr (stR (zr (stR (stI (stI (stI (stI (stI (stJ (stJ (zr (stR (stR (stI (stI (stI (stR (zr (stR (zr (stR (zr (stR (zr (stR (zr (zr (stR (stI (stI (stI (stR (zr (stR (zr (stR (zr (stR (zr (stR (zr (zr (stR (stI (stI (stI (stR (zr (stR (zr (stR (zr (stR (zr (stR (zr (zr (stR (stI (stI (stI (stR (zr (stR (zr (stR (zr (stR (zr (stR (zr (zr (stR (stI (stI (stI (stR (zr (stR (zr (stR (zr (stR (zr (stR (zr (zr (stR (stI (stI (stI (stR (zr (stR (zr (stR (zr (stR (zr (stR (zr (zr (stR (stI (stI (stI (stR (zr (stR (zr (stR (zr (stR (zr (stR (zr (zr (stR (stI (stI (stI (stR (zr (stR (zr (stR (zr (stR (zr (stR (zr (zr (stR (stI (stI (stI (stR (zr (stR (zr (stR (zr (stR (zr (stR (zr (zr (stR (stI (stI (stI (stR (zr (stR (zr (stR (zr (stR (zr (stR (zr (zr (stR (stI (stI (stI (stR (zr (stR (zr (stR (zr (stR (zr (stR (zr (zr (stR (stI (stI (stI (stR (zr (stR (zr (stR (zr (stR (zr (stR (zr (zr (stI (stI (stI (stI (stI (stR (stI (stI (stI (stR (zr (stR (zr (stR (zr (stR (zr (stR (zr (zr (stR (stI (stI (stI (stR (zr (stR (zr (stR (zr (stR (zr (stR (zr (zr (stR (zr (stR (stI (stI (stI (stI (zr (stR (zr (stR (zr (stR (zr (stR (zr (stR (zr (stR (zr (zr (zr (stR (stR (stI (stI (stI (stR (zr (stR (zr (stR (zr (stR (zr (stR (zr (zr (stI (stR (zr (stI (stI (stI (stR (zr (zr (zr M00 0) 1) 2) 1 0 (some 2)) 1 1 (0 : Int32)) 1 2 (0 : Int32)) 1 3 (0 : Int32)) 3) 1 4 (some 3)) 1 5 (0 : Int32)) 4) 5) 4 0 (some 5)) 6) 4 1 (some 6)) 7) 4 2 (some 7)) 8) 4 3 (some 8)) 9) 4 4 (some 9)) 4 5 (0 : Int32)) 4 6 (0 : Int32)) 4 7 (0 : Int32)) 1 6 (some 4)) 0 0 (some 1)) 10) 11) 12) 11 0 (some 12)) 13) 11 1 (some 13)) 14) 11 2 (some 14)) 15) 11 3 (some 15)) 16) 11 4 (some 16)) 17) 11 5 (some 17)) 18) 18 (0 : Int32).toNatClampNeg (3 : Int32)) 18 (1 : Int32).toNatClampNeg (3 : Int32)) 18 (2 : Int32).toNatClampNeg (3 : Int32)) 18 (3 : Int32).toNatClampNeg (3 : Int32)) 11 6 (some 18)) 19) 11 7 (some 19)) 20) 21) 20 0 (some 21)) 22) 20 1 (some 22)) 23) 20 2 (some 23)) 24) 20 3 (some 24)) 25) 20 4 (some 25)) 20 5 (0 : Int32)) 20 6 (0 : Int32)) 20 7 (0 : Int32)) 11 8 (some 20)) 26) 27) 26 0 (some 27)) 28) 26 1 (some 28)) 29) 26 2 (some 29)) 30) 26 3 (some 30)) 31) 26 4 (some 31)) 26 5 (0 : Int32)) 26 6 (0 : Int32)) 26 7 (0 : Int32)) 11 9 (some 26)) 11 10 (0 : Int32)) 11 11 (0 : Int32)) 11 12 (0 : Int32)) 11 13 (2 : Int32)) 11 14 (0 : Int32)) 32) 33) 32 0 (some 33)) 34) 32 1 (some 34)) 35) 32 2 (some 35)) 36) 32 3 (some 36)) 37) 32 4 (some 37)) 32 5 (0 : Int32)) 32 6 (0 : Int32)) 32 7 (0 : Int32)) 12 (0 : Int32).toNatClampNeg (some 32)) 38) 39) 38 0 (some 39)) 40) 38 1 (some 40)) 41) 38 2 (some 41)) 42) 38 3 (some 42)) 43) 38 4 (some 43)) 38 5 (0 : Int32)) 38 6 (0 : Int32)) 38 7 (0 : Int32)) 12 (1 : Int32).toNatClampNeg (some 38)) 44) 45) 44 0 (some 45)) 46) 44 1 (some 46)) 47) 44 2 (some 47)) 48) 44 3 (some 48)) 49) 44 4 (some 49)) 44 5 (0 : Int32)) 44 6 (0 : Int32)) 44 7 (0 : Int32)) 12 (2 : Int32).toNatClampNeg (some 44)) 50) 51) 50 0 (some 51)) 52) 50 1 (some 52)) 53) 50 2 (some 53)) 54) 50 3 (some 54)) 55) 50 4 (some 55)) 50 5 (0 : Int32)) 50 6 (0 : Int32)) 50 7 (0 : Int32)) 12 (3 : Int32).toNatClampNeg (some 50)) 56) 57) 56 0 (some 57)) 58) 56 1 (some 58)) 59) 56 2 (some 59)) 60) 56 3 (some 60)) 61) 56 4 (some 61)) 56 5 (0 : Int32)) 56 6 (0 : Int32)) 56 7 (0 : Int32)) 13 (0 : Int32).toNatClampNeg (some 56)) 62) 63) 62 0 (some 63)) 64) 62 1 (some 64)) 65) 62 2 (some 65)) 66) 62 3 (some 66)) 67) 62 4 (some 67)) 62 5 (0 : Int32)) 62 6 (0 : Int32)) 62 7 (0 : Int32)) 13 (1 : Int32).toNatClampNeg (some 62)) 68) 69) 68 0 (some 69)) 70) 68 1 (some 70)) 71) 68 2 (some 71)) 72) 68 3 (some 72)) 73) 68 4 (some 73)) 68 5 (0 : Int32)) 68 6 (0 : Int32)) 68 7 (0 : Int32)) 13 (2 : Int32).toNatClampNeg (some 68)) 74) 75) 74 0 (some 75)) 76) 74 1 (some 76)) 77) 74 2 (some 77)) 78) 74 3 (some 78)) 79) 74 4 (some 79)) 74 5 (0 : Int32)) 74 6 (0 : Int32)) 74 7 (0 : Int32)) 14 (0 : Int32).toNatClampNeg (some 74)) 80) 81) 80 0 (some 81)) 82) 80 1 (some 82)) 83) 80 2 (some 83)) 84) 80 3 (some 84)) 85) 80 4 (some 85)) 80 5 (0 : Int32)) 80 6 (0 : Int32)) 80 7 (0 : Int32)) 14 (1 : Int32).toNatClampNeg (some 80)) 86) 87) 86 0 (some 87)) 88) 86 1 (some 88)) 89) 86 2 (some 89)) 90) 86 3 (some 90)) 91) 86 4 (some 91)) 86 5 (0 : Int32)) 86 6 (0 : Int32)) 86 7 (0 : Int32)) 14 (2 : Int32).toNatClampNeg (some 86)) 92) 93) 92 0 (some 93)) 94) 92 1 (some 94)) 95) 92 2 (some 95)) 96) 92 3 (some 96)) 97) 92 4 (some 97)) 92 5 (0 : Int32)) 92 6 (0 : Int32)) 92 7 (0 : Int32)) 14 (3 : Int32).toNatClampNeg (some 92)) 98) 99) 98 0 (some 99)) 100) 98 1 (some 100)) 101) 98 2 (some 101)) 102) 98 3 (some 102)) 103) 98 4 (some 103)) 98 5 (0 : Int32)) 98 6 (0 : Int32)) 98 7 (0 : Int32)) 14 (4 : Int32).toNatClampNeg (some 98)) 10 0 (some 11)) 104) 104 0 (0 : Int64)) 104 1 (0 : Int64)) 104 2 (0 : Int32)) 104 3 (0 : Int32)) 104 4 (0 : Int32)) 104 5 (0 : Int32)) 104 6 (0 : Int32)) 10 1 (some 104)) 105) 10 2 (some 105)) 106) 10 3 (some 106)) 107) 10 4 (some 107)) 108) 10 5 (some 108)) 109) 10 6 (some 109)) 110) 10 7 (some 110)) 111) 10 8 (some 111)) 112) 10 9 (some 112)) 10 10 (0 : Int32)) 10 11 (0 : Int32)) 10 12 (0 : Int32)) 10 13 (0 : Int32)) 10 14 (-1 : Int32)) 10 15 (-1 : Int32)) 10 16 (-1 : Int32)) 10 17 (-1 : Int32)) 10 18 (0 : Int64)) 0 1 (some 10)) 0 2 (some 11)) 113) 113 0 (0 : Int64)) 113 1 (0 : Int64)) 113 2 (0 : Int32)) 113 3 (0 : Int32)) 113 4 (0 : Int32)) 113 5 (0 : Int32)) 113 6 (0 : Int32)) 0 3 (some 113)) 114) 114 0 (0 : Int64)) 114 1 (0 : Int64)) 114 2 (0 : Int32)) 114 3 (0 : Int32)) 114 4 (0 : Int32)) 114 5 (0 : Int32)) 114 6 (0 : Int32)) 0 4 (some 114)) 115) 0 5 (some 115)) 116) 117) 116 0 (some 117)) 116 1 (0 : Int32)) 0 6 (some 116)) 118) 119) 118 0 (some 119)) 120) 118 1 (some 120)) 118 2 (0 : Int32)) 0 7 (some 118)) 121) 122) 121 0 (some 122)) 123) 121 1 (some 123)) 124) 121 2 (some 124)) 125) 121 3 (some 125)) 126) 121 4 (some 126)) 127) 121 5 (some 127)) 128) 121 6 (some 128)) 129) 121 7 (some 129)) 121 8 (0 : Int32)) 121 9 (0 : Int32)) 0 8 (some 121)) 130) 0 9 (some 130)) 131) 131 (0 : Int32).toNatClampNeg (1 : Int32)) 131 (1 : Int32).toNatClampNeg (1 : Int32)) 131 (2 : Int32).toNatClampNeg (1 : Int32)) 131 (3 : Int32).toNatClampNeg (1 : Int32)) 131 (4 : Int32).toNatClampNeg (1 : Int32)) 0 10 (some 131)) 132) 132 (0 : Int32).toNatClampNeg (1 : Int32)) 132 (1 : Int32).toNatClampNeg (1 : Int32)) 132 (2 : Int32).toNatClampNeg (1 : Int32)) 132 (3 : Int32).toNatClampNeg (1 : Int32)) 132 (4 : Int32).toNatClampNeg (1 : Int32)) 0 11 (some 132)) 0 12 (0 : Int32)) 133) 134) 134 0 (0 : Int64)) 134 1 (0 : Int64)) 134 2 (0 : Int32)) 134 3 (0 : Int32)) 134 4 (0 : Int32)) 134 5 (0 : Int32)) 134 6 (0 : Int32)) 133 0 (some 134)) 135) 133 1 (some 135)) 133 2 (0 : Int32)) 133 3 (0 : Int32)) 133 4 (0 : Int32)) 130 (0 : Int32).toNatClampNeg (some 133)) 136) 137) 137 0 (0 : Int64)) 137 1 (0 : Int64)) 137 2 (0 : Int32)) 137 3 (0 : Int32)) 137 4 (0 : Int32)) 137 5 (0 : Int32)) 137 6 (0 : Int32)) 136 0 (some 137)) 138) 136 1 (some 138)) 136 2 (0 : Int32)) 136 3 (0 : Int32)) 136 4 (0 : Int32)) 130 (1 : Int32).toNatClampNeg (some 136)) 139) 140) 140 0 (0 : Int64)) 140 1 (0 : Int64)) 140 2 (0 : Int32)) 140 3 (0 : Int32)) 140 4 (0 : Int32)) 140 5 (0 : Int32)) 140 6 (0 : Int32)) 139 0 (some 140)) 141) 139 1 (some 141)) 139 2 (0 : Int32)) 139 3 (0 : Int32)) 139 4 (0 : Int32)) 130 (2 : Int32).toNatClampNeg (some 139)) 142) 143) 142 2 (some 143)) 144) 142 3 (some 144)) 145) 142 9 (some 145)) 146) 142 10 (some 146)) 147) 142 11 (some 147)) 148) 142 12 (some 148)) 149) 142 14 (some 149)) 150) 142 16 (some 150)) 151) 142 17 (some 151)) 152) 142 18 (some 152)) 153) 142 22 (some 153)) 154) 142 23 (some 154)) 155) 142 24 (some 155)) 156) 142 25 (some 156)) 157) 157 (0 : Int32).toNatClampNeg (3 : Int32)) 157 (1 : Int32).toNatClampNeg (3 : Int32)) 157 (2 : Int32).toNatClampNeg (3 : Int32)) 157 (3 : Int32).toNatClampNeg (3 : Int32)) 142 26 (some 157)) 142 27 (2 : Int32)) 158) 142 35 (some 158)) 159) 142 36 (some 159)) 160) 142 38 (some 160)) 161) 142 39 (some 161)) 162) 142 40 (some 162)) 163) 142 41 (some 163)) 164) 142 42 (some 164)) 165) 142 43 (some 165)) 166) 142 53 (some 166)) 167) 142 54 (some 167)) 168) 142 55 (some 168)) 169) 142 56 (some 169)) 170) 142 57 (some 170)) 171) 171 (0 : Int32).toNatClampNeg (1 : Int32)) 171 (1 : Int32).toNatClampNeg (1 : Int32)) 171 (2 : Int32).toNatClampNeg (1 : Int32)) 171 (3 : Int32).toNatClampNeg (1 : Int32)) 171 (4 : Int32).toNatClampNeg (1 : Int32)) 171 (5 : Int32).toNatClampNeg (1 : Int32)) 171 (6 : Int32).toNatClampNeg (1 : Int32)) 171 (7 : Int32).toNatClampNeg (1 : Int32)) 171 (8 : Int32).toNatClampNeg (1 : Int32)) 171 (9 : Int32).toNatClampNeg (1 : Int32)) 142 58 (some 171)) 172) 142 59 (some 172)) 173) 142 61 (some 173)) 174) 142 67 (some 174)) 175) 142 68 (some 175)) 176) 142 69 (some 176)) 177) 142 71 (some 177)) 178) 142 72 (some 178)) 179) 142 73 (some 179)) 180) 142 75 (some 180)) 181) 142 76 (some 181)) 182) 142 77 (some 182)) 183) 142 78 (some 183)) 184) 142 79 (some 184)) 185) 142 80 (some 185)) 186) 142 81 (some 186)) 187) 142 82 (some 187)) 188) 142 83 (some 188)) 189) 142 84 (some 189)) 190) 142 85 (some 190)) 191)
theorem cl_zr {S S1 : Ss} {M : Mm} {n : Nat} (h : CL S M) (hn : S.length = n) (hs : S.length ≤ S1.length) : CL S1 (zr M n) := by
  intro a k b hb
  by_cases ha : a = n
  · simp [zr, ha] at hb
  · have hb : M.2.2 a k = some b := by simpa [zr, ha] using hb
    exact Nat.lt_of_lt_of_le (h a k b hb) hs
theorem cl_I {S : Ss} {M : Mm} {a k : Nat} {v : Int32} (h : CL S M) : CL S (stI M a k v) := h
theorem cl_J {S : Ss} {M : Mm} {a k : Nat} {v : Int64} (h : CL S M) : CL S (stJ M a k v) := h
theorem cl_R {S : Ss} {M : Mm} {a k v : Nat} (h : CL S M) (hv : v < S.length) : CL S (stR M a k (some v)) := by
  intro a' k' b hb
  by_cases ha : a' = a ∧ k' = k
  · have : v = b := by simpa [stR, ha] using hb
    omega
  · have hb : M.2.2 a' k' = some b := by simpa [stR, ha] using hb
    exact h a' k' b hb
set_option maxHeartbeats 40000000 in
set_option maxRecDepth 100000 in
theorem pre_all (xs : Nat → Int32) (L : Nat) (h : ∃ n : Nat, n ≤ 1000 ∧ f_L_law_L S0 xs L 0 142 191 n 0 Mi) : f_L_law_0 xs L := by
  unfold f_L_law_0
  have hcl : CL ([] : Ss) M00 := fun a k b h => by cases h
  refine ⟨hcl, by decide +kernel, ?_⟩
  intro s1 es1 m1 em1 b1 eb1
  rw [show ([] : Ss).length = 0 by decide +kernel] at em1 eb1
  subst em1
  subst eb1
  obtain rfl : s1 = S0.take 1 := es1.trans (by decide +kernel)
  replace hcl := cl_zr (S1 := S0.take 1) hcl (show ([] : Ss).length = 0 by decide +kernel) (by decide +kernel)
  (try unfold f_X10_init)
  refine ⟨hcl, by decide +kernel, ?_⟩
  intro s1 es1 m1 em1 b1 eb1
  rw [show (S0.take 1).length = 1 by decide +kernel] at em1 eb1
  subst em1
  subst eb1
  obtain rfl : s1 = S0.take 2 := es1.trans (by decide +kernel)
  replace hcl := cl_zr (S1 := S0.take 2) hcl (show (S0.take 1).length = 1 by decide +kernel) (by decide +kernel)
  (try unfold f_X6_init)
  refine ⟨hcl, by decide +kernel, ?_⟩
  intro s1 es1 m1 em1 b1 eb1
  rw [show (S0.take 2).length = 2 by decide +kernel] at em1 eb1
  subst em1
  subst eb1
  obtain rfl : s1 = S0.take 3 := es1.trans (by decide +kernel)
  replace hcl := cl_zr (S1 := S0.take 3) hcl (show (S0.take 2).length = 2 by decide +kernel) (by decide +kernel)
  rintro _ rfl
  replace hcl := cl_R (a := 1) (k := 0) hcl (show 2 < (S0.take 3).length by decide +kernel)
  rintro _ rfl
  replace hcl := cl_I (a := 1) (k := 1) (v := (0 : Int32)) hcl
  rintro _ rfl
  replace hcl := cl_I (a := 1) (k := 2) (v := (0 : Int32)) hcl
  rintro _ rfl
  replace hcl := cl_I (a := 1) (k := 3) (v := (0 : Int32)) hcl
  refine ⟨hcl, by decide +kernel, ?_⟩
  intro s1 es1 m1 em1 b1 eb1
  rw [show (S0.take 3).length = 3 by decide +kernel] at em1 eb1
  subst em1
  subst eb1
  obtain rfl : s1 = S0.take 4 := es1.trans (by decide +kernel)
  replace hcl := cl_zr (S1 := S0.take 4) hcl (show (S0.take 3).length = 3 by decide +kernel) (by decide +kernel)
  rintro _ rfl
  replace hcl := cl_R (a := 1) (k := 4) hcl (show 3 < (S0.take 4).length by decide +kernel)
  rintro _ rfl
  replace hcl := cl_I (a := 1) (k := 5) (v := (0 : Int32)) hcl
  refine ⟨hcl, by decide +kernel, ?_⟩
  intro s1 es1 m1 em1 b1 eb1
  rw [show (S0.take 4).length = 4 by decide +kernel] at em1 eb1
  subst em1
  subst eb1
  obtain rfl : s1 = S0.take 5 := es1.trans (by decide +kernel)
  replace hcl := cl_zr (S1 := S0.take 5) hcl (show (S0.take 4).length = 4 by decide +kernel) (by decide +kernel)
  (try unfold f_X5_init)
  refine ⟨hcl, by decide +kernel, ?_⟩
  intro s1 es1 m1 em1 b1 eb1
  rw [show (S0.take 5).length = 5 by decide +kernel] at em1 eb1
  subst em1
  subst eb1
  obtain rfl : s1 = S0.take 6 := es1.trans (by decide +kernel)
  replace hcl := cl_zr (S1 := S0.take 6) hcl (show (S0.take 5).length = 5 by decide +kernel) (by decide +kernel)
  rintro _ rfl
  replace hcl := cl_R (a := 4) (k := 0) hcl (show 5 < (S0.take 6).length by decide +kernel)
  refine ⟨hcl, by decide +kernel, ?_⟩
  intro s1 es1 m1 em1 b1 eb1
  rw [show (S0.take 6).length = 6 by decide +kernel] at em1 eb1
  subst em1
  subst eb1
  obtain rfl : s1 = S0.take 7 := es1.trans (by decide +kernel)
  replace hcl := cl_zr (S1 := S0.take 7) hcl (show (S0.take 6).length = 6 by decide +kernel) (by decide +kernel)
  rintro _ rfl
  replace hcl := cl_R (a := 4) (k := 1) hcl (show 6 < (S0.take 7).length by decide +kernel)
  refine ⟨hcl, by decide +kernel, ?_⟩
  intro s1 es1 m1 em1 b1 eb1
  rw [show (S0.take 7).length = 7 by decide +kernel] at em1 eb1
  subst em1
  subst eb1
  obtain rfl : s1 = S0.take 8 := es1.trans (by decide +kernel)
  replace hcl := cl_zr (S1 := S0.take 8) hcl (show (S0.take 7).length = 7 by decide +kernel) (by decide +kernel)
  rintro _ rfl
  replace hcl := cl_R (a := 4) (k := 2) hcl (show 7 < (S0.take 8).length by decide +kernel)
  refine ⟨hcl, by decide +kernel, ?_⟩
  intro s1 es1 m1 em1 b1 eb1
  rw [show (S0.take 8).length = 8 by decide +kernel] at em1 eb1
  subst em1
  subst eb1
  obtain rfl : s1 = S0.take 9 := es1.trans (by decide +kernel)
  replace hcl := cl_zr (S1 := S0.take 9) hcl (show (S0.take 8).length = 8 by decide +kernel) (by decide +kernel)
  rintro _ rfl
  replace hcl := cl_R (a := 4) (k := 3) hcl (show 8 < (S0.take 9).length by decide +kernel)
  refine ⟨hcl, by decide +kernel, ?_⟩
  intro s1 es1 m1 em1 b1 eb1
  rw [show (S0.take 9).length = 9 by decide +kernel] at em1 eb1
  subst em1
  subst eb1
  obtain rfl : s1 = S0.take 10 := es1.trans (by decide +kernel)
  replace hcl := cl_zr (S1 := S0.take 10) hcl (show (S0.take 9).length = 9 by decide +kernel) (by decide +kernel)
  rintro _ rfl
  replace hcl := cl_R (a := 4) (k := 4) hcl (show 9 < (S0.take 10).length by decide +kernel)
  rintro _ rfl
  replace hcl := cl_I (a := 4) (k := 5) (v := (0 : Int32)) hcl
  rintro _ rfl
  replace hcl := cl_I (a := 4) (k := 6) (v := (0 : Int32)) hcl
  rintro _ rfl
  replace hcl := cl_I (a := 4) (k := 7) (v := (0 : Int32)) hcl
  intro _
  rintro _ rfl
  replace hcl := cl_R (a := 1) (k := 6) hcl (show 4 < (S0.take 10).length by decide +kernel)
  intro _
  rintro _ rfl
  replace hcl := cl_R (a := 0) (k := 0) hcl (show 1 < (S0.take 10).length by decide +kernel)
  refine ⟨hcl, by decide +kernel, ?_⟩
  intro s1 es1 m1 em1 b1 eb1
  rw [show (S0.take 10).length = 10 by decide +kernel] at em1 eb1
  subst em1
  subst eb1
  obtain rfl : s1 = S0.take 11 := es1.trans (by decide +kernel)
  replace hcl := cl_zr (S1 := S0.take 11) hcl (show (S0.take 10).length = 10 by decide +kernel) (by decide +kernel)
  (try unfold f_X9_init)
  refine ⟨hcl, by decide +kernel, ?_⟩
  intro s1 es1 m1 em1 b1 eb1
  rw [show (S0.take 11).length = 11 by decide +kernel] at em1 eb1
  subst em1
  subst eb1
  obtain rfl : s1 = S0.take 12 := es1.trans (by decide +kernel)
  replace hcl := cl_zr (S1 := S0.take 12) hcl (show (S0.take 11).length = 11 by decide +kernel) (by decide +kernel)
  (try unfold f_X3_init)
  refine ⟨hcl, by decide +kernel, ?_⟩
  intro s1 es1 m1 em1 b1 eb1
  rw [show (S0.take 12).length = 12 by decide +kernel] at em1 eb1
  subst em1
  subst eb1
  obtain rfl : s1 = S0.take 13 := es1.trans (by decide +kernel)
  replace hcl := cl_zr (S1 := S0.take 13) hcl (show (S0.take 12).length = 12 by decide +kernel) (by decide +kernel)
  rintro _ rfl
  replace hcl := cl_R (a := 11) (k := 0) hcl (show 12 < (S0.take 13).length by decide +kernel)
  refine ⟨hcl, by decide +kernel, ?_⟩
  intro s1 es1 m1 em1 b1 eb1
  rw [show (S0.take 13).length = 13 by decide +kernel] at em1 eb1
  subst em1
  subst eb1
  obtain rfl : s1 = S0.take 14 := es1.trans (by decide +kernel)
  replace hcl := cl_zr (S1 := S0.take 14) hcl (show (S0.take 13).length = 13 by decide +kernel) (by decide +kernel)
  rintro _ rfl
  replace hcl := cl_R (a := 11) (k := 1) hcl (show 13 < (S0.take 14).length by decide +kernel)
  refine ⟨hcl, by decide +kernel, ?_⟩
  intro s1 es1 m1 em1 b1 eb1
  rw [show (S0.take 14).length = 14 by decide +kernel] at em1 eb1
  subst em1
  subst eb1
  obtain rfl : s1 = S0.take 15 := es1.trans (by decide +kernel)
  replace hcl := cl_zr (S1 := S0.take 15) hcl (show (S0.take 14).length = 14 by decide +kernel) (by decide +kernel)
  rintro _ rfl
  replace hcl := cl_R (a := 11) (k := 2) hcl (show 14 < (S0.take 15).length by decide +kernel)
  refine ⟨hcl, by decide +kernel, ?_⟩
  intro s1 es1 m1 em1 b1 eb1
  rw [show (S0.take 15).length = 15 by decide +kernel] at em1 eb1
  subst em1
  subst eb1
  obtain rfl : s1 = S0.take 16 := es1.trans (by decide +kernel)
  replace hcl := cl_zr (S1 := S0.take 16) hcl (show (S0.take 15).length = 15 by decide +kernel) (by decide +kernel)
  rintro _ rfl
  replace hcl := cl_R (a := 11) (k := 3) hcl (show 15 < (S0.take 16).length by decide +kernel)
  refine ⟨hcl, by decide +kernel, ?_⟩
  intro s1 es1 m1 em1 b1 eb1
  rw [show (S0.take 16).length = 16 by decide +kernel] at em1 eb1
  subst em1
  subst eb1
  obtain rfl : s1 = S0.take 17 := es1.trans (by decide +kernel)
  replace hcl := cl_zr (S1 := S0.take 17) hcl (show (S0.take 16).length = 16 by decide +kernel) (by decide +kernel)
  rintro _ rfl
  replace hcl := cl_R (a := 11) (k := 4) hcl (show 16 < (S0.take 17).length by decide +kernel)
  refine ⟨hcl, by decide +kernel, ?_⟩
  intro s1 es1 m1 em1 b1 eb1
  rw [show (S0.take 17).length = 17 by decide +kernel] at em1 eb1
  subst em1
  subst eb1
  obtain rfl : s1 = S0.take 18 := es1.trans (by decide +kernel)
  replace hcl := cl_zr (S1 := S0.take 18) hcl (show (S0.take 17).length = 17 by decide +kernel) (by decide +kernel)
  rintro _ rfl
  replace hcl := cl_R (a := 11) (k := 5) hcl (show 17 < (S0.take 18).length by decide +kernel)
  refine ⟨hcl, by decide +kernel, ?_⟩
  intro s1 es1 m1 em1 b1 eb1
  rw [show (S0.take 18).length = 18 by decide +kernel] at em1 eb1
  subst em1
  subst eb1
  obtain rfl : s1 = S0.take 19 := es1.trans (by decide +kernel)
  replace hcl := cl_zr (S1 := S0.take 19) hcl (show (S0.take 18).length = 18 by decide +kernel) (by decide +kernel)
  refine ⟨4, by decide +kernel, by unfold vp_in; decide +kernel, ?_⟩
  rintro _ rfl
  replace hcl := cl_I (a := 18) (k := (0 : Int32).toNatClampNeg) (v := (3 : Int32)) hcl
  refine ⟨4, by decide +kernel, by unfold vp_in; decide +kernel, ?_⟩
  rintro _ rfl
  replace hcl := cl_I (a := 18) (k := (1 : Int32).toNatClampNeg) (v := (3 : Int32)) hcl
  refine ⟨4, by decide +kernel, by unfold vp_in; decide +kernel, ?_⟩
  rintro _ rfl
  replace hcl := cl_I (a := 18) (k := (2 : Int32).toNatClampNeg) (v := (3 : Int32)) hcl
  refine ⟨4, by decide +kernel, by unfold vp_in; decide +kernel, ?_⟩
  rintro _ rfl
  replace hcl := cl_I (a := 18) (k := (3 : Int32).toNatClampNeg) (v := (3 : Int32)) hcl
  rintro _ rfl
  replace hcl := cl_R (a := 11) (k := 6) hcl (show 18 < (S0.take 19).length by decide +kernel)
  refine ⟨hcl, by decide +kernel, ?_⟩
  intro s1 es1 m1 em1 b1 eb1
  rw [show (S0.take 19).length = 19 by decide +kernel] at em1 eb1
  subst em1
  subst eb1
  obtain rfl : s1 = S0.take 20 := es1.trans (by decide +kernel)
  replace hcl := cl_zr (S1 := S0.take 20) hcl (show (S0.take 19).length = 19 by decide +kernel) (by decide +kernel)
  rintro _ rfl
  replace hcl := cl_R (a := 11) (k := 7) hcl (show 19 < (S0.take 20).length by decide +kernel)
  refine ⟨hcl, by decide +kernel, ?_⟩
  intro s1 es1 m1 em1 b1 eb1
  rw [show (S0.take 20).length = 20 by decide +kernel] at em1 eb1
  subst em1
  subst eb1
  obtain rfl : s1 = S0.take 21 := es1.trans (by decide +kernel)
  replace hcl := cl_zr (S1 := S0.take 21) hcl (show (S0.take 20).length = 20 by decide +kernel) (by decide +kernel)
  (try unfold f_X5_init)
  refine ⟨hcl, by decide +kernel, ?_⟩
  intro s1 es1 m1 em1 b1 eb1
  rw [show (S0.take 21).length = 21 by decide +kernel] at em1 eb1
  subst em1
  subst eb1
  obtain rfl : s1 = S0.take 22 := es1.trans (by decide +kernel)
  replace hcl := cl_zr (S1 := S0.take 22) hcl (show (S0.take 21).length = 21 by decide +kernel) (by decide +kernel)
  rintro _ rfl
  replace hcl := cl_R (a := 20) (k := 0) hcl (show 21 < (S0.take 22).length by decide +kernel)
  refine ⟨hcl, by decide +kernel, ?_⟩
  intro s1 es1 m1 em1 b1 eb1
  rw [show (S0.take 22).length = 22 by decide +kernel] at em1 eb1
  subst em1
  subst eb1
  obtain rfl : s1 = S0.take 23 := es1.trans (by decide +kernel)
  replace hcl := cl_zr (S1 := S0.take 23) hcl (show (S0.take 22).length = 22 by decide +kernel) (by decide +kernel)
  rintro _ rfl
  replace hcl := cl_R (a := 20) (k := 1) hcl (show 22 < (S0.take 23).length by decide +kernel)
  refine ⟨hcl, by decide +kernel, ?_⟩
  intro s1 es1 m1 em1 b1 eb1
  rw [show (S0.take 23).length = 23 by decide +kernel] at em1 eb1
  subst em1
  subst eb1
  obtain rfl : s1 = S0.take 24 := es1.trans (by decide +kernel)
  replace hcl := cl_zr (S1 := S0.take 24) hcl (show (S0.take 23).length = 23 by decide +kernel) (by decide +kernel)
  rintro _ rfl
  replace hcl := cl_R (a := 20) (k := 2) hcl (show 23 < (S0.take 24).length by decide +kernel)
  refine ⟨hcl, by decide +kernel, ?_⟩
  intro s1 es1 m1 em1 b1 eb1
  rw [show (S0.take 24).length = 24 by decide +kernel] at em1 eb1
  subst em1
  subst eb1
  obtain rfl : s1 = S0.take 25 := es1.trans (by decide +kernel)
  replace hcl := cl_zr (S1 := S0.take 25) hcl (show (S0.take 24).length = 24 by decide +kernel) (by decide +kernel)
  rintro _ rfl
  replace hcl := cl_R (a := 20) (k := 3) hcl (show 24 < (S0.take 25).length by decide +kernel)
  refine ⟨hcl, by decide +kernel, ?_⟩
  intro s1 es1 m1 em1 b1 eb1
  rw [show (S0.take 25).length = 25 by decide +kernel] at em1 eb1
  subst em1
  subst eb1
  obtain rfl : s1 = S0.take 26 := es1.trans (by decide +kernel)
  replace hcl := cl_zr (S1 := S0.take 26) hcl (show (S0.take 25).length = 25 by decide +kernel) (by decide +kernel)
  rintro _ rfl
  replace hcl := cl_R (a := 20) (k := 4) hcl (show 25 < (S0.take 26).length by decide +kernel)
  rintro _ rfl
  replace hcl := cl_I (a := 20) (k := 5) (v := (0 : Int32)) hcl
  rintro _ rfl
  replace hcl := cl_I (a := 20) (k := 6) (v := (0 : Int32)) hcl
  rintro _ rfl
  replace hcl := cl_I (a := 20) (k := 7) (v := (0 : Int32)) hcl
  intro _
  rintro _ rfl
  replace hcl := cl_R (a := 11) (k := 8) hcl (show 20 < (S0.take 26).length by decide +kernel)
  refine ⟨hcl, by decide +kernel, ?_⟩
  intro s1 es1 m1 em1 b1 eb1
  rw [show (S0.take 26).length = 26 by decide +kernel] at em1 eb1
  subst em1
  subst eb1
  obtain rfl : s1 = S0.take 27 := es1.trans (by decide +kernel)
  replace hcl := cl_zr (S1 := S0.take 27) hcl (show (S0.take 26).length = 26 by decide +kernel) (by decide +kernel)
  (try unfold f_X5_init)
  refine ⟨hcl, by decide +kernel, ?_⟩
  intro s1 es1 m1 em1 b1 eb1
  rw [show (S0.take 27).length = 27 by decide +kernel] at em1 eb1
  subst em1
  subst eb1
  obtain rfl : s1 = S0.take 28 := es1.trans (by decide +kernel)
  replace hcl := cl_zr (S1 := S0.take 28) hcl (show (S0.take 27).length = 27 by decide +kernel) (by decide +kernel)
  rintro _ rfl
  replace hcl := cl_R (a := 26) (k := 0) hcl (show 27 < (S0.take 28).length by decide +kernel)
  refine ⟨hcl, by decide +kernel, ?_⟩
  intro s1 es1 m1 em1 b1 eb1
  rw [show (S0.take 28).length = 28 by decide +kernel] at em1 eb1
  subst em1
  subst eb1
  obtain rfl : s1 = S0.take 29 := es1.trans (by decide +kernel)
  replace hcl := cl_zr (S1 := S0.take 29) hcl (show (S0.take 28).length = 28 by decide +kernel) (by decide +kernel)
  rintro _ rfl
  replace hcl := cl_R (a := 26) (k := 1) hcl (show 28 < (S0.take 29).length by decide +kernel)
  refine ⟨hcl, by decide +kernel, ?_⟩
  intro s1 es1 m1 em1 b1 eb1
  rw [show (S0.take 29).length = 29 by decide +kernel] at em1 eb1
  subst em1
  subst eb1
  obtain rfl : s1 = S0.take 30 := es1.trans (by decide +kernel)
  replace hcl := cl_zr (S1 := S0.take 30) hcl (show (S0.take 29).length = 29 by decide +kernel) (by decide +kernel)
  rintro _ rfl
  replace hcl := cl_R (a := 26) (k := 2) hcl (show 29 < (S0.take 30).length by decide +kernel)
  refine ⟨hcl, by decide +kernel, ?_⟩
  intro s1 es1 m1 em1 b1 eb1
  rw [show (S0.take 30).length = 30 by decide +kernel] at em1 eb1
  subst em1
  subst eb1
  obtain rfl : s1 = S0.take 31 := es1.trans (by decide +kernel)
  replace hcl := cl_zr (S1 := S0.take 31) hcl (show (S0.take 30).length = 30 by decide +kernel) (by decide +kernel)
  rintro _ rfl
  replace hcl := cl_R (a := 26) (k := 3) hcl (show 30 < (S0.take 31).length by decide +kernel)
  refine ⟨hcl, by decide +kernel, ?_⟩
  intro s1 es1 m1 em1 b1 eb1
  rw [show (S0.take 31).length = 31 by decide +kernel] at em1 eb1
  subst em1
  subst eb1
  obtain rfl : s1 = S0.take 32 := es1.trans (by decide +kernel)
  replace hcl := cl_zr (S1 := S0.take 32) hcl (show (S0.take 31).length = 31 by decide +kernel) (by decide +kernel)
  rintro _ rfl
  replace hcl := cl_R (a := 26) (k := 4) hcl (show 31 < (S0.take 32).length by decide +kernel)
  rintro _ rfl
  replace hcl := cl_I (a := 26) (k := 5) (v := (0 : Int32)) hcl
  rintro _ rfl
  replace hcl := cl_I (a := 26) (k := 6) (v := (0 : Int32)) hcl
  rintro _ rfl
  replace hcl := cl_I (a := 26) (k := 7) (v := (0 : Int32)) hcl
  intro _
  rintro _ rfl
  replace hcl := cl_R (a := 11) (k := 9) hcl (show 26 < (S0.take 32).length by decide +kernel)
  rintro _ rfl
  replace hcl := cl_I (a := 11) (k := 10) (v := (0 : Int32)) hcl
  rintro _ rfl
  replace hcl := cl_I (a := 11) (k := 11) (v := (0 : Int32)) hcl
  rintro _ rfl
  replace hcl := cl_I (a := 11) (k := 12) (v := (0 : Int32)) hcl
  rintro _ rfl
  replace hcl := cl_I (a := 11) (k := 13) (v := (2 : Int32)) hcl
  rintro _ rfl
  replace hcl := cl_I (a := 11) (k := 14) (v := (0 : Int32)) hcl
  refine ⟨12, by decide +kernel, ?_⟩
  refine ⟨4, by decide +kernel, ?_⟩
  refine ⟨hcl, by decide +kernel, ?_⟩
  intro s1 es1 m1 em1 b1 eb1
  rw [show (S0.take 32).length = 32 by decide +kernel] at em1 eb1
  subst em1
  subst eb1
  obtain rfl : s1 = S0.take 33 := es1.trans (by decide +kernel)
  replace hcl := cl_zr (S1 := S0.take 33) hcl (show (S0.take 32).length = 32 by decide +kernel) (by decide +kernel)
  (try unfold f_X5_init)
  refine ⟨hcl, by decide +kernel, ?_⟩
  intro s1 es1 m1 em1 b1 eb1
  rw [show (S0.take 33).length = 33 by decide +kernel] at em1 eb1
  subst em1
  subst eb1
  obtain rfl : s1 = S0.take 34 := es1.trans (by decide +kernel)
  replace hcl := cl_zr (S1 := S0.take 34) hcl (show (S0.take 33).length = 33 by decide +kernel) (by decide +kernel)
  rintro _ rfl
  replace hcl := cl_R (a := 32) (k := 0) hcl (show 33 < (S0.take 34).length by decide +kernel)
  refine ⟨hcl, by decide +kernel, ?_⟩
  intro s1 es1 m1 em1 b1 eb1
  rw [show (S0.take 34).length = 34 by decide +kernel] at em1 eb1
  subst em1
  subst eb1
  obtain rfl : s1 = S0.take 35 := es1.trans (by decide +kernel)
  replace hcl := cl_zr (S1 := S0.take 35) hcl (show (S0.take 34).length = 34 by decide +kernel) (by decide +kernel)
  rintro _ rfl
  replace hcl := cl_R (a := 32) (k := 1) hcl (show 34 < (S0.take 35).length by decide +kernel)
  refine ⟨hcl, by decide +kernel, ?_⟩
  intro s1 es1 m1 em1 b1 eb1
  rw [show (S0.take 35).length = 35 by decide +kernel] at em1 eb1
  subst em1
  subst eb1
  obtain rfl : s1 = S0.take 36 := es1.trans (by decide +kernel)
  replace hcl := cl_zr (S1 := S0.take 36) hcl (show (S0.take 35).length = 35 by decide +kernel) (by decide +kernel)
  rintro _ rfl
  replace hcl := cl_R (a := 32) (k := 2) hcl (show 35 < (S0.take 36).length by decide +kernel)
  refine ⟨hcl, by decide +kernel, ?_⟩
  intro s1 es1 m1 em1 b1 eb1
  rw [show (S0.take 36).length = 36 by decide +kernel] at em1 eb1
  subst em1
  subst eb1
  obtain rfl : s1 = S0.take 37 := es1.trans (by decide +kernel)
  replace hcl := cl_zr (S1 := S0.take 37) hcl (show (S0.take 36).length = 36 by decide +kernel) (by decide +kernel)
  rintro _ rfl
  replace hcl := cl_R (a := 32) (k := 3) hcl (show 36 < (S0.take 37).length by decide +kernel)
  refine ⟨hcl, by decide +kernel, ?_⟩
  intro s1 es1 m1 em1 b1 eb1
  rw [show (S0.take 37).length = 37 by decide +kernel] at em1 eb1
  subst em1
  subst eb1
  obtain rfl : s1 = S0.take 38 := es1.trans (by decide +kernel)
  replace hcl := cl_zr (S1 := S0.take 38) hcl (show (S0.take 37).length = 37 by decide +kernel) (by decide +kernel)
  rintro _ rfl
  replace hcl := cl_R (a := 32) (k := 4) hcl (show 37 < (S0.take 38).length by decide +kernel)
  rintro _ rfl
  replace hcl := cl_I (a := 32) (k := 5) (v := (0 : Int32)) hcl
  rintro _ rfl
  replace hcl := cl_I (a := 32) (k := 6) (v := (0 : Int32)) hcl
  rintro _ rfl
  replace hcl := cl_I (a := 32) (k := 7) (v := (0 : Int32)) hcl
  intro _
  refine ⟨4, by decide +kernel, by unfold vp_in; decide +kernel, ?_⟩
  rintro _ rfl
  replace hcl := cl_R (a := 12) (k := (0 : Int32).toNatClampNeg) hcl (show 32 < (S0.take 38).length by decide +kernel)
  refine ⟨12, by decide +kernel, ?_⟩
  refine ⟨4, by decide +kernel, ?_⟩
  refine ⟨hcl, by decide +kernel, ?_⟩
  intro s1 es1 m1 em1 b1 eb1
  rw [show (S0.take 38).length = 38 by decide +kernel] at em1 eb1
  subst em1
  subst eb1
  obtain rfl : s1 = S0.take 39 := es1.trans (by decide +kernel)
  replace hcl := cl_zr (S1 := S0.take 39) hcl (show (S0.take 38).length = 38 by decide +kernel) (by decide +kernel)
  (try unfold f_X5_init)
  refine ⟨hcl, by decide +kernel, ?_⟩
  intro s1 es1 m1 em1 b1 eb1
  rw [show (S0.take 39).length = 39 by decide +kernel] at em1 eb1
  subst em1
  subst eb1
  obtain rfl : s1 = S0.take 40 := es1.trans (by decide +kernel)
  replace hcl := cl_zr (S1 := S0.take 40) hcl (show (S0.take 39).length = 39 by decide +kernel) (by decide +kernel)
  rintro _ rfl
  replace hcl := cl_R (a := 38) (k := 0) hcl (show 39 < (S0.take 40).length by decide +kernel)
  refine ⟨hcl, by decide +kernel, ?_⟩
  intro s1 es1 m1 em1 b1 eb1
  rw [show (S0.take 40).length = 40 by decide +kernel] at em1 eb1
  subst em1
  subst eb1
  obtain rfl : s1 = S0.take 41 := es1.trans (by decide +kernel)
  replace hcl := cl_zr (S1 := S0.take 41) hcl (show (S0.take 40).length = 40 by decide +kernel) (by decide +kernel)
  rintro _ rfl
  replace hcl := cl_R (a := 38) (k := 1) hcl (show 40 < (S0.take 41).length by decide +kernel)
  refine ⟨hcl, by decide +kernel, ?_⟩
  intro s1 es1 m1 em1 b1 eb1
  rw [show (S0.take 41).length = 41 by decide +kernel] at em1 eb1
  subst em1
  subst eb1
  obtain rfl : s1 = S0.take 42 := es1.trans (by decide +kernel)
  replace hcl := cl_zr (S1 := S0.take 42) hcl (show (S0.take 41).length = 41 by decide +kernel) (by decide +kernel)
  rintro _ rfl
  replace hcl := cl_R (a := 38) (k := 2) hcl (show 41 < (S0.take 42).length by decide +kernel)
  refine ⟨hcl, by decide +kernel, ?_⟩
  intro s1 es1 m1 em1 b1 eb1
  rw [show (S0.take 42).length = 42 by decide +kernel] at em1 eb1
  subst em1
  subst eb1
  obtain rfl : s1 = S0.take 43 := es1.trans (by decide +kernel)
  replace hcl := cl_zr (S1 := S0.take 43) hcl (show (S0.take 42).length = 42 by decide +kernel) (by decide +kernel)
  rintro _ rfl
  replace hcl := cl_R (a := 38) (k := 3) hcl (show 42 < (S0.take 43).length by decide +kernel)
  refine ⟨hcl, by decide +kernel, ?_⟩
  intro s1 es1 m1 em1 b1 eb1
  rw [show (S0.take 43).length = 43 by decide +kernel] at em1 eb1
  subst em1
  subst eb1
  obtain rfl : s1 = S0.take 44 := es1.trans (by decide +kernel)
  replace hcl := cl_zr (S1 := S0.take 44) hcl (show (S0.take 43).length = 43 by decide +kernel) (by decide +kernel)
  rintro _ rfl
  replace hcl := cl_R (a := 38) (k := 4) hcl (show 43 < (S0.take 44).length by decide +kernel)
  rintro _ rfl
  replace hcl := cl_I (a := 38) (k := 5) (v := (0 : Int32)) hcl
  rintro _ rfl
  replace hcl := cl_I (a := 38) (k := 6) (v := (0 : Int32)) hcl
  rintro _ rfl
  replace hcl := cl_I (a := 38) (k := 7) (v := (0 : Int32)) hcl
  intro _
  refine ⟨4, by decide +kernel, by unfold vp_in; decide +kernel, ?_⟩
  rintro _ rfl
  replace hcl := cl_R (a := 12) (k := (1 : Int32).toNatClampNeg) hcl (show 38 < (S0.take 44).length by decide +kernel)
  refine ⟨12, by decide +kernel, ?_⟩
  refine ⟨4, by decide +kernel, ?_⟩
  refine ⟨hcl, by decide +kernel, ?_⟩
  intro s1 es1 m1 em1 b1 eb1
  rw [show (S0.take 44).length = 44 by decide +kernel] at em1 eb1
  subst em1
  subst eb1
  obtain rfl : s1 = S0.take 45 := es1.trans (by decide +kernel)
  replace hcl := cl_zr (S1 := S0.take 45) hcl (show (S0.take 44).length = 44 by decide +kernel) (by decide +kernel)
  (try unfold f_X5_init)
  refine ⟨hcl, by decide +kernel, ?_⟩
  intro s1 es1 m1 em1 b1 eb1
  rw [show (S0.take 45).length = 45 by decide +kernel] at em1 eb1
  subst em1
  subst eb1
  obtain rfl : s1 = S0.take 46 := es1.trans (by decide +kernel)
  replace hcl := cl_zr (S1 := S0.take 46) hcl (show (S0.take 45).length = 45 by decide +kernel) (by decide +kernel)
  rintro _ rfl
  replace hcl := cl_R (a := 44) (k := 0) hcl (show 45 < (S0.take 46).length by decide +kernel)
  refine ⟨hcl, by decide +kernel, ?_⟩
  intro s1 es1 m1 em1 b1 eb1
  rw [show (S0.take 46).length = 46 by decide +kernel] at em1 eb1
  subst em1
  subst eb1
  obtain rfl : s1 = S0.take 47 := es1.trans (by decide +kernel)
  replace hcl := cl_zr (S1 := S0.take 47) hcl (show (S0.take 46).length = 46 by decide +kernel) (by decide +kernel)
  rintro _ rfl
  replace hcl := cl_R (a := 44) (k := 1) hcl (show 46 < (S0.take 47).length by decide +kernel)
  refine ⟨hcl, by decide +kernel, ?_⟩
  intro s1 es1 m1 em1 b1 eb1
  rw [show (S0.take 47).length = 47 by decide +kernel] at em1 eb1
  subst em1
  subst eb1
  obtain rfl : s1 = S0.take 48 := es1.trans (by decide +kernel)
  replace hcl := cl_zr (S1 := S0.take 48) hcl (show (S0.take 47).length = 47 by decide +kernel) (by decide +kernel)
  rintro _ rfl
  replace hcl := cl_R (a := 44) (k := 2) hcl (show 47 < (S0.take 48).length by decide +kernel)
  refine ⟨hcl, by decide +kernel, ?_⟩
  intro s1 es1 m1 em1 b1 eb1
  rw [show (S0.take 48).length = 48 by decide +kernel] at em1 eb1
  subst em1
  subst eb1
  obtain rfl : s1 = S0.take 49 := es1.trans (by decide +kernel)
  replace hcl := cl_zr (S1 := S0.take 49) hcl (show (S0.take 48).length = 48 by decide +kernel) (by decide +kernel)
  rintro _ rfl
  replace hcl := cl_R (a := 44) (k := 3) hcl (show 48 < (S0.take 49).length by decide +kernel)
  refine ⟨hcl, by decide +kernel, ?_⟩
  intro s1 es1 m1 em1 b1 eb1
  rw [show (S0.take 49).length = 49 by decide +kernel] at em1 eb1
  subst em1
  subst eb1
  obtain rfl : s1 = S0.take 50 := es1.trans (by decide +kernel)
  replace hcl := cl_zr (S1 := S0.take 50) hcl (show (S0.take 49).length = 49 by decide +kernel) (by decide +kernel)
  rintro _ rfl
  replace hcl := cl_R (a := 44) (k := 4) hcl (show 49 < (S0.take 50).length by decide +kernel)
  rintro _ rfl
  replace hcl := cl_I (a := 44) (k := 5) (v := (0 : Int32)) hcl
  rintro _ rfl
  replace hcl := cl_I (a := 44) (k := 6) (v := (0 : Int32)) hcl
  rintro _ rfl
  replace hcl := cl_I (a := 44) (k := 7) (v := (0 : Int32)) hcl
  intro _
  refine ⟨4, by decide +kernel, by unfold vp_in; decide +kernel, ?_⟩
  rintro _ rfl
  replace hcl := cl_R (a := 12) (k := (2 : Int32).toNatClampNeg) hcl (show 44 < (S0.take 50).length by decide +kernel)
  refine ⟨12, by decide +kernel, ?_⟩
  refine ⟨4, by decide +kernel, ?_⟩
  refine ⟨hcl, by decide +kernel, ?_⟩
  intro s1 es1 m1 em1 b1 eb1
  rw [show (S0.take 50).length = 50 by decide +kernel] at em1 eb1
  subst em1
  subst eb1
  obtain rfl : s1 = S0.take 51 := es1.trans (by decide +kernel)
  replace hcl := cl_zr (S1 := S0.take 51) hcl (show (S0.take 50).length = 50 by decide +kernel) (by decide +kernel)
  (try unfold f_X5_init)
  refine ⟨hcl, by decide +kernel, ?_⟩
  intro s1 es1 m1 em1 b1 eb1
  rw [show (S0.take 51).length = 51 by decide +kernel] at em1 eb1
  subst em1
  subst eb1
  obtain rfl : s1 = S0.take 52 := es1.trans (by decide +kernel)
  replace hcl := cl_zr (S1 := S0.take 52) hcl (show (S0.take 51).length = 51 by decide +kernel) (by decide +kernel)
  rintro _ rfl
  replace hcl := cl_R (a := 50) (k := 0) hcl (show 51 < (S0.take 52).length by decide +kernel)
  refine ⟨hcl, by decide +kernel, ?_⟩
  intro s1 es1 m1 em1 b1 eb1
  rw [show (S0.take 52).length = 52 by decide +kernel] at em1 eb1
  subst em1
  subst eb1
  obtain rfl : s1 = S0.take 53 := es1.trans (by decide +kernel)
  replace hcl := cl_zr (S1 := S0.take 53) hcl (show (S0.take 52).length = 52 by decide +kernel) (by decide +kernel)
  rintro _ rfl
  replace hcl := cl_R (a := 50) (k := 1) hcl (show 52 < (S0.take 53).length by decide +kernel)
  refine ⟨hcl, by decide +kernel, ?_⟩
  intro s1 es1 m1 em1 b1 eb1
  rw [show (S0.take 53).length = 53 by decide +kernel] at em1 eb1
  subst em1
  subst eb1
  obtain rfl : s1 = S0.take 54 := es1.trans (by decide +kernel)
  replace hcl := cl_zr (S1 := S0.take 54) hcl (show (S0.take 53).length = 53 by decide +kernel) (by decide +kernel)
  rintro _ rfl
  replace hcl := cl_R (a := 50) (k := 2) hcl (show 53 < (S0.take 54).length by decide +kernel)
  refine ⟨hcl, by decide +kernel, ?_⟩
  intro s1 es1 m1 em1 b1 eb1
  rw [show (S0.take 54).length = 54 by decide +kernel] at em1 eb1
  subst em1
  subst eb1
  obtain rfl : s1 = S0.take 55 := es1.trans (by decide +kernel)
  replace hcl := cl_zr (S1 := S0.take 55) hcl (show (S0.take 54).length = 54 by decide +kernel) (by decide +kernel)
  rintro _ rfl
  replace hcl := cl_R (a := 50) (k := 3) hcl (show 54 < (S0.take 55).length by decide +kernel)
  refine ⟨hcl, by decide +kernel, ?_⟩
  intro s1 es1 m1 em1 b1 eb1
  rw [show (S0.take 55).length = 55 by decide +kernel] at em1 eb1
  subst em1
  subst eb1
  obtain rfl : s1 = S0.take 56 := es1.trans (by decide +kernel)
  replace hcl := cl_zr (S1 := S0.take 56) hcl (show (S0.take 55).length = 55 by decide +kernel) (by decide +kernel)
  rintro _ rfl
  replace hcl := cl_R (a := 50) (k := 4) hcl (show 55 < (S0.take 56).length by decide +kernel)
  rintro _ rfl
  replace hcl := cl_I (a := 50) (k := 5) (v := (0 : Int32)) hcl
  rintro _ rfl
  replace hcl := cl_I (a := 50) (k := 6) (v := (0 : Int32)) hcl
  rintro _ rfl
  replace hcl := cl_I (a := 50) (k := 7) (v := (0 : Int32)) hcl
  intro _
  refine ⟨4, by decide +kernel, by unfold vp_in; decide +kernel, ?_⟩
  rintro _ rfl
  replace hcl := cl_R (a := 12) (k := (3 : Int32).toNatClampNeg) hcl (show 50 < (S0.take 56).length by decide +kernel)
  refine ⟨13, by decide +kernel, ?_⟩
  refine ⟨3, by decide +kernel, ?_⟩
  refine ⟨hcl, by decide +kernel, ?_⟩
  intro s1 es1 m1 em1 b1 eb1
  rw [show (S0.take 56).length = 56 by decide +kernel] at em1 eb1
  subst em1
  subst eb1
  obtain rfl : s1 = S0.take 57 := es1.trans (by decide +kernel)
  replace hcl := cl_zr (S1 := S0.take 57) hcl (show (S0.take 56).length = 56 by decide +kernel) (by decide +kernel)
  (try unfold f_X5_init)
  refine ⟨hcl, by decide +kernel, ?_⟩
  intro s1 es1 m1 em1 b1 eb1
  rw [show (S0.take 57).length = 57 by decide +kernel] at em1 eb1
  subst em1
  subst eb1
  obtain rfl : s1 = S0.take 58 := es1.trans (by decide +kernel)
  replace hcl := cl_zr (S1 := S0.take 58) hcl (show (S0.take 57).length = 57 by decide +kernel) (by decide +kernel)
  rintro _ rfl
  replace hcl := cl_R (a := 56) (k := 0) hcl (show 57 < (S0.take 58).length by decide +kernel)
  refine ⟨hcl, by decide +kernel, ?_⟩
  intro s1 es1 m1 em1 b1 eb1
  rw [show (S0.take 58).length = 58 by decide +kernel] at em1 eb1
  subst em1
  subst eb1
  obtain rfl : s1 = S0.take 59 := es1.trans (by decide +kernel)
  replace hcl := cl_zr (S1 := S0.take 59) hcl (show (S0.take 58).length = 58 by decide +kernel) (by decide +kernel)
  rintro _ rfl
  replace hcl := cl_R (a := 56) (k := 1) hcl (show 58 < (S0.take 59).length by decide +kernel)
  refine ⟨hcl, by decide +kernel, ?_⟩
  intro s1 es1 m1 em1 b1 eb1
  rw [show (S0.take 59).length = 59 by decide +kernel] at em1 eb1
  subst em1
  subst eb1
  obtain rfl : s1 = S0.take 60 := es1.trans (by decide +kernel)
  replace hcl := cl_zr (S1 := S0.take 60) hcl (show (S0.take 59).length = 59 by decide +kernel) (by decide +kernel)
  rintro _ rfl
  replace hcl := cl_R (a := 56) (k := 2) hcl (show 59 < (S0.take 60).length by decide +kernel)
  refine ⟨hcl, by decide +kernel, ?_⟩
  intro s1 es1 m1 em1 b1 eb1
  rw [show (S0.take 60).length = 60 by decide +kernel] at em1 eb1
  subst em1
  subst eb1
  obtain rfl : s1 = S0.take 61 := es1.trans (by decide +kernel)
  replace hcl := cl_zr (S1 := S0.take 61) hcl (show (S0.take 60).length = 60 by decide +kernel) (by decide +kernel)
  rintro _ rfl
  replace hcl := cl_R (a := 56) (k := 3) hcl (show 60 < (S0.take 61).length by decide +kernel)
  refine ⟨hcl, by decide +kernel, ?_⟩
  intro s1 es1 m1 em1 b1 eb1
  rw [show (S0.take 61).length = 61 by decide +kernel] at em1 eb1
  subst em1
  subst eb1
  obtain rfl : s1 = S0.take 62 := es1.trans (by decide +kernel)
  replace hcl := cl_zr (S1 := S0.take 62) hcl (show (S0.take 61).length = 61 by decide +kernel) (by decide +kernel)
  rintro _ rfl
  replace hcl := cl_R (a := 56) (k := 4) hcl (show 61 < (S0.take 62).length by decide +kernel)
  rintro _ rfl
  replace hcl := cl_I (a := 56) (k := 5) (v := (0 : Int32)) hcl
  rintro _ rfl
  replace hcl := cl_I (a := 56) (k := 6) (v := (0 : Int32)) hcl
  rintro _ rfl
  replace hcl := cl_I (a := 56) (k := 7) (v := (0 : Int32)) hcl
  intro _
  refine ⟨3, by decide +kernel, by unfold vp_in; decide +kernel, ?_⟩
  rintro _ rfl
  replace hcl := cl_R (a := 13) (k := (0 : Int32).toNatClampNeg) hcl (show 56 < (S0.take 62).length by decide +kernel)
  refine ⟨13, by decide +kernel, ?_⟩
  refine ⟨3, by decide +kernel, ?_⟩
  refine ⟨hcl, by decide +kernel, ?_⟩
  intro s1 es1 m1 em1 b1 eb1
  rw [show (S0.take 62).length = 62 by decide +kernel] at em1 eb1
  subst em1
  subst eb1
  obtain rfl : s1 = S0.take 63 := es1.trans (by decide +kernel)
  replace hcl := cl_zr (S1 := S0.take 63) hcl (show (S0.take 62).length = 62 by decide +kernel) (by decide +kernel)
  (try unfold f_X5_init)
  refine ⟨hcl, by decide +kernel, ?_⟩
  intro s1 es1 m1 em1 b1 eb1
  rw [show (S0.take 63).length = 63 by decide +kernel] at em1 eb1
  subst em1
  subst eb1
  obtain rfl : s1 = S0.take 64 := es1.trans (by decide +kernel)
  replace hcl := cl_zr (S1 := S0.take 64) hcl (show (S0.take 63).length = 63 by decide +kernel) (by decide +kernel)
  rintro _ rfl
  replace hcl := cl_R (a := 62) (k := 0) hcl (show 63 < (S0.take 64).length by decide +kernel)
  refine ⟨hcl, by decide +kernel, ?_⟩
  intro s1 es1 m1 em1 b1 eb1
  rw [show (S0.take 64).length = 64 by decide +kernel] at em1 eb1
  subst em1
  subst eb1
  obtain rfl : s1 = S0.take 65 := es1.trans (by decide +kernel)
  replace hcl := cl_zr (S1 := S0.take 65) hcl (show (S0.take 64).length = 64 by decide +kernel) (by decide +kernel)
  rintro _ rfl
  replace hcl := cl_R (a := 62) (k := 1) hcl (show 64 < (S0.take 65).length by decide +kernel)
  refine ⟨hcl, by decide +kernel, ?_⟩
  intro s1 es1 m1 em1 b1 eb1
  rw [show (S0.take 65).length = 65 by decide +kernel] at em1 eb1
  subst em1
  subst eb1
  obtain rfl : s1 = S0.take 66 := es1.trans (by decide +kernel)
  replace hcl := cl_zr (S1 := S0.take 66) hcl (show (S0.take 65).length = 65 by decide +kernel) (by decide +kernel)
  rintro _ rfl
  replace hcl := cl_R (a := 62) (k := 2) hcl (show 65 < (S0.take 66).length by decide +kernel)
  refine ⟨hcl, by decide +kernel, ?_⟩
  intro s1 es1 m1 em1 b1 eb1
  rw [show (S0.take 66).length = 66 by decide +kernel] at em1 eb1
  subst em1
  subst eb1
  obtain rfl : s1 = S0.take 67 := es1.trans (by decide +kernel)
  replace hcl := cl_zr (S1 := S0.take 67) hcl (show (S0.take 66).length = 66 by decide +kernel) (by decide +kernel)
  rintro _ rfl
  replace hcl := cl_R (a := 62) (k := 3) hcl (show 66 < (S0.take 67).length by decide +kernel)
  refine ⟨hcl, by decide +kernel, ?_⟩
  intro s1 es1 m1 em1 b1 eb1
  rw [show (S0.take 67).length = 67 by decide +kernel] at em1 eb1
  subst em1
  subst eb1
  obtain rfl : s1 = S0.take 68 := es1.trans (by decide +kernel)
  replace hcl := cl_zr (S1 := S0.take 68) hcl (show (S0.take 67).length = 67 by decide +kernel) (by decide +kernel)
  rintro _ rfl
  replace hcl := cl_R (a := 62) (k := 4) hcl (show 67 < (S0.take 68).length by decide +kernel)
  rintro _ rfl
  replace hcl := cl_I (a := 62) (k := 5) (v := (0 : Int32)) hcl
  rintro _ rfl
  replace hcl := cl_I (a := 62) (k := 6) (v := (0 : Int32)) hcl
  rintro _ rfl
  replace hcl := cl_I (a := 62) (k := 7) (v := (0 : Int32)) hcl
  intro _
  refine ⟨3, by decide +kernel, by unfold vp_in; decide +kernel, ?_⟩
  rintro _ rfl
  replace hcl := cl_R (a := 13) (k := (1 : Int32).toNatClampNeg) hcl (show 62 < (S0.take 68).length by decide +kernel)
  refine ⟨13, by decide +kernel, ?_⟩
  refine ⟨3, by decide +kernel, ?_⟩
  refine ⟨hcl, by decide +kernel, ?_⟩
  intro s1 es1 m1 em1 b1 eb1
  rw [show (S0.take 68).length = 68 by decide +kernel] at em1 eb1
  subst em1
  subst eb1
  obtain rfl : s1 = S0.take 69 := es1.trans (by decide +kernel)
  replace hcl := cl_zr (S1 := S0.take 69) hcl (show (S0.take 68).length = 68 by decide +kernel) (by decide +kernel)
  (try unfold f_X5_init)
  refine ⟨hcl, by decide +kernel, ?_⟩
  intro s1 es1 m1 em1 b1 eb1
  rw [show (S0.take 69).length = 69 by decide +kernel] at em1 eb1
  subst em1
  subst eb1
  obtain rfl : s1 = S0.take 70 := es1.trans (by decide +kernel)
  replace hcl := cl_zr (S1 := S0.take 70) hcl (show (S0.take 69).length = 69 by decide +kernel) (by decide +kernel)
  rintro _ rfl
  replace hcl := cl_R (a := 68) (k := 0) hcl (show 69 < (S0.take 70).length by decide +kernel)
  refine ⟨hcl, by decide +kernel, ?_⟩
  intro s1 es1 m1 em1 b1 eb1
  rw [show (S0.take 70).length = 70 by decide +kernel] at em1 eb1
  subst em1
  subst eb1
  obtain rfl : s1 = S0.take 71 := es1.trans (by decide +kernel)
  replace hcl := cl_zr (S1 := S0.take 71) hcl (show (S0.take 70).length = 70 by decide +kernel) (by decide +kernel)
  rintro _ rfl
  replace hcl := cl_R (a := 68) (k := 1) hcl (show 70 < (S0.take 71).length by decide +kernel)
  refine ⟨hcl, by decide +kernel, ?_⟩
  intro s1 es1 m1 em1 b1 eb1
  rw [show (S0.take 71).length = 71 by decide +kernel] at em1 eb1
  subst em1
  subst eb1
  obtain rfl : s1 = S0.take 72 := es1.trans (by decide +kernel)
  replace hcl := cl_zr (S1 := S0.take 72) hcl (show (S0.take 71).length = 71 by decide +kernel) (by decide +kernel)
  rintro _ rfl
  replace hcl := cl_R (a := 68) (k := 2) hcl (show 71 < (S0.take 72).length by decide +kernel)
  refine ⟨hcl, by decide +kernel, ?_⟩
  intro s1 es1 m1 em1 b1 eb1
  rw [show (S0.take 72).length = 72 by decide +kernel] at em1 eb1
  subst em1
  subst eb1
  obtain rfl : s1 = S0.take 73 := es1.trans (by decide +kernel)
  replace hcl := cl_zr (S1 := S0.take 73) hcl (show (S0.take 72).length = 72 by decide +kernel) (by decide +kernel)
  rintro _ rfl
  replace hcl := cl_R (a := 68) (k := 3) hcl (show 72 < (S0.take 73).length by decide +kernel)
  refine ⟨hcl, by decide +kernel, ?_⟩
  intro s1 es1 m1 em1 b1 eb1
  rw [show (S0.take 73).length = 73 by decide +kernel] at em1 eb1
  subst em1
  subst eb1
  obtain rfl : s1 = S0.take 74 := es1.trans (by decide +kernel)
  replace hcl := cl_zr (S1 := S0.take 74) hcl (show (S0.take 73).length = 73 by decide +kernel) (by decide +kernel)
  rintro _ rfl
  replace hcl := cl_R (a := 68) (k := 4) hcl (show 73 < (S0.take 74).length by decide +kernel)
  rintro _ rfl
  replace hcl := cl_I (a := 68) (k := 5) (v := (0 : Int32)) hcl
  rintro _ rfl
  replace hcl := cl_I (a := 68) (k := 6) (v := (0 : Int32)) hcl
  rintro _ rfl
  replace hcl := cl_I (a := 68) (k := 7) (v := (0 : Int32)) hcl
  intro _
  refine ⟨3, by decide +kernel, by unfold vp_in; decide +kernel, ?_⟩
  rintro _ rfl
  replace hcl := cl_R (a := 13) (k := (2 : Int32).toNatClampNeg) hcl (show 68 < (S0.take 74).length by decide +kernel)
  refine ⟨14, by decide +kernel, ?_⟩
  refine ⟨5, by decide +kernel, ?_⟩
  refine ⟨hcl, by decide +kernel, ?_⟩
  intro s1 es1 m1 em1 b1 eb1
  rw [show (S0.take 74).length = 74 by decide +kernel] at em1 eb1
  subst em1
  subst eb1
  obtain rfl : s1 = S0.take 75 := es1.trans (by decide +kernel)
  replace hcl := cl_zr (S1 := S0.take 75) hcl (show (S0.take 74).length = 74 by decide +kernel) (by decide +kernel)
  (try unfold f_X5_init)
  refine ⟨hcl, by decide +kernel, ?_⟩
  intro s1 es1 m1 em1 b1 eb1
  rw [show (S0.take 75).length = 75 by decide +kernel] at em1 eb1
  subst em1
  subst eb1
  obtain rfl : s1 = S0.take 76 := es1.trans (by decide +kernel)
  replace hcl := cl_zr (S1 := S0.take 76) hcl (show (S0.take 75).length = 75 by decide +kernel) (by decide +kernel)
  rintro _ rfl
  replace hcl := cl_R (a := 74) (k := 0) hcl (show 75 < (S0.take 76).length by decide +kernel)
  refine ⟨hcl, by decide +kernel, ?_⟩
  intro s1 es1 m1 em1 b1 eb1
  rw [show (S0.take 76).length = 76 by decide +kernel] at em1 eb1
  subst em1
  subst eb1
  obtain rfl : s1 = S0.take 77 := es1.trans (by decide +kernel)
  replace hcl := cl_zr (S1 := S0.take 77) hcl (show (S0.take 76).length = 76 by decide +kernel) (by decide +kernel)
  rintro _ rfl
  replace hcl := cl_R (a := 74) (k := 1) hcl (show 76 < (S0.take 77).length by decide +kernel)
  refine ⟨hcl, by decide +kernel, ?_⟩
  intro s1 es1 m1 em1 b1 eb1
  rw [show (S0.take 77).length = 77 by decide +kernel] at em1 eb1
  subst em1
  subst eb1
  obtain rfl : s1 = S0.take 78 := es1.trans (by decide +kernel)
  replace hcl := cl_zr (S1 := S0.take 78) hcl (show (S0.take 77).length = 77 by decide +kernel) (by decide +kernel)
  rintro _ rfl
  replace hcl := cl_R (a := 74) (k := 2) hcl (show 77 < (S0.take 78).length by decide +kernel)
  refine ⟨hcl, by decide +kernel, ?_⟩
  intro s1 es1 m1 em1 b1 eb1
  rw [show (S0.take 78).length = 78 by decide +kernel] at em1 eb1
  subst em1
  subst eb1
  obtain rfl : s1 = S0.take 79 := es1.trans (by decide +kernel)
  replace hcl := cl_zr (S1 := S0.take 79) hcl (show (S0.take 78).length = 78 by decide +kernel) (by decide +kernel)
  rintro _ rfl
  replace hcl := cl_R (a := 74) (k := 3) hcl (show 78 < (S0.take 79).length by decide +kernel)
  refine ⟨hcl, by decide +kernel, ?_⟩
  intro s1 es1 m1 em1 b1 eb1
  rw [show (S0.take 79).length = 79 by decide +kernel] at em1 eb1
  subst em1
  subst eb1
  obtain rfl : s1 = S0.take 80 := es1.trans (by decide +kernel)
  replace hcl := cl_zr (S1 := S0.take 80) hcl (show (S0.take 79).length = 79 by decide +kernel) (by decide +kernel)
  rintro _ rfl
  replace hcl := cl_R (a := 74) (k := 4) hcl (show 79 < (S0.take 80).length by decide +kernel)
  rintro _ rfl
  replace hcl := cl_I (a := 74) (k := 5) (v := (0 : Int32)) hcl
  rintro _ rfl
  replace hcl := cl_I (a := 74) (k := 6) (v := (0 : Int32)) hcl
  rintro _ rfl
  replace hcl := cl_I (a := 74) (k := 7) (v := (0 : Int32)) hcl
  intro _
  refine ⟨5, by decide +kernel, by unfold vp_in; decide +kernel, ?_⟩
  rintro _ rfl
  replace hcl := cl_R (a := 14) (k := (0 : Int32).toNatClampNeg) hcl (show 74 < (S0.take 80).length by decide +kernel)
  refine ⟨14, by decide +kernel, ?_⟩
  refine ⟨5, by decide +kernel, ?_⟩
  refine ⟨hcl, by decide +kernel, ?_⟩
  intro s1 es1 m1 em1 b1 eb1
  rw [show (S0.take 80).length = 80 by decide +kernel] at em1 eb1
  subst em1
  subst eb1
  obtain rfl : s1 = S0.take 81 := es1.trans (by decide +kernel)
  replace hcl := cl_zr (S1 := S0.take 81) hcl (show (S0.take 80).length = 80 by decide +kernel) (by decide +kernel)
  (try unfold f_X5_init)
  refine ⟨hcl, by decide +kernel, ?_⟩
  intro s1 es1 m1 em1 b1 eb1
  rw [show (S0.take 81).length = 81 by decide +kernel] at em1 eb1
  subst em1
  subst eb1
  obtain rfl : s1 = S0.take 82 := es1.trans (by decide +kernel)
  replace hcl := cl_zr (S1 := S0.take 82) hcl (show (S0.take 81).length = 81 by decide +kernel) (by decide +kernel)
  rintro _ rfl
  replace hcl := cl_R (a := 80) (k := 0) hcl (show 81 < (S0.take 82).length by decide +kernel)
  refine ⟨hcl, by decide +kernel, ?_⟩
  intro s1 es1 m1 em1 b1 eb1
  rw [show (S0.take 82).length = 82 by decide +kernel] at em1 eb1
  subst em1
  subst eb1
  obtain rfl : s1 = S0.take 83 := es1.trans (by decide +kernel)
  replace hcl := cl_zr (S1 := S0.take 83) hcl (show (S0.take 82).length = 82 by decide +kernel) (by decide +kernel)
  rintro _ rfl
  replace hcl := cl_R (a := 80) (k := 1) hcl (show 82 < (S0.take 83).length by decide +kernel)
  refine ⟨hcl, by decide +kernel, ?_⟩
  intro s1 es1 m1 em1 b1 eb1
  rw [show (S0.take 83).length = 83 by decide +kernel] at em1 eb1
  subst em1
  subst eb1
  obtain rfl : s1 = S0.take 84 := es1.trans (by decide +kernel)
  replace hcl := cl_zr (S1 := S0.take 84) hcl (show (S0.take 83).length = 83 by decide +kernel) (by decide +kernel)
  rintro _ rfl
  replace hcl := cl_R (a := 80) (k := 2) hcl (show 83 < (S0.take 84).length by decide +kernel)
  refine ⟨hcl, by decide +kernel, ?_⟩
  intro s1 es1 m1 em1 b1 eb1
  rw [show (S0.take 84).length = 84 by decide +kernel] at em1 eb1
  subst em1
  subst eb1
  obtain rfl : s1 = S0.take 85 := es1.trans (by decide +kernel)
  replace hcl := cl_zr (S1 := S0.take 85) hcl (show (S0.take 84).length = 84 by decide +kernel) (by decide +kernel)
  rintro _ rfl
  replace hcl := cl_R (a := 80) (k := 3) hcl (show 84 < (S0.take 85).length by decide +kernel)
  refine ⟨hcl, by decide +kernel, ?_⟩
  intro s1 es1 m1 em1 b1 eb1
  rw [show (S0.take 85).length = 85 by decide +kernel] at em1 eb1
  subst em1
  subst eb1
  obtain rfl : s1 = S0.take 86 := es1.trans (by decide +kernel)
  replace hcl := cl_zr (S1 := S0.take 86) hcl (show (S0.take 85).length = 85 by decide +kernel) (by decide +kernel)
  rintro _ rfl
  replace hcl := cl_R (a := 80) (k := 4) hcl (show 85 < (S0.take 86).length by decide +kernel)
  rintro _ rfl
  replace hcl := cl_I (a := 80) (k := 5) (v := (0 : Int32)) hcl
  rintro _ rfl
  replace hcl := cl_I (a := 80) (k := 6) (v := (0 : Int32)) hcl
  rintro _ rfl
  replace hcl := cl_I (a := 80) (k := 7) (v := (0 : Int32)) hcl
  intro _
  refine ⟨5, by decide +kernel, by unfold vp_in; decide +kernel, ?_⟩
  rintro _ rfl
  replace hcl := cl_R (a := 14) (k := (1 : Int32).toNatClampNeg) hcl (show 80 < (S0.take 86).length by decide +kernel)
  refine ⟨14, by decide +kernel, ?_⟩
  refine ⟨5, by decide +kernel, ?_⟩
  refine ⟨hcl, by decide +kernel, ?_⟩
  intro s1 es1 m1 em1 b1 eb1
  rw [show (S0.take 86).length = 86 by decide +kernel] at em1 eb1
  subst em1
  subst eb1
  obtain rfl : s1 = S0.take 87 := es1.trans (by decide +kernel)
  replace hcl := cl_zr (S1 := S0.take 87) hcl (show (S0.take 86).length = 86 by decide +kernel) (by decide +kernel)
  (try unfold f_X5_init)
  refine ⟨hcl, by decide +kernel, ?_⟩
  intro s1 es1 m1 em1 b1 eb1
  rw [show (S0.take 87).length = 87 by decide +kernel] at em1 eb1
  subst em1
  subst eb1
  obtain rfl : s1 = S0.take 88 := es1.trans (by decide +kernel)
  replace hcl := cl_zr (S1 := S0.take 88) hcl (show (S0.take 87).length = 87 by decide +kernel) (by decide +kernel)
  rintro _ rfl
  replace hcl := cl_R (a := 86) (k := 0) hcl (show 87 < (S0.take 88).length by decide +kernel)
  refine ⟨hcl, by decide +kernel, ?_⟩
  intro s1 es1 m1 em1 b1 eb1
  rw [show (S0.take 88).length = 88 by decide +kernel] at em1 eb1
  subst em1
  subst eb1
  obtain rfl : s1 = S0.take 89 := es1.trans (by decide +kernel)
  replace hcl := cl_zr (S1 := S0.take 89) hcl (show (S0.take 88).length = 88 by decide +kernel) (by decide +kernel)
  rintro _ rfl
  replace hcl := cl_R (a := 86) (k := 1) hcl (show 88 < (S0.take 89).length by decide +kernel)
  refine ⟨hcl, by decide +kernel, ?_⟩
  intro s1 es1 m1 em1 b1 eb1
  rw [show (S0.take 89).length = 89 by decide +kernel] at em1 eb1
  subst em1
  subst eb1
  obtain rfl : s1 = S0.take 90 := es1.trans (by decide +kernel)
  replace hcl := cl_zr (S1 := S0.take 90) hcl (show (S0.take 89).length = 89 by decide +kernel) (by decide +kernel)
  rintro _ rfl
  replace hcl := cl_R (a := 86) (k := 2) hcl (show 89 < (S0.take 90).length by decide +kernel)
  refine ⟨hcl, by decide +kernel, ?_⟩
  intro s1 es1 m1 em1 b1 eb1
  rw [show (S0.take 90).length = 90 by decide +kernel] at em1 eb1
  subst em1
  subst eb1
  obtain rfl : s1 = S0.take 91 := es1.trans (by decide +kernel)
  replace hcl := cl_zr (S1 := S0.take 91) hcl (show (S0.take 90).length = 90 by decide +kernel) (by decide +kernel)
  rintro _ rfl
  replace hcl := cl_R (a := 86) (k := 3) hcl (show 90 < (S0.take 91).length by decide +kernel)
  refine ⟨hcl, by decide +kernel, ?_⟩
  intro s1 es1 m1 em1 b1 eb1
  rw [show (S0.take 91).length = 91 by decide +kernel] at em1 eb1
  subst em1
  subst eb1
  obtain rfl : s1 = S0.take 92 := es1.trans (by decide +kernel)
  replace hcl := cl_zr (S1 := S0.take 92) hcl (show (S0.take 91).length = 91 by decide +kernel) (by decide +kernel)
  rintro _ rfl
  replace hcl := cl_R (a := 86) (k := 4) hcl (show 91 < (S0.take 92).length by decide +kernel)
  rintro _ rfl
  replace hcl := cl_I (a := 86) (k := 5) (v := (0 : Int32)) hcl
  rintro _ rfl
  replace hcl := cl_I (a := 86) (k := 6) (v := (0 : Int32)) hcl
  rintro _ rfl
  replace hcl := cl_I (a := 86) (k := 7) (v := (0 : Int32)) hcl
  intro _
  refine ⟨5, by decide +kernel, by unfold vp_in; decide +kernel, ?_⟩
  rintro _ rfl
  replace hcl := cl_R (a := 14) (k := (2 : Int32).toNatClampNeg) hcl (show 86 < (S0.take 92).length by decide +kernel)
  refine ⟨14, by decide +kernel, ?_⟩
  refine ⟨5, by decide +kernel, ?_⟩
  refine ⟨hcl, by decide +kernel, ?_⟩
  intro s1 es1 m1 em1 b1 eb1
  rw [show (S0.take 92).length = 92 by decide +kernel] at em1 eb1
  subst em1
  subst eb1
  obtain rfl : s1 = S0.take 93 := es1.trans (by decide +kernel)
  replace hcl := cl_zr (S1 := S0.take 93) hcl (show (S0.take 92).length = 92 by decide +kernel) (by decide +kernel)
  (try unfold f_X5_init)
  refine ⟨hcl, by decide +kernel, ?_⟩
  intro s1 es1 m1 em1 b1 eb1
  rw [show (S0.take 93).length = 93 by decide +kernel] at em1 eb1
  subst em1
  subst eb1
  obtain rfl : s1 = S0.take 94 := es1.trans (by decide +kernel)
  replace hcl := cl_zr (S1 := S0.take 94) hcl (show (S0.take 93).length = 93 by decide +kernel) (by decide +kernel)
  rintro _ rfl
  replace hcl := cl_R (a := 92) (k := 0) hcl (show 93 < (S0.take 94).length by decide +kernel)
  refine ⟨hcl, by decide +kernel, ?_⟩
  intro s1 es1 m1 em1 b1 eb1
  rw [show (S0.take 94).length = 94 by decide +kernel] at em1 eb1
  subst em1
  subst eb1
  obtain rfl : s1 = S0.take 95 := es1.trans (by decide +kernel)
  replace hcl := cl_zr (S1 := S0.take 95) hcl (show (S0.take 94).length = 94 by decide +kernel) (by decide +kernel)
  rintro _ rfl
  replace hcl := cl_R (a := 92) (k := 1) hcl (show 94 < (S0.take 95).length by decide +kernel)
  refine ⟨hcl, by decide +kernel, ?_⟩
  intro s1 es1 m1 em1 b1 eb1
  rw [show (S0.take 95).length = 95 by decide +kernel] at em1 eb1
  subst em1
  subst eb1
  obtain rfl : s1 = S0.take 96 := es1.trans (by decide +kernel)
  replace hcl := cl_zr (S1 := S0.take 96) hcl (show (S0.take 95).length = 95 by decide +kernel) (by decide +kernel)
  rintro _ rfl
  replace hcl := cl_R (a := 92) (k := 2) hcl (show 95 < (S0.take 96).length by decide +kernel)
  refine ⟨hcl, by decide +kernel, ?_⟩
  intro s1 es1 m1 em1 b1 eb1
  rw [show (S0.take 96).length = 96 by decide +kernel] at em1 eb1
  subst em1
  subst eb1
  obtain rfl : s1 = S0.take 97 := es1.trans (by decide +kernel)
  replace hcl := cl_zr (S1 := S0.take 97) hcl (show (S0.take 96).length = 96 by decide +kernel) (by decide +kernel)
  rintro _ rfl
  replace hcl := cl_R (a := 92) (k := 3) hcl (show 96 < (S0.take 97).length by decide +kernel)
  refine ⟨hcl, by decide +kernel, ?_⟩
  intro s1 es1 m1 em1 b1 eb1
  rw [show (S0.take 97).length = 97 by decide +kernel] at em1 eb1
  subst em1
  subst eb1
  obtain rfl : s1 = S0.take 98 := es1.trans (by decide +kernel)
  replace hcl := cl_zr (S1 := S0.take 98) hcl (show (S0.take 97).length = 97 by decide +kernel) (by decide +kernel)
  rintro _ rfl
  replace hcl := cl_R (a := 92) (k := 4) hcl (show 97 < (S0.take 98).length by decide +kernel)
  rintro _ rfl
  replace hcl := cl_I (a := 92) (k := 5) (v := (0 : Int32)) hcl
  rintro _ rfl
  replace hcl := cl_I (a := 92) (k := 6) (v := (0 : Int32)) hcl
  rintro _ rfl
  replace hcl := cl_I (a := 92) (k := 7) (v := (0 : Int32)) hcl
  intro _
  refine ⟨5, by decide +kernel, by unfold vp_in; decide +kernel, ?_⟩
  rintro _ rfl
  replace hcl := cl_R (a := 14) (k := (3 : Int32).toNatClampNeg) hcl (show 92 < (S0.take 98).length by decide +kernel)
  refine ⟨14, by decide +kernel, ?_⟩
  refine ⟨5, by decide +kernel, ?_⟩
  refine ⟨hcl, by decide +kernel, ?_⟩
  intro s1 es1 m1 em1 b1 eb1
  rw [show (S0.take 98).length = 98 by decide +kernel] at em1 eb1
  subst em1
  subst eb1
  obtain rfl : s1 = S0.take 99 := es1.trans (by decide +kernel)
  replace hcl := cl_zr (S1 := S0.take 99) hcl (show (S0.take 98).length = 98 by decide +kernel) (by decide +kernel)
  (try unfold f_X5_init)
  refine ⟨hcl, by decide +kernel, ?_⟩
  intro s1 es1 m1 em1 b1 eb1
  rw [show (S0.take 99).length = 99 by decide +kernel] at em1 eb1
  subst em1
  subst eb1
  obtain rfl : s1 = S0.take 100 := es1.trans (by decide +kernel)
  replace hcl := cl_zr (S1 := S0.take 100) hcl (show (S0.take 99).length = 99 by decide +kernel) (by decide +kernel)
  rintro _ rfl
  replace hcl := cl_R (a := 98) (k := 0) hcl (show 99 < (S0.take 100).length by decide +kernel)
  refine ⟨hcl, by decide +kernel, ?_⟩
  intro s1 es1 m1 em1 b1 eb1
  rw [show (S0.take 100).length = 100 by decide +kernel] at em1 eb1
  subst em1
  subst eb1
  obtain rfl : s1 = S0.take 101 := es1.trans (by decide +kernel)
  replace hcl := cl_zr (S1 := S0.take 101) hcl (show (S0.take 100).length = 100 by decide +kernel) (by decide +kernel)
  rintro _ rfl
  replace hcl := cl_R (a := 98) (k := 1) hcl (show 100 < (S0.take 101).length by decide +kernel)
  refine ⟨hcl, by decide +kernel, ?_⟩
  intro s1 es1 m1 em1 b1 eb1
  rw [show (S0.take 101).length = 101 by decide +kernel] at em1 eb1
  subst em1
  subst eb1
  obtain rfl : s1 = S0.take 102 := es1.trans (by decide +kernel)
  replace hcl := cl_zr (S1 := S0.take 102) hcl (show (S0.take 101).length = 101 by decide +kernel) (by decide +kernel)
  rintro _ rfl
  replace hcl := cl_R (a := 98) (k := 2) hcl (show 101 < (S0.take 102).length by decide +kernel)
  refine ⟨hcl, by decide +kernel, ?_⟩
  intro s1 es1 m1 em1 b1 eb1
  rw [show (S0.take 102).length = 102 by decide +kernel] at em1 eb1
  subst em1
  subst eb1
  obtain rfl : s1 = S0.take 103 := es1.trans (by decide +kernel)
  replace hcl := cl_zr (S1 := S0.take 103) hcl (show (S0.take 102).length = 102 by decide +kernel) (by decide +kernel)
  rintro _ rfl
  replace hcl := cl_R (a := 98) (k := 3) hcl (show 102 < (S0.take 103).length by decide +kernel)
  refine ⟨hcl, by decide +kernel, ?_⟩
  intro s1 es1 m1 em1 b1 eb1
  rw [show (S0.take 103).length = 103 by decide +kernel] at em1 eb1
  subst em1
  subst eb1
  obtain rfl : s1 = S0.take 104 := es1.trans (by decide +kernel)
  replace hcl := cl_zr (S1 := S0.take 104) hcl (show (S0.take 103).length = 103 by decide +kernel) (by decide +kernel)
  rintro _ rfl
  replace hcl := cl_R (a := 98) (k := 4) hcl (show 103 < (S0.take 104).length by decide +kernel)
  rintro _ rfl
  replace hcl := cl_I (a := 98) (k := 5) (v := (0 : Int32)) hcl
  rintro _ rfl
  replace hcl := cl_I (a := 98) (k := 6) (v := (0 : Int32)) hcl
  rintro _ rfl
  replace hcl := cl_I (a := 98) (k := 7) (v := (0 : Int32)) hcl
  intro _
  refine ⟨5, by decide +kernel, by unfold vp_in; decide +kernel, ?_⟩
  rintro _ rfl
  replace hcl := cl_R (a := 14) (k := (4 : Int32).toNatClampNeg) hcl (show 98 < (S0.take 104).length by decide +kernel)
  intro _
  rintro _ rfl
  replace hcl := cl_R (a := 10) (k := 0) hcl (show 11 < (S0.take 104).length by decide +kernel)
  refine ⟨hcl, by decide +kernel, ?_⟩
  intro s1 es1 m1 em1 b1 eb1
  rw [show (S0.take 104).length = 104 by decide +kernel] at em1 eb1
  subst em1
  subst eb1
  obtain rfl : s1 = S0.take 105 := es1.trans (by decide +kernel)
  replace hcl := cl_zr (S1 := S0.take 105) hcl (show (S0.take 104).length = 104 by decide +kernel) (by decide +kernel)
  (try unfold f_X4_init)
  rintro _ rfl
  replace hcl := cl_J (a := 104) (k := 0) (v := (0 : Int64)) hcl
  rintro _ rfl
  replace hcl := cl_J (a := 104) (k := 1) (v := (0 : Int64)) hcl
  rintro _ rfl
  replace hcl := cl_I (a := 104) (k := 2) (v := (0 : Int32)) hcl
  rintro _ rfl
  replace hcl := cl_I (a := 104) (k := 3) (v := (0 : Int32)) hcl
  rintro _ rfl
  replace hcl := cl_I (a := 104) (k := 4) (v := (0 : Int32)) hcl
  rintro _ rfl
  replace hcl := cl_I (a := 104) (k := 5) (v := (0 : Int32)) hcl
  rintro _ rfl
  replace hcl := cl_I (a := 104) (k := 6) (v := (0 : Int32)) hcl
  intro _
  rintro _ rfl
  replace hcl := cl_R (a := 10) (k := 1) hcl (show 104 < (S0.take 105).length by decide +kernel)
  refine ⟨hcl, by decide +kernel, ?_⟩
  intro s1 es1 m1 em1 b1 eb1
  rw [show (S0.take 105).length = 105 by decide +kernel] at em1 eb1
  subst em1
  subst eb1
  obtain rfl : s1 = S0.take 106 := es1.trans (by decide +kernel)
  replace hcl := cl_zr (S1 := S0.take 106) hcl (show (S0.take 105).length = 105 by decide +kernel) (by decide +kernel)
  rintro _ rfl
  replace hcl := cl_R (a := 10) (k := 2) hcl (show 105 < (S0.take 106).length by decide +kernel)
  refine ⟨hcl, by decide +kernel, ?_⟩
  intro s1 es1 m1 em1 b1 eb1
  rw [show (S0.take 106).length = 106 by decide +kernel] at em1 eb1
  subst em1
  subst eb1
  obtain rfl : s1 = S0.take 107 := es1.trans (by decide +kernel)
  replace hcl := cl_zr (S1 := S0.take 107) hcl (show (S0.take 106).length = 106 by decide +kernel) (by decide +kernel)
  rintro _ rfl
  replace hcl := cl_R (a := 10) (k := 3) hcl (show 106 < (S0.take 107).length by decide +kernel)
  refine ⟨hcl, by decide +kernel, ?_⟩
  intro s1 es1 m1 em1 b1 eb1
  rw [show (S0.take 107).length = 107 by decide +kernel] at em1 eb1
  subst em1
  subst eb1
  obtain rfl : s1 = S0.take 108 := es1.trans (by decide +kernel)
  replace hcl := cl_zr (S1 := S0.take 108) hcl (show (S0.take 107).length = 107 by decide +kernel) (by decide +kernel)
  rintro _ rfl
  replace hcl := cl_R (a := 10) (k := 4) hcl (show 107 < (S0.take 108).length by decide +kernel)
  refine ⟨hcl, by decide +kernel, ?_⟩
  intro s1 es1 m1 em1 b1 eb1
  rw [show (S0.take 108).length = 108 by decide +kernel] at em1 eb1
  subst em1
  subst eb1
  obtain rfl : s1 = S0.take 109 := es1.trans (by decide +kernel)
  replace hcl := cl_zr (S1 := S0.take 109) hcl (show (S0.take 108).length = 108 by decide +kernel) (by decide +kernel)
  rintro _ rfl
  replace hcl := cl_R (a := 10) (k := 5) hcl (show 108 < (S0.take 109).length by decide +kernel)
  refine ⟨hcl, by decide +kernel, ?_⟩
  intro s1 es1 m1 em1 b1 eb1
  rw [show (S0.take 109).length = 109 by decide +kernel] at em1 eb1
  subst em1
  subst eb1
  obtain rfl : s1 = S0.take 110 := es1.trans (by decide +kernel)
  replace hcl := cl_zr (S1 := S0.take 110) hcl (show (S0.take 109).length = 109 by decide +kernel) (by decide +kernel)
  rintro _ rfl
  replace hcl := cl_R (a := 10) (k := 6) hcl (show 109 < (S0.take 110).length by decide +kernel)
  refine ⟨hcl, by decide +kernel, ?_⟩
  intro s1 es1 m1 em1 b1 eb1
  rw [show (S0.take 110).length = 110 by decide +kernel] at em1 eb1
  subst em1
  subst eb1
  obtain rfl : s1 = S0.take 111 := es1.trans (by decide +kernel)
  replace hcl := cl_zr (S1 := S0.take 111) hcl (show (S0.take 110).length = 110 by decide +kernel) (by decide +kernel)
  rintro _ rfl
  replace hcl := cl_R (a := 10) (k := 7) hcl (show 110 < (S0.take 111).length by decide +kernel)
  refine ⟨hcl, by decide +kernel, ?_⟩
  intro s1 es1 m1 em1 b1 eb1
  rw [show (S0.take 111).length = 111 by decide +kernel] at em1 eb1
  subst em1
  subst eb1
  obtain rfl : s1 = S0.take 112 := es1.trans (by decide +kernel)
  replace hcl := cl_zr (S1 := S0.take 112) hcl (show (S0.take 111).length = 111 by decide +kernel) (by decide +kernel)
  rintro _ rfl
  replace hcl := cl_R (a := 10) (k := 8) hcl (show 111 < (S0.take 112).length by decide +kernel)
  refine ⟨hcl, by decide +kernel, ?_⟩
  intro s1 es1 m1 em1 b1 eb1
  rw [show (S0.take 112).length = 112 by decide +kernel] at em1 eb1
  subst em1
  subst eb1
  obtain rfl : s1 = S0.take 113 := es1.trans (by decide +kernel)
  replace hcl := cl_zr (S1 := S0.take 113) hcl (show (S0.take 112).length = 112 by decide +kernel) (by decide +kernel)
  rintro _ rfl
  replace hcl := cl_R (a := 10) (k := 9) hcl (show 112 < (S0.take 113).length by decide +kernel)
  rintro _ rfl
  replace hcl := cl_I (a := 10) (k := 10) (v := (0 : Int32)) hcl
  rintro _ rfl
  replace hcl := cl_I (a := 10) (k := 11) (v := (0 : Int32)) hcl
  rintro _ rfl
  replace hcl := cl_I (a := 10) (k := 12) (v := (0 : Int32)) hcl
  rintro _ rfl
  replace hcl := cl_I (a := 10) (k := 13) (v := (0 : Int32)) hcl
  rintro _ rfl
  replace hcl := cl_I (a := 10) (k := 14) (v := (-1 : Int32)) hcl
  rintro _ rfl
  replace hcl := cl_I (a := 10) (k := 15) (v := (-1 : Int32)) hcl
  rintro _ rfl
  replace hcl := cl_I (a := 10) (k := 16) (v := (-1 : Int32)) hcl
  rintro _ rfl
  replace hcl := cl_I (a := 10) (k := 17) (v := (-1 : Int32)) hcl
  rintro _ rfl
  replace hcl := cl_J (a := 10) (k := 18) (v := (0 : Int64)) hcl
  intro _
  rintro _ rfl
  replace hcl := cl_R (a := 0) (k := 1) hcl (show 10 < (S0.take 113).length by decide +kernel)
  refine ⟨10, by decide +kernel, ?_⟩
  refine ⟨by decide +kernel, ?_⟩
  refine ⟨11, by decide +kernel, ?_⟩
  refine ⟨by decide +kernel, ?_⟩
  rintro _ rfl
  replace hcl := cl_R (a := 0) (k := 2) hcl (show 11 < (S0.take 113).length by decide +kernel)
  refine ⟨hcl, by decide +kernel, ?_⟩
  intro s1 es1 m1 em1 b1 eb1
  rw [show (S0.take 113).length = 113 by decide +kernel] at em1 eb1
  subst em1
  subst eb1
  obtain rfl : s1 = S0.take 114 := es1.trans (by decide +kernel)
  replace hcl := cl_zr (S1 := S0.take 114) hcl (show (S0.take 113).length = 113 by decide +kernel) (by decide +kernel)
  (try unfold f_X4_init)
  rintro _ rfl
  replace hcl := cl_J (a := 113) (k := 0) (v := (0 : Int64)) hcl
  rintro _ rfl
  replace hcl := cl_J (a := 113) (k := 1) (v := (0 : Int64)) hcl
  rintro _ rfl
  replace hcl := cl_I (a := 113) (k := 2) (v := (0 : Int32)) hcl
  rintro _ rfl
  replace hcl := cl_I (a := 113) (k := 3) (v := (0 : Int32)) hcl
  rintro _ rfl
  replace hcl := cl_I (a := 113) (k := 4) (v := (0 : Int32)) hcl
  rintro _ rfl
  replace hcl := cl_I (a := 113) (k := 5) (v := (0 : Int32)) hcl
  rintro _ rfl
  replace hcl := cl_I (a := 113) (k := 6) (v := (0 : Int32)) hcl
  intro _
  rintro _ rfl
  replace hcl := cl_R (a := 0) (k := 3) hcl (show 113 < (S0.take 114).length by decide +kernel)
  refine ⟨hcl, by decide +kernel, ?_⟩
  intro s1 es1 m1 em1 b1 eb1
  rw [show (S0.take 114).length = 114 by decide +kernel] at em1 eb1
  subst em1
  subst eb1
  obtain rfl : s1 = S0.take 115 := es1.trans (by decide +kernel)
  replace hcl := cl_zr (S1 := S0.take 115) hcl (show (S0.take 114).length = 114 by decide +kernel) (by decide +kernel)
  (try unfold f_X4_init)
  rintro _ rfl
  replace hcl := cl_J (a := 114) (k := 0) (v := (0 : Int64)) hcl
  rintro _ rfl
  replace hcl := cl_J (a := 114) (k := 1) (v := (0 : Int64)) hcl
  rintro _ rfl
  replace hcl := cl_I (a := 114) (k := 2) (v := (0 : Int32)) hcl
  rintro _ rfl
  replace hcl := cl_I (a := 114) (k := 3) (v := (0 : Int32)) hcl
  rintro _ rfl
  replace hcl := cl_I (a := 114) (k := 4) (v := (0 : Int32)) hcl
  rintro _ rfl
  replace hcl := cl_I (a := 114) (k := 5) (v := (0 : Int32)) hcl
  rintro _ rfl
  replace hcl := cl_I (a := 114) (k := 6) (v := (0 : Int32)) hcl
  intro _
  rintro _ rfl
  replace hcl := cl_R (a := 0) (k := 4) hcl (show 114 < (S0.take 115).length by decide +kernel)
  refine ⟨hcl, by decide +kernel, ?_⟩
  intro s1 es1 m1 em1 b1 eb1
  rw [show (S0.take 115).length = 115 by decide +kernel] at em1 eb1
  subst em1
  subst eb1
  obtain rfl : s1 = S0.take 116 := es1.trans (by decide +kernel)
  replace hcl := cl_zr (S1 := S0.take 116) hcl (show (S0.take 115).length = 115 by decide +kernel) (by decide +kernel)
  rintro _ rfl
  replace hcl := cl_R (a := 0) (k := 5) hcl (show 115 < (S0.take 116).length by decide +kernel)
  refine ⟨hcl, by decide +kernel, ?_⟩
  intro s1 es1 m1 em1 b1 eb1
  rw [show (S0.take 116).length = 116 by decide +kernel] at em1 eb1
  subst em1
  subst eb1
  obtain rfl : s1 = S0.take 117 := es1.trans (by decide +kernel)
  replace hcl := cl_zr (S1 := S0.take 117) hcl (show (S0.take 116).length = 116 by decide +kernel) (by decide +kernel)
  (try unfold f_X7_init)
  refine ⟨hcl, by decide +kernel, ?_⟩
  intro s1 es1 m1 em1 b1 eb1
  rw [show (S0.take 117).length = 117 by decide +kernel] at em1 eb1
  subst em1
  subst eb1
  obtain rfl : s1 = S0.take 118 := es1.trans (by decide +kernel)
  replace hcl := cl_zr (S1 := S0.take 118) hcl (show (S0.take 117).length = 117 by decide +kernel) (by decide +kernel)
  rintro _ rfl
  replace hcl := cl_R (a := 116) (k := 0) hcl (show 117 < (S0.take 118).length by decide +kernel)
  rintro _ rfl
  replace hcl := cl_I (a := 116) (k := 1) (v := (0 : Int32)) hcl
  intro _
  rintro _ rfl
  replace hcl := cl_R (a := 0) (k := 6) hcl (show 116 < (S0.take 118).length by decide +kernel)
  refine ⟨hcl, by decide +kernel, ?_⟩
  intro s1 es1 m1 em1 b1 eb1
  rw [show (S0.take 118).length = 118 by decide +kernel] at em1 eb1
  subst em1
  subst eb1
  obtain rfl : s1 = S0.take 119 := es1.trans (by decide +kernel)
  replace hcl := cl_zr (S1 := S0.take 119) hcl (show (S0.take 118).length = 118 by decide +kernel) (by decide +kernel)
  (try unfold f_X8_init)
  refine ⟨hcl, by decide +kernel, ?_⟩
  intro s1 es1 m1 em1 b1 eb1
  rw [show (S0.take 119).length = 119 by decide +kernel] at em1 eb1
  subst em1
  subst eb1
  obtain rfl : s1 = S0.take 120 := es1.trans (by decide +kernel)
  replace hcl := cl_zr (S1 := S0.take 120) hcl (show (S0.take 119).length = 119 by decide +kernel) (by decide +kernel)
  rintro _ rfl
  replace hcl := cl_R (a := 118) (k := 0) hcl (show 119 < (S0.take 120).length by decide +kernel)
  refine ⟨hcl, by decide +kernel, ?_⟩
  intro s1 es1 m1 em1 b1 eb1
  rw [show (S0.take 120).length = 120 by decide +kernel] at em1 eb1
  subst em1
  subst eb1
  obtain rfl : s1 = S0.take 121 := es1.trans (by decide +kernel)
  replace hcl := cl_zr (S1 := S0.take 121) hcl (show (S0.take 120).length = 120 by decide +kernel) (by decide +kernel)
  rintro _ rfl
  replace hcl := cl_R (a := 118) (k := 1) hcl (show 120 < (S0.take 121).length by decide +kernel)
  rintro _ rfl
  replace hcl := cl_I (a := 118) (k := 2) (v := (0 : Int32)) hcl
  intro _
  rintro _ rfl
  replace hcl := cl_R (a := 0) (k := 7) hcl (show 118 < (S0.take 121).length by decide +kernel)
  refine ⟨hcl, by decide +kernel, ?_⟩
  intro s1 es1 m1 em1 b1 eb1
  rw [show (S0.take 121).length = 121 by decide +kernel] at em1 eb1
  subst em1
  subst eb1
  obtain rfl : s1 = S0.take 122 := es1.trans (by decide +kernel)
  replace hcl := cl_zr (S1 := S0.take 122) hcl (show (S0.take 121).length = 121 by decide +kernel) (by decide +kernel)
  (try unfold f_X1_init)
  refine ⟨hcl, by decide +kernel, ?_⟩
  intro s1 es1 m1 em1 b1 eb1
  rw [show (S0.take 122).length = 122 by decide +kernel] at em1 eb1
  subst em1
  subst eb1
  obtain rfl : s1 = S0.take 123 := es1.trans (by decide +kernel)
  replace hcl := cl_zr (S1 := S0.take 123) hcl (show (S0.take 122).length = 122 by decide +kernel) (by decide +kernel)
  rintro _ rfl
  replace hcl := cl_R (a := 121) (k := 0) hcl (show 122 < (S0.take 123).length by decide +kernel)
  refine ⟨hcl, by decide +kernel, ?_⟩
  intro s1 es1 m1 em1 b1 eb1
  rw [show (S0.take 123).length = 123 by decide +kernel] at em1 eb1
  subst em1
  subst eb1
  obtain rfl : s1 = S0.take 124 := es1.trans (by decide +kernel)
  replace hcl := cl_zr (S1 := S0.take 124) hcl (show (S0.take 123).length = 123 by decide +kernel) (by decide +kernel)
  rintro _ rfl
  replace hcl := cl_R (a := 121) (k := 1) hcl (show 123 < (S0.take 124).length by decide +kernel)
  refine ⟨hcl, by decide +kernel, ?_⟩
  intro s1 es1 m1 em1 b1 eb1
  rw [show (S0.take 124).length = 124 by decide +kernel] at em1 eb1
  subst em1
  subst eb1
  obtain rfl : s1 = S0.take 125 := es1.trans (by decide +kernel)
  replace hcl := cl_zr (S1 := S0.take 125) hcl (show (S0.take 124).length = 124 by decide +kernel) (by decide +kernel)
  rintro _ rfl
  replace hcl := cl_R (a := 121) (k := 2) hcl (show 124 < (S0.take 125).length by decide +kernel)
  refine ⟨hcl, by decide +kernel, ?_⟩
  intro s1 es1 m1 em1 b1 eb1
  rw [show (S0.take 125).length = 125 by decide +kernel] at em1 eb1
  subst em1
  subst eb1
  obtain rfl : s1 = S0.take 126 := es1.trans (by decide +kernel)
  replace hcl := cl_zr (S1 := S0.take 126) hcl (show (S0.take 125).length = 125 by decide +kernel) (by decide +kernel)
  rintro _ rfl
  replace hcl := cl_R (a := 121) (k := 3) hcl (show 125 < (S0.take 126).length by decide +kernel)
  refine ⟨hcl, by decide +kernel, ?_⟩
  intro s1 es1 m1 em1 b1 eb1
  rw [show (S0.take 126).length = 126 by decide +kernel] at em1 eb1
  subst em1
  subst eb1
  obtain rfl : s1 = S0.take 127 := es1.trans (by decide +kernel)
  replace hcl := cl_zr (S1 := S0.take 127) hcl (show (S0.take 126).length = 126 by decide +kernel) (by decide +kernel)
  rintro _ rfl
  replace hcl := cl_R (a := 121) (k := 4) hcl (show 126 < (S0.take 127).length by decide +kernel)
  refine ⟨hcl, by decide +kernel, ?_⟩
  intro s1 es1 m1 em1 b1 eb1
  rw [show (S0.take 127).length = 127 by decide +kernel] at em1 eb1
  subst em1
  subst eb1
  obtain rfl : s1 = S0.take 128 := es1.trans (by decide +kernel)
  replace hcl := cl_zr (S1 := S0.take 128) hcl (show (S0.take 127).length = 127 by decide +kernel) (by decide +kernel)
  rintro _ rfl
  replace hcl := cl_R (a := 121) (k := 5) hcl (show 127 < (S0.take 128).length by decide +kernel)
  refine ⟨hcl, by decide +kernel, ?_⟩
  intro s1 es1 m1 em1 b1 eb1
  rw [show (S0.take 128).length = 128 by decide +kernel] at em1 eb1
  subst em1
  subst eb1
  obtain rfl : s1 = S0.take 129 := es1.trans (by decide +kernel)
  replace hcl := cl_zr (S1 := S0.take 129) hcl (show (S0.take 128).length = 128 by decide +kernel) (by decide +kernel)
  rintro _ rfl
  replace hcl := cl_R (a := 121) (k := 6) hcl (show 128 < (S0.take 129).length by decide +kernel)
  refine ⟨hcl, by decide +kernel, ?_⟩
  intro s1 es1 m1 em1 b1 eb1
  rw [show (S0.take 129).length = 129 by decide +kernel] at em1 eb1
  subst em1
  subst eb1
  obtain rfl : s1 = S0.take 130 := es1.trans (by decide +kernel)
  replace hcl := cl_zr (S1 := S0.take 130) hcl (show (S0.take 129).length = 129 by decide +kernel) (by decide +kernel)
  rintro _ rfl
  replace hcl := cl_R (a := 121) (k := 7) hcl (show 129 < (S0.take 130).length by decide +kernel)
  rintro _ rfl
  replace hcl := cl_I (a := 121) (k := 8) (v := (0 : Int32)) hcl
  rintro _ rfl
  replace hcl := cl_I (a := 121) (k := 9) (v := (0 : Int32)) hcl
  intro _
  rintro _ rfl
  replace hcl := cl_R (a := 0) (k := 8) hcl (show 121 < (S0.take 130).length by decide +kernel)
  refine ⟨hcl, by decide +kernel, ?_⟩
  intro s1 es1 m1 em1 b1 eb1
  rw [show (S0.take 130).length = 130 by decide +kernel] at em1 eb1
  subst em1
  subst eb1
  obtain rfl : s1 = S0.take 131 := es1.trans (by decide +kernel)
  replace hcl := cl_zr (S1 := S0.take 131) hcl (show (S0.take 130).length = 130 by decide +kernel) (by decide +kernel)
  rintro _ rfl
  replace hcl := cl_R (a := 0) (k := 9) hcl (show 130 < (S0.take 131).length by decide +kernel)
  refine ⟨hcl, by decide +kernel, ?_⟩
  intro s1 es1 m1 em1 b1 eb1
  rw [show (S0.take 131).length = 131 by decide +kernel] at em1 eb1
  subst em1
  subst eb1
  obtain rfl : s1 = S0.take 132 := es1.trans (by decide +kernel)
  replace hcl := cl_zr (S1 := S0.take 132) hcl (show (S0.take 131).length = 131 by decide +kernel) (by decide +kernel)
  refine ⟨5, by decide +kernel, by unfold vp_in; decide +kernel, ?_⟩
  rintro _ rfl
  replace hcl := cl_I (a := 131) (k := (0 : Int32).toNatClampNeg) (v := (1 : Int32)) hcl
  refine ⟨5, by decide +kernel, by unfold vp_in; decide +kernel, ?_⟩
  rintro _ rfl
  replace hcl := cl_I (a := 131) (k := (1 : Int32).toNatClampNeg) (v := (1 : Int32)) hcl
  refine ⟨5, by decide +kernel, by unfold vp_in; decide +kernel, ?_⟩
  rintro _ rfl
  replace hcl := cl_I (a := 131) (k := (2 : Int32).toNatClampNeg) (v := (1 : Int32)) hcl
  refine ⟨5, by decide +kernel, by unfold vp_in; decide +kernel, ?_⟩
  rintro _ rfl
  replace hcl := cl_I (a := 131) (k := (3 : Int32).toNatClampNeg) (v := (1 : Int32)) hcl
  refine ⟨5, by decide +kernel, by unfold vp_in; decide +kernel, ?_⟩
  rintro _ rfl
  replace hcl := cl_I (a := 131) (k := (4 : Int32).toNatClampNeg) (v := (1 : Int32)) hcl
  rintro _ rfl
  replace hcl := cl_R (a := 0) (k := 10) hcl (show 131 < (S0.take 132).length by decide +kernel)
  refine ⟨hcl, by decide +kernel, ?_⟩
  intro s1 es1 m1 em1 b1 eb1
  rw [show (S0.take 132).length = 132 by decide +kernel] at em1 eb1
  subst em1
  subst eb1
  obtain rfl : s1 = S0.take 133 := es1.trans (by decide +kernel)
  replace hcl := cl_zr (S1 := S0.take 133) hcl (show (S0.take 132).length = 132 by decide +kernel) (by decide +kernel)
  refine ⟨5, by decide +kernel, by unfold vp_in; decide +kernel, ?_⟩
  rintro _ rfl
  replace hcl := cl_I (a := 132) (k := (0 : Int32).toNatClampNeg) (v := (1 : Int32)) hcl
  refine ⟨5, by decide +kernel, by unfold vp_in; decide +kernel, ?_⟩
  rintro _ rfl
  replace hcl := cl_I (a := 132) (k := (1 : Int32).toNatClampNeg) (v := (1 : Int32)) hcl
  refine ⟨5, by decide +kernel, by unfold vp_in; decide +kernel, ?_⟩
  rintro _ rfl
  replace hcl := cl_I (a := 132) (k := (2 : Int32).toNatClampNeg) (v := (1 : Int32)) hcl
  refine ⟨5, by decide +kernel, by unfold vp_in; decide +kernel, ?_⟩
  rintro _ rfl
  replace hcl := cl_I (a := 132) (k := (3 : Int32).toNatClampNeg) (v := (1 : Int32)) hcl
  refine ⟨5, by decide +kernel, by unfold vp_in; decide +kernel, ?_⟩
  rintro _ rfl
  replace hcl := cl_I (a := 132) (k := (4 : Int32).toNatClampNeg) (v := (1 : Int32)) hcl
  rintro _ rfl
  replace hcl := cl_R (a := 0) (k := 11) hcl (show 132 < (S0.take 133).length by decide +kernel)
  rintro _ rfl
  replace hcl := cl_I (a := 0) (k := 12) (v := (0 : Int32)) hcl
  refine ⟨130, by decide +kernel, ?_⟩
  refine ⟨3, by decide +kernel, ?_⟩
  refine ⟨hcl, by decide +kernel, ?_⟩
  intro s1 es1 m1 em1 b1 eb1
  rw [show (S0.take 133).length = 133 by decide +kernel] at em1 eb1
  subst em1
  subst eb1
  obtain rfl : s1 = S0.take 134 := es1.trans (by decide +kernel)
  replace hcl := cl_zr (S1 := S0.take 134) hcl (show (S0.take 133).length = 133 by decide +kernel) (by decide +kernel)
  (try unfold f_X2_init)
  refine ⟨hcl, by decide +kernel, ?_⟩
  intro s1 es1 m1 em1 b1 eb1
  rw [show (S0.take 134).length = 134 by decide +kernel] at em1 eb1
  subst em1
  subst eb1
  obtain rfl : s1 = S0.take 135 := es1.trans (by decide +kernel)
  replace hcl := cl_zr (S1 := S0.take 135) hcl (show (S0.take 134).length = 134 by decide +kernel) (by decide +kernel)
  (try unfold f_X4_init)
  rintro _ rfl
  replace hcl := cl_J (a := 134) (k := 0) (v := (0 : Int64)) hcl
  rintro _ rfl
  replace hcl := cl_J (a := 134) (k := 1) (v := (0 : Int64)) hcl
  rintro _ rfl
  replace hcl := cl_I (a := 134) (k := 2) (v := (0 : Int32)) hcl
  rintro _ rfl
  replace hcl := cl_I (a := 134) (k := 3) (v := (0 : Int32)) hcl
  rintro _ rfl
  replace hcl := cl_I (a := 134) (k := 4) (v := (0 : Int32)) hcl
  rintro _ rfl
  replace hcl := cl_I (a := 134) (k := 5) (v := (0 : Int32)) hcl
  rintro _ rfl
  replace hcl := cl_I (a := 134) (k := 6) (v := (0 : Int32)) hcl
  intro _
  rintro _ rfl
  replace hcl := cl_R (a := 133) (k := 0) hcl (show 134 < (S0.take 135).length by decide +kernel)
  refine ⟨hcl, by decide +kernel, ?_⟩
  intro s1 es1 m1 em1 b1 eb1
  rw [show (S0.take 135).length = 135 by decide +kernel] at em1 eb1
  subst em1
  subst eb1
  obtain rfl : s1 = S0.take 136 := es1.trans (by decide +kernel)
  replace hcl := cl_zr (S1 := S0.take 136) hcl (show (S0.take 135).length = 135 by decide +kernel) (by decide +kernel)
  rintro _ rfl
  replace hcl := cl_R (a := 133) (k := 1) hcl (show 135 < (S0.take 136).length by decide +kernel)
  rintro _ rfl
  replace hcl := cl_I (a := 133) (k := 2) (v := (0 : Int32)) hcl
  rintro _ rfl
  replace hcl := cl_I (a := 133) (k := 3) (v := (0 : Int32)) hcl
  rintro _ rfl
  replace hcl := cl_I (a := 133) (k := 4) (v := (0 : Int32)) hcl
  intro _
  refine ⟨3, by decide +kernel, by unfold vp_in; decide +kernel, ?_⟩
  rintro _ rfl
  replace hcl := cl_R (a := 130) (k := (0 : Int32).toNatClampNeg) hcl (show 133 < (S0.take 136).length by decide +kernel)
  refine ⟨130, by decide +kernel, ?_⟩
  refine ⟨3, by decide +kernel, ?_⟩
  refine ⟨hcl, by decide +kernel, ?_⟩
  intro s1 es1 m1 em1 b1 eb1
  rw [show (S0.take 136).length = 136 by decide +kernel] at em1 eb1
  subst em1
  subst eb1
  obtain rfl : s1 = S0.take 137 := es1.trans (by decide +kernel)
  replace hcl := cl_zr (S1 := S0.take 137) hcl (show (S0.take 136).length = 136 by decide +kernel) (by decide +kernel)
  (try unfold f_X2_init)
  refine ⟨hcl, by decide +kernel, ?_⟩
  intro s1 es1 m1 em1 b1 eb1
  rw [show (S0.take 137).length = 137 by decide +kernel] at em1 eb1
  subst em1
  subst eb1
  obtain rfl : s1 = S0.take 138 := es1.trans (by decide +kernel)
  replace hcl := cl_zr (S1 := S0.take 138) hcl (show (S0.take 137).length = 137 by decide +kernel) (by decide +kernel)
  (try unfold f_X4_init)
  rintro _ rfl
  replace hcl := cl_J (a := 137) (k := 0) (v := (0 : Int64)) hcl
  rintro _ rfl
  replace hcl := cl_J (a := 137) (k := 1) (v := (0 : Int64)) hcl
  rintro _ rfl
  replace hcl := cl_I (a := 137) (k := 2) (v := (0 : Int32)) hcl
  rintro _ rfl
  replace hcl := cl_I (a := 137) (k := 3) (v := (0 : Int32)) hcl
  rintro _ rfl
  replace hcl := cl_I (a := 137) (k := 4) (v := (0 : Int32)) hcl
  rintro _ rfl
  replace hcl := cl_I (a := 137) (k := 5) (v := (0 : Int32)) hcl
  rintro _ rfl
  replace hcl := cl_I (a := 137) (k := 6) (v := (0 : Int32)) hcl
  intro _
  rintro _ rfl
  replace hcl := cl_R (a := 136) (k := 0) hcl (show 137 < (S0.take 138).length by decide +kernel)
  refine ⟨hcl, by decide +kernel, ?_⟩
  intro s1 es1 m1 em1 b1 eb1
  rw [show (S0.take 138).length = 138 by decide +kernel] at em1 eb1
  subst em1
  subst eb1
  obtain rfl : s1 = S0.take 139 := es1.trans (by decide +kernel)
  replace hcl := cl_zr (S1 := S0.take 139) hcl (show (S0.take 138).length = 138 by decide +kernel) (by decide +kernel)
  rintro _ rfl
  replace hcl := cl_R (a := 136) (k := 1) hcl (show 138 < (S0.take 139).length by decide +kernel)
  rintro _ rfl
  replace hcl := cl_I (a := 136) (k := 2) (v := (0 : Int32)) hcl
  rintro _ rfl
  replace hcl := cl_I (a := 136) (k := 3) (v := (0 : Int32)) hcl
  rintro _ rfl
  replace hcl := cl_I (a := 136) (k := 4) (v := (0 : Int32)) hcl
  intro _
  refine ⟨3, by decide +kernel, by unfold vp_in; decide +kernel, ?_⟩
  rintro _ rfl
  replace hcl := cl_R (a := 130) (k := (1 : Int32).toNatClampNeg) hcl (show 136 < (S0.take 139).length by decide +kernel)
  refine ⟨130, by decide +kernel, ?_⟩
  refine ⟨3, by decide +kernel, ?_⟩
  refine ⟨hcl, by decide +kernel, ?_⟩
  intro s1 es1 m1 em1 b1 eb1
  rw [show (S0.take 139).length = 139 by decide +kernel] at em1 eb1
  subst em1
  subst eb1
  obtain rfl : s1 = S0.take 140 := es1.trans (by decide +kernel)
  replace hcl := cl_zr (S1 := S0.take 140) hcl (show (S0.take 139).length = 139 by decide +kernel) (by decide +kernel)
  (try unfold f_X2_init)
  refine ⟨hcl, by decide +kernel, ?_⟩
  intro s1 es1 m1 em1 b1 eb1
  rw [show (S0.take 140).length = 140 by decide +kernel] at em1 eb1
  subst em1
  subst eb1
  obtain rfl : s1 = S0.take 141 := es1.trans (by decide +kernel)
  replace hcl := cl_zr (S1 := S0.take 141) hcl (show (S0.take 140).length = 140 by decide +kernel) (by decide +kernel)
  (try unfold f_X4_init)
  rintro _ rfl
  replace hcl := cl_J (a := 140) (k := 0) (v := (0 : Int64)) hcl
  rintro _ rfl
  replace hcl := cl_J (a := 140) (k := 1) (v := (0 : Int64)) hcl
  rintro _ rfl
  replace hcl := cl_I (a := 140) (k := 2) (v := (0 : Int32)) hcl
  rintro _ rfl
  replace hcl := cl_I (a := 140) (k := 3) (v := (0 : Int32)) hcl
  rintro _ rfl
  replace hcl := cl_I (a := 140) (k := 4) (v := (0 : Int32)) hcl
  rintro _ rfl
  replace hcl := cl_I (a := 140) (k := 5) (v := (0 : Int32)) hcl
  rintro _ rfl
  replace hcl := cl_I (a := 140) (k := 6) (v := (0 : Int32)) hcl
  intro _
  rintro _ rfl
  replace hcl := cl_R (a := 139) (k := 0) hcl (show 140 < (S0.take 141).length by decide +kernel)
  refine ⟨hcl, by decide +kernel, ?_⟩
  intro s1 es1 m1 em1 b1 eb1
  rw [show (S0.take 141).length = 141 by decide +kernel] at em1 eb1
  subst em1
  subst eb1
  obtain rfl : s1 = S0.take 142 := es1.trans (by decide +kernel)
  replace hcl := cl_zr (S1 := S0.take 142) hcl (show (S0.take 141).length = 141 by decide +kernel) (by decide +kernel)
  rintro _ rfl
  replace hcl := cl_R (a := 139) (k := 1) hcl (show 141 < (S0.take 142).length by decide +kernel)
  rintro _ rfl
  replace hcl := cl_I (a := 139) (k := 2) (v := (0 : Int32)) hcl
  rintro _ rfl
  replace hcl := cl_I (a := 139) (k := 3) (v := (0 : Int32)) hcl
  rintro _ rfl
  replace hcl := cl_I (a := 139) (k := 4) (v := (0 : Int32)) hcl
  intro _
  refine ⟨3, by decide +kernel, by unfold vp_in; decide +kernel, ?_⟩
  rintro _ rfl
  replace hcl := cl_R (a := 130) (k := (2 : Int32).toNatClampNeg) hcl (show 139 < (S0.take 142).length by decide +kernel)
  intro _
  refine ⟨hcl, by decide +kernel, ?_⟩
  intro s1 es1 m1 em1 b1 eb1
  rw [show (S0.take 142).length = 142 by decide +kernel] at em1 eb1
  subst em1
  subst eb1
  obtain rfl : s1 = S0.take 143 := es1.trans (by decide +kernel)
  replace hcl := cl_zr (S1 := S0.take 143) hcl (show (S0.take 142).length = 142 by decide +kernel) (by decide +kernel)
  (try unfold f_X11_init)
  refine ⟨hcl, by decide +kernel, ?_⟩
  intro s1 es1 m1 em1 b1 eb1
  rw [show (S0.take 143).length = 143 by decide +kernel] at em1 eb1
  subst em1
  subst eb1
  obtain rfl : s1 = S0.take 144 := es1.trans (by decide +kernel)
  replace hcl := cl_zr (S1 := S0.take 144) hcl (show (S0.take 143).length = 143 by decide +kernel) (by decide +kernel)
  rintro _ rfl
  replace hcl := cl_R (a := 142) (k := 2) hcl (show 143 < (S0.take 144).length by decide +kernel)
  refine ⟨hcl, by decide +kernel, ?_⟩
  intro s1 es1 m1 em1 b1 eb1
  rw [show (S0.take 144).length = 144 by decide +kernel] at em1 eb1
  subst em1
  subst eb1
  obtain rfl : s1 = S0.take 145 := es1.trans (by decide +kernel)
  replace hcl := cl_zr (S1 := S0.take 145) hcl (show (S0.take 144).length = 144 by decide +kernel) (by decide +kernel)
  rintro _ rfl
  replace hcl := cl_R (a := 142) (k := 3) hcl (show 144 < (S0.take 145).length by decide +kernel)
  refine ⟨hcl, by decide +kernel, ?_⟩
  intro s1 es1 m1 em1 b1 eb1
  rw [show (S0.take 145).length = 145 by decide +kernel] at em1 eb1
  subst em1
  subst eb1
  obtain rfl : s1 = S0.take 146 := es1.trans (by decide +kernel)
  replace hcl := cl_zr (S1 := S0.take 146) hcl (show (S0.take 145).length = 145 by decide +kernel) (by decide +kernel)
  rintro _ rfl
  replace hcl := cl_R (a := 142) (k := 9) hcl (show 145 < (S0.take 146).length by decide +kernel)
  refine ⟨hcl, by decide +kernel, ?_⟩
  intro s1 es1 m1 em1 b1 eb1
  rw [show (S0.take 146).length = 146 by decide +kernel] at em1 eb1
  subst em1
  subst eb1
  obtain rfl : s1 = S0.take 147 := es1.trans (by decide +kernel)
  replace hcl := cl_zr (S1 := S0.take 147) hcl (show (S0.take 146).length = 146 by decide +kernel) (by decide +kernel)
  rintro _ rfl
  replace hcl := cl_R (a := 142) (k := 10) hcl (show 146 < (S0.take 147).length by decide +kernel)
  refine ⟨hcl, by decide +kernel, ?_⟩
  intro s1 es1 m1 em1 b1 eb1
  rw [show (S0.take 147).length = 147 by decide +kernel] at em1 eb1
  subst em1
  subst eb1
  obtain rfl : s1 = S0.take 148 := es1.trans (by decide +kernel)
  replace hcl := cl_zr (S1 := S0.take 148) hcl (show (S0.take 147).length = 147 by decide +kernel) (by decide +kernel)
  rintro _ rfl
  replace hcl := cl_R (a := 142) (k := 11) hcl (show 147 < (S0.take 148).length by decide +kernel)
  refine ⟨hcl, by decide +kernel, ?_⟩
  intro s1 es1 m1 em1 b1 eb1
  rw [show (S0.take 148).length = 148 by decide +kernel] at em1 eb1
  subst em1
  subst eb1
  obtain rfl : s1 = S0.take 149 := es1.trans (by decide +kernel)
  replace hcl := cl_zr (S1 := S0.take 149) hcl (show (S0.take 148).length = 148 by decide +kernel) (by decide +kernel)
  rintro _ rfl
  replace hcl := cl_R (a := 142) (k := 12) hcl (show 148 < (S0.take 149).length by decide +kernel)
  refine ⟨hcl, by decide +kernel, ?_⟩
  intro s1 es1 m1 em1 b1 eb1
  rw [show (S0.take 149).length = 149 by decide +kernel] at em1 eb1
  subst em1
  subst eb1
  obtain rfl : s1 = S0.take 150 := es1.trans (by decide +kernel)
  replace hcl := cl_zr (S1 := S0.take 150) hcl (show (S0.take 149).length = 149 by decide +kernel) (by decide +kernel)
  rintro _ rfl
  replace hcl := cl_R (a := 142) (k := 14) hcl (show 149 < (S0.take 150).length by decide +kernel)
  refine ⟨hcl, by decide +kernel, ?_⟩
  intro s1 es1 m1 em1 b1 eb1
  rw [show (S0.take 150).length = 150 by decide +kernel] at em1 eb1
  subst em1
  subst eb1
  obtain rfl : s1 = S0.take 151 := es1.trans (by decide +kernel)
  replace hcl := cl_zr (S1 := S0.take 151) hcl (show (S0.take 150).length = 150 by decide +kernel) (by decide +kernel)
  rintro _ rfl
  replace hcl := cl_R (a := 142) (k := 16) hcl (show 150 < (S0.take 151).length by decide +kernel)
  refine ⟨hcl, by decide +kernel, ?_⟩
  intro s1 es1 m1 em1 b1 eb1
  rw [show (S0.take 151).length = 151 by decide +kernel] at em1 eb1
  subst em1
  subst eb1
  obtain rfl : s1 = S0.take 152 := es1.trans (by decide +kernel)
  replace hcl := cl_zr (S1 := S0.take 152) hcl (show (S0.take 151).length = 151 by decide +kernel) (by decide +kernel)
  rintro _ rfl
  replace hcl := cl_R (a := 142) (k := 17) hcl (show 151 < (S0.take 152).length by decide +kernel)
  refine ⟨hcl, by decide +kernel, ?_⟩
  intro s1 es1 m1 em1 b1 eb1
  rw [show (S0.take 152).length = 152 by decide +kernel] at em1 eb1
  subst em1
  subst eb1
  obtain rfl : s1 = S0.take 153 := es1.trans (by decide +kernel)
  replace hcl := cl_zr (S1 := S0.take 153) hcl (show (S0.take 152).length = 152 by decide +kernel) (by decide +kernel)
  rintro _ rfl
  replace hcl := cl_R (a := 142) (k := 18) hcl (show 152 < (S0.take 153).length by decide +kernel)
  refine ⟨hcl, by decide +kernel, ?_⟩
  intro s1 es1 m1 em1 b1 eb1
  rw [show (S0.take 153).length = 153 by decide +kernel] at em1 eb1
  subst em1
  subst eb1
  obtain rfl : s1 = S0.take 154 := es1.trans (by decide +kernel)
  replace hcl := cl_zr (S1 := S0.take 154) hcl (show (S0.take 153).length = 153 by decide +kernel) (by decide +kernel)
  rintro _ rfl
  replace hcl := cl_R (a := 142) (k := 22) hcl (show 153 < (S0.take 154).length by decide +kernel)
  refine ⟨hcl, by decide +kernel, ?_⟩
  intro s1 es1 m1 em1 b1 eb1
  rw [show (S0.take 154).length = 154 by decide +kernel] at em1 eb1
  subst em1
  subst eb1
  obtain rfl : s1 = S0.take 155 := es1.trans (by decide +kernel)
  replace hcl := cl_zr (S1 := S0.take 155) hcl (show (S0.take 154).length = 154 by decide +kernel) (by decide +kernel)
  rintro _ rfl
  replace hcl := cl_R (a := 142) (k := 23) hcl (show 154 < (S0.take 155).length by decide +kernel)
  refine ⟨hcl, by decide +kernel, ?_⟩
  intro s1 es1 m1 em1 b1 eb1
  rw [show (S0.take 155).length = 155 by decide +kernel] at em1 eb1
  subst em1
  subst eb1
  obtain rfl : s1 = S0.take 156 := es1.trans (by decide +kernel)
  replace hcl := cl_zr (S1 := S0.take 156) hcl (show (S0.take 155).length = 155 by decide +kernel) (by decide +kernel)
  rintro _ rfl
  replace hcl := cl_R (a := 142) (k := 24) hcl (show 155 < (S0.take 156).length by decide +kernel)
  refine ⟨hcl, by decide +kernel, ?_⟩
  intro s1 es1 m1 em1 b1 eb1
  rw [show (S0.take 156).length = 156 by decide +kernel] at em1 eb1
  subst em1
  subst eb1
  obtain rfl : s1 = S0.take 157 := es1.trans (by decide +kernel)
  replace hcl := cl_zr (S1 := S0.take 157) hcl (show (S0.take 156).length = 156 by decide +kernel) (by decide +kernel)
  rintro _ rfl
  replace hcl := cl_R (a := 142) (k := 25) hcl (show 156 < (S0.take 157).length by decide +kernel)
  refine ⟨hcl, by decide +kernel, ?_⟩
  intro s1 es1 m1 em1 b1 eb1
  rw [show (S0.take 157).length = 157 by decide +kernel] at em1 eb1
  subst em1
  subst eb1
  obtain rfl : s1 = S0.take 158 := es1.trans (by decide +kernel)
  replace hcl := cl_zr (S1 := S0.take 158) hcl (show (S0.take 157).length = 157 by decide +kernel) (by decide +kernel)
  refine ⟨4, by decide +kernel, by unfold vp_in; decide +kernel, ?_⟩
  rintro _ rfl
  replace hcl := cl_I (a := 157) (k := (0 : Int32).toNatClampNeg) (v := (3 : Int32)) hcl
  refine ⟨4, by decide +kernel, by unfold vp_in; decide +kernel, ?_⟩
  rintro _ rfl
  replace hcl := cl_I (a := 157) (k := (1 : Int32).toNatClampNeg) (v := (3 : Int32)) hcl
  refine ⟨4, by decide +kernel, by unfold vp_in; decide +kernel, ?_⟩
  rintro _ rfl
  replace hcl := cl_I (a := 157) (k := (2 : Int32).toNatClampNeg) (v := (3 : Int32)) hcl
  refine ⟨4, by decide +kernel, by unfold vp_in; decide +kernel, ?_⟩
  rintro _ rfl
  replace hcl := cl_I (a := 157) (k := (3 : Int32).toNatClampNeg) (v := (3 : Int32)) hcl
  rintro _ rfl
  replace hcl := cl_R (a := 142) (k := 26) hcl (show 157 < (S0.take 158).length by decide +kernel)
  rintro _ rfl
  replace hcl := cl_I (a := 142) (k := 27) (v := (2 : Int32)) hcl
  refine ⟨hcl, by decide +kernel, ?_⟩
  intro s1 es1 m1 em1 b1 eb1
  rw [show (S0.take 158).length = 158 by decide +kernel] at em1 eb1
  subst em1
  subst eb1
  obtain rfl : s1 = S0.take 159 := es1.trans (by decide +kernel)
  replace hcl := cl_zr (S1 := S0.take 159) hcl (show (S0.take 158).length = 158 by decide +kernel) (by decide +kernel)
  rintro _ rfl
  replace hcl := cl_R (a := 142) (k := 35) hcl (show 158 < (S0.take 159).length by decide +kernel)
  refine ⟨hcl, by decide +kernel, ?_⟩
  intro s1 es1 m1 em1 b1 eb1
  rw [show (S0.take 159).length = 159 by decide +kernel] at em1 eb1
  subst em1
  subst eb1
  obtain rfl : s1 = S0.take 160 := es1.trans (by decide +kernel)
  replace hcl := cl_zr (S1 := S0.take 160) hcl (show (S0.take 159).length = 159 by decide +kernel) (by decide +kernel)
  rintro _ rfl
  replace hcl := cl_R (a := 142) (k := 36) hcl (show 159 < (S0.take 160).length by decide +kernel)
  refine ⟨hcl, by decide +kernel, ?_⟩
  intro s1 es1 m1 em1 b1 eb1
  rw [show (S0.take 160).length = 160 by decide +kernel] at em1 eb1
  subst em1
  subst eb1
  obtain rfl : s1 = S0.take 161 := es1.trans (by decide +kernel)
  replace hcl := cl_zr (S1 := S0.take 161) hcl (show (S0.take 160).length = 160 by decide +kernel) (by decide +kernel)
  rintro _ rfl
  replace hcl := cl_R (a := 142) (k := 38) hcl (show 160 < (S0.take 161).length by decide +kernel)
  refine ⟨hcl, by decide +kernel, ?_⟩
  intro s1 es1 m1 em1 b1 eb1
  rw [show (S0.take 161).length = 161 by decide +kernel] at em1 eb1
  subst em1
  subst eb1
  obtain rfl : s1 = S0.take 162 := es1.trans (by decide +kernel)
  replace hcl := cl_zr (S1 := S0.take 162) hcl (show (S0.take 161).length = 161 by decide +kernel) (by decide +kernel)
  rintro _ rfl
  replace hcl := cl_R (a := 142) (k := 39) hcl (show 161 < (S0.take 162).length by decide +kernel)
  refine ⟨hcl, by decide +kernel, ?_⟩
  intro s1 es1 m1 em1 b1 eb1
  rw [show (S0.take 162).length = 162 by decide +kernel] at em1 eb1
  subst em1
  subst eb1
  obtain rfl : s1 = S0.take 163 := es1.trans (by decide +kernel)
  replace hcl := cl_zr (S1 := S0.take 163) hcl (show (S0.take 162).length = 162 by decide +kernel) (by decide +kernel)
  rintro _ rfl
  replace hcl := cl_R (a := 142) (k := 40) hcl (show 162 < (S0.take 163).length by decide +kernel)
  refine ⟨hcl, by decide +kernel, ?_⟩
  intro s1 es1 m1 em1 b1 eb1
  rw [show (S0.take 163).length = 163 by decide +kernel] at em1 eb1
  subst em1
  subst eb1
  obtain rfl : s1 = S0.take 164 := es1.trans (by decide +kernel)
  replace hcl := cl_zr (S1 := S0.take 164) hcl (show (S0.take 163).length = 163 by decide +kernel) (by decide +kernel)
  rintro _ rfl
  replace hcl := cl_R (a := 142) (k := 41) hcl (show 163 < (S0.take 164).length by decide +kernel)
  refine ⟨hcl, by decide +kernel, ?_⟩
  intro s1 es1 m1 em1 b1 eb1
  rw [show (S0.take 164).length = 164 by decide +kernel] at em1 eb1
  subst em1
  subst eb1
  obtain rfl : s1 = S0.take 165 := es1.trans (by decide +kernel)
  replace hcl := cl_zr (S1 := S0.take 165) hcl (show (S0.take 164).length = 164 by decide +kernel) (by decide +kernel)
  rintro _ rfl
  replace hcl := cl_R (a := 142) (k := 42) hcl (show 164 < (S0.take 165).length by decide +kernel)
  refine ⟨hcl, by decide +kernel, ?_⟩
  intro s1 es1 m1 em1 b1 eb1
  rw [show (S0.take 165).length = 165 by decide +kernel] at em1 eb1
  subst em1
  subst eb1
  obtain rfl : s1 = S0.take 166 := es1.trans (by decide +kernel)
  replace hcl := cl_zr (S1 := S0.take 166) hcl (show (S0.take 165).length = 165 by decide +kernel) (by decide +kernel)
  rintro _ rfl
  replace hcl := cl_R (a := 142) (k := 43) hcl (show 165 < (S0.take 166).length by decide +kernel)
  refine ⟨hcl, by decide +kernel, ?_⟩
  intro s1 es1 m1 em1 b1 eb1
  rw [show (S0.take 166).length = 166 by decide +kernel] at em1 eb1
  subst em1
  subst eb1
  obtain rfl : s1 = S0.take 167 := es1.trans (by decide +kernel)
  replace hcl := cl_zr (S1 := S0.take 167) hcl (show (S0.take 166).length = 166 by decide +kernel) (by decide +kernel)
  rintro _ rfl
  replace hcl := cl_R (a := 142) (k := 53) hcl (show 166 < (S0.take 167).length by decide +kernel)
  refine ⟨hcl, by decide +kernel, ?_⟩
  intro s1 es1 m1 em1 b1 eb1
  rw [show (S0.take 167).length = 167 by decide +kernel] at em1 eb1
  subst em1
  subst eb1
  obtain rfl : s1 = S0.take 168 := es1.trans (by decide +kernel)
  replace hcl := cl_zr (S1 := S0.take 168) hcl (show (S0.take 167).length = 167 by decide +kernel) (by decide +kernel)
  rintro _ rfl
  replace hcl := cl_R (a := 142) (k := 54) hcl (show 167 < (S0.take 168).length by decide +kernel)
  refine ⟨hcl, by decide +kernel, ?_⟩
  intro s1 es1 m1 em1 b1 eb1
  rw [show (S0.take 168).length = 168 by decide +kernel] at em1 eb1
  subst em1
  subst eb1
  obtain rfl : s1 = S0.take 169 := es1.trans (by decide +kernel)
  replace hcl := cl_zr (S1 := S0.take 169) hcl (show (S0.take 168).length = 168 by decide +kernel) (by decide +kernel)
  rintro _ rfl
  replace hcl := cl_R (a := 142) (k := 55) hcl (show 168 < (S0.take 169).length by decide +kernel)
  refine ⟨hcl, by decide +kernel, ?_⟩
  intro s1 es1 m1 em1 b1 eb1
  rw [show (S0.take 169).length = 169 by decide +kernel] at em1 eb1
  subst em1
  subst eb1
  obtain rfl : s1 = S0.take 170 := es1.trans (by decide +kernel)
  replace hcl := cl_zr (S1 := S0.take 170) hcl (show (S0.take 169).length = 169 by decide +kernel) (by decide +kernel)
  rintro _ rfl
  replace hcl := cl_R (a := 142) (k := 56) hcl (show 169 < (S0.take 170).length by decide +kernel)
  refine ⟨hcl, by decide +kernel, ?_⟩
  intro s1 es1 m1 em1 b1 eb1
  rw [show (S0.take 170).length = 170 by decide +kernel] at em1 eb1
  subst em1
  subst eb1
  obtain rfl : s1 = S0.take 171 := es1.trans (by decide +kernel)
  replace hcl := cl_zr (S1 := S0.take 171) hcl (show (S0.take 170).length = 170 by decide +kernel) (by decide +kernel)
  rintro _ rfl
  replace hcl := cl_R (a := 142) (k := 57) hcl (show 170 < (S0.take 171).length by decide +kernel)
  refine ⟨hcl, by decide +kernel, ?_⟩
  intro s1 es1 m1 em1 b1 eb1
  rw [show (S0.take 171).length = 171 by decide +kernel] at em1 eb1
  subst em1
  subst eb1
  obtain rfl : s1 = S0.take 172 := es1.trans (by decide +kernel)
  replace hcl := cl_zr (S1 := S0.take 172) hcl (show (S0.take 171).length = 171 by decide +kernel) (by decide +kernel)
  refine ⟨10, by decide +kernel, by unfold vp_in; decide +kernel, ?_⟩
  rintro _ rfl
  replace hcl := cl_I (a := 171) (k := (0 : Int32).toNatClampNeg) (v := (1 : Int32)) hcl
  refine ⟨10, by decide +kernel, by unfold vp_in; decide +kernel, ?_⟩
  rintro _ rfl
  replace hcl := cl_I (a := 171) (k := (1 : Int32).toNatClampNeg) (v := (1 : Int32)) hcl
  refine ⟨10, by decide +kernel, by unfold vp_in; decide +kernel, ?_⟩
  rintro _ rfl
  replace hcl := cl_I (a := 171) (k := (2 : Int32).toNatClampNeg) (v := (1 : Int32)) hcl
  refine ⟨10, by decide +kernel, by unfold vp_in; decide +kernel, ?_⟩
  rintro _ rfl
  replace hcl := cl_I (a := 171) (k := (3 : Int32).toNatClampNeg) (v := (1 : Int32)) hcl
  refine ⟨10, by decide +kernel, by unfold vp_in; decide +kernel, ?_⟩
  rintro _ rfl
  replace hcl := cl_I (a := 171) (k := (4 : Int32).toNatClampNeg) (v := (1 : Int32)) hcl
  refine ⟨10, by decide +kernel, by unfold vp_in; decide +kernel, ?_⟩
  rintro _ rfl
  replace hcl := cl_I (a := 171) (k := (5 : Int32).toNatClampNeg) (v := (1 : Int32)) hcl
  refine ⟨10, by decide +kernel, by unfold vp_in; decide +kernel, ?_⟩
  rintro _ rfl
  replace hcl := cl_I (a := 171) (k := (6 : Int32).toNatClampNeg) (v := (1 : Int32)) hcl
  refine ⟨10, by decide +kernel, by unfold vp_in; decide +kernel, ?_⟩
  rintro _ rfl
  replace hcl := cl_I (a := 171) (k := (7 : Int32).toNatClampNeg) (v := (1 : Int32)) hcl
  refine ⟨10, by decide +kernel, by unfold vp_in; decide +kernel, ?_⟩
  rintro _ rfl
  replace hcl := cl_I (a := 171) (k := (8 : Int32).toNatClampNeg) (v := (1 : Int32)) hcl
  refine ⟨10, by decide +kernel, by unfold vp_in; decide +kernel, ?_⟩
  rintro _ rfl
  replace hcl := cl_I (a := 171) (k := (9 : Int32).toNatClampNeg) (v := (1 : Int32)) hcl
  rintro _ rfl
  replace hcl := cl_R (a := 142) (k := 58) hcl (show 171 < (S0.take 172).length by decide +kernel)
  refine ⟨hcl, by decide +kernel, ?_⟩
  intro s1 es1 m1 em1 b1 eb1
  rw [show (S0.take 172).length = 172 by decide +kernel] at em1 eb1
  subst em1
  subst eb1
  obtain rfl : s1 = S0.take 173 := es1.trans (by decide +kernel)
  replace hcl := cl_zr (S1 := S0.take 173) hcl (show (S0.take 172).length = 172 by decide +kernel) (by decide +kernel)
  rintro _ rfl
  replace hcl := cl_R (a := 142) (k := 59) hcl (show 172 < (S0.take 173).length by decide +kernel)
  refine ⟨hcl, by decide +kernel, ?_⟩
  intro s1 es1 m1 em1 b1 eb1
  rw [show (S0.take 173).length = 173 by decide +kernel] at em1 eb1
  subst em1
  subst eb1
  obtain rfl : s1 = S0.take 174 := es1.trans (by decide +kernel)
  replace hcl := cl_zr (S1 := S0.take 174) hcl (show (S0.take 173).length = 173 by decide +kernel) (by decide +kernel)
  rintro _ rfl
  replace hcl := cl_R (a := 142) (k := 61) hcl (show 173 < (S0.take 174).length by decide +kernel)
  refine ⟨hcl, by decide +kernel, ?_⟩
  intro s1 es1 m1 em1 b1 eb1
  rw [show (S0.take 174).length = 174 by decide +kernel] at em1 eb1
  subst em1
  subst eb1
  obtain rfl : s1 = S0.take 175 := es1.trans (by decide +kernel)
  replace hcl := cl_zr (S1 := S0.take 175) hcl (show (S0.take 174).length = 174 by decide +kernel) (by decide +kernel)
  rintro _ rfl
  replace hcl := cl_R (a := 142) (k := 67) hcl (show 174 < (S0.take 175).length by decide +kernel)
  refine ⟨hcl, by decide +kernel, ?_⟩
  intro s1 es1 m1 em1 b1 eb1
  rw [show (S0.take 175).length = 175 by decide +kernel] at em1 eb1
  subst em1
  subst eb1
  obtain rfl : s1 = S0.take 176 := es1.trans (by decide +kernel)
  replace hcl := cl_zr (S1 := S0.take 176) hcl (show (S0.take 175).length = 175 by decide +kernel) (by decide +kernel)
  rintro _ rfl
  replace hcl := cl_R (a := 142) (k := 68) hcl (show 175 < (S0.take 176).length by decide +kernel)
  refine ⟨hcl, by decide +kernel, ?_⟩
  intro s1 es1 m1 em1 b1 eb1
  rw [show (S0.take 176).length = 176 by decide +kernel] at em1 eb1
  subst em1
  subst eb1
  obtain rfl : s1 = S0.take 177 := es1.trans (by decide +kernel)
  replace hcl := cl_zr (S1 := S0.take 177) hcl (show (S0.take 176).length = 176 by decide +kernel) (by decide +kernel)
  rintro _ rfl
  replace hcl := cl_R (a := 142) (k := 69) hcl (show 176 < (S0.take 177).length by decide +kernel)
  refine ⟨hcl, by decide +kernel, ?_⟩
  intro s1 es1 m1 em1 b1 eb1
  rw [show (S0.take 177).length = 177 by decide +kernel] at em1 eb1
  subst em1
  subst eb1
  obtain rfl : s1 = S0.take 178 := es1.trans (by decide +kernel)
  replace hcl := cl_zr (S1 := S0.take 178) hcl (show (S0.take 177).length = 177 by decide +kernel) (by decide +kernel)
  rintro _ rfl
  replace hcl := cl_R (a := 142) (k := 71) hcl (show 177 < (S0.take 178).length by decide +kernel)
  refine ⟨hcl, by decide +kernel, ?_⟩
  intro s1 es1 m1 em1 b1 eb1
  rw [show (S0.take 178).length = 178 by decide +kernel] at em1 eb1
  subst em1
  subst eb1
  obtain rfl : s1 = S0.take 179 := es1.trans (by decide +kernel)
  replace hcl := cl_zr (S1 := S0.take 179) hcl (show (S0.take 178).length = 178 by decide +kernel) (by decide +kernel)
  rintro _ rfl
  replace hcl := cl_R (a := 142) (k := 72) hcl (show 178 < (S0.take 179).length by decide +kernel)
  refine ⟨hcl, by decide +kernel, ?_⟩
  intro s1 es1 m1 em1 b1 eb1
  rw [show (S0.take 179).length = 179 by decide +kernel] at em1 eb1
  subst em1
  subst eb1
  obtain rfl : s1 = S0.take 180 := es1.trans (by decide +kernel)
  replace hcl := cl_zr (S1 := S0.take 180) hcl (show (S0.take 179).length = 179 by decide +kernel) (by decide +kernel)
  rintro _ rfl
  replace hcl := cl_R (a := 142) (k := 73) hcl (show 179 < (S0.take 180).length by decide +kernel)
  refine ⟨hcl, by decide +kernel, ?_⟩
  intro s1 es1 m1 em1 b1 eb1
  rw [show (S0.take 180).length = 180 by decide +kernel] at em1 eb1
  subst em1
  subst eb1
  obtain rfl : s1 = S0.take 181 := es1.trans (by decide +kernel)
  replace hcl := cl_zr (S1 := S0.take 181) hcl (show (S0.take 180).length = 180 by decide +kernel) (by decide +kernel)
  rintro _ rfl
  replace hcl := cl_R (a := 142) (k := 75) hcl (show 180 < (S0.take 181).length by decide +kernel)
  refine ⟨hcl, by decide +kernel, ?_⟩
  intro s1 es1 m1 em1 b1 eb1
  rw [show (S0.take 181).length = 181 by decide +kernel] at em1 eb1
  subst em1
  subst eb1
  obtain rfl : s1 = S0.take 182 := es1.trans (by decide +kernel)
  replace hcl := cl_zr (S1 := S0.take 182) hcl (show (S0.take 181).length = 181 by decide +kernel) (by decide +kernel)
  rintro _ rfl
  replace hcl := cl_R (a := 142) (k := 76) hcl (show 181 < (S0.take 182).length by decide +kernel)
  refine ⟨hcl, by decide +kernel, ?_⟩
  intro s1 es1 m1 em1 b1 eb1
  rw [show (S0.take 182).length = 182 by decide +kernel] at em1 eb1
  subst em1
  subst eb1
  obtain rfl : s1 = S0.take 183 := es1.trans (by decide +kernel)
  replace hcl := cl_zr (S1 := S0.take 183) hcl (show (S0.take 182).length = 182 by decide +kernel) (by decide +kernel)
  rintro _ rfl
  replace hcl := cl_R (a := 142) (k := 77) hcl (show 182 < (S0.take 183).length by decide +kernel)
  refine ⟨hcl, by decide +kernel, ?_⟩
  intro s1 es1 m1 em1 b1 eb1
  rw [show (S0.take 183).length = 183 by decide +kernel] at em1 eb1
  subst em1
  subst eb1
  obtain rfl : s1 = S0.take 184 := es1.trans (by decide +kernel)
  replace hcl := cl_zr (S1 := S0.take 184) hcl (show (S0.take 183).length = 183 by decide +kernel) (by decide +kernel)
  rintro _ rfl
  replace hcl := cl_R (a := 142) (k := 78) hcl (show 183 < (S0.take 184).length by decide +kernel)
  refine ⟨hcl, by decide +kernel, ?_⟩
  intro s1 es1 m1 em1 b1 eb1
  rw [show (S0.take 184).length = 184 by decide +kernel] at em1 eb1
  subst em1
  subst eb1
  obtain rfl : s1 = S0.take 185 := es1.trans (by decide +kernel)
  replace hcl := cl_zr (S1 := S0.take 185) hcl (show (S0.take 184).length = 184 by decide +kernel) (by decide +kernel)
  rintro _ rfl
  replace hcl := cl_R (a := 142) (k := 79) hcl (show 184 < (S0.take 185).length by decide +kernel)
  refine ⟨hcl, by decide +kernel, ?_⟩
  intro s1 es1 m1 em1 b1 eb1
  rw [show (S0.take 185).length = 185 by decide +kernel] at em1 eb1
  subst em1
  subst eb1
  obtain rfl : s1 = S0.take 186 := es1.trans (by decide +kernel)
  replace hcl := cl_zr (S1 := S0.take 186) hcl (show (S0.take 185).length = 185 by decide +kernel) (by decide +kernel)
  rintro _ rfl
  replace hcl := cl_R (a := 142) (k := 80) hcl (show 185 < (S0.take 186).length by decide +kernel)
  refine ⟨hcl, by decide +kernel, ?_⟩
  intro s1 es1 m1 em1 b1 eb1
  rw [show (S0.take 186).length = 186 by decide +kernel] at em1 eb1
  subst em1
  subst eb1
  obtain rfl : s1 = S0.take 187 := es1.trans (by decide +kernel)
  replace hcl := cl_zr (S1 := S0.take 187) hcl (show (S0.take 186).length = 186 by decide +kernel) (by decide +kernel)
  rintro _ rfl
  replace hcl := cl_R (a := 142) (k := 81) hcl (show 186 < (S0.take 187).length by decide +kernel)
  refine ⟨hcl, by decide +kernel, ?_⟩
  intro s1 es1 m1 em1 b1 eb1
  rw [show (S0.take 187).length = 187 by decide +kernel] at em1 eb1
  subst em1
  subst eb1
  obtain rfl : s1 = S0.take 188 := es1.trans (by decide +kernel)
  replace hcl := cl_zr (S1 := S0.take 188) hcl (show (S0.take 187).length = 187 by decide +kernel) (by decide +kernel)
  rintro _ rfl
  replace hcl := cl_R (a := 142) (k := 82) hcl (show 187 < (S0.take 188).length by decide +kernel)
  refine ⟨hcl, by decide +kernel, ?_⟩
  intro s1 es1 m1 em1 b1 eb1
  rw [show (S0.take 188).length = 188 by decide +kernel] at em1 eb1
  subst em1
  subst eb1
  obtain rfl : s1 = S0.take 189 := es1.trans (by decide +kernel)
  replace hcl := cl_zr (S1 := S0.take 189) hcl (show (S0.take 188).length = 188 by decide +kernel) (by decide +kernel)
  rintro _ rfl
  replace hcl := cl_R (a := 142) (k := 83) hcl (show 188 < (S0.take 189).length by decide +kernel)
  refine ⟨hcl, by decide +kernel, ?_⟩
  intro s1 es1 m1 em1 b1 eb1
  rw [show (S0.take 189).length = 189 by decide +kernel] at em1 eb1
  subst em1
  subst eb1
  obtain rfl : s1 = S0.take 190 := es1.trans (by decide +kernel)
  replace hcl := cl_zr (S1 := S0.take 190) hcl (show (S0.take 189).length = 189 by decide +kernel) (by decide +kernel)
  rintro _ rfl
  replace hcl := cl_R (a := 142) (k := 84) hcl (show 189 < (S0.take 190).length by decide +kernel)
  refine ⟨hcl, by decide +kernel, ?_⟩
  intro s1 es1 m1 em1 b1 eb1
  rw [show (S0.take 190).length = 190 by decide +kernel] at em1 eb1
  subst em1
  subst eb1
  obtain rfl : s1 = S0.take 191 := es1.trans (by decide +kernel)
  replace hcl := cl_zr (S1 := S0.take 191) hcl (show (S0.take 190).length = 190 by decide +kernel) (by decide +kernel)
  rintro _ rfl
  replace hcl := cl_R (a := 142) (k := 85) hcl (show 190 < (S0.take 191).length by decide +kernel)
  intro _
  refine ⟨hcl, by decide +kernel, ?_⟩
  intro s1 es1 m1 em1 b1 eb1
  rw [show (S0.take 191).length = 191 by decide +kernel] at em1 eb1
  subst em1
  subst eb1
  obtain rfl : s1 = S0.take 192 := es1.trans (by decide +kernel)
  replace hcl := cl_zr (S1 := S0.take 192) hcl (show (S0.take 191).length = 191 by decide +kernel) (by decide +kernel)
  exact h
