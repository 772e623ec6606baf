set_option maxRecDepth 100000 in
def fins : List (Nat × Nat × Nat) := [(0, 0, 1), (0, 1, 10), (0, 2, 11), (0, 3, 113), (0, 4, 114), (0, 5, 115), (0, 6, 116), (0, 7, 118), (0, 8, 121), (0, 9, 130), (0, 10, 131), (0, 11, 132), (1, 0, 2), (1, 4, 3), (4, 0, 5), (4, 1, 6), (4, 2, 7), (4, 3, 8), (4, 4, 9), (10, 0, 11), (10, 1, 104), (10, 2, 105), (10, 3, 106), (10, 4, 107), (10, 5, 108), (10, 6, 109), (10, 7, 110), (11, 0, 12), (11, 1, 13), (11, 2, 14), (11, 3, 15), (11, 4, 16), (11, 5, 17), (11, 6, 18), (11, 7, 19), (20, 0, 21), (20, 1, 22), (20, 2, 23), (20, 3, 24), (20, 4, 25), (26, 0, 27), (26, 1, 28), (26, 2, 29), (26, 3, 30), (26, 4, 31), (32, 0, 33), (32, 1, 34), (32, 2, 35), (32, 3, 36), (32, 4, 37), (38, 0, 39), (38, 1, 40), (38, 2, 41), (38, 3, 42), (38, 4, 43), (44, 0, 45), (44, 1, 46), (44, 2, 47), (44, 3, 48), (44, 4, 49), (50, 0, 51), (50, 1, 52), (50, 2, 53), (50, 3, 54), (50, 4, 55), (56, 0, 57), (56, 1, 58), (56, 2, 59), (56, 3, 60), (56, 4, 61), (62, 0, 63), (62, 1, 64), (62, 2, 65), (62, 3, 66), (62, 4, 67), (68, 0, 69), (68, 1, 70), (68, 2, 71), (68, 3, 72), (68, 4, 73), (74, 0, 75), (74, 1, 76), (74, 2, 77), (74, 3, 78), (74, 4, 79), (80, 0, 81), (80, 1, 82), (80, 2, 83), (80, 3, 84), (80, 4, 85), (86, 0, 87), (86, 1, 88), (86, 2, 89), (86, 3, 90), (86, 4, 91), (92, 0, 93), (92, 1, 94), (92, 2, 95), (92, 3, 96), (92, 4, 97), (98, 0, 99), (98, 1, 100), (98, 2, 101), (98, 3, 102), (98, 4, 103), (116, 0, 117), (118, 0, 119), (118, 1, 120), (121, 0, 122), (121, 1, 123), (121, 2, 124), (121, 3, 125), (121, 4, 126), (121, 5, 127), (121, 6, 128), (121, 7, 129), (133, 0, 134), (133, 1, 135), (136, 0, 137), (136, 1, 138), (139, 0, 140), (139, 1, 141), (142, 2, 143), (142, 3, 144), (142, 9, 145), (142, 10, 146), (142, 11, 147), (142, 12, 148), (142, 14, 149), (142, 16, 150), (142, 17, 151), (142, 18, 152), (142, 22, 153), (142, 23, 154), (142, 24, 155), (142, 25, 156), (142, 26, 157), (142, 35, 158), (142, 36, 159), (142, 38, 160), (142, 39, 161), (142, 40, 162), (142, 41, 163), (142, 42, 164), (142, 43, 165), (142, 53, 166), (142, 54, 167), (142, 55, 168), (142, 56, 169), (142, 57, 170), (142, 58, 171), (142, 59, 172), (142, 61, 173), (142, 67, 174), (142, 68, 175), (142, 69, 176), (142, 71, 177), (142, 72, 178), (142, 73, 179), (142, 75, 180), (142, 76, 181), (142, 77, 182), (142, 78, 183), (142, 79, 184), (142, 80, 185), (142, 81, 186), (142, 82, 187), (142, 83, 188), (142, 84, 189), (142, 85, 190), (130, 0, 133), (130, 1, 136), (130, 2, 139)]
/-- the references that never change -/
def FX (M : Mm) : Prop := ∀ q ∈ fins, M.2.2 q.1 q.2.1 = some q.2.2
set_option maxRecDepth 100000 in
theorem fx_Mi : FX Mi := by unfold FX; decide +kernel
theorem fx_0_0 {M : Mm} (h : FX M) : M.2.2 0 0 = some 1 := h (0, 0, 1) (by decide +kernel)
theorem fx_0_1 {M : Mm} (h : FX M) : M.2.2 0 1 = some 10 := h (0, 1, 10) (by decide +kernel)
theorem fx_0_2 {M : Mm} (h : FX M) : M.2.2 0 2 = some 11 := h (0, 2, 11) (by decide +kernel)
theorem fx_0_3 {M : Mm} (h : FX M) : M.2.2 0 3 = some 113 := h (0, 3, 113) (by decide +kernel)
theorem fx_0_4 {M : Mm} (h : FX M) : M.2.2 0 4 = some 114 := h (0, 4, 114) (by decide +kernel)
theorem fx_0_5 {M : Mm} (h : FX M) : M.2.2 0 5 = some 115 := h (0, 5, 115) (by decide +kernel)
theorem fx_0_6 {M : Mm} (h : FX M) : M.2.2 0 6 = some 116 := h (0, 6, 116) (by decide +kernel)
theorem fx_0_7 {M : Mm} (h : FX M) : M.2.2 0 7 = some 118 := h (0, 7, 118) (by decide +kernel)
theorem fx_0_8 {M : Mm} (h : FX M) : M.2.2 0 8 = some 121 := h (0, 8, 121) (by decide +kernel)
theorem fx_0_9 {M : Mm} (h : FX M) : M.2.2 0 9 = some 130 := h (0, 9, 130) (by decide +kernel)
theorem fx_0_10 {M : Mm} (h : FX M) : M.2.2 0 10 = some 131 := h (0, 10, 131) (by decide +kernel)
theorem fx_0_11 {M : Mm} (h : FX M) : M.2.2 0 11 = some 132 := h (0, 11, 132) (by decide +kernel)
theorem fx_1_0 {M : Mm} (h : FX M) : M.2.2 1 0 = some 2 := h (1, 0, 2) (by decide +kernel)
theorem fx_1_4 {M : Mm} (h : FX M) : M.2.2 1 4 = some 3 := h (1, 4, 3) (by decide +kernel)
theorem fx_4_0 {M : Mm} (h : FX M) : M.2.2 4 0 = some 5 := h (4, 0, 5) (by decide +kernel)
theorem fx_4_1 {M : Mm} (h : FX M) : M.2.2 4 1 = some 6 := h (4, 1, 6) (by decide +kernel)
theorem fx_4_2 {M : Mm} (h : FX M) : M.2.2 4 2 = some 7 := h (4, 2, 7) (by decide +kernel)
theorem fx_4_3 {M : Mm} (h : FX M) : M.2.2 4 3 = some 8 := h (4, 3, 8) (by decide +kernel)
theorem fx_4_4 {M : Mm} (h : FX M) : M.2.2 4 4 = some 9 := h (4, 4, 9) (by decide +kernel)
theorem fx_10_0 {M : Mm} (h : FX M) : M.2.2 10 0 = some 11 := h (10, 0, 11) (by decide +kernel)
theorem fx_10_1 {M : Mm} (h : FX M) : M.2.2 10 1 = some 104 := h (10, 1, 104) (by decide +kernel)
theorem fx_10_2 {M : Mm} (h : FX M) : M.2.2 10 2 = some 105 := h (10, 2, 105) (by decide +kernel)
theorem fx_10_3 {M : Mm} (h : FX M) : M.2.2 10 3 = some 106 := h (10, 3, 106) (by decide +kernel)
theorem fx_10_4 {M : Mm} (h : FX M) : M.2.2 10 4 = some 107 := h (10, 4, 107) (by decide +kernel)
theorem fx_10_5 {M : Mm} (h : FX M) : M.2.2 10 5 = some 108 := h (10, 5, 108) (by decide +kernel)
theorem fx_10_6 {M : Mm} (h : FX M) : M.2.2 10 6 = some 109 := h (10, 6, 109) (by decide +kernel)
theorem fx_10_7 {M : Mm} (h : FX M) : M.2.2 10 7 = some 110 := h (10, 7, 110) (by decide +kernel)
theorem fx_11_0 {M : Mm} (h : FX M) : M.2.2 11 0 = some 12 := h (11, 0, 12) (by decide +kernel)
theorem fx_11_1 {M : Mm} (h : FX M) : M.2.2 11 1 = some 13 := h (11, 1, 13) (by decide +kernel)
theorem fx_11_2 {M : Mm} (h : FX M) : M.2.2 11 2 = some 14 := h (11, 2, 14) (by decide +kernel)
theorem fx_11_3 {M : Mm} (h : FX M) : M.2.2 11 3 = some 15 := h (11, 3, 15) (by decide +kernel)
theorem fx_11_4 {M : Mm} (h : FX M) : M.2.2 11 4 = some 16 := h (11, 4, 16) (by decide +kernel)
theorem fx_11_5 {M : Mm} (h : FX M) : M.2.2 11 5 = some 17 := h (11, 5, 17) (by decide +kernel)
theorem fx_11_6 {M : Mm} (h : FX M) : M.2.2 11 6 = some 18 := h (11, 6, 18) (by decide +kernel)
theorem fx_11_7 {M : Mm} (h : FX M) : M.2.2 11 7 = some 19 := h (11, 7, 19) (by decide +kernel)
theorem fx_20_0 {M : Mm} (h : FX M) : M.2.2 20 0 = some 21 := h (20, 0, 21) (by decide +kernel)
theorem fx_20_1 {M : Mm} (h : FX M) : M.2.2 20 1 = some 22 := h (20, 1, 22) (by decide +kernel)
theorem fx_20_2 {M : Mm} (h : FX M) : M.2.2 20 2 = some 23 := h (20, 2, 23) (by decide +kernel)
theorem fx_20_3 {M : Mm} (h : FX M) : M.2.2 20 3 = some 24 := h (20, 3, 24) (by decide +kernel)
theorem fx_20_4 {M : Mm} (h : FX M) : M.2.2 20 4 = some 25 := h (20, 4, 25) (by decide +kernel)
theorem fx_26_0 {M : Mm} (h : FX M) : M.2.2 26 0 = some 27 := h (26, 0, 27) (by decide +kernel)
theorem fx_26_1 {M : Mm} (h : FX M) : M.2.2 26 1 = some 28 := h (26, 1, 28) (by decide +kernel)
theorem fx_26_2 {M : Mm} (h : FX M) : M.2.2 26 2 = some 29 := h (26, 2, 29) (by decide +kernel)
theorem fx_26_3 {M : Mm} (h : FX M) : M.2.2 26 3 = some 30 := h (26, 3, 30) (by decide +kernel)
theorem fx_26_4 {M : Mm} (h : FX M) : M.2.2 26 4 = some 31 := h (26, 4, 31) (by decide +kernel)
theorem fx_32_0 {M : Mm} (h : FX M) : M.2.2 32 0 = some 33 := h (32, 0, 33) (by decide +kernel)
theorem fx_32_1 {M : Mm} (h : FX M) : M.2.2 32 1 = some 34 := h (32, 1, 34) (by decide +kernel)
theorem fx_32_2 {M : Mm} (h : FX M) : M.2.2 32 2 = some 35 := h (32, 2, 35) (by decide +kernel)
theorem fx_32_3 {M : Mm} (h : FX M) : M.2.2 32 3 = some 36 := h (32, 3, 36) (by decide +kernel)
theorem fx_32_4 {M : Mm} (h : FX M) : M.2.2 32 4 = some 37 := h (32, 4, 37) (by decide +kernel)
theorem fx_38_0 {M : Mm} (h : FX M) : M.2.2 38 0 = some 39 := h (38, 0, 39) (by decide +kernel)
theorem fx_38_1 {M : Mm} (h : FX M) : M.2.2 38 1 = some 40 := h (38, 1, 40) (by decide +kernel)
theorem fx_38_2 {M : Mm} (h : FX M) : M.2.2 38 2 = some 41 := h (38, 2, 41) (by decide +kernel)
theorem fx_38_3 {M : Mm} (h : FX M) : M.2.2 38 3 = some 42 := h (38, 3, 42) (by decide +kernel)
theorem fx_38_4 {M : Mm} (h : FX M) : M.2.2 38 4 = some 43 := h (38, 4, 43) (by decide +kernel)
theorem fx_44_0 {M : Mm} (h : FX M) : M.2.2 44 0 = some 45 := h (44, 0, 45) (by decide +kernel)
theorem fx_44_1 {M : Mm} (h : FX M) : M.2.2 44 1 = some 46 := h (44, 1, 46) (by decide +kernel)
theorem fx_44_2 {M : Mm} (h : FX M) : M.2.2 44 2 = some 47 := h (44, 2, 47) (by decide +kernel)
theorem fx_44_3 {M : Mm} (h : FX M) : M.2.2 44 3 = some 48 := h (44, 3, 48) (by decide +kernel)
theorem fx_44_4 {M : Mm} (h : FX M) : M.2.2 44 4 = some 49 := h (44, 4, 49) (by decide +kernel)
theorem fx_50_0 {M : Mm} (h : FX M) : M.2.2 50 0 = some 51 := h (50, 0, 51) (by decide +kernel)
theorem fx_50_1 {M : Mm} (h : FX M) : M.2.2 50 1 = some 52 := h (50, 1, 52) (by decide +kernel)
theorem fx_50_2 {M : Mm} (h : FX M) : M.2.2 50 2 = some 53 := h (50, 2, 53) (by decide +kernel)
theorem fx_50_3 {M : Mm} (h : FX M) : M.2.2 50 3 = some 54 := h (50, 3, 54) (by decide +kernel)
theorem fx_50_4 {M : Mm} (h : FX M) : M.2.2 50 4 = some 55 := h (50, 4, 55) (by decide +kernel)
theorem fx_56_0 {M : Mm} (h : FX M) : M.2.2 56 0 = some 57 := h (56, 0, 57) (by decide +kernel)
theorem fx_56_1 {M : Mm} (h : FX M) : M.2.2 56 1 = some 58 := h (56, 1, 58) (by decide +kernel)
theorem fx_56_2 {M : Mm} (h : FX M) : M.2.2 56 2 = some 59 := h (56, 2, 59) (by decide +kernel)
theorem fx_56_3 {M : Mm} (h : FX M) : M.2.2 56 3 = some 60 := h (56, 3, 60) (by decide +kernel)
theorem fx_56_4 {M : Mm} (h : FX M) : M.2.2 56 4 = some 61 := h (56, 4, 61) (by decide +kernel)
theorem fx_62_0 {M : Mm} (h : FX M) : M.2.2 62 0 = some 63 := h (62, 0, 63) (by decide +kernel)
theorem fx_62_1 {M : Mm} (h : FX M) : M.2.2 62 1 = some 64 := h (62, 1, 64) (by decide +kernel)
theorem fx_62_2 {M : Mm} (h : FX M) : M.2.2 62 2 = some 65 := h (62, 2, 65) (by decide +kernel)
theorem fx_62_3 {M : Mm} (h : FX M) : M.2.2 62 3 = some 66 := h (62, 3, 66) (by decide +kernel)
theorem fx_62_4 {M : Mm} (h : FX M) : M.2.2 62 4 = some 67 := h (62, 4, 67) (by decide +kernel)
theorem fx_68_0 {M : Mm} (h : FX M) : M.2.2 68 0 = some 69 := h (68, 0, 69) (by decide +kernel)
theorem fx_68_1 {M : Mm} (h : FX M) : M.2.2 68 1 = some 70 := h (68, 1, 70) (by decide +kernel)
theorem fx_68_2 {M : Mm} (h : FX M) : M.2.2 68 2 = some 71 := h (68, 2, 71) (by decide +kernel)
theorem fx_68_3 {M : Mm} (h : FX M) : M.2.2 68 3 = some 72 := h (68, 3, 72) (by decide +kernel)
theorem fx_68_4 {M : Mm} (h : FX M) : M.2.2 68 4 = some 73 := h (68, 4, 73) (by decide +kernel)
theorem fx_74_0 {M : Mm} (h : FX M) : M.2.2 74 0 = some 75 := h (74, 0, 75) (by decide +kernel)
theorem fx_74_1 {M : Mm} (h : FX M) : M.2.2 74 1 = some 76 := h (74, 1, 76) (by decide +kernel)
theorem fx_74_2 {M : Mm} (h : FX M) : M.2.2 74 2 = some 77 := h (74, 2, 77) (by decide +kernel)
theorem fx_74_3 {M : Mm} (h : FX M) : M.2.2 74 3 = some 78 := h (74, 3, 78) (by decide +kernel)
theorem fx_74_4 {M : Mm} (h : FX M) : M.2.2 74 4 = some 79 := h (74, 4, 79) (by decide +kernel)
theorem fx_80_0 {M : Mm} (h : FX M) : M.2.2 80 0 = some 81 := h (80, 0, 81) (by decide +kernel)
theorem fx_80_1 {M : Mm} (h : FX M) : M.2.2 80 1 = some 82 := h (80, 1, 82) (by decide +kernel)
theorem fx_80_2 {M : Mm} (h : FX M) : M.2.2 80 2 = some 83 := h (80, 2, 83) (by decide +kernel)
theorem fx_80_3 {M : Mm} (h : FX M) : M.2.2 80 3 = some 84 := h (80, 3, 84) (by decide +kernel)
theorem fx_80_4 {M : Mm} (h : FX M) : M.2.2 80 4 = some 85 := h (80, 4, 85) (by decide +kernel)
theorem fx_86_0 {M : Mm} (h : FX M) : M.2.2 86 0 = some 87 := h (86, 0, 87) (by decide +kernel)
theorem fx_86_1 {M : Mm} (h : FX M) : M.2.2 86 1 = some 88 := h (86, 1, 88) (by decide +kernel)
theorem fx_86_2 {M : Mm} (h : FX M) : M.2.2 86 2 = some 89 := h (86, 2, 89) (by decide +kernel)
theorem fx_86_3 {M : Mm} (h : FX M) : M.2.2 86 3 = some 90 := h (86, 3, 90) (by decide +kernel)
theorem fx_86_4 {M : Mm} (h : FX M) : M.2.2 86 4 = some 91 := h (86, 4, 91) (by decide +kernel)
theorem fx_92_0 {M : Mm} (h : FX M) : M.2.2 92 0 = some 93 := h (92, 0, 93) (by decide +kernel)
theorem fx_92_1 {M : Mm} (h : FX M) : M.2.2 92 1 = some 94 := h (92, 1, 94) (by decide +kernel)
theorem fx_92_2 {M : Mm} (h : FX M) : M.2.2 92 2 = some 95 := h (92, 2, 95) (by decide +kernel)
theorem fx_92_3 {M : Mm} (h : FX M) : M.2.2 92 3 = some 96 := h (92, 3, 96) (by decide +kernel)
theorem fx_92_4 {M : Mm} (h : FX M) : M.2.2 92 4 = some 97 := h (92, 4, 97) (by decide +kernel)
theorem fx_98_0 {M : Mm} (h : FX M) : M.2.2 98 0 = some 99 := h (98, 0, 99) (by decide +kernel)
theorem fx_98_1 {M : Mm} (h : FX M) : M.2.2 98 1 = some 100 := h (98, 1, 100) (by decide +kernel)
theorem fx_98_2 {M : Mm} (h : FX M) : M.2.2 98 2 = some 101 := h (98, 2, 101) (by decide +kernel)
theorem fx_98_3 {M : Mm} (h : FX M) : M.2.2 98 3 = some 102 := h (98, 3, 102) (by decide +kernel)
theorem fx_98_4 {M : Mm} (h : FX M) : M.2.2 98 4 = some 103 := h (98, 4, 103) (by decide +kernel)
theorem fx_116_0 {M : Mm} (h : FX M) : M.2.2 116 0 = some 117 := h (116, 0, 117) (by decide +kernel)
theorem fx_118_0 {M : Mm} (h : FX M) : M.2.2 118 0 = some 119 := h (118, 0, 119) (by decide +kernel)
theorem fx_118_1 {M : Mm} (h : FX M) : M.2.2 118 1 = some 120 := h (118, 1, 120) (by decide +kernel)
theorem fx_121_0 {M : Mm} (h : FX M) : M.2.2 121 0 = some 122 := h (121, 0, 122) (by decide +kernel)
theorem fx_121_1 {M : Mm} (h : FX M) : M.2.2 121 1 = some 123 := h (121, 1, 123) (by decide +kernel)
theorem fx_121_2 {M : Mm} (h : FX M) : M.2.2 121 2 = some 124 := h (121, 2, 124) (by decide +kernel)
theorem fx_121_3 {M : Mm} (h : FX M) : M.2.2 121 3 = some 125 := h (121, 3, 125) (by decide +kernel)
theorem fx_121_4 {M : Mm} (h : FX M) : M.2.2 121 4 = some 126 := h (121, 4, 126) (by decide +kernel)
theorem fx_121_5 {M : Mm} (h : FX M) : M.2.2 121 5 = some 127 := h (121, 5, 127) (by decide +kernel)
theorem fx_121_6 {M : Mm} (h : FX M) : M.2.2 121 6 = some 128 := h (121, 6, 128) (by decide +kernel)
theorem fx_121_7 {M : Mm} (h : FX M) : M.2.2 121 7 = some 129 := h (121, 7, 129) (by decide +kernel)
theorem fx_133_0 {M : Mm} (h : FX M) : M.2.2 133 0 = some 134 := h (133, 0, 134) (by decide +kernel)
theorem fx_133_1 {M : Mm} (h : FX M) : M.2.2 133 1 = some 135 := h (133, 1, 135) (by decide +kernel)
theorem fx_136_0 {M : Mm} (h : FX M) : M.2.2 136 0 = some 137 := h (136, 0, 137) (by decide +kernel)
theorem fx_136_1 {M : Mm} (h : FX M) : M.2.2 136 1 = some 138 := h (136, 1, 138) (by decide +kernel)
theorem fx_139_0 {M : Mm} (h : FX M) : M.2.2 139 0 = some 140 := h (139, 0, 140) (by decide +kernel)
theorem fx_139_1 {M : Mm} (h : FX M) : M.2.2 139 1 = some 141 := h (139, 1, 141) (by decide +kernel)
theorem fx_142_2 {M : Mm} (h : FX M) : M.2.2 142 2 = some 143 := h (142, 2, 143) (by decide +kernel)
theorem fx_142_3 {M : Mm} (h : FX M) : M.2.2 142 3 = some 144 := h (142, 3, 144) (by decide +kernel)
theorem fx_142_9 {M : Mm} (h : FX M) : M.2.2 142 9 = some 145 := h (142, 9, 145) (by decide +kernel)
theorem fx_142_10 {M : Mm} (h : FX M) : M.2.2 142 10 = some 146 := h (142, 10, 146) (by decide +kernel)
theorem fx_142_11 {M : Mm} (h : FX M) : M.2.2 142 11 = some 147 := h (142, 11, 147) (by decide +kernel)
theorem fx_142_12 {M : Mm} (h : FX M) : M.2.2 142 12 = some 148 := h (142, 12, 148) (by decide +kernel)
theorem fx_142_14 {M : Mm} (h : FX M) : M.2.2 142 14 = some 149 := h (142, 14, 149) (by decide +kernel)
theorem fx_142_16 {M : Mm} (h : FX M) : M.2.2 142 16 = some 150 := h (142, 16, 150) (by decide +kernel)
theorem fx_142_17 {M : Mm} (h : FX M) : M.2.2 142 17 = some 151 := h (142, 17, 151) (by decide +kernel)
theorem fx_142_18 {M : Mm} (h : FX M) : M.2.2 142 18 = some 152 := h (142, 18, 152) (by decide +kernel)
theorem fx_142_22 {M : Mm} (h : FX M) : M.2.2 142 22 = some 153 := h (142, 22, 153) (by decide +kernel)
theorem fx_142_23 {M : Mm} (h : FX M) : M.2.2 142 23 = some 154 := h (142, 23, 154) (by decide +kernel)
theorem fx_142_24 {M : Mm} (h : FX M) : M.2.2 142 24 = some 155 := h (142, 24, 155) (by decide +kernel)
theorem fx_142_25 {M : Mm} (h : FX M) : M.2.2 142 25 = some 156 := h (142, 25, 156) (by decide +kernel)
theorem fx_142_26 {M : Mm} (h : FX M) : M.2.2 142 26 = some 157 := h (142, 26, 157) (by decide +kernel)
theorem fx_142_35 {M : Mm} (h : FX M) : M.2.2 142 35 = some 158 := h (142, 35, 158) (by decide +kernel)
theorem fx_142_36 {M : Mm} (h : FX M) : M.2.2 142 36 = some 159 := h (142, 36, 159) (by decide +kernel)
theorem fx_142_38 {M : Mm} (h : FX M) : M.2.2 142 38 = some 160 := h (142, 38, 160) (by decide +kernel)
theorem fx_142_39 {M : Mm} (h : FX M) : M.2.2 142 39 = some 161 := h (142, 39, 161) (by decide +kernel)
theorem fx_142_40 {M : Mm} (h : FX M) : M.2.2 142 40 = some 162 := h (142, 40, 162) (by decide +kernel)
theorem fx_142_41 {M : Mm} (h : FX M) : M.2.2 142 41 = some 163 := h (142, 41, 163) (by decide +kernel)
theorem fx_142_42 {M : Mm} (h : FX M) : M.2.2 142 42 = some 164 := h (142, 42, 164) (by decide +kernel)
theorem fx_142_43 {M : Mm} (h : FX M) : M.2.2 142 43 = some 165 := h (142, 43, 165) (by decide +kernel)
theorem fx_142_53 {M : Mm} (h : FX M) : M.2.2 142 53 = some 166 := h (142, 53, 166) (by decide +kernel)
theorem fx_142_54 {M : Mm} (h : FX M) : M.2.2 142 54 = some 167 := h (142, 54, 167) (by decide +kernel)
theorem fx_142_55 {M : Mm} (h : FX M) : M.2.2 142 55 = some 168 := h (142, 55, 168) (by decide +kernel)
theorem fx_142_56 {M : Mm} (h : FX M) : M.2.2 142 56 = some 169 := h (142, 56, 169) (by decide +kernel)
theorem fx_142_57 {M : Mm} (h : FX M) : M.2.2 142 57 = some 170 := h (142, 57, 170) (by decide +kernel)
theorem fx_142_58 {M : Mm} (h : FX M) : M.2.2 142 58 = some 171 := h (142, 58, 171) (by decide +kernel)
theorem fx_142_59 {M : Mm} (h : FX M) : M.2.2 142 59 = some 172 := h (142, 59, 172) (by decide +kernel)
theorem fx_142_61 {M : Mm} (h : FX M) : M.2.2 142 61 = some 173 := h (142, 61, 173) (by decide +kernel)
theorem fx_142_67 {M : Mm} (h : FX M) : M.2.2 142 67 = some 174 := h (142, 67, 174) (by decide +kernel)
theorem fx_142_68 {M : Mm} (h : FX M) : M.2.2 142 68 = some 175 := h (142, 68, 175) (by decide +kernel)
theorem fx_142_69 {M : Mm} (h : FX M) : M.2.2 142 69 = some 176 := h (142, 69, 176) (by decide +kernel)
theorem fx_142_71 {M : Mm} (h : FX M) : M.2.2 142 71 = some 177 := h (142, 71, 177) (by decide +kernel)
theorem fx_142_72 {M : Mm} (h : FX M) : M.2.2 142 72 = some 178 := h (142, 72, 178) (by decide +kernel)
theorem fx_142_73 {M : Mm} (h : FX M) : M.2.2 142 73 = some 179 := h (142, 73, 179) (by decide +kernel)
theorem fx_142_75 {M : Mm} (h : FX M) : M.2.2 142 75 = some 180 := h (142, 75, 180) (by decide +kernel)
theorem fx_142_76 {M : Mm} (h : FX M) : M.2.2 142 76 = some 181 := h (142, 76, 181) (by decide +kernel)
theorem fx_142_77 {M : Mm} (h : FX M) : M.2.2 142 77 = some 182 := h (142, 77, 182) (by decide +kernel)
theorem fx_142_78 {M : Mm} (h : FX M) : M.2.2 142 78 = some 183 := h (142, 78, 183) (by decide +kernel)
theorem fx_142_79 {M : Mm} (h : FX M) : M.2.2 142 79 = some 184 := h (142, 79, 184) (by decide +kernel)
theorem fx_142_80 {M : Mm} (h : FX M) : M.2.2 142 80 = some 185 := h (142, 80, 185) (by decide +kernel)
theorem fx_142_81 {M : Mm} (h : FX M) : M.2.2 142 81 = some 186 := h (142, 81, 186) (by decide +kernel)
theorem fx_142_82 {M : Mm} (h : FX M) : M.2.2 142 82 = some 187 := h (142, 82, 187) (by decide +kernel)
theorem fx_142_83 {M : Mm} (h : FX M) : M.2.2 142 83 = some 188 := h (142, 83, 188) (by decide +kernel)
theorem fx_142_84 {M : Mm} (h : FX M) : M.2.2 142 84 = some 189 := h (142, 84, 189) (by decide +kernel)
theorem fx_142_85 {M : Mm} (h : FX M) : M.2.2 142 85 = some 190 := h (142, 85, 190) (by decide +kernel)
theorem fx_130_0 {M : Mm} (h : FX M) : M.2.2 130 0 = some 133 := h (130, 0, 133) (by decide +kernel)
theorem fx_130_1 {M : Mm} (h : FX M) : M.2.2 130 1 = some 136 := h (130, 1, 136) (by decide +kernel)
theorem fx_130_2 {M : Mm} (h : FX M) : M.2.2 130 2 = some 139 := h (130, 2, 139) (by decide +kernel)
theorem s0_0 : S0[0]? = some (9, 0) := by decide +kernel
theorem s0_1 : S0[1]? = some (5, 0) := by decide +kernel
theorem s0_2 : S0[2]? = some (51, 100) := by decide +kernel
theorem s0_3 : S0[3]? = some (50, 60) := by decide +kernel
theorem s0_4 : S0[4]? = some (4, 0) := by decide +kernel
theorem s0_5 : S0[5]? = some (51, 60) := by decide +kernel
theorem s0_6 : S0[6]? = some (50, 16) := by decide +kernel
theorem s0_7 : S0[7]? = some (50, 16) := by decide +kernel
theorem s0_8 : S0[8]? = some (50, 17) := by decide +kernel
theorem s0_9 : S0[9]? = some (50, 60) := by decide +kernel
theorem s0_10 : S0[10]? = some (8, 0) := by decide +kernel
theorem s0_11 : S0[11]? = some (2, 0) := by decide +kernel
theorem s0_12 : S0[12]? = some (55, 4) := by decide +kernel
theorem s0_13 : S0[13]? = some (55, 3) := by decide +kernel
theorem s0_14 : S0[14]? = some (55, 5) := by decide +kernel
theorem s0_15 : S0[15]? = some (50, 5) := by decide +kernel
theorem s0_16 : S0[16]? = some (50, 5) := by decide +kernel
theorem s0_17 : S0[17]? = some (55, 64) := by decide +kernel
theorem s0_18 : S0[18]? = some (50, 4) := by decide +kernel
theorem s0_19 : S0[19]? = some (50, 64) := by decide +kernel
theorem s0_20 : S0[20]? = some (4, 0) := by decide +kernel
theorem s0_21 : S0[21]? = some (51, 60) := by decide +kernel
theorem s0_22 : S0[22]? = some (50, 16) := by decide +kernel
theorem s0_23 : S0[23]? = some (50, 16) := by decide +kernel
theorem s0_24 : S0[24]? = some (50, 17) := by decide +kernel
theorem s0_25 : S0[25]? = some (50, 60) := by decide +kernel
theorem s0_26 : S0[26]? = some (4, 0) := by decide +kernel
theorem s0_27 : S0[27]? = some (51, 60) := by decide +kernel
theorem s0_28 : S0[28]? = some (50, 16) := by decide +kernel
theorem s0_29 : S0[29]? = some (50, 16) := by decide +kernel
theorem s0_30 : S0[30]? = some (50, 17) := by decide +kernel
theorem s0_31 : S0[31]? = some (50, 60) := by decide +kernel
theorem s0_32 : S0[32]? = some (4, 0) := by decide +kernel
theorem s0_33 : S0[33]? = some (51, 60) := by decide +kernel
theorem s0_34 : S0[34]? = some (50, 16) := by decide +kernel
theorem s0_35 : S0[35]? = some (50, 16) := by decide +kernel
theorem s0_36 : S0[36]? = some (50, 17) := by decide +kernel
theorem s0_37 : S0[37]? = some (50, 60) := by decide +kernel
theorem s0_38 : S0[38]? = some (4, 0) := by decide +kernel
theorem s0_39 : S0[39]? = some (51, 60) := by decide +kernel
theorem s0_40 : S0[40]? = some (50, 16) := by decide +kernel
theorem s0_41 : S0[41]? = some (50, 16) := by decide +kernel
theorem s0_42 : S0[42]? = some (50, 17) := by decide +kernel
theorem s0_43 : S0[43]? = some (50, 60) := by decide +kernel
theorem s0_44 : S0[44]? = some (4, 0) := by decide +kernel
theorem s0_45 : S0[45]? = some (51, 60) := by decide +kernel
theorem s0_46 : S0[46]? = some (50, 16) := by decide +kernel
theorem s0_47 : S0[47]? = some (50, 16) := by decide +kernel
theorem s0_48 : S0[48]? = some (50, 17) := by decide +kernel
theorem s0_49 : S0[49]? = some (50, 60) := by decide +kernel
theorem s0_50 : S0[50]? = some (4, 0) := by decide +kernel
theorem s0_51 : S0[51]? = some (51, 60) := by decide +kernel
theorem s0_52 : S0[52]? = some (50, 16) := by decide +kernel
theorem s0_53 : S0[53]? = some (50, 16) := by decide +kernel
theorem s0_54 : S0[54]? = some (50, 17) := by decide +kernel
theorem s0_55 : S0[55]? = some (50, 60) := by decide +kernel
theorem s0_56 : S0[56]? = some (4, 0) := by decide +kernel
theorem s0_57 : S0[57]? = some (51, 60) := by decide +kernel
theorem s0_58 : S0[58]? = some (50, 16) := by decide +kernel
theorem s0_59 : S0[59]? = some (50, 16) := by decide +kernel
theorem s0_60 : S0[60]? = some (50, 17) := by decide +kernel
theorem s0_61 : S0[61]? = some (50, 60) := by decide +kernel
theorem s0_62 : S0[62]? = some (4, 0) := by decide +kernel
theorem s0_63 : S0[63]? = some (51, 60) := by decide +kernel
theorem s0_64 : S0[64]? = some (50, 16) := by decide +kernel
theorem s0_65 : S0[65]? = some (50, 16) := by decide +kernel
theorem s0_66 : S0[66]? = some (50, 17) := by decide +kernel
theorem s0_67 : S0[67]? = some (50, 60) := by decide +kernel
theorem s0_68 : S0[68]? = some (4, 0) := by decide +kernel
theorem s0_69 : S0[69]? = some (51, 60) := by decide +kernel
theorem s0_70 : S0[70]? = some (50, 16) := by decide +kernel
theorem s0_71 : S0[71]? = some (50, 16) := by decide +kernel
theorem s0_72 : S0[72]? = some (50, 17) := by decide +kernel
theorem s0_73 : S0[73]? = some (50, 60) := by decide +kernel
theorem s0_74 : S0[74]? = some (4, 0) := by decide +kernel
theorem s0_75 : S0[75]? = some (51, 60) := by decide +kernel
theorem s0_76 : S0[76]? = some (50, 16) := by decide +kernel
theorem s0_77 : S0[77]? = some (50, 16) := by decide +kernel
theorem s0_78 : S0[78]? = some (50, 17) := by decide +kernel
theorem s0_79 : S0[79]? = some (50, 60) := by decide +kernel
theorem s0_80 : S0[80]? = some (4, 0) := by decide +kernel
theorem s0_81 : S0[81]? = some (51, 60) := by decide +kernel
theorem s0_82 : S0[82]? = some (50, 16) := by decide +kernel
theorem s0_83 : S0[83]? = some (50, 16) := by decide +kernel
theorem s0_84 : S0[84]? = some (50, 17) := by decide +kernel
theorem s0_85 : S0[85]? = some (50, 60) := by decide +kernel
theorem s0_86 : S0[86]? = some (4, 0) := by decide +kernel
theorem s0_87 : S0[87]? = some (51, 60) := by decide +kernel
theorem s0_88 : S0[88]? = some (50, 16) := by decide +kernel
theorem s0_89 : S0[89]? = some (50, 16) := by decide +kernel
theorem s0_90 : S0[90]? = some (50, 17) := by decide +kernel
theorem s0_91 : S0[91]? = some (50, 60) := by decide +kernel
theorem s0_92 : S0[92]? = some (4, 0) := by decide +kernel
theorem s0_93 : S0[93]? = some (51, 60) := by decide +kernel
theorem s0_94 : S0[94]? = some (50, 16) := by decide +kernel
theorem s0_95 : S0[95]? = some (50, 16) := by decide +kernel
theorem s0_96 : S0[96]? = some (50, 17) := by decide +kernel
theorem s0_97 : S0[97]? = some (50, 60) := by decide +kernel
theorem s0_98 : S0[98]? = some (4, 0) := by decide +kernel
theorem s0_99 : S0[99]? = some (51, 60) := by decide +kernel
theorem s0_100 : S0[100]? = some (50, 16) := by decide +kernel
theorem s0_101 : S0[101]? = some (50, 16) := by decide +kernel
theorem s0_102 : S0[102]? = some (50, 17) := by decide +kernel
theorem s0_103 : S0[103]? = some (50, 60) := by decide +kernel
theorem s0_104 : S0[104]? = some (3, 0) := by decide +kernel
theorem s0_105 : S0[105]? = some (53, 4000) := by decide +kernel
theorem s0_106 : S0[106]? = some (53, 4000) := by decide +kernel
theorem s0_107 : S0[107]? = some (50, 4000) := by decide +kernel
theorem s0_108 : S0[108]? = some (50, 4000) := by decide +kernel
theorem s0_109 : S0[109]? = some (50, 8192) := by decide +kernel
theorem s0_110 : S0[110]? = some (50, 80000) := by decide +kernel
theorem s0_111 : S0[111]? = some (53, 4000) := by decide +kernel
theorem s0_112 : S0[112]? = some (53, 4000) := by decide +kernel
theorem s0_113 : S0[113]? = some (3, 0) := by decide +kernel
theorem s0_114 : S0[114]? = some (3, 0) := by decide +kernel
theorem s0_115 : S0[115]? = some (52, 256) := by decide +kernel
theorem s0_116 : S0[116]? = some (6, 0) := by decide +kernel
theorem s0_117 : S0[117]? = some (53, 20) := by decide +kernel
theorem s0_118 : S0[118]? = some (7, 0) := by decide +kernel
theorem s0_119 : S0[119]? = some (50, 8) := by decide +kernel
theorem s0_120 : S0[120]? = some (50, 8) := by decide +kernel
theorem s0_121 : S0[121]? = some (0, 0) := by decide +kernel
theorem s0_122 : S0[122]? = some (50, 12) := by decide +kernel
theorem s0_123 : S0[123]? = some (50, 12) := by decide +kernel
theorem s0_124 : S0[124]? = some (50, 12) := by decide +kernel
theorem s0_125 : S0[125]? = some (50, 12) := by decide +kernel
theorem s0_126 : S0[126]? = some (50, 12) := by decide +kernel
theorem s0_127 : S0[127]? = some (50, 12) := by decide +kernel
theorem s0_128 : S0[128]? = some (50, 12) := by decide +kernel
theorem s0_129 : S0[129]? = some (50, 12) := by decide +kernel
theorem s0_130 : S0[130]? = some (54, 3) := by decide +kernel
theorem s0_131 : S0[131]? = some (50, 5) := by decide +kernel
theorem s0_132 : S0[132]? = some (50, 5) := by decide +kernel
theorem s0_133 : S0[133]? = some (1, 0) := by decide +kernel
theorem s0_134 : S0[134]? = some (3, 0) := by decide +kernel
theorem s0_135 : S0[135]? = some (50, 4) := by decide +kernel
theorem s0_136 : S0[136]? = some (1, 0) := by decide +kernel
theorem s0_137 : S0[137]? = some (3, 0) := by decide +kernel
theorem s0_138 : S0[138]? = some (50, 4) := by decide +kernel
theorem s0_139 : S0[139]? = some (1, 0) := by decide +kernel
theorem s0_140 : S0[140]? = some (3, 0) := by decide +kernel
theorem s0_141 : S0[141]? = some (50, 4) := by decide +kernel
theorem s0_142 : S0[142]? = some (10, 0) := by decide +kernel
theorem s0_143 : S0[143]? = some (53, 64) := by decide +kernel
theorem s0_144 : S0[144]? = some (50, 100) := by decide +kernel
theorem s0_145 : S0[145]? = some (50, 90) := by decide +kernel
theorem s0_146 : S0[146]? = some (50, 90) := by decide +kernel
theorem s0_147 : S0[147]? = some (50, 5760) := by decide +kernel
theorem s0_148 : S0[148]? = some (50, 90) := by decide +kernel
theorem s0_149 : S0[149]? = some (50, 64) := by decide +kernel
theorem s0_150 : S0[150]? = some (50, 4) := by decide +kernel
theorem s0_151 : S0[151]? = some (50, 240) := by decide +kernel
theorem s0_152 : S0[152]? = some (50, 4) := by decide +kernel
theorem s0_153 : S0[153]? = some (50, 8) := by decide +kernel
theorem s0_154 : S0[154]? = some (50, 4) := by decide +kernel
theorem s0_155 : S0[155]? = some (50, 4) := by decide +kernel
theorem s0_156 : S0[156]? = some (50, 4) := by decide +kernel
theorem s0_157 : S0[157]? = some (50, 4) := by decide +kernel
theorem s0_158 : S0[158]? = some (50, 5) := by decide +kernel
theorem s0_159 : S0[159]? = some (50, 5) := by decide +kernel
theorem s0_160 : S0[160]? = some (53, 4001) := by decide +kernel
theorem s0_161 : S0[161]? = some (53, 4001) := by decide +kernel
theorem s0_162 : S0[162]? = some (50, 4001) := by decide +kernel
theorem s0_163 : S0[163]? = some (50, 4001) := by decide +kernel
theorem s0_164 : S0[164]? = some (50, 4001) := by decide +kernel
theorem s0_165 : S0[165]? = some (50, 16384) := by decide +kernel
theorem s0_166 : S0[166]? = some (53, 16004) := by decide +kernel
theorem s0_167 : S0[167]? = some (53, 16004) := by decide +kernel
theorem s0_168 : S0[168]? = some (50, 80020) := by decide +kernel
theorem s0_169 : S0[169]? = some (52, 80020) := by decide +kernel
theorem s0_170 : S0[170]? = some (50, 80020) := by decide +kernel
theorem s0_171 : S0[171]? = some (50, 10) := by decide +kernel
theorem s0_172 : S0[172]? = some (50, 20) := by decide +kernel
theorem s0_173 : S0[173]? = some (50, 8) := by decide +kernel
theorem s0_174 : S0[174]? = some (53, 4001) := by decide +kernel
theorem s0_175 : S0[175]? = some (50, 8) := by decide +kernel
theorem s0_176 : S0[176]? = some (50, 8) := by decide +kernel
theorem s0_177 : S0[177]? = some (50, 12) := by decide +kernel
theorem s0_178 : S0[178]? = some (50, 12) := by decide +kernel
theorem s0_179 : S0[179]? = some (50, 12) := by decide +kernel
theorem s0_180 : S0[180]? = some (50, 12) := by decide +kernel
theorem s0_181 : S0[181]? = some (50, 12) := by decide +kernel
theorem s0_182 : S0[182]? = some (50, 12) := by decide +kernel
theorem s0_183 : S0[183]? = some (50, 12) := by decide +kernel
theorem s0_184 : S0[184]? = some (50, 72) := by decide +kernel
theorem s0_185 : S0[185]? = some (52, 3) := by decide +kernel
theorem s0_186 : S0[186]? = some (53, 3) := by decide +kernel
theorem s0_187 : S0[187]? = some (53, 3) := by decide +kernel
theorem s0_188 : S0[188]? = some (50, 3) := by decide +kernel
theorem s0_189 : S0[189]? = some (50, 3) := by decide +kernel
theorem s0_190 : S0[190]? = some (50, 12) := by decide +kernel
theorem s0_191 : S0[191]? = some (53, 1) := by decide +kernel
theorem fx_I {M : Mm} {a k : Nat} {v : Int32} (h : FX M) : FX (stI M a k v) := h
theorem fx_J {M : Mm} {a k : Nat} {v : Int64} (h : FX M) : FX (stJ M a k v) := h
theorem fx_cp {M : Mm} {a b sp dp n : Nat} (h : FX M) : FX (cpI M a b sp dp n) := h
theorem fx_R {M : Mm} {a k : Nat} {v : Option Nat} (h : FX M) (hn : ∀ q ∈ fins, ¬ (q.1 = a ∧ q.2.1 = k)) : FX (stR M a k v) := by
  intro q hq
  have h1 := hn q hq
  have h2 := h q hq
  simp only [stR, if_neg h1]
  exact h2
theorem rI (M : Mm) (a k : Nat) (v : Int32) (b j : Nat) : (stI M a k v).1 b j = if b = a ∧ j = k then v else M.1 b j := rfl
theorem rIj (M : Mm) (a k : Nat) (v : Int32) : (stI M a k v).2.1 = M.2.1 := rfl
theorem rIr (M : Mm) (a k : Nat) (v : Int32) : (stI M a k v).2.2 = M.2.2 := rfl
theorem rJ (M : Mm) (a k : Nat) (v : Int64) (b j : Nat) : (stJ M a k v).2.1 b j = if b = a ∧ j = k then v else M.2.1 b j := rfl
theorem rJi (M : Mm) (a k : Nat) (v : Int64) : (stJ M a k v).1 = M.1 := rfl
theorem rJr (M : Mm) (a k : Nat) (v : Int64) : (stJ M a k v).2.2 = M.2.2 := rfl
theorem rR (M : Mm) (a k : Nat) (v : Option Nat) (b j : Nat) : (stR M a k v).2.2 b j = if b = a ∧ j = k then v else M.2.2 b j := rfl
theorem rRi (M : Mm) (a k : Nat) (v : Option Nat) : (stR M a k v).1 = M.1 := rfl
theorem rRj (M : Mm) (a k : Nat) (v : Option Nat) : (stR M a k v).2.1 = M.2.1 := rfl
theorem ex_some {a : Nat} {P : Nat → Prop} : (∃ b : Nat, some a = some b ∧ P b) ↔ P a := ⟨fun ⟨_, h, p⟩ => by cases h; exact p, fun p => ⟨a, rfl, p⟩⟩
theorem ex_sh {t n : Nat} {P : Nat → Prop} : (∃ k : Nat, some (t, n) = some (t, k) ∧ P k) ↔ P n := ⟨fun ⟨_, h, p⟩ => by cases h; exact p, fun p => ⟨n, rfl, p⟩⟩
