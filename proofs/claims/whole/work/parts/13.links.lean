theorem inT1 {w : Cond} (h : w ∈ tables_1_1) (hg : goodWord w = true) : w ∈ lwg := List.mem_filter.mpr ⟨List.mem_append_right _ (show w ∈ tables_1_1 ++ (tables_1_2 ++ (tables_1_3 ++ (tables_1_4 ++ (tables_1_5 ++ (tables_1_6 ++ (tables_1_7 ++ tables_1_8)))))) from List.mem_append_left _ h), hg⟩
theorem inT2 {w : Cond} (h : w ∈ tables_1_2) (hg : goodWord w = true) : w ∈ lwg := List.mem_filter.mpr ⟨List.mem_append_right _ (show w ∈ tables_1_1 ++ (tables_1_2 ++ (tables_1_3 ++ (tables_1_4 ++ (tables_1_5 ++ (tables_1_6 ++ (tables_1_7 ++ tables_1_8)))))) from List.mem_append_right _ (List.mem_append_left _ h)), hg⟩
theorem inT3 {w : Cond} (h : w ∈ tables_1_3) (hg : goodWord w = true) : w ∈ lwg := List.mem_filter.mpr ⟨List.mem_append_right _ (show w ∈ tables_1_1 ++ (tables_1_2 ++ (tables_1_3 ++ (tables_1_4 ++ (tables_1_5 ++ (tables_1_6 ++ (tables_1_7 ++ tables_1_8)))))) from List.mem_append_right _ (List.mem_append_right _ (List.mem_append_left _ h))), hg⟩
theorem inT4 {w : Cond} (h : w ∈ tables_1_4) (hg : goodWord w = true) : w ∈ lwg := List.mem_filter.mpr ⟨List.mem_append_right _ (show w ∈ tables_1_1 ++ (tables_1_2 ++ (tables_1_3 ++ (tables_1_4 ++ (tables_1_5 ++ (tables_1_6 ++ (tables_1_7 ++ tables_1_8)))))) from List.mem_append_right _ (List.mem_append_right _ (List.mem_append_right _ (List.mem_append_left _ h)))), hg⟩
theorem inT5 {w : Cond} (h : w ∈ tables_1_5) (hg : goodWord w = true) : w ∈ lwg := List.mem_filter.mpr ⟨List.mem_append_right _ (show w ∈ tables_1_1 ++ (tables_1_2 ++ (tables_1_3 ++ (tables_1_4 ++ (tables_1_5 ++ (tables_1_6 ++ (tables_1_7 ++ tables_1_8)))))) from List.mem_append_right _ (List.mem_append_right _ (List.mem_append_right _ (List.mem_append_right _ (List.mem_append_left _ h))))), hg⟩
theorem inT6 {w : Cond} (h : w ∈ tables_1_6) (hg : goodWord w = true) : w ∈ lwg := List.mem_filter.mpr ⟨List.mem_append_right _ (show w ∈ tables_1_1 ++ (tables_1_2 ++ (tables_1_3 ++ (tables_1_4 ++ (tables_1_5 ++ (tables_1_6 ++ (tables_1_7 ++ tables_1_8)))))) from List.mem_append_right _ (List.mem_append_right _ (List.mem_append_right _ (List.mem_append_right _ (List.mem_append_right _ (List.mem_append_left _ h)))))), hg⟩
theorem inT7 {w : Cond} (h : w ∈ tables_1_7) (hg : goodWord w = true) : w ∈ lwg := List.mem_filter.mpr ⟨List.mem_append_right _ (show w ∈ tables_1_1 ++ (tables_1_2 ++ (tables_1_3 ++ (tables_1_4 ++ (tables_1_5 ++ (tables_1_6 ++ (tables_1_7 ++ tables_1_8)))))) from List.mem_append_right _ (List.mem_append_right _ (List.mem_append_right _ (List.mem_append_right _ (List.mem_append_right _ (List.mem_append_right _ (List.mem_append_left _ h))))))), hg⟩
theorem inT8 {w : Cond} (h : w ∈ tables_1_8) (hg : goodWord w = true) : w ∈ lwg := List.mem_filter.mpr ⟨List.mem_append_right _ (show w ∈ tables_1_1 ++ (tables_1_2 ++ (tables_1_3 ++ (tables_1_4 ++ (tables_1_5 ++ (tables_1_6 ++ (tables_1_7 ++ tables_1_8)))))) from List.mem_append_right _ (List.mem_append_right _ (List.mem_append_right _ (List.mem_append_right _ (List.mem_append_right _ (List.mem_append_right _ (List.mem_append_right _ (h)))))))), hg⟩
theorem inTp {w : Cond} (h : w ∈ k2_sels lw_privs) (hg : goodWord w = true) : w ∈ lwg := List.mem_filter.mpr ⟨List.mem_append_left _ h, hg⟩
theorem laX2_40 : Cond.methodLink RX2 40 arraycopyName ∈ lwg ∧ Cond.native arraycopyName ∈ lwg ∧ Cond.static arraycopyName ∈ lwg ∧ Cond.initialized "java/lang/System" ∈ lwg := ⟨(inT5 (List.mem_of_getElem? (i := 14) (by decide +kernel)) (by decide +kernel)), (inT2 (List.mem_of_getElem? (i := 235) (by decide +kernel)) (by decide +kernel)), (inT2 (List.mem_of_getElem? (i := 234) (by decide +kernel)) (by decide +kernel)), (inT1 (List.mem_of_getElem? (i := 13) (by decide +kernel)) (by decide +kernel))⟩
theorem laX5_44 : Cond.methodLink RX5 44 arraycopyName ∈ lwg ∧ Cond.native arraycopyName ∈ lwg ∧ Cond.static arraycopyName ∈ lwg ∧ Cond.initialized "java/lang/System" ∈ lwg := ⟨(inT2 (List.mem_of_getElem? (i := 233) (by decide +kernel)) (by decide +kernel)), (inT2 (List.mem_of_getElem? (i := 235) (by decide +kernel)) (by decide +kernel)), (inT2 (List.mem_of_getElem? (i := 234) (by decide +kernel)) (by decide +kernel)), (inT1 (List.mem_of_getElem? (i := 13) (by decide +kernel)) (by decide +kernel))⟩
theorem lcJ6_265 : Cond.constant RJ6 265 (1431655765) ∈ lwg := (inT4 (List.mem_of_getElem? (i := 128) (by decide +kernel)) (by decide +kernel))
theorem lcJ6_266 : Cond.constant RJ6 266 (858993459) ∈ lwg := (inT4 (List.mem_of_getElem? (i := 129) (by decide +kernel)) (by decide +kernel))
theorem lcJ6_267 : Cond.constant RJ6 267 (252645135) ∈ lwg := (inT4 (List.mem_of_getElem? (i := 130) (by decide +kernel)) (by decide +kernel))
theorem lfX1_11 : Cond.fieldLink RX1 11 (TX1 0).1 (TX1 0).2.1 (TX1 0).2.2.1 ∈ lwg := (inT2 (List.mem_of_getElem? (i := 98) (by decide +kernel)) (by decide +kernel))
theorem lfX1_15 : Cond.fieldLink RX1 15 (TX1 1).1 (TX1 1).2.1 (TX1 1).2.2.1 ∈ lwg := (inT2 (List.mem_of_getElem? (i := 99) (by decide +kernel)) (by decide +kernel))
theorem lfX1_18 : Cond.fieldLink RX1 18 (TX1 2).1 (TX1 2).2.1 (TX1 2).2.2.1 ∈ lwg := (inT2 (List.mem_of_getElem? (i := 100) (by decide +kernel)) (by decide +kernel))
theorem lfX1_21 : Cond.fieldLink RX1 21 (TX1 3).1 (TX1 3).2.1 (TX1 3).2.2.1 ∈ lwg := (inT2 (List.mem_of_getElem? (i := 101) (by decide +kernel)) (by decide +kernel))
theorem lfX1_24 : Cond.fieldLink RX1 24 (TX1 4).1 (TX1 4).2.1 (TX1 4).2.2.1 ∈ lwg := (inT2 (List.mem_of_getElem? (i := 102) (by decide +kernel)) (by decide +kernel))
theorem lfX1_27 : Cond.fieldLink RX1 27 (TX1 5).1 (TX1 5).2.1 (TX1 5).2.2.1 ∈ lwg := (inT2 (List.mem_of_getElem? (i := 103) (by decide +kernel)) (by decide +kernel))
theorem lfX1_30 : Cond.fieldLink RX1 30 (TX1 6).1 (TX1 6).2.1 (TX1 6).2.2.1 ∈ lwg := (inT2 (List.mem_of_getElem? (i := 104) (by decide +kernel)) (by decide +kernel))
theorem lfX1_33 : Cond.fieldLink RX1 33 (TX1 7).1 (TX1 7).2.1 (TX1 7).2.2.1 ∈ lwg := (inT2 (List.mem_of_getElem? (i := 105) (by decide +kernel)) (by decide +kernel))
theorem lfX1_36 : Cond.fieldLink RX1 36 (TX1 8).1 (TX1 8).2.1 (TX1 8).2.2.1 ∈ lwg := (inT2 (List.mem_of_getElem? (i := 106) (by decide +kernel)) (by decide +kernel))
theorem lfX1_40 : Cond.fieldLink RX1 40 (TX1 9).1 (TX1 9).2.1 (TX1 9).2.2.1 ∈ lwg := (inT2 (List.mem_of_getElem? (i := 108) (by decide +kernel)) (by decide +kernel))
theorem lfX10_10 : Cond.fieldLink RX10 10 (TX10 0).1 (TX10 0).2.1 (TX10 0).2.2.1 ∈ lwg := (inT2 (List.mem_of_getElem? (i := 157) (by decide +kernel)) (by decide +kernel))
theorem lfX10_101 : Cond.fieldLink RX10 101 (TX3 0).1 (TX3 0).2.1 (TX3 0).2.2.1 ∈ lwg := (inT1 (List.mem_of_getElem? (i := 116) (by decide +kernel)) (by decide +kernel))
theorem lfX10_116 : Cond.fieldLink RX10 116 (TX5 6).1 (TX5 6).2.1 (TX5 6).2.2.1 ∈ lwg := (inT1 (List.mem_of_getElem? (i := 54) (by decide +kernel)) (by decide +kernel))
theorem lfX10_121 : Cond.fieldLink RX10 121 (TX3 8).1 (TX3 8).2.1 (TX3 8).2.2.1 ∈ lwg := (inT1 (List.mem_of_getElem? (i := 131) (by decide +kernel)) (by decide +kernel))
theorem lfX10_132 : Cond.fieldLink RX10 132 (TX3 11).1 (TX3 11).2.1 (TX3 11).2.2.1 ∈ lwg := (inT1 (List.mem_of_getElem? (i := 139) (by decide +kernel)) (by decide +kernel))
theorem lfX10_135 : Cond.fieldLink RX10 135 (TX3 1).1 (TX3 1).2.1 (TX3 1).2.2.1 ∈ lwg := (inT1 (List.mem_of_getElem? (i := 118) (by decide +kernel)) (by decide +kernel))
theorem lfX10_138 : Cond.fieldLink RX10 138 (TX3 14).1 (TX3 14).2.1 (TX3 14).2.2.1 ∈ lwg := (inT1 (List.mem_of_getElem? (i := 148) (by decide +kernel)) (by decide +kernel))
theorem lfX10_147 : Cond.fieldLink RX10 147 (TX3 6).1 (TX3 6).2.1 (TX3 6).2.2.1 ∈ lwg := (inT1 (List.mem_of_getElem? (i := 128) (by decide +kernel)) (by decide +kernel))
theorem lfX10_150 : Cond.fieldLink RX10 150 (TX3 13).1 (TX3 13).2.1 (TX3 13).2.2.1 ∈ lwg := (inT1 (List.mem_of_getElem? (i := 145) (by decide +kernel)) (by decide +kernel))
theorem lfX10_156 : Cond.fieldLink RX10 156 (TX4 2).1 (TX4 2).2.1 (TX4 2).2.2.1 ∈ lwg := (inT1 (List.mem_of_getElem? (i := 195) (by decide +kernel)) (by decide +kernel))
theorem lfX10_159 : Cond.fieldLink RX10 159 (TX4 3).1 (TX4 3).2.1 (TX4 3).2.2.1 ∈ lwg := (inT1 (List.mem_of_getElem? (i := 199) (by decide +kernel)) (by decide +kernel))
theorem lfX10_162 : Cond.fieldLink RX10 162 (TX4 4).1 (TX4 4).2.1 (TX4 4).2.2.1 ∈ lwg := (inT1 (List.mem_of_getElem? (i := 203) (by decide +kernel)) (by decide +kernel))
theorem lfX10_183 : Cond.fieldLink RX10 183 (TX6 6).1 (TX6 6).2.1 (TX6 6).2.2.1 ∈ lwg := (inT1 (List.mem_of_getElem? (i := 84) (by decide +kernel)) (by decide +kernel))
theorem lfX10_19 : Cond.fieldLink RX10 19 (TX10 1).1 (TX10 1).2.1 (TX10 1).2.2.1 ∈ lwg := (inT2 (List.mem_of_getElem? (i := 158) (by decide +kernel)) (by decide +kernel))
theorem lfX10_201 : Cond.fieldLink RX10 201 (TX9 10).1 (TX9 10).2.1 (TX9 10).2.2.1 ∈ lwg := (inT1 (List.mem_of_getElem? (i := 239) (by decide +kernel)) (by decide +kernel))
theorem lfX10_204 : Cond.fieldLink RX10 204 (TX9 14).1 (TX9 14).2.1 (TX9 14).2.2.1 ∈ lwg := (inT2 (List.mem_of_getElem? (i := 4) (by decide +kernel)) (by decide +kernel))
theorem lfX10_210 : Cond.fieldLink RX10 210 (TX3 9).1 (TX3 9).2.1 (TX3 9).2.2.1 ∈ lwg := (inT1 (List.mem_of_getElem? (i := 134) (by decide +kernel)) (by decide +kernel))
theorem lfX10_218 : Cond.fieldLink RX10 218 (TX9 15).1 (TX9 15).2.1 (TX9 15).2.2.1 ∈ lwg := (inT2 (List.mem_of_getElem? (i := 6) (by decide +kernel)) (by decide +kernel))
theorem lfX10_221 : Cond.fieldLink RX10 221 (TX9 16).1 (TX9 16).2.1 (TX9 16).2.2.1 ∈ lwg := (inT2 (List.mem_of_getElem? (i := 8) (by decide +kernel)) (by decide +kernel))
theorem lfX10_224 : Cond.fieldLink RX10 224 (TX9 4).1 (TX9 4).2.1 (TX9 4).2.2.1 ∈ lwg := (inT1 (List.mem_of_getElem? (i := 232) (by decide +kernel)) (by decide +kernel))
theorem lfX10_231 : Cond.fieldLink RX10 231 (TX7 1).1 (TX7 1).2.1 (TX7 1).2.2.1 ∈ lwg := (inT2 (List.mem_of_getElem? (i := 66) (by decide +kernel)) (by decide +kernel))
theorem lfX10_27 : Cond.fieldLink RX10 27 (TX10 2).1 (TX10 2).2.1 (TX10 2).2.2.1 ∈ lwg := (inT2 (List.mem_of_getElem? (i := 159) (by decide +kernel)) (by decide +kernel))
theorem lfX10_277 : Cond.fieldLink RX10 277 (TX3 12).1 (TX3 12).2.1 (TX3 12).2.2.1 ∈ lwg := (inT1 (List.mem_of_getElem? (i := 141) (by decide +kernel)) (by decide +kernel))
theorem lfX10_280 : Cond.fieldLink RX10 280 (TX3 2).1 (TX3 2).2.1 (TX3 2).2.2.1 ∈ lwg := (inT1 (List.mem_of_getElem? (i := 120) (by decide +kernel)) (by decide +kernel))
theorem lfX10_283 : Cond.fieldLink RX10 283 (TX3 3).1 (TX3 3).2.1 (TX3 3).2.2.1 ∈ lwg := (inT1 (List.mem_of_getElem? (i := 122) (by decide +kernel)) (by decide +kernel))
theorem lfX10_286 : Cond.fieldLink RX10 286 (TX3 4).1 (TX3 4).2.1 (TX3 4).2.2.1 ∈ lwg := (inT1 (List.mem_of_getElem? (i := 124) (by decide +kernel)) (by decide +kernel))
theorem lfX10_293 : Cond.fieldLink RX10 293 (TX8 2).1 (TX8 2).2.1 (TX8 2).2.2.1 ∈ lwg := (inT2 (List.mem_of_getElem? (i := 84) (by decide +kernel)) (by decide +kernel))
theorem lfX10_296 : Cond.fieldLink RX10 296 (TX8 0).1 (TX8 0).2.1 (TX8 0).2.2.1 ∈ lwg := (inT2 (List.mem_of_getElem? (i := 80) (by decide +kernel)) (by decide +kernel))
theorem lfX10_306 : Cond.fieldLink RX10 306 (TX9 17).1 (TX9 17).2.1 (TX9 17).2.2.1 ∈ lwg := (inT2 (List.mem_of_getElem? (i := 10) (by decide +kernel)) (by decide +kernel))
theorem lfX10_309 : Cond.fieldLink RX10 309 (TX9 18).1 (TX9 18).2.1 (TX9 18).2.2.1 ∈ lwg := (inT2 (List.mem_of_getElem? (i := 12) (by decide +kernel)) (by decide +kernel))
theorem lfX10_31 : Cond.fieldLink RX10 31 (TX10 3).1 (TX10 3).2.1 (TX10 3).2.2.1 ∈ lwg := (inT2 (List.mem_of_getElem? (i := 160) (by decide +kernel)) (by decide +kernel))
theorem lfX10_338 : Cond.fieldLink RX10 338 (TX2 4).1 (TX2 4).2.1 (TX2 4).2.2.1 ∈ lwg := (inT2 (List.mem_of_getElem? (i := 145) (by decide +kernel)) (by decide +kernel))
theorem lfX10_345 : Cond.fieldLink RX10 345 (TX1 8).1 (TX1 8).2.1 (TX1 8).2.2.1 ∈ lwg := (inT2 (List.mem_of_getElem? (i := 107) (by decide +kernel)) (by decide +kernel))
theorem lfX10_348 : Cond.fieldLink RX10 348 (TX1 9).1 (TX1 9).2.1 (TX1 9).2.2.1 ∈ lwg := (inT2 (List.mem_of_getElem? (i := 109) (by decide +kernel)) (by decide +kernel))
theorem lfX10_35 : Cond.fieldLink RX10 35 (TX10 4).1 (TX10 4).2.1 (TX10 4).2.2.1 ∈ lwg := (inT2 (List.mem_of_getElem? (i := 161) (by decide +kernel)) (by decide +kernel))
theorem lfX10_351 : Cond.fieldLink RX10 351 (TX4 5).1 (TX4 5).2.1 (TX4 5).2.2.1 ∈ lwg := (inT1 (List.mem_of_getElem? (i := 206) (by decide +kernel)) (by decide +kernel))
theorem lfX10_361 : Cond.fieldLink RX10 361 (TX8 1).1 (TX8 1).2.1 (TX8 1).2.2.1 ∈ lwg := (inT2 (List.mem_of_getElem? (i := 82) (by decide +kernel)) (by decide +kernel))
theorem lfX10_38 : Cond.fieldLink RX10 38 (TX10 5).1 (TX10 5).2.1 (TX10 5).2.2.1 ∈ lwg := (inT2 (List.mem_of_getElem? (i := 162) (by decide +kernel)) (by decide +kernel))
theorem lfX10_386 : Cond.fieldLink RX10 386 (TX5 5).1 (TX5 5).2.1 (TX5 5).2.2.1 ∈ lwg := (inT1 (List.mem_of_getElem? (i := 51) (by decide +kernel)) (by decide +kernel))
theorem lfX10_387 : Cond.fieldLink RX10 387 (TX5 0).1 (TX5 0).2.1 (TX5 0).2.2.1 ∈ lwg := (inT1 (List.mem_of_getElem? (i := 41) (by decide +kernel)) (by decide +kernel))
theorem lfX10_45 : Cond.fieldLink RX10 45 (TX10 6).1 (TX10 6).2.1 (TX10 6).2.2.1 ∈ lwg := (inT2 (List.mem_of_getElem? (i := 163) (by decide +kernel)) (by decide +kernel))
theorem lfX10_52 : Cond.fieldLink RX10 52 (TX10 7).1 (TX10 7).2.1 (TX10 7).2.2.1 ∈ lwg := (inT2 (List.mem_of_getElem? (i := 164) (by decide +kernel)) (by decide +kernel))
theorem lfX10_59 : Cond.fieldLink RX10 59 (TX10 8).1 (TX10 8).2.1 (TX10 8).2.2.1 ∈ lwg := (inT2 (List.mem_of_getElem? (i := 165) (by decide +kernel)) (by decide +kernel))
theorem lfX10_65 : Cond.fieldLink RX10 65 (TX10 9).1 (TX10 9).2.1 (TX10 9).2.2.1 ∈ lwg := (inT2 (List.mem_of_getElem? (i := 166) (by decide +kernel)) (by decide +kernel))
theorem lfX10_69 : Cond.fieldLink RX10 69 (TX10 10).1 (TX10 10).2.1 (TX10 10).2.2.1 ∈ lwg := (inT2 (List.mem_of_getElem? (i := 167) (by decide +kernel)) (by decide +kernel))
theorem lfX10_73 : Cond.fieldLink RX10 73 (TX10 11).1 (TX10 11).2.1 (TX10 11).2.2.1 ∈ lwg := (inT2 (List.mem_of_getElem? (i := 168) (by decide +kernel)) (by decide +kernel))
theorem lfX10_76 : Cond.fieldLink RX10 76 (TX10 12).1 (TX10 12).2.1 (TX10 12).2.2.1 ∈ lwg := (inT2 (List.mem_of_getElem? (i := 169) (by decide +kernel)) (by decide +kernel))
theorem lfX10_81 : Cond.fieldLink RX10 81 (TX6 1).1 (TX6 1).2.1 (TX6 1).2.2.1 ∈ lwg := (inT1 (List.mem_of_getElem? (i := 78) (by decide +kernel)) (by decide +kernel))
theorem lfX10_84 : Cond.fieldLink RX10 84 (TX6 0).1 (TX6 0).2.1 (TX6 0).2.2.1 ∈ lwg := (inT1 (List.mem_of_getElem? (i := 76) (by decide +kernel)) (by decide +kernel))
theorem lfX10_92 : Cond.fieldLink RX10 92 (TX3 10).1 (TX3 10).2.1 (TX3 10).2.2.1 ∈ lwg := (inT1 (List.mem_of_getElem? (i := 137) (by decide +kernel)) (by decide +kernel))
theorem lfX11_104 : Cond.fieldLink RX11 104 (TX11 10).1 (TX11 10).2.1 (TX11 10).2.2.1 ∈ lwg := (inT7 (List.mem_of_getElem? (i := 75) (by decide +kernel)) (by decide +kernel))
theorem lfX11_107 : Cond.fieldLink RX11 107 (TX11 9).1 (TX11 9).2.1 (TX11 9).2.2.1 ∈ lwg := (inT7 (List.mem_of_getElem? (i := 74) (by decide +kernel)) (by decide +kernel))
theorem lfX11_11 : Cond.fieldLink RX11 11 (TX11 1).1 (TX11 1).2.1 (TX11 1).2.2.1 ∈ lwg := (inT7 (List.mem_of_getElem? (i := 66) (by decide +kernel)) (by decide +kernel))
theorem lfX11_121 : Cond.fieldLink RX11 121 (TX11 15).1 (TX11 15).2.1 (TX11 15).2.2.1 ∈ lwg := (inT7 (List.mem_of_getElem? (i := 80) (by decide +kernel)) (by decide +kernel))
theorem lfX11_136 : Cond.fieldLink RX11 136 (TX11 17).1 (TX11 17).2.1 (TX11 17).2.2.1 ∈ lwg := (inT7 (List.mem_of_getElem? (i := 82) (by decide +kernel)) (by decide +kernel))
theorem lfX11_139 : Cond.fieldLink RX11 139 (TX11 18).1 (TX11 18).2.1 (TX11 18).2.2.1 ∈ lwg := (inT7 (List.mem_of_getElem? (i := 83) (by decide +kernel)) (by decide +kernel))
theorem lfX11_14 : Cond.fieldLink RX11 14 (TX11 4).1 (TX11 4).2.1 (TX11 4).2.2.1 ∈ lwg := (inT7 (List.mem_of_getElem? (i := 69) (by decide +kernel)) (by decide +kernel))
theorem lfX11_142 : Cond.fieldLink RX11 142 (TX11 16).1 (TX11 16).2.1 (TX11 16).2.2.1 ∈ lwg := (inT7 (List.mem_of_getElem? (i := 81) (by decide +kernel)) (by decide +kernel))
theorem lfX11_145 : Cond.fieldLink RX11 145 (TX11 25).1 (TX11 25).2.1 (TX11 25).2.2.1 ∈ lwg := (inT7 (List.mem_of_getElem? (i := 90) (by decide +kernel)) (by decide +kernel))
theorem lfX11_155 : Cond.fieldLink RX11 155 (TX11 19).1 (TX11 19).2.1 (TX11 19).2.2.1 ∈ lwg := (inT7 (List.mem_of_getElem? (i := 84) (by decide +kernel)) (by decide +kernel))
theorem lfX11_158 : Cond.fieldLink RX11 158 (TX11 20).1 (TX11 20).2.1 (TX11 20).2.2.1 ∈ lwg := (inT7 (List.mem_of_getElem? (i := 85) (by decide +kernel)) (by decide +kernel))
theorem lfX11_161 : Cond.fieldLink RX11 161 (TX11 21).1 (TX11 21).2.1 (TX11 21).2.2.1 ∈ lwg := (inT7 (List.mem_of_getElem? (i := 86) (by decide +kernel)) (by decide +kernel))
theorem lfX11_164 : Cond.fieldLink RX11 164 (TX11 22).1 (TX11 22).2.1 (TX11 22).2.2.1 ∈ lwg := (inT7 (List.mem_of_getElem? (i := 87) (by decide +kernel)) (by decide +kernel))
theorem lfX11_167 : Cond.fieldLink RX11 167 (TX11 24).1 (TX11 24).2.1 (TX11 24).2.2.1 ∈ lwg := (inT7 (List.mem_of_getElem? (i := 89) (by decide +kernel)) (by decide +kernel))
theorem lfX11_17 : Cond.fieldLink RX11 17 (TX11 3).1 (TX11 3).2.1 (TX11 3).2.2.1 ∈ lwg := (inT7 (List.mem_of_getElem? (i := 68) (by decide +kernel)) (by decide +kernel))
theorem lfX11_170 : Cond.fieldLink RX11 170 (TX11 23).1 (TX11 23).2.1 (TX11 23).2.2.1 ∈ lwg := (inT7 (List.mem_of_getElem? (i := 88) (by decide +kernel)) (by decide +kernel))
theorem lfX11_173 : Cond.fieldLink RX11 173 (TX11 28).1 (TX11 28).2.1 (TX11 28).2.2.1 ∈ lwg := (inT7 (List.mem_of_getElem? (i := 93) (by decide +kernel)) (by decide +kernel))
theorem lfX11_176 : Cond.fieldLink RX11 176 (TX11 29).1 (TX11 29).2.1 (TX11 29).2.2.1 ∈ lwg := (inT7 (List.mem_of_getElem? (i := 94) (by decide +kernel)) (by decide +kernel))
theorem lfX11_179 : Cond.fieldLink RX11 179 (TX11 30).1 (TX11 30).2.1 (TX11 30).2.2.1 ∈ lwg := (inT7 (List.mem_of_getElem? (i := 95) (by decide +kernel)) (by decide +kernel))
theorem lfX11_182 : Cond.fieldLink RX11 182 (TX11 31).1 (TX11 31).2.1 (TX11 31).2.2.1 ∈ lwg := (inT7 (List.mem_of_getElem? (i := 96) (by decide +kernel)) (by decide +kernel))
theorem lfX11_185 : Cond.fieldLink RX11 185 (TX11 14).1 (TX11 14).2.1 (TX11 14).2.2.1 ∈ lwg := (inT7 (List.mem_of_getElem? (i := 79) (by decide +kernel)) (by decide +kernel))
theorem lfX11_198 : Cond.fieldLink RX11 198 (TX11 34).1 (TX11 34).2.1 (TX11 34).2.2.1 ∈ lwg := (inT7 (List.mem_of_getElem? (i := 99) (by decide +kernel)) (by decide +kernel))
theorem lfX11_201 : Cond.fieldLink RX11 201 (TX11 33).1 (TX11 33).2.1 (TX11 33).2.2.1 ∈ lwg := (inT7 (List.mem_of_getElem? (i := 98) (by decide +kernel)) (by decide +kernel))
theorem lfX11_208 : Cond.fieldLink RX11 208 (TX11 35).1 (TX11 35).2.1 (TX11 35).2.2.1 ∈ lwg := (inT7 (List.mem_of_getElem? (i := 100) (by decide +kernel)) (by decide +kernel))
theorem lfX11_211 : Cond.fieldLink RX11 211 (TX11 36).1 (TX11 36).2.1 (TX11 36).2.2.1 ∈ lwg := (inT7 (List.mem_of_getElem? (i := 101) (by decide +kernel)) (by decide +kernel))
theorem lfX11_214 : Cond.fieldLink RX11 214 (TX11 37).1 (TX11 37).2.1 (TX11 37).2.2.1 ∈ lwg := (inT7 (List.mem_of_getElem? (i := 102) (by decide +kernel)) (by decide +kernel))
theorem lfX11_217 : Cond.fieldLink RX11 217 (TX11 26).1 (TX11 26).2.1 (TX11 26).2.2.1 ∈ lwg := (inT7 (List.mem_of_getElem? (i := 91) (by decide +kernel)) (by decide +kernel))
theorem lfX11_239 : Cond.fieldLink RX11 239 (TX11 27).1 (TX11 27).2.1 (TX11 27).2.2.1 ∈ lwg := (inT7 (List.mem_of_getElem? (i := 92) (by decide +kernel)) (by decide +kernel))
theorem lfX11_245 : Cond.fieldLink RX11 245 (TX11 32).1 (TX11 32).2.1 (TX11 32).2.2.1 ∈ lwg := (inT7 (List.mem_of_getElem? (i := 97) (by decide +kernel)) (by decide +kernel))
theorem lfX11_25 : Cond.fieldLink RX11 25 (TX11 5).1 (TX11 5).2.1 (TX11 5).2.2.1 ∈ lwg := (inT7 (List.mem_of_getElem? (i := 70) (by decide +kernel)) (by decide +kernel))
theorem lfX11_270 : Cond.fieldLink RX11 270 (TX11 45).1 (TX11 45).2.1 (TX11 45).2.2.1 ∈ lwg := (inT7 (List.mem_of_getElem? (i := 110) (by decide +kernel)) (by decide +kernel))
theorem lfX11_277 : Cond.fieldLink RX11 277 (TX11 46).1 (TX11 46).2.1 (TX11 46).2.2.1 ∈ lwg := (inT7 (List.mem_of_getElem? (i := 111) (by decide +kernel)) (by decide +kernel))
theorem lfX11_28 : Cond.fieldLink RX11 28 (TX11 6).1 (TX11 6).2.1 (TX11 6).2.2.1 ∈ lwg := (inT7 (List.mem_of_getElem? (i := 71) (by decide +kernel)) (by decide +kernel))
theorem lfX11_280 : Cond.fieldLink RX11 280 (TX11 47).1 (TX11 47).2.1 (TX11 47).2.2.1 ∈ lwg := (inT7 (List.mem_of_getElem? (i := 112) (by decide +kernel)) (by decide +kernel))
theorem lfX11_283 : Cond.fieldLink RX11 283 (TX11 48).1 (TX11 48).2.1 (TX11 48).2.2.1 ∈ lwg := (inT7 (List.mem_of_getElem? (i := 113) (by decide +kernel)) (by decide +kernel))
theorem lfX11_286 : Cond.fieldLink RX11 286 (TX11 49).1 (TX11 49).2.1 (TX11 49).2.2.1 ∈ lwg := (inT7 (List.mem_of_getElem? (i := 114) (by decide +kernel)) (by decide +kernel))
theorem lfX11_289 : Cond.fieldLink RX11 289 (TX11 50).1 (TX11 50).2.1 (TX11 50).2.2.1 ∈ lwg := (inT7 (List.mem_of_getElem? (i := 115) (by decide +kernel)) (by decide +kernel))
theorem lfX11_296 : Cond.fieldLink RX11 296 (TX11 44).1 (TX11 44).2.1 (TX11 44).2.2.1 ∈ lwg := (inT7 (List.mem_of_getElem? (i := 109) (by decide +kernel)) (by decide +kernel))
theorem lfX11_299 : Cond.fieldLink RX11 299 (TX11 43).1 (TX11 43).2.1 (TX11 43).2.2.1 ∈ lwg := (inT7 (List.mem_of_getElem? (i := 108) (by decide +kernel)) (by decide +kernel))
theorem lfX11_3 : Cond.fieldLink RX11 3 (TX11 0).1 (TX11 0).2.1 (TX11 0).2.2.1 ∈ lwg := (inT7 (List.mem_of_getElem? (i := 65) (by decide +kernel)) (by decide +kernel))
theorem lfX11_312 : Cond.fieldLink RX11 312 (TX11 38).1 (TX11 38).2.1 (TX11 38).2.2.1 ∈ lwg := (inT7 (List.mem_of_getElem? (i := 103) (by decide +kernel)) (by decide +kernel))
theorem lfX11_315 : Cond.fieldLink RX11 315 (TX11 39).1 (TX11 39).2.1 (TX11 39).2.2.1 ∈ lwg := (inT7 (List.mem_of_getElem? (i := 104) (by decide +kernel)) (by decide +kernel))
theorem lfX11_327 : Cond.fieldLink RX11 327 (TX11 42).1 (TX11 42).2.1 (TX11 42).2.2.1 ∈ lwg := (inT7 (List.mem_of_getElem? (i := 107) (by decide +kernel)) (by decide +kernel))
theorem lfX11_330 : Cond.fieldLink RX11 330 (TX11 40).1 (TX11 40).2.1 (TX11 40).2.2.1 ∈ lwg := (inT7 (List.mem_of_getElem? (i := 105) (by decide +kernel)) (by decide +kernel))
theorem lfX11_336 : Cond.fieldLink RX11 336 (TX11 41).1 (TX11 41).2.1 (TX11 41).2.2.1 ∈ lwg := (inT7 (List.mem_of_getElem? (i := 106) (by decide +kernel)) (by decide +kernel))
theorem lfX11_353 : Cond.fieldLink RX11 353 (TX11 51).1 (TX11 51).2.1 (TX11 51).2.2.1 ∈ lwg := (inT7 (List.mem_of_getElem? (i := 116) (by decide +kernel)) (by decide +kernel))
theorem lfX11_359 : Cond.fieldLink RX11 359 (TX11 52).1 (TX11 52).2.1 (TX11 52).2.2.1 ∈ lwg := (inT7 (List.mem_of_getElem? (i := 117) (by decide +kernel)) (by decide +kernel))
theorem lfX11_371 : Cond.fieldLink RX11 371 (TX11 55).1 (TX11 55).2.1 (TX11 55).2.2.1 ∈ lwg := (inT7 (List.mem_of_getElem? (i := 120) (by decide +kernel)) (by decide +kernel))
theorem lfX11_374 : Cond.fieldLink RX11 374 (TX11 56).1 (TX11 56).2.1 (TX11 56).2.2.1 ∈ lwg := (inT7 (List.mem_of_getElem? (i := 121) (by decide +kernel)) (by decide +kernel))
theorem lfX11_378 : Cond.fieldLink RX11 378 (TX11 57).1 (TX11 57).2.1 (TX11 57).2.2.1 ∈ lwg := (inT7 (List.mem_of_getElem? (i := 122) (by decide +kernel)) (by decide +kernel))
theorem lfX11_381 : Cond.fieldLink RX11 381 (TX11 53).1 (TX11 53).2.1 (TX11 53).2.2.1 ∈ lwg := (inT7 (List.mem_of_getElem? (i := 118) (by decide +kernel)) (by decide +kernel))
theorem lfX11_384 : Cond.fieldLink RX11 384 (TX11 54).1 (TX11 54).2.1 (TX11 54).2.2.1 ∈ lwg := (inT7 (List.mem_of_getElem? (i := 119) (by decide +kernel)) (by decide +kernel))
theorem lfX11_387 : Cond.fieldLink RX11 387 (TX11 58).1 (TX11 58).2.1 (TX11 58).2.2.1 ∈ lwg := (inT7 (List.mem_of_getElem? (i := 123) (by decide +kernel)) (by decide +kernel))
theorem lfX11_43 : Cond.fieldLink RX11 43 (TX11 11).1 (TX11 11).2.1 (TX11 11).2.2.1 ∈ lwg := (inT7 (List.mem_of_getElem? (i := 76) (by decide +kernel)) (by decide +kernel))
theorem lfX11_431 : Cond.fieldLink RX11 431 (TX11 59).1 (TX11 59).2.1 (TX11 59).2.2.1 ∈ lwg := (inT7 (List.mem_of_getElem? (i := 124) (by decide +kernel)) (by decide +kernel))
theorem lfX11_442 : Cond.fieldLink RX11 442 (TX11 60).1 (TX11 60).2.1 (TX11 60).2.2.1 ∈ lwg := (inT7 (List.mem_of_getElem? (i := 125) (by decide +kernel)) (by decide +kernel))
theorem lfX11_445 : Cond.fieldLink RX11 445 (TX11 61).1 (TX11 61).2.1 (TX11 61).2.2.1 ∈ lwg := (inT7 (List.mem_of_getElem? (i := 126) (by decide +kernel)) (by decide +kernel))
theorem lfX11_448 : Cond.fieldLink RX11 448 (TX11 67).1 (TX11 67).2.1 (TX11 67).2.2.1 ∈ lwg := (inT7 (List.mem_of_getElem? (i := 132) (by decide +kernel)) (by decide +kernel))
theorem lfX11_451 : Cond.fieldLink RX11 451 (TX11 62).1 (TX11 62).2.1 (TX11 62).2.2.1 ∈ lwg := (inT7 (List.mem_of_getElem? (i := 127) (by decide +kernel)) (by decide +kernel))
theorem lfX11_454 : Cond.fieldLink RX11 454 (TX11 63).1 (TX11 63).2.1 (TX11 63).2.2.1 ∈ lwg := (inT7 (List.mem_of_getElem? (i := 128) (by decide +kernel)) (by decide +kernel))
theorem lfX11_457 : Cond.fieldLink RX11 457 (TX11 64).1 (TX11 64).2.1 (TX11 64).2.2.1 ∈ lwg := (inT7 (List.mem_of_getElem? (i := 129) (by decide +kernel)) (by decide +kernel))
theorem lfX11_46 : Cond.fieldLink RX11 46 (TX11 13).1 (TX11 13).2.1 (TX11 13).2.2.1 ∈ lwg := (inT7 (List.mem_of_getElem? (i := 78) (by decide +kernel)) (by decide +kernel))
theorem lfX11_460 : Cond.fieldLink RX11 460 (TX11 65).1 (TX11 65).2.1 (TX11 65).2.2.1 ∈ lwg := (inT7 (List.mem_of_getElem? (i := 130) (by decide +kernel)) (by decide +kernel))
theorem lfX11_463 : Cond.fieldLink RX11 463 (TX11 66).1 (TX11 66).2.1 (TX11 66).2.2.1 ∈ lwg := (inT7 (List.mem_of_getElem? (i := 131) (by decide +kernel)) (by decide +kernel))
theorem lfX11_469 : Cond.fieldLink RX11 469 (TX11 68).1 (TX11 68).2.1 (TX11 68).2.2.1 ∈ lwg := (inT7 (List.mem_of_getElem? (i := 133) (by decide +kernel)) (by decide +kernel))
theorem lfX11_472 : Cond.fieldLink RX11 472 (TX11 69).1 (TX11 69).2.1 (TX11 69).2.2.1 ∈ lwg := (inT7 (List.mem_of_getElem? (i := 134) (by decide +kernel)) (by decide +kernel))
theorem lfX11_477 : Cond.fieldLink RX11 477 (TX11 70).1 (TX11 70).2.1 (TX11 70).2.2.1 ∈ lwg := (inT7 (List.mem_of_getElem? (i := 135) (by decide +kernel)) (by decide +kernel))
theorem lfX11_480 : Cond.fieldLink RX11 480 (TX11 71).1 (TX11 71).2.1 (TX11 71).2.2.1 ∈ lwg := (inT7 (List.mem_of_getElem? (i := 136) (by decide +kernel)) (by decide +kernel))
theorem lfX11_483 : Cond.fieldLink RX11 483 (TX11 72).1 (TX11 72).2.1 (TX11 72).2.2.1 ∈ lwg := (inT7 (List.mem_of_getElem? (i := 137) (by decide +kernel)) (by decide +kernel))
theorem lfX11_486 : Cond.fieldLink RX11 486 (TX11 73).1 (TX11 73).2.1 (TX11 73).2.2.1 ∈ lwg := (inT7 (List.mem_of_getElem? (i := 138) (by decide +kernel)) (by decide +kernel))
theorem lfX11_49 : Cond.fieldLink RX11 49 (TX11 12).1 (TX11 12).2.1 (TX11 12).2.2.1 ∈ lwg := (inT7 (List.mem_of_getElem? (i := 77) (by decide +kernel)) (by decide +kernel))
theorem lfX11_491 : Cond.fieldLink RX11 491 (TX11 74).1 (TX11 74).2.1 (TX11 74).2.2.1 ∈ lwg := (inT7 (List.mem_of_getElem? (i := 139) (by decide +kernel)) (by decide +kernel))
theorem lfX11_494 : Cond.fieldLink RX11 494 (TX11 75).1 (TX11 75).2.1 (TX11 75).2.2.1 ∈ lwg := (inT7 (List.mem_of_getElem? (i := 140) (by decide +kernel)) (by decide +kernel))
theorem lfX11_497 : Cond.fieldLink RX11 497 (TX11 76).1 (TX11 76).2.1 (TX11 76).2.2.1 ∈ lwg := (inT7 (List.mem_of_getElem? (i := 141) (by decide +kernel)) (by decide +kernel))
theorem lfX11_500 : Cond.fieldLink RX11 500 (TX11 77).1 (TX11 77).2.1 (TX11 77).2.2.1 ∈ lwg := (inT7 (List.mem_of_getElem? (i := 142) (by decide +kernel)) (by decide +kernel))
theorem lfX11_503 : Cond.fieldLink RX11 503 (TX11 78).1 (TX11 78).2.1 (TX11 78).2.2.1 ∈ lwg := (inT7 (List.mem_of_getElem? (i := 143) (by decide +kernel)) (by decide +kernel))
theorem lfX11_506 : Cond.fieldLink RX11 506 (TX11 79).1 (TX11 79).2.1 (TX11 79).2.2.1 ∈ lwg := (inT7 (List.mem_of_getElem? (i := 144) (by decide +kernel)) (by decide +kernel))
theorem lfX11_516 : Cond.fieldLink RX11 516 (TX11 80).1 (TX11 80).2.1 (TX11 80).2.2.1 ∈ lwg := (inT7 (List.mem_of_getElem? (i := 145) (by decide +kernel)) (by decide +kernel))
theorem lfX11_521 : Cond.fieldLink RX11 521 (TX11 81).1 (TX11 81).2.1 (TX11 81).2.2.1 ∈ lwg := (inT7 (List.mem_of_getElem? (i := 146) (by decide +kernel)) (by decide +kernel))
theorem lfX11_524 : Cond.fieldLink RX11 524 (TX11 82).1 (TX11 82).2.1 (TX11 82).2.2.1 ∈ lwg := (inT7 (List.mem_of_getElem? (i := 147) (by decide +kernel)) (by decide +kernel))
theorem lfX11_527 : Cond.fieldLink RX11 527 (TX11 83).1 (TX11 83).2.1 (TX11 83).2.2.1 ∈ lwg := (inT7 (List.mem_of_getElem? (i := 148) (by decide +kernel)) (by decide +kernel))
theorem lfX11_530 : Cond.fieldLink RX11 530 (TX11 84).1 (TX11 84).2.1 (TX11 84).2.2.1 ∈ lwg := (inT7 (List.mem_of_getElem? (i := 149) (by decide +kernel)) (by decide +kernel))
theorem lfX11_533 : Cond.fieldLink RX11 533 (TX11 85).1 (TX11 85).2.1 (TX11 85).2.2.1 ∈ lwg := (inT7 (List.mem_of_getElem? (i := 150) (by decide +kernel)) (by decide +kernel))
theorem lfX11_64 : Cond.fieldLink RX11 64 (TX11 8).1 (TX11 8).2.1 (TX11 8).2.2.1 ∈ lwg := (inT7 (List.mem_of_getElem? (i := 73) (by decide +kernel)) (by decide +kernel))
theorem lfX11_7 : Cond.fieldLink RX11 7 (TX11 2).1 (TX11 2).2.1 (TX11 2).2.2.1 ∈ lwg := (inT7 (List.mem_of_getElem? (i := 67) (by decide +kernel)) (by decide +kernel))
theorem lfX11_80 : Cond.fieldLink RX11 80 (TX11 7).1 (TX11 7).2.1 (TX11 7).2.2.1 ∈ lwg := (inT7 (List.mem_of_getElem? (i := 72) (by decide +kernel)) (by decide +kernel))
theorem lfX2_12 : Cond.fieldLink RX2 12 (TX2 0).1 (TX2 0).2.1 (TX2 0).2.2.1 ∈ lwg := (inT2 (List.mem_of_getElem? (i := 140) (by decide +kernel)) (by decide +kernel))
theorem lfX2_18 : Cond.fieldLink RX2 18 (TX2 1).1 (TX2 1).2.1 (TX2 1).2.2.1 ∈ lwg := (inT2 (List.mem_of_getElem? (i := 141) (by decide +kernel)) (by decide +kernel))
theorem lfX2_22 : Cond.fieldLink RX2 22 (TX2 2).1 (TX2 2).2.1 (TX2 2).2.2.1 ∈ lwg := (inT2 (List.mem_of_getElem? (i := 142) (by decide +kernel)) (by decide +kernel))
theorem lfX2_26 : Cond.fieldLink RX2 26 (TX2 3).1 (TX2 3).2.1 (TX2 3).2.2.1 ∈ lwg := (inT2 (List.mem_of_getElem? (i := 143) (by decide +kernel)) (by decide +kernel))
theorem lfX2_29 : Cond.fieldLink RX2 29 (TX2 4).1 (TX2 4).2.1 (TX2 4).2.2.1 ∈ lwg := (inT2 (List.mem_of_getElem? (i := 144) (by decide +kernel)) (by decide +kernel))
theorem lfX2_37 : Cond.fieldLink RX2 37 (TX3 6).1 (TX3 6).2.1 (TX3 6).2.2.1 ∈ lwg := (inT1 (List.mem_of_getElem? (i := 127) (by decide +kernel)) (by decide +kernel))
theorem lfX2_46 : Cond.fieldLink RX2 46 (TX3 13).1 (TX3 13).2.1 (TX3 13).2.2.1 ∈ lwg := (inT1 (List.mem_of_getElem? (i := 143) (by decide +kernel)) (by decide +kernel))
theorem lfX2_47 : Cond.fieldLink RX2 47 (TX3 14).1 (TX3 14).2.1 (TX3 14).2.2.1 ∈ lwg := (inT1 (List.mem_of_getElem? (i := 147) (by decide +kernel)) (by decide +kernel))
theorem lfX3_11 : Cond.fieldLink RX3 11 (TX3 0).1 (TX3 0).2.1 (TX3 0).2.2.1 ∈ lwg := (inT1 (List.mem_of_getElem? (i := 115) (by decide +kernel)) (by decide +kernel))
theorem lfX3_121 : Cond.fieldLink RX3 121 (TX4 6).1 (TX4 6).2.1 (TX4 6).2.2.1 ∈ lwg := (inT1 (List.mem_of_getElem? (i := 209) (by decide +kernel)) (by decide +kernel))
theorem lfX3_124 : Cond.fieldLink RX3 124 (TX4 2).1 (TX4 2).2.1 (TX4 2).2.2.1 ∈ lwg := (inT1 (List.mem_of_getElem? (i := 194) (by decide +kernel)) (by decide +kernel))
theorem lfX3_127 : Cond.fieldLink RX3 127 (TX4 3).1 (TX4 3).2.1 (TX4 3).2.2.1 ∈ lwg := (inT1 (List.mem_of_getElem? (i := 198) (by decide +kernel)) (by decide +kernel))
theorem lfX3_130 : Cond.fieldLink RX3 130 (TX5 3).1 (TX5 3).2.1 (TX5 3).2.2.1 ∈ lwg := (inT1 (List.mem_of_getElem? (i := 47) (by decide +kernel)) (by decide +kernel))
theorem lfX3_133 : Cond.fieldLink RX3 133 (TX5 4).1 (TX5 4).2.1 (TX5 4).2.2.1 ∈ lwg := (inT1 (List.mem_of_getElem? (i := 49) (by decide +kernel)) (by decide +kernel))
theorem lfX3_146 : Cond.fieldLink RX3 146 (TX4 0).1 (TX4 0).2.1 (TX4 0).2.2.1 ∈ lwg := (inT1 (List.mem_of_getElem? (i := 188) (by decide +kernel)) (by decide +kernel))
theorem lfX3_149 : Cond.fieldLink RX3 149 (TX4 5).1 (TX4 5).2.1 (TX4 5).2.2.1 ∈ lwg := (inT1 (List.mem_of_getElem? (i := 205) (by decide +kernel)) (by decide +kernel))
theorem lfX3_17 : Cond.fieldLink RX3 17 (TX3 1).1 (TX3 1).2.1 (TX3 1).2.2.1 ∈ lwg := (inT1 (List.mem_of_getElem? (i := 117) (by decide +kernel)) (by decide +kernel))
theorem lfX3_20 : Cond.fieldLink RX3 20 (TX3 2).1 (TX3 2).2.1 (TX3 2).2.2.1 ∈ lwg := (inT1 (List.mem_of_getElem? (i := 119) (by decide +kernel)) (by decide +kernel))
theorem lfX3_23 : Cond.fieldLink RX3 23 (TX3 3).1 (TX3 3).2.1 (TX3 3).2.2.1 ∈ lwg := (inT1 (List.mem_of_getElem? (i := 121) (by decide +kernel)) (by decide +kernel))
theorem lfX3_27 : Cond.fieldLink RX3 27 (TX3 4).1 (TX3 4).2.1 (TX3 4).2.2.1 ∈ lwg := (inT1 (List.mem_of_getElem? (i := 123) (by decide +kernel)) (by decide +kernel))
theorem lfX3_30 : Cond.fieldLink RX3 30 (TX3 5).1 (TX3 5).2.1 (TX3 5).2.2.1 ∈ lwg := (inT1 (List.mem_of_getElem? (i := 125) (by decide +kernel)) (by decide +kernel))
theorem lfX3_33 : Cond.fieldLink RX3 33 (TX3 6).1 (TX3 6).2.1 (TX3 6).2.2.1 ∈ lwg := (inT1 (List.mem_of_getElem? (i := 126) (by decide +kernel)) (by decide +kernel))
theorem lfX3_36 : Cond.fieldLink RX3 36 (TX3 7).1 (TX3 7).2.1 (TX3 7).2.2.1 ∈ lwg := (inT1 (List.mem_of_getElem? (i := 129) (by decide +kernel)) (by decide +kernel))
theorem lfX3_40 : Cond.fieldLink RX3 40 (TX3 8).1 (TX3 8).2.1 (TX3 8).2.2.1 ∈ lwg := (inT1 (List.mem_of_getElem? (i := 130) (by decide +kernel)) (by decide +kernel))
theorem lfX3_47 : Cond.fieldLink RX3 47 (TX3 10).1 (TX3 10).2.1 (TX3 10).2.2.1 ∈ lwg := (inT1 (List.mem_of_getElem? (i := 135) (by decide +kernel)) (by decide +kernel))
theorem lfX3_51 : Cond.fieldLink RX3 51 (TX3 11).1 (TX3 11).2.1 (TX3 11).2.2.1 ∈ lwg := (inT1 (List.mem_of_getElem? (i := 138) (by decide +kernel)) (by decide +kernel))
theorem lfX3_54 : Cond.fieldLink RX3 54 (TX3 12).1 (TX3 12).2.1 (TX3 12).2.2.1 ∈ lwg := (inT1 (List.mem_of_getElem? (i := 140) (by decide +kernel)) (by decide +kernel))
theorem lfX3_60 : Cond.fieldLink RX3 60 (TX3 14).1 (TX3 14).2.1 (TX3 14).2.2.1 ∈ lwg := (inT1 (List.mem_of_getElem? (i := 146) (by decide +kernel)) (by decide +kernel))
theorem lfX3_63 : Cond.fieldLink RX3 63 (TX5 6).1 (TX5 6).2.1 (TX5 6).2.2.1 ∈ lwg := (inT1 (List.mem_of_getElem? (i := 53) (by decide +kernel)) (by decide +kernel))
theorem lfX3_76 : Cond.fieldLink RX3 76 (TX4 1).1 (TX4 1).2.1 (TX4 1).2.2.1 ∈ lwg := (inT1 (List.mem_of_getElem? (i := 190) (by decide +kernel)) (by decide +kernel))
theorem lfX3_84 : Cond.fieldLink RX3 84 (TX5 2).1 (TX5 2).2.1 (TX5 2).2.2.1 ∈ lwg := (inT1 (List.mem_of_getElem? (i := 45) (by decide +kernel)) (by decide +kernel))
theorem lfX3_87 : Cond.fieldLink RX3 87 (TX5 1).1 (TX5 1).2.1 (TX5 1).2.2.1 ∈ lwg := (inT1 (List.mem_of_getElem? (i := 43) (by decide +kernel)) (by decide +kernel))
theorem lfX3_97 : Cond.fieldLink RX3 97 (TX4 4).1 (TX4 4).2.1 (TX4 4).2.2.1 ∈ lwg := (inT1 (List.mem_of_getElem? (i := 201) (by decide +kernel)) (by decide +kernel))
theorem lfX4_15 : Cond.fieldLink RX4 15 (TX4 1).1 (TX4 1).2.1 (TX4 1).2.2.1 ∈ lwg := (inT1 (List.mem_of_getElem? (i := 189) (by decide +kernel)) (by decide +kernel))
theorem lfX4_18 : Cond.fieldLink RX4 18 (TX4 2).1 (TX4 2).2.1 (TX4 2).2.2.1 ∈ lwg := (inT1 (List.mem_of_getElem? (i := 192) (by decide +kernel)) (by decide +kernel))
theorem lfX4_22 : Cond.fieldLink RX4 22 (TX4 3).1 (TX4 3).2.1 (TX4 3).2.2.1 ∈ lwg := (inT1 (List.mem_of_getElem? (i := 196) (by decide +kernel)) (by decide +kernel))
theorem lfX4_25 : Cond.fieldLink RX4 25 (TX4 4).1 (TX4 4).2.1 (TX4 4).2.2.1 ∈ lwg := (inT1 (List.mem_of_getElem? (i := 200) (by decide +kernel)) (by decide +kernel))
theorem lfX4_28 : Cond.fieldLink RX4 28 (TX4 5).1 (TX4 5).2.1 (TX4 5).2.2.1 ∈ lwg := (inT1 (List.mem_of_getElem? (i := 204) (by decide +kernel)) (by decide +kernel))
theorem lfX4_31 : Cond.fieldLink RX4 31 (TX4 6).1 (TX4 6).2.1 (TX4 6).2.2.1 ∈ lwg := (inT1 (List.mem_of_getElem? (i := 207) (by decide +kernel)) (by decide +kernel))
theorem lfX4_9 : Cond.fieldLink RX4 9 (TX4 0).1 (TX4 0).2.1 (TX4 0).2.2.1 ∈ lwg := (inT1 (List.mem_of_getElem? (i := 186) (by decide +kernel)) (by decide +kernel))
theorem lfX5_15 : Cond.fieldLink RX5 15 (TX5 1).1 (TX5 1).2.1 (TX5 1).2.2.1 ∈ lwg := (inT1 (List.mem_of_getElem? (i := 42) (by decide +kernel)) (by decide +kernel))
theorem lfX5_19 : Cond.fieldLink RX5 19 (TX5 2).1 (TX5 2).2.1 (TX5 2).2.2.1 ∈ lwg := (inT1 (List.mem_of_getElem? (i := 44) (by decide +kernel)) (by decide +kernel))
theorem lfX5_22 : Cond.fieldLink RX5 22 (TX5 3).1 (TX5 3).2.1 (TX5 3).2.2.1 ∈ lwg := (inT1 (List.mem_of_getElem? (i := 46) (by decide +kernel)) (by decide +kernel))
theorem lfX5_25 : Cond.fieldLink RX5 25 (TX5 4).1 (TX5 4).2.1 (TX5 4).2.2.1 ∈ lwg := (inT1 (List.mem_of_getElem? (i := 48) (by decide +kernel)) (by decide +kernel))
theorem lfX5_28 : Cond.fieldLink RX5 28 (TX5 5).1 (TX5 5).2.1 (TX5 5).2.2.1 ∈ lwg := (inT1 (List.mem_of_getElem? (i := 50) (by decide +kernel)) (by decide +kernel))
theorem lfX5_32 : Cond.fieldLink RX5 32 (TX5 6).1 (TX5 6).2.1 (TX5 6).2.2.1 ∈ lwg := (inT1 (List.mem_of_getElem? (i := 52) (by decide +kernel)) (by decide +kernel))
theorem lfX5_35 : Cond.fieldLink RX5 35 (TX5 7).1 (TX5 7).2.1 (TX5 7).2.2.1 ∈ lwg := (inT1 (List.mem_of_getElem? (i := 55) (by decide +kernel)) (by decide +kernel))
theorem lfX5_9 : Cond.fieldLink RX5 9 (TX5 0).1 (TX5 0).2.1 (TX5 0).2.2.1 ∈ lwg := (inT1 (List.mem_of_getElem? (i := 40) (by decide +kernel)) (by decide +kernel))
theorem lfX6_19 : Cond.fieldLink RX6 19 (TX6 2).1 (TX6 2).2.1 (TX6 2).2.2.1 ∈ lwg := (inT1 (List.mem_of_getElem? (i := 79) (by decide +kernel)) (by decide +kernel))
theorem lfX6_22 : Cond.fieldLink RX6 22 (TX6 3).1 (TX6 3).2.1 (TX6 3).2.2.1 ∈ lwg := (inT1 (List.mem_of_getElem? (i := 80) (by decide +kernel)) (by decide +kernel))
theorem lfX6_25 : Cond.fieldLink RX6 25 (TX6 4).1 (TX6 4).2.1 (TX6 4).2.2.1 ∈ lwg := (inT1 (List.mem_of_getElem? (i := 81) (by decide +kernel)) (by decide +kernel))
theorem lfX6_29 : Cond.fieldLink RX6 29 (TX6 5).1 (TX6 5).2.1 (TX6 5).2.2.1 ∈ lwg := (inT1 (List.mem_of_getElem? (i := 82) (by decide +kernel)) (by decide +kernel))
theorem lfX6_35 : Cond.fieldLink RX6 35 (TX6 6).1 (TX6 6).2.1 (TX6 6).2.2.1 ∈ lwg := (inT1 (List.mem_of_getElem? (i := 83) (by decide +kernel)) (by decide +kernel))
theorem lfX6_9 : Cond.fieldLink RX6 9 (TX6 0).1 (TX6 0).2.1 (TX6 0).2.2.1 ∈ lwg := (inT1 (List.mem_of_getElem? (i := 75) (by decide +kernel)) (by decide +kernel))
theorem lfX7_15 : Cond.fieldLink RX7 15 (TX7 1).1 (TX7 1).2.1 (TX7 1).2.2.1 ∈ lwg := (inT2 (List.mem_of_getElem? (i := 64) (by decide +kernel)) (by decide +kernel))
theorem lfX7_9 : Cond.fieldLink RX7 9 (TX7 0).1 (TX7 0).2.1 (TX7 0).2.2.1 ∈ lwg := (inT2 (List.mem_of_getElem? (i := 61) (by decide +kernel)) (by decide +kernel))
theorem lfX8_15 : Cond.fieldLink RX8 15 (TX8 1).1 (TX8 1).2.1 (TX8 1).2.2.1 ∈ lwg := (inT2 (List.mem_of_getElem? (i := 81) (by decide +kernel)) (by decide +kernel))
theorem lfX8_18 : Cond.fieldLink RX8 18 (TX8 2).1 (TX8 2).2.1 (TX8 2).2.2.1 ∈ lwg := (inT2 (List.mem_of_getElem? (i := 83) (by decide +kernel)) (by decide +kernel))
theorem lfX8_9 : Cond.fieldLink RX8 9 (TX8 0).1 (TX8 0).2.1 (TX8 0).2.2.1 ∈ lwg := (inT2 (List.mem_of_getElem? (i := 79) (by decide +kernel)) (by decide +kernel))
theorem lfX9_102 : Cond.fieldLink RX9 102 (TX3 10).1 (TX3 10).2.1 (TX3 10).2.2.1 ∈ lwg := (inT1 (List.mem_of_getElem? (i := 136) (by decide +kernel)) (by decide +kernel))
theorem lfX9_105 : Cond.fieldLink RX9 105 (TX3 13).1 (TX3 13).2.1 (TX3 13).2.2.1 ∈ lwg := (inT1 (List.mem_of_getElem? (i := 144) (by decide +kernel)) (by decide +kernel))
theorem lfX9_108 : Cond.fieldLink RX9 108 (TX4 0).1 (TX4 0).2.1 (TX4 0).2.2.1 ∈ lwg := (inT1 (List.mem_of_getElem? (i := 187) (by decide +kernel)) (by decide +kernel))
theorem lfX9_110 : Cond.fieldLink RX9 110 (TX4 1).1 (TX4 1).2.1 (TX4 1).2.2.1 ∈ lwg := (inT1 (List.mem_of_getElem? (i := 191) (by decide +kernel)) (by decide +kernel))
theorem lfX9_12 : Cond.fieldLink RX9 12 (TX9 0).1 (TX9 0).2.1 (TX9 0).2.2.1 ∈ lwg := (inT1 (List.mem_of_getElem? (i := 226) (by decide +kernel)) (by decide +kernel))
theorem lfX9_129 : Cond.fieldLink RX9 129 (TX3 9).1 (TX3 9).2.1 (TX3 9).2.2.1 ∈ lwg := (inT1 (List.mem_of_getElem? (i := 133) (by decide +kernel)) (by decide +kernel))
theorem lfX9_137 : Cond.fieldLink RX9 137 (TX4 4).1 (TX4 4).2.1 (TX4 4).2.2.1 ∈ lwg := (inT1 (List.mem_of_getElem? (i := 202) (by decide +kernel)) (by decide +kernel))
theorem lfX9_140 : Cond.fieldLink RX9 140 (TX4 2).1 (TX4 2).2.1 (TX4 2).2.2.1 ∈ lwg := (inT1 (List.mem_of_getElem? (i := 193) (by decide +kernel)) (by decide +kernel))
theorem lfX9_143 : Cond.fieldLink RX9 143 (TX4 3).1 (TX4 3).2.1 (TX4 3).2.2.1 ∈ lwg := (inT1 (List.mem_of_getElem? (i := 197) (by decide +kernel)) (by decide +kernel))
theorem lfX9_146 : Cond.fieldLink RX9 146 (TX4 6).1 (TX4 6).2.1 (TX4 6).2.2.1 ∈ lwg := (inT1 (List.mem_of_getElem? (i := 208) (by decide +kernel)) (by decide +kernel))
theorem lfX9_164 : Cond.fieldLink RX9 164 (TX7 1).1 (TX7 1).2.1 (TX7 1).2.2.1 ∈ lwg := (inT2 (List.mem_of_getElem? (i := 65) (by decide +kernel)) (by decide +kernel))
theorem lfX9_169 : Cond.fieldLink RX9 169 (TX7 0).1 (TX7 0).2.1 (TX7 0).2.2.1 ∈ lwg := (inT2 (List.mem_of_getElem? (i := 62) (by decide +kernel)) (by decide +kernel))
theorem lfX9_21 : Cond.fieldLink RX9 21 (TX9 1).1 (TX9 1).2.1 (TX9 1).2.2.1 ∈ lwg := (inT1 (List.mem_of_getElem? (i := 228) (by decide +kernel)) (by decide +kernel))
theorem lfX9_25 : Cond.fieldLink RX9 25 (TX9 2).1 (TX9 2).2.1 (TX9 2).2.2.1 ∈ lwg := (inT1 (List.mem_of_getElem? (i := 229) (by decide +kernel)) (by decide +kernel))
theorem lfX9_29 : Cond.fieldLink RX9 29 (TX9 3).1 (TX9 3).2.1 (TX9 3).2.2.1 ∈ lwg := (inT1 (List.mem_of_getElem? (i := 230) (by decide +kernel)) (by decide +kernel))
theorem lfX9_32 : Cond.fieldLink RX9 32 (TX9 4).1 (TX9 4).2.1 (TX9 4).2.2.1 ∈ lwg := (inT1 (List.mem_of_getElem? (i := 231) (by decide +kernel)) (by decide +kernel))
theorem lfX9_36 : Cond.fieldLink RX9 36 (TX9 5).1 (TX9 5).2.1 (TX9 5).2.2.1 ∈ lwg := (inT1 (List.mem_of_getElem? (i := 233) (by decide +kernel)) (by decide +kernel))
theorem lfX9_39 : Cond.fieldLink RX9 39 (TX9 6).1 (TX9 6).2.1 (TX9 6).2.2.1 ∈ lwg := (inT1 (List.mem_of_getElem? (i := 234) (by decide +kernel)) (by decide +kernel))
theorem lfX9_43 : Cond.fieldLink RX9 43 (TX9 7).1 (TX9 7).2.1 (TX9 7).2.2.1 ∈ lwg := (inT1 (List.mem_of_getElem? (i := 235) (by decide +kernel)) (by decide +kernel))
theorem lfX9_46 : Cond.fieldLink RX9 46 (TX9 8).1 (TX9 8).2.1 (TX9 8).2.2.1 ∈ lwg := (inT1 (List.mem_of_getElem? (i := 236) (by decide +kernel)) (by decide +kernel))
theorem lfX9_49 : Cond.fieldLink RX9 49 (TX9 9).1 (TX9 9).2.1 (TX9 9).2.2.1 ∈ lwg := (inT1 (List.mem_of_getElem? (i := 237) (by decide +kernel)) (by decide +kernel))
theorem lfX9_52 : Cond.fieldLink RX9 52 (TX9 10).1 (TX9 10).2.1 (TX9 10).2.2.1 ∈ lwg := (inT1 (List.mem_of_getElem? (i := 238) (by decide +kernel)) (by decide +kernel))
theorem lfX9_56 : Cond.fieldLink RX9 56 (TX9 11).1 (TX9 11).2.1 (TX9 11).2.2.1 ∈ lwg := (inT2 (List.mem_of_getElem? (i := 0) (by decide +kernel)) (by decide +kernel))
theorem lfX9_59 : Cond.fieldLink RX9 59 (TX9 12).1 (TX9 12).2.1 (TX9 12).2.2.1 ∈ lwg := (inT2 (List.mem_of_getElem? (i := 1) (by decide +kernel)) (by decide +kernel))
theorem lfX9_62 : Cond.fieldLink RX9 62 (TX9 13).1 (TX9 13).2.1 (TX9 13).2.2.1 ∈ lwg := (inT2 (List.mem_of_getElem? (i := 2) (by decide +kernel)) (by decide +kernel))
theorem lfX9_65 : Cond.fieldLink RX9 65 (TX9 14).1 (TX9 14).2.1 (TX9 14).2.2.1 ∈ lwg := (inT2 (List.mem_of_getElem? (i := 3) (by decide +kernel)) (by decide +kernel))
theorem lfX9_68 : Cond.fieldLink RX9 68 (TX9 15).1 (TX9 15).2.1 (TX9 15).2.2.1 ∈ lwg := (inT2 (List.mem_of_getElem? (i := 5) (by decide +kernel)) (by decide +kernel))
theorem lfX9_71 : Cond.fieldLink RX9 71 (TX9 16).1 (TX9 16).2.1 (TX9 16).2.2.1 ∈ lwg := (inT2 (List.mem_of_getElem? (i := 7) (by decide +kernel)) (by decide +kernel))
theorem lfX9_74 : Cond.fieldLink RX9 74 (TX9 17).1 (TX9 17).2.1 (TX9 17).2.2.1 ∈ lwg := (inT2 (List.mem_of_getElem? (i := 9) (by decide +kernel)) (by decide +kernel))
theorem lfX9_77 : Cond.fieldLink RX9 77 (TX9 18).1 (TX9 18).2.1 (TX9 18).2.2.1 ∈ lwg := (inT2 (List.mem_of_getElem? (i := 11) (by decide +kernel)) (by decide +kernel))
theorem ljX10_238 : Cond.constantLong RX10 238 (1000000000000) ∈ lwg := (inT4 (List.mem_of_getElem? (i := 54) (by decide +kernel)) (by decide +kernel))
theorem ljX11_110 : Cond.constantLong RX11 110 (51) ∈ lwg := (inT5 (List.mem_of_getElem? (i := 196) (by decide +kernel)) (by decide +kernel))
theorem ljX11_229 : Cond.constantLong RX11 229 (7) ∈ lwg := (inT5 (List.mem_of_getElem? (i := 228) (by decide +kernel)) (by decide +kernel))
theorem ljX11_231 : Cond.constantLong RX11 231 (255) ∈ lwg := (inT5 (List.mem_of_getElem? (i := 229) (by decide +kernel)) (by decide +kernel))
theorem ljX11_233 : Cond.constantLong RX11 233 (3) ∈ lwg := (inT5 (List.mem_of_getElem? (i := 234) (by decide +kernel)) (by decide +kernel))
theorem ljX11_235 : Cond.constantLong RX11 235 (15) ∈ lwg := (inT5 (List.mem_of_getElem? (i := 235) (by decide +kernel)) (by decide +kernel))
theorem ljX11_237 : Cond.constantLong RX11 237 (4) ∈ lwg := (inT6 (List.mem_of_getElem? (i := 0) (by decide +kernel)) (by decide +kernel))
theorem ljX11_254 : Cond.constantLong RX11 254 (23) ∈ lwg := (inT6 (List.mem_of_getElem? (i := 51) (by decide +kernel)) (by decide +kernel))
theorem ljX11_302 : Cond.constantLong RX11 302 (1000003) ∈ lwg := (inT6 (List.mem_of_getElem? (i := 104) (by decide +kernel)) (by decide +kernel))
theorem ljX11_304 : Cond.constantLong RX11 304 (7919) ∈ lwg := (inT6 (List.mem_of_getElem? (i := 105) (by decide +kernel)) (by decide +kernel))
theorem ljX11_306 : Cond.constantLong RX11 306 (1000000007) ∈ lwg := (inT6 (List.mem_of_getElem? (i := 106) (by decide +kernel)) (by decide +kernel))
theorem ljX11_339 : Cond.constantLong RX11 339 (20) ∈ lwg := (inT6 (List.mem_of_getElem? (i := 76) (by decide +kernel)) (by decide +kernel))
theorem ljX11_39 : Cond.constantLong RX11 39 (48) ∈ lwg := (inT5 (List.mem_of_getElem? (i := 184) (by decide +kernel)) (by decide +kernel))
theorem ljX11_390 : Cond.constantLong RX11 390 (1000000000000) ∈ lwg := (inT6 (List.mem_of_getElem? (i := 158) (by decide +kernel)) (by decide +kernel))
theorem ljX11_392 : Cond.constantLong RX11 392 (1000000000001) ∈ lwg := (inT6 (List.mem_of_getElem? (i := 159) (by decide +kernel)) (by decide +kernel))
theorem ljX11_406 : Cond.constantLong RX11 406 (99) ∈ lwg := (inT6 (List.mem_of_getElem? (i := 172) (by decide +kernel)) (by decide +kernel))
theorem ljX11_408 : Cond.constantLong RX11 408 (9) ∈ lwg := (inT6 (List.mem_of_getElem? (i := 177) (by decide +kernel)) (by decide +kernel))
theorem ljX11_41 : Cond.constantLong RX11 41 (57) ∈ lwg := (inT5 (List.mem_of_getElem? (i := 185) (by decide +kernel)) (by decide +kernel))
theorem ljX11_424 : Cond.constantLong RX11 424 (6) ∈ lwg := (inT6 (List.mem_of_getElem? (i := 204) (by decide +kernel)) (by decide +kernel))
theorem ljX11_426 : Cond.constantLong RX11 426 (-1) ∈ lwg := (inT6 (List.mem_of_getElem? (i := 205) (by decide +kernel)) (by decide +kernel))
theorem ljX11_475 : Cond.constantLong RX11 475 (5) ∈ lwg := (inT7 (List.mem_of_getElem? (i := 26) (by decide +kernel)) (by decide +kernel))
theorem ljX11_489 : Cond.constantLong RX11 489 (50) ∈ lwg := (inT7 (List.mem_of_getElem? (i := 31) (by decide +kernel)) (by decide +kernel))
theorem ljX11_509 : Cond.constantLong RX11 509 (200) ∈ lwg := (inT7 (List.mem_of_getElem? (i := 36) (by decide +kernel)) (by decide +kernel))
theorem ljX11_514 : Cond.constantLong RX11 514 (12) ∈ lwg := (inT7 (List.mem_of_getElem? (i := 45) (by decide +kernel)) (by decide +kernel))
theorem ljX11_519 : Cond.constantLong RX11 519 (2) ∈ lwg := (inT7 (List.mem_of_getElem? (i := 50) (by decide +kernel)) (by decide +kernel))
theorem ljX11_56 : Cond.constantLong RX11 56 (97) ∈ lwg := (inT5 (List.mem_of_getElem? (i := 139) (by decide +kernel)) (by decide +kernel))
theorem ljX11_58 : Cond.constantLong RX11 58 (104) ∈ lwg := (inT5 (List.mem_of_getElem? (i := 140) (by decide +kernel)) (by decide +kernel))
theorem ljX11_60 : Cond.constantLong RX11 60 (65) ∈ lwg := (inT5 (List.mem_of_getElem? (i := 194) (by decide +kernel)) (by decide +kernel))
theorem ljX11_62 : Cond.constantLong RX11 62 (68) ∈ lwg := (inT5 (List.mem_of_getElem? (i := 195) (by decide +kernel)) (by decide +kernel))
theorem ljX4_34 : Cond.constantLong RX4 34 (255) ∈ lwg := (inT3 (List.mem_of_getElem? (i := 119) (by decide +kernel)) (by decide +kernel))
theorem ljX4_36 : Cond.constantLong RX4 36 (-1) ∈ lwg := (inT3 (List.mem_of_getElem? (i := 85) (by decide +kernel)) (by decide +kernel))
theorem ljX4_42 : Cond.constantLong RX4 42 (63) ∈ lwg := (inT3 (List.mem_of_getElem? (i := 179) (by decide +kernel)) (by decide +kernel))
theorem ljX4_44 : Cond.constantLong RX4 44 (15) ∈ lwg := (inT3 (List.mem_of_getElem? (i := 84) (by decide +kernel)) (by decide +kernel))
theorem ljX4_50 : Cond.constantLong RX4 50 (4) ∈ lwg := (inT3 (List.mem_of_getElem? (i := 189) (by decide +kernel)) (by decide +kernel))
theorem ljX9_149 : Cond.constantLong RX9 149 (-7046029254386353131) ∈ lwg := (inT3 (List.mem_of_getElem? (i := 239) (by decide +kernel)) (by decide +kernel))
theorem ljX9_151 : Cond.constantLong RX9 151 (-4417276706812531889) ∈ lwg := (inT4 (List.mem_of_getElem? (i := 0) (by decide +kernel)) (by decide +kernel))
theorem lmX1_43 : Cond.methodLink RX1 43 yX1_settle ∈ lwg := (inT4 (List.mem_of_getElem? (i := 216) (by decide +kernel)) (by decide +kernel))
theorem lmX1_46 : Cond.methodLink RX1 46 yX1_known ∈ lwg := (inT4 (List.mem_of_getElem? (i := 220) (by decide +kernel)) (by decide +kernel))
theorem lmX10_105 : Cond.methodLink RX10 105 yX6_exchange ∈ lwg := (inT3 (List.mem_of_getElem? (i := 76) (by decide +kernel)) (by decide +kernel))
theorem lmX10_109 : Cond.methodLink RX10 109 yX4_putLine ∈ lwg := (inT3 (List.mem_of_getElem? (i := 80) (by decide +kernel)) (by decide +kernel))
theorem lmX10_113 : Cond.methodLink RX10 113 yX10_forgetKept ∈ lwg := (inT3 (List.mem_of_getElem? (i := 86) (by decide +kernel)) (by decide +kernel))
theorem lmX10_125 : Cond.methodLink RX10 125 yX5_clear ∈ lwg := (inT3 (List.mem_of_getElem? (i := 94) (by decide +kernel)) (by decide +kernel))
theorem lmX10_128 : Cond.methodLink RX10 128 yX6_readAsked ∈ lwg := (inT3 (List.mem_of_getElem? (i := 95) (by decide +kernel)) (by decide +kernel))
theorem lmX10_141 : Cond.methodLink RX10 141 yX4_slotValue ∈ lwg := (inT3 (List.mem_of_getElem? (i := 111) (by decide +kernel)) (by decide +kernel))
theorem lmX10_144 : Cond.methodLink RX10 144 yX4_putSlot ∈ lwg := (inT3 (List.mem_of_getElem? (i := 115) (by decide +kernel)) (by decide +kernel))
theorem lmX10_153 : Cond.methodLink RX10 153 yX10_stepByHand ∈ lwg := (inT3 (List.mem_of_getElem? (i := 132) (by decide +kernel)) (by decide +kernel))
theorem lmX10_165 : Cond.methodLink RX10 165 yX10_narrowed ∈ lwg := (inT3 (List.mem_of_getElem? (i := 194) (by decide +kernel)) (by decide +kernel))
theorem lmX10_186 : Cond.methodLink RX10 186 yX3_value ∈ lwg := (inT3 (List.mem_of_getElem? (i := 201) (by decide +kernel)) (by decide +kernel))
theorem lmX10_190 : Cond.methodLink RX10 190 yX7_tellOne ∈ lwg := (inT3 (List.mem_of_getElem? (i := 202) (by decide +kernel)) (by decide +kernel))
theorem lmX10_194 : Cond.methodLink RX10 194 yX10_refusesRuns ∈ lwg := (inT3 (List.mem_of_getElem? (i := 214) (by decide +kernel)) (by decide +kernel))
theorem lmX10_198 : Cond.methodLink RX10 198 yX10_explored ∈ lwg := (inT3 (List.mem_of_getElem? (i := 218) (by decide +kernel)) (by decide +kernel))
theorem lmX10_207 : Cond.methodLink RX10 207 yX10_tellStepsTo ∈ lwg := (inT4 (List.mem_of_getElem? (i := 27) (by decide +kernel)) (by decide +kernel))
theorem lmX10_213 : Cond.methodLink RX10 213 yX9_explore ∈ lwg := (inT3 (List.mem_of_getElem? (i := 222) (by decide +kernel)) (by decide +kernel))
theorem lmX10_217 : Cond.methodLink RX10 217 yX7_clear ∈ lwg := (inT4 (List.mem_of_getElem? (i := 39) (by decide +kernel)) (by decide +kernel))
theorem lmX10_227 : Cond.methodLink RX10 227 yX9_tellSteps ∈ lwg := (inT4 (List.mem_of_getElem? (i := 31) (by decide +kernel)) (by decide +kernel))
theorem lmX10_234 : Cond.methodLink RX10 234 yX10_power ∈ lwg := (inT4 (List.mem_of_getElem? (i := 51) (by decide +kernel)) (by decide +kernel))
theorem lmX10_243 : Cond.methodLink RX10 243 yX9_weightWithout ∈ lwg := (inT4 (List.mem_of_getElem? (i := 57) (by decide +kernel)) (by decide +kernel))
theorem lmX10_247 : Cond.methodLink RX10 247 yX7_tellTwo ∈ lwg := (inT4 (List.mem_of_getElem? (i := 65) (by decide +kernel)) (by decide +kernel))
theorem lmX10_251 : Cond.methodLink RX10 251 yX10_weightsOf ∈ lwg := (inT4 (List.mem_of_getElem? (i := 73) (by decide +kernel)) (by decide +kernel))
theorem lmX10_255 : Cond.methodLink RX10 255 yX10_weightOfAll ∈ lwg := (inT4 (List.mem_of_getElem? (i := 81) (by decide +kernel)) (by decide +kernel))
theorem lmX10_258 : Cond.methodLink RX10 258 yX10_commonDivisor ∈ lwg := (inT4 (List.mem_of_getElem? (i := 85) (by decide +kernel)) (by decide +kernel))
theorem lmX10_262 : Cond.methodLink RX10 262 yX10_comparedFractions ∈ lwg := (inT4 (List.mem_of_getElem? (i := 92) (by decide +kernel)) (by decide +kernel))
theorem lmX10_266 : Cond.methodLink RX10 266 yX4_copy ∈ lwg := (inT4 (List.mem_of_getElem? (i := 99) (by decide +kernel)) (by decide +kernel))
theorem lmX10_270 : Cond.methodLink RX10 270 yX10_tellBreakingNumbers ∈ lwg := (inT4 (List.mem_of_getElem? (i := 100) (by decide +kernel)) (by decide +kernel))
theorem lmX10_273 : Cond.methodLink RX10 273 yX10_fewest ∈ lwg := (inT4 (List.mem_of_getElem? (i := 117) (by decide +kernel)) (by decide +kernel))
theorem lmX10_289 : Cond.methodLink RX10 289 yX3_usePatches ∈ lwg := (inT4 (List.mem_of_getElem? (i := 135) (by decide +kernel)) (by decide +kernel))
theorem lmX10_299 : Cond.methodLink RX10 299 yX10_refusesTyping ∈ lwg := (inT4 (List.mem_of_getElem? (i := 175) (by decide +kernel)) (by decide +kernel))
theorem lmX10_303 : Cond.methodLink RX10 303 yX10_followed ∈ lwg := (inT4 (List.mem_of_getElem? (i := 179) (by decide +kernel)) (by decide +kernel))
theorem lmX10_313 : Cond.methodLink RX10 313 yX10_tellShape ∈ lwg := (inT4 (List.mem_of_getElem? (i := 195) (by decide +kernel)) (by decide +kernel))
theorem lmX10_317 : Cond.methodLink RX10 317 yX1_isHouse ∈ lwg := (inT4 (List.mem_of_getElem? (i := 209) (by decide +kernel)) (by decide +kernel))
theorem lmX10_320 : Cond.methodLink RX10 320 yX1_addCase ∈ lwg := (inT4 (List.mem_of_getElem? (i := 212) (by decide +kernel)) (by decide +kernel))
theorem lmX10_323 : Cond.methodLink RX10 323 yX1_addLetter ∈ lwg := (inT4 (List.mem_of_getElem? (i := 228) (by decide +kernel)) (by decide +kernel))
theorem lmX10_327 : Cond.methodLink RX10 327 yX1_known ∈ lwg := (inT4 (List.mem_of_getElem? (i := 236) (by decide +kernel)) (by decide +kernel))
theorem lmX10_330 : Cond.methodLink RX10 330 yX1_hasEnough ∈ lwg := (inT5 (List.mem_of_getElem? (i := 1) (by decide +kernel)) (by decide +kernel))
theorem lmX10_334 : Cond.methodLink RX10 334 yX2_take ∈ lwg := (inT5 (List.mem_of_getElem? (i := 9) (by decide +kernel)) (by decide +kernel))
theorem lmX10_342 : Cond.methodLink RX10 342 yX2_giveBack ∈ lwg := (inT5 (List.mem_of_getElem? (i := 19) (by decide +kernel)) (by decide +kernel))
theorem lmX10_358 : Cond.methodLink RX10 358 yX8_prepare ∈ lwg := (inT4 (List.mem_of_getElem? (i := 139) (by decide +kernel)) (by decide +kernel))
theorem lmX10_364 : Cond.methodLink RX10 364 yX9_follow ∈ lwg := (inT4 (List.mem_of_getElem? (i := 143) (by decide +kernel)) (by decide +kernel))
theorem lmX10_368 : Cond.methodLink RX10 368 yX3_act ∈ lwg := (inT3 (List.mem_of_getElem? (i := 136) (by decide +kernel)) (by decide +kernel))
theorem lmX10_372 : Cond.methodLink RX10 372 yX7_tellNext ∈ lwg := (inT4 (List.mem_of_getElem? (i := 104) (by decide +kernel)) (by decide +kernel))
theorem lmX10_375 : Cond.methodLink RX10 375 yX8_typedBits ∈ lwg := (inT4 (List.mem_of_getElem? (i := 121) (by decide +kernel)) (by decide +kernel))
theorem lmX10_378 : Cond.methodLink RX10 378 yJ6_bitCount_0f7a4 ∈ lwg := (inT4 (List.mem_of_getElem? (i := 125) (by decide +kernel)) (by decide +kernel))
theorem lmX10_383 : Cond.methodLink RX10 383 yX10_useSet ∈ lwg := (inT4 (List.mem_of_getElem? (i := 131) (by decide +kernel)) (by decide +kernel))
theorem lmX10_388 : Cond.methodLink RX10 388 yX4_isSlot ∈ lwg := (inT4 (List.mem_of_getElem? (i := 199) (by decide +kernel)) (by decide +kernel))
theorem lmX10_391 : Cond.methodLink RX10 391 yX10_nibble ∈ lwg := (inT4 (List.mem_of_getElem? (i := 202) (by decide +kernel)) (by decide +kernel))
theorem lmX10_88 : Cond.methodLink RX10 88 yX10_takeText ∈ lwg := (inT2 (List.mem_of_getElem? (i := 209) (by decide +kernel)) (by decide +kernel))
theorem lmX10_97 : Cond.methodLink RX10 97 yX6_readLines ∈ lwg := (inT2 (List.mem_of_getElem? (i := 213) (by decide +kernel)) (by decide +kernel))
theorem lmX11_101 : Cond.methodLink RX11 101 yX11_every ∈ lwg := (inT5 (List.mem_of_getElem? (i := 156) (by decide +kernel)) (by decide +kernel))
theorem lmX11_118 : Cond.methodLink RX11 118 yX11_begins ∈ lwg := (inT5 (List.mem_of_getElem? (i := 129) (by decide +kernel)) (by decide +kernel))
theorem lmX11_124 : Cond.methodLink RX11 124 yX11_line ∈ lwg := (inT5 (List.mem_of_getElem? (i := 135) (by decide +kernel)) (by decide +kernel))
theorem lmX11_128 : Cond.methodLink RX11 128 yX11_fault ∈ lwg := (inT5 (List.mem_of_getElem? (i := 197) (by decide +kernel)) (by decide +kernel))
theorem lmX11_132 : Cond.methodLink RX11 132 yX11_copies ∈ lwg := (inT5 (List.mem_of_getElem? (i := 201) (by decide +kernel)) (by decide +kernel))
theorem lmX11_151 : Cond.methodLink RX11 151 yX11_forgetsKept ∈ lwg := (inT5 (List.mem_of_getElem? (i := 208) (by decide +kernel)) (by decide +kernel))
theorem lmX11_188 : Cond.methodLink RX11 188 yX11_valueOf ∈ lwg := (inT6 (List.mem_of_getElem? (i := 24) (by decide +kernel)) (by decide +kernel))
theorem lmX11_191 : Cond.methodLink RX11 191 yX11_acted ∈ lwg := (inT6 (List.mem_of_getElem? (i := 28) (by decide +kernel)) (by decide +kernel))
theorem lmX11_195 : Cond.methodLink RX11 195 yX11_worked ∈ lwg := (inT6 (List.mem_of_getElem? (i := 20) (by decide +kernel)) (by decide +kernel))
theorem lmX11_204 : Cond.methodLink RX11 204 yX11_has ∈ lwg := (inT6 (List.mem_of_getElem? (i := 17) (by decide +kernel)) (by decide +kernel))
theorem lmX11_21 : Cond.methodLink RX11 21 yX11_in ∈ lwg := (inT5 (List.mem_of_getElem? (i := 122) (by decide +kernel)) (by decide +kernel))
theorem lmX11_220 : Cond.methodLink RX11 220 yX11_rowOfLine ∈ lwg := (inT6 (List.mem_of_getElem? (i := 13) (by decide +kernel)) (by decide +kernel))
theorem lmX11_223 : Cond.methodLink RX11 223 yX11_moves ∈ lwg := (inT6 (List.mem_of_getElem? (i := 31) (by decide +kernel)) (by decide +kernel))
theorem lmX11_226 : Cond.methodLink RX11 226 yX11_fires ∈ lwg := (inT6 (List.mem_of_getElem? (i := 35) (by decide +kernel)) (by decide +kernel))
theorem lmX11_242 : Cond.methodLink RX11 242 yX11_does ∈ lwg := (inT6 (List.mem_of_getElem? (i := 9) (by decide +kernel)) (by decide +kernel))
theorem lmX11_248 : Cond.methodLink RX11 248 yX11_byHand ∈ lwg := (inT6 (List.mem_of_getElem? (i := 5) (by decide +kernel)) (by decide +kernel))
theorem lmX11_251 : Cond.methodLink RX11 251 yX11_width ∈ lwg := (inT6 (List.mem_of_getElem? (i := 43) (by decide +kernel)) (by decide +kernel))
theorem lmX11_256 : Cond.methodLink RX11 256 yX11_refuse ∈ lwg := (inT6 (List.mem_of_getElem? (i := 52) (by decide +kernel)) (by decide +kernel))
theorem lmX11_259 : Cond.methodLink RX11 259 yX11_reads ∈ lwg := (inT6 (List.mem_of_getElem? (i := 60) (by decide +kernel)) (by decide +kernel))
theorem lmX11_262 : Cond.methodLink RX11 262 yX11_enters ∈ lwg := (inT6 (List.mem_of_getElem? (i := 64) (by decide +kernel)) (by decide +kernel))
theorem lmX11_266 : Cond.methodLink RX11 266 yX11_packsSlots ∈ lwg := (inT6 (List.mem_of_getElem? (i := 81) (by decide +kernel)) (by decide +kernel))
theorem lmX11_274 : Cond.methodLink RX11 274 yX11_packsRest ∈ lwg := (inT6 (List.mem_of_getElem? (i := 85) (by decide +kernel)) (by decide +kernel))
theorem lmX11_292 : Cond.methodLink RX11 292 yX11_unpacks ∈ lwg := (inT6 (List.mem_of_getElem? (i := 115) (by decide +kernel)) (by decide +kernel))
theorem lmX11_308 : Cond.methodLink RX11 308 yX11_places ∈ lwg := (inT6 (List.mem_of_getElem? (i := 101) (by decide +kernel)) (by decide +kernel))
theorem lmX11_31 : Cond.methodLink RX11 31 yX11_isAt ∈ lwg := (inT5 (List.mem_of_getElem? (i := 145) (by decide +kernel)) (by decide +kernel))
theorem lmX11_318 : Cond.methodLink RX11 318 yX11_goesTo ∈ lwg := (inT6 (List.mem_of_getElem? (i := 111) (by decide +kernel)) (by decide +kernel))
theorem lmX11_321 : Cond.methodLink RX11 321 yX11_placeOf ∈ lwg := (inT6 (List.mem_of_getElem? (i := 97) (by decide +kernel)) (by decide +kernel))
theorem lmX11_324 : Cond.methodLink RX11 324 yX11_empties ∈ lwg := (inT6 (List.mem_of_getElem? (i := 93) (by decide +kernel)) (by decide +kernel))
theorem lmX11_333 : Cond.methodLink RX11 333 yX11_after ∈ lwg := (inT6 (List.mem_of_getElem? (i := 107) (by decide +kernel)) (by decide +kernel))
theorem lmX11_341 : Cond.methodLink RX11 341 yX11_isRun ∈ lwg := (inT6 (List.mem_of_getElem? (i := 72) (by decide +kernel)) (by decide +kernel))
theorem lmX11_344 : Cond.methodLink RX11 344 yX11_remembers ∈ lwg := (inT6 (List.mem_of_getElem? (i := 77) (by decide +kernel)) (by decide +kernel))
theorem lmX11_347 : Cond.methodLink RX11 347 yX11_explores ∈ lwg := (inT6 (List.mem_of_getElem? (i := 89) (by decide +kernel)) (by decide +kernel))
theorem lmX11_35 : Cond.methodLink RX11 35 yX11_truth ∈ lwg := (inT5 (List.mem_of_getElem? (i := 149) (by decide +kernel)) (by decide +kernel))
theorem lmX11_350 : Cond.methodLink RX11 350 yX11_comesBack ∈ lwg := (inT6 (List.mem_of_getElem? (i := 119) (by decide +kernel)) (by decide +kernel))
theorem lmX11_356 : Cond.methodLink RX11 356 yX11_breaks ∈ lwg := (inT6 (List.mem_of_getElem? (i := 135) (by decide +kernel)) (by decide +kernel))
theorem lmX11_362 : Cond.methodLink RX11 362 yX11_isFound ∈ lwg := (inT6 (List.mem_of_getElem? (i := 131) (by decide +kernel)) (by decide +kernel))
theorem lmX11_365 : Cond.methodLink RX11 365 yX11_tellsWay ∈ lwg := (inT6 (List.mem_of_getElem? (i := 139) (by decide +kernel)) (by decide +kernel))
theorem lmX11_368 : Cond.methodLink RX11 368 yX11_finds ∈ lwg := (inT6 (List.mem_of_getElem? (i := 127) (by decide +kernel)) (by decide +kernel))
theorem lmX11_394 : Cond.methodLink RX11 394 yX11_power ∈ lwg := (inT6 (List.mem_of_getElem? (i := 155) (by decide +kernel)) (by decide +kernel))
theorem lmX11_398 : Cond.methodLink RX11 398 yX11_weighs ∈ lwg := (inT6 (List.mem_of_getElem? (i := 160) (by decide +kernel)) (by decide +kernel))
theorem lmX11_402 : Cond.methodLink RX11 402 yX11_sumOf ∈ lwg := (inT6 (List.mem_of_getElem? (i := 164) (by decide +kernel)) (by decide +kernel))
theorem lmX11_410 : Cond.methodLink RX11 410 yX11_allWeights ∈ lwg := (inT6 (List.mem_of_getElem? (i := 182) (by decide +kernel)) (by decide +kernel))
theorem lmX11_413 : Cond.methodLink RX11 413 yX11_isWeightless ∈ lwg := (inT6 (List.mem_of_getElem? (i := 186) (by decide +kernel)) (by decide +kernel))
theorem lmX11_416 : Cond.methodLink RX11 416 yX11_common ∈ lwg := (inT6 (List.mem_of_getElem? (i := 190) (by decide +kernel)) (by decide +kernel))
theorem lmX11_420 : Cond.methodLink RX11 420 yX11_compares ∈ lwg := (inT6 (List.mem_of_getElem? (i := 197) (by decide +kernel)) (by decide +kernel))
theorem lmX11_428 : Cond.methodLink RX11 428 yX11_someBreaks ∈ lwg := (inT6 (List.mem_of_getElem? (i := 206) (by decide +kernel)) (by decide +kernel))
theorem lmX11_434 : Cond.methodLink RX11 434 yJ6_bitCount_0f7a4 ∈ lwg := (inT6 (List.mem_of_getElem? (i := 221) (by decide +kernel)) (by decide +kernel))
theorem lmX11_439 : Cond.methodLink RX11 439 yX11_nextSet ∈ lwg := (inT6 (List.mem_of_getElem? (i := 218) (by decide +kernel)) (by decide +kernel))
theorem lmX11_466 : Cond.methodLink RX11 466 yX11_types ∈ lwg := (inT7 (List.mem_of_getElem? (i := 6) (by decide +kernel)) (by decide +kernel))
theorem lmX11_511 : Cond.methodLink RX11 511 yX11_tells ∈ lwg := (inT7 (List.mem_of_getElem? (i := 37) (by decide +kernel)) (by decide +kernel))
theorem lmX11_52 : Cond.methodLink RX11 52 yX11_isDigit ∈ lwg := (inT5 (List.mem_of_getElem? (i := 180) (by decide +kernel)) (by decide +kernel))
theorem lmX11_68 : Cond.methodLink RX11 68 yX11_digits ∈ lwg := (inT5 (List.mem_of_getElem? (i := 176) (by decide +kernel)) (by decide +kernel))
theorem lmX11_72 : Cond.methodLink RX11 72 yX11_marks ∈ lwg := (inT5 (List.mem_of_getElem? (i := 186) (by decide +kernel)) (by decide +kernel))
theorem lmX11_76 : Cond.methodLink RX11 76 yX11_letter ∈ lwg := (inT5 (List.mem_of_getElem? (i := 190) (by decide +kernel)) (by decide +kernel))
theorem lmX11_83 : Cond.methodLink RX11 83 yX11_some ∈ lwg := (inT5 (List.mem_of_getElem? (i := 152) (by decide +kernel)) (by decide +kernel))
theorem lmX11_86 : Cond.methodLink RX11 86 yX11_comes ∈ lwg := (inT5 (List.mem_of_getElem? (i := 141) (by decide +kernel)) (by decide +kernel))
theorem lmX11_89 : Cond.methodLink RX11 89 yX11_thing ∈ lwg := (inT5 (List.mem_of_getElem? (i := 172) (by decide +kernel)) (by decide +kernel))
theorem lmX11_92 : Cond.methodLink RX11 92 yX11_ahead ∈ lwg := (inT5 (List.mem_of_getElem? (i := 168) (by decide +kernel)) (by decide +kernel))
theorem lmX11_95 : Cond.methodLink RX11 95 yX11_total ∈ lwg := (inT5 (List.mem_of_getElem? (i := 164) (by decide +kernel)) (by decide +kernel))
theorem lmX11_98 : Cond.methodLink RX11 98 yX11_compared ∈ lwg := (inT5 (List.mem_of_getElem? (i := 160) (by decide +kernel)) (by decide +kernel))
theorem lmX2_33 : Cond.methodLink RX2 33 yX4_copy ∈ lwg := (inT5 (List.mem_of_getElem? (i := 13) (by decide +kernel)) (by decide +kernel))
theorem lmX3_100 : Cond.methodLink RX3 100 yX3_fire ∈ lwg := (inT3 (List.mem_of_getElem? (i := 180) (by decide +kernel)) (by decide +kernel))
theorem lmX3_104 : Cond.methodLink RX3 104 yX4_putLine ∈ lwg := (inT3 (List.mem_of_getElem? (i := 184) (by decide +kernel)) (by decide +kernel))
theorem lmX3_107 : Cond.methodLink RX3 107 yX4_endStep ∈ lwg := (inT3 (List.mem_of_getElem? (i := 185) (by decide +kernel)) (by decide +kernel))
theorem lmX3_111 : Cond.methodLink RX3 111 yX4_tenthsOf ∈ lwg := (inT3 (List.mem_of_getElem? (i := 164) (by decide +kernel)) (by decide +kernel))
theorem lmX3_114 : Cond.methodLink RX3 114 yX4_targetOf ∈ lwg := (inT3 (List.mem_of_getElem? (i := 171) (by decide +kernel)) (by decide +kernel))
theorem lmX3_117 : Cond.methodLink RX3 117 yX4_putPart ∈ lwg := (inT3 (List.mem_of_getElem? (i := 175) (by decide +kernel)) (by decide +kernel))
theorem lmX3_138 : Cond.methodLink RX3 138 yX3_thing ∈ lwg := (inT3 (List.mem_of_getElem? (i := 153) (by decide +kernel)) (by decide +kernel))
theorem lmX3_142 : Cond.methodLink RX3 142 yX3_joined ∈ lwg := (inT3 (List.mem_of_getElem? (i := 156) (by decide +kernel)) (by decide +kernel))
theorem lmX3_66 : Cond.methodLink RX3 66 yX3_value ∈ lwg := (inT3 (List.mem_of_getElem? (i := 149) (by decide +kernel)) (by decide +kernel))
theorem lmX3_70 : Cond.methodLink RX3 70 yX4_beginStep ∈ lwg := (inT3 (List.mem_of_getElem? (i := 140) (by decide +kernel)) (by decide +kernel))
theorem lmX3_80 : Cond.methodLink RX3 80 yX4_lineOf ∈ lwg := (inT3 (List.mem_of_getElem? (i := 145) (by decide +kernel)) (by decide +kernel))
theorem lmX3_90 : Cond.methodLink RX3 90 yX4_putSlot ∈ lwg := (inT3 (List.mem_of_getElem? (i := 159) (by decide +kernel)) (by decide +kernel))
theorem lmX3_93 : Cond.methodLink RX3 93 yX3_move ∈ lwg := (inT3 (List.mem_of_getElem? (i := 160) (by decide +kernel)) (by decide +kernel))
theorem lmX4_38 : Cond.methodLink RX4 38 yX4_tenthsIn ∈ lwg := (inT3 (List.mem_of_getElem? (i := 168) (by decide +kernel)) (by decide +kernel))
theorem lmX4_46 : Cond.methodLink RX4 46 yX4_putSlot ∈ lwg := (inT3 (List.mem_of_getElem? (i := 144) (by decide +kernel)) (by decide +kernel))
theorem lmX6_101 : Cond.methodLink RX6 101 yX6_release ∈ lwg := (inT3 (List.mem_of_getElem? (i := 54) (by decide +kernel)) (by decide +kernel))
theorem lmX6_104 : Cond.methodLink RX6 104 yX0_ofJoint ∈ lwg := (inT3 (List.mem_of_getElem? (i := 65) (by decide +kernel)) (by decide +kernel))
theorem lmX6_109 : Cond.methodLink RX6 109 yX6_holdJoint ∈ lwg := (inT3 (List.mem_of_getElem? (i := 68) (by decide +kernel)) (by decide +kernel))
theorem lmX6_112 : Cond.methodLink RX6 112 yX6_hold ∈ lwg := (inT3 (List.mem_of_getElem? (i := 39) (by decide +kernel)) (by decide +kernel))
theorem lmX6_115 : Cond.methodLink RX6 115 yX5_emit ∈ lwg := (inT3 (List.mem_of_getElem? (i := 47) (by decide +kernel)) (by decide +kernel))
theorem lmX6_118 : Cond.methodLink RX6 118 yX0_ofThing ∈ lwg := (inT3 (List.mem_of_getElem? (i := 51) (by decide +kernel)) (by decide +kernel))
theorem lmX6_122 : Cond.methodLink RX6 122 yX0_rank ∈ lwg := (inT3 (List.mem_of_getElem? (i := 62) (by decide +kernel)) (by decide +kernel))
theorem lmX6_125 : Cond.methodLink RX6 125 yX6_heldRank ∈ lwg := (inT3 (List.mem_of_getElem? (i := 58) (by decide +kernel)) (by decide +kernel))
theorem lmX6_39 : Cond.methodLink RX6 39 yX6_begin ∈ lwg := (inT2 (List.mem_of_getElem? (i := 217) (by decide +kernel)) (by decide +kernel))
theorem lmX6_43 : Cond.methodLink RX6 43 yX5_beginLine ∈ lwg := (inT3 (List.mem_of_getElem? (i := 8) (by decide +kernel)) (by decide +kernel))
theorem lmX6_47 : Cond.methodLink RX6 47 yX6_readExpression ∈ lwg := (inT3 (List.mem_of_getElem? (i := 31) (by decide +kernel)) (by decide +kernel))
theorem lmX6_51 : Cond.methodLink RX6 51 yX5_endLine ∈ lwg := (inT3 (List.mem_of_getElem? (i := 72) (by decide +kernel)) (by decide +kernel))
theorem lmX6_54 : Cond.methodLink RX6 54 yX6_readLine ∈ lwg := (inT2 (List.mem_of_getElem? (i := 236) (by decide +kernel)) (by decide +kernel))
theorem lmX6_58 : Cond.methodLink RX6 58 yX6_passes ∈ lwg := (inT3 (List.mem_of_getElem? (i := 12) (by decide +kernel)) (by decide +kernel))
theorem lmX6_68 : Cond.methodLink RX6 68 yX5_clear ∈ lwg := (inT2 (List.mem_of_getElem? (i := 224) (by decide +kernel)) (by decide +kernel))
theorem lmX6_71 : Cond.methodLink RX6 71 yX5_copyText ∈ lwg := (inT2 (List.mem_of_getElem? (i := 228) (by decide +kernel)) (by decide +kernel))
theorem lmX6_75 : Cond.methodLink RX6 75 yX6_look ∈ lwg := (inT3 (List.mem_of_getElem? (i := 0) (by decide +kernel)) (by decide +kernel))
theorem lmX6_79 : Cond.methodLink RX6 79 yX6_readHead ∈ lwg := (inT3 (List.mem_of_getElem? (i := 4) (by decide +kernel)) (by decide +kernel))
theorem lmX6_82 : Cond.methodLink RX6 82 yX6_readPart ∈ lwg := (inT3 (List.mem_of_getElem? (i := 16) (by decide +kernel)) (by decide +kernel))
theorem lmX6_85 : Cond.methodLink RX6 85 yX6_readNumbered ∈ lwg := (inT3 (List.mem_of_getElem? (i := 20) (by decide +kernel)) (by decide +kernel))
theorem lmX6_88 : Cond.methodLink RX6 88 yX6_isDigit ∈ lwg := (inT3 (List.mem_of_getElem? (i := 24) (by decide +kernel)) (by decide +kernel))
theorem lmX6_91 : Cond.methodLink RX6 91 yX6_readNumber ∈ lwg := (inT3 (List.mem_of_getElem? (i := 27) (by decide +kernel)) (by decide +kernel))
theorem lmX6_95 : Cond.methodLink RX6 95 yX6_readAhead ∈ lwg := (inT3 (List.mem_of_getElem? (i := 35) (by decide +kernel)) (by decide +kernel))
theorem lmX6_98 : Cond.methodLink RX6 98 yX6_readThing ∈ lwg := (inT3 (List.mem_of_getElem? (i := 43) (by decide +kernel)) (by decide +kernel))
theorem lmX7_19 : Cond.methodLink RX7 19 yX7_tellNext ∈ lwg := (inT3 (List.mem_of_getElem? (i := 206) (by decide +kernel)) (by decide +kernel))
theorem lmX9_113 : Cond.methodLink RX9 113 yX3_act ∈ lwg := (inT4 (List.mem_of_getElem? (i := 9) (by decide +kernel)) (by decide +kernel))
theorem lmX9_117 : Cond.methodLink RX9 117 yX3_breaks ∈ lwg := (inT4 (List.mem_of_getElem? (i := 10) (by decide +kernel)) (by decide +kernel))
theorem lmX9_121 : Cond.methodLink RX9 121 yX9_isSought ∈ lwg := (inT4 (List.mem_of_getElem? (i := 14) (by decide +kernel)) (by decide +kernel))
theorem lmX9_125 : Cond.methodLink RX9 125 yX9_noteFirst ∈ lwg := (inT4 (List.mem_of_getElem? (i := 19) (by decide +kernel)) (by decide +kernel))
theorem lmX9_133 : Cond.methodLink RX9 133 yX3_value ∈ lwg := (inT4 (List.mem_of_getElem? (i := 18) (by decide +kernel)) (by decide +kernel))
theorem lmX9_153 : Cond.methodLink RX9 153 yX9_add ∈ lwg := (inT4 (List.mem_of_getElem? (i := 1) (by decide +kernel)) (by decide +kernel))
theorem lmX9_156 : Cond.methodLink RX9 156 yX9_spread ∈ lwg := (inT4 (List.mem_of_getElem? (i := 61) (by decide +kernel)) (by decide +kernel))
theorem lmX9_160 : Cond.methodLink RX9 160 yX9_followFrom ∈ lwg := (inT4 (List.mem_of_getElem? (i := 147) (by decide +kernel)) (by decide +kernel))
theorem lmX9_81 : Cond.methodLink RX9 81 yX9_begin ∈ lwg := (inT3 (List.mem_of_getElem? (i := 226) (by decide +kernel)) (by decide +kernel))
theorem lmX9_85 : Cond.methodLink RX9 85 yX9_expand ∈ lwg := (inT4 (List.mem_of_getElem? (i := 5) (by decide +kernel)) (by decide +kernel))
theorem lmX9_95 : Cond.methodLink RX9 95 yX4_copy ∈ lwg := (inT3 (List.mem_of_getElem? (i := 231) (by decide +kernel)) (by decide +kernel))
theorem lmX9_99 : Cond.methodLink RX9 99 yX9_find ∈ lwg := (inT3 (List.mem_of_getElem? (i := 235) (by decide +kernel)) (by decide +kernel))
theorem lsX10_240 : Cond.fieldLink RX10 240 "TwoKeys" "EVEN_WEIGHTS" "[I" ∈ lwg := (inT4 (List.mem_of_getElem? (i := 55) (by decide +kernel)) (by decide +kernel))
theorem lxX11_112 : Cond.methodLink RX11 112 Lib.Math.min.name ∈ lwg ∧ Cond.static Lib.Math.min.name ∈ lwg ∧ Cond.initialized "java/lang/Math" ∈ lwg ∧ Cond.code Lib.Math.min.name Lib.Math.min.code 2 (some .int) ∈ lwg := ⟨(inT5 (List.mem_of_getElem? (i := 134) (by decide +kernel)) (by decide +kernel)), (inT2 (List.mem_of_getElem? (i := 222) (by decide +kernel)) (by decide +kernel)), (inT1 (List.mem_of_getElem? (i := 12) (by decide +kernel)) (by decide +kernel)), (inT2 (List.mem_of_getElem? (i := 223) (by decide +kernel)) (by decide +kernel))⟩
theorem lxX11_148 : Cond.methodLink RX11 148 Lib.Math.max.name ∈ lwg ∧ Cond.static Lib.Math.max.name ∈ lwg ∧ Cond.initialized "java/lang/Math" ∈ lwg ∧ Cond.code Lib.Math.max.name Lib.Math.max.code 2 (some .int) ∈ lwg := ⟨(inT5 (List.mem_of_getElem? (i := 205) (by decide +kernel)) (by decide +kernel)), (inT5 (List.mem_of_getElem? (i := 206) (by decide +kernel)) (by decide +kernel)), (inT1 (List.mem_of_getElem? (i := 12) (by decide +kernel)) (by decide +kernel)), (inT5 (List.mem_of_getElem? (i := 207) (by decide +kernel)) (by decide +kernel))⟩
theorem lxX5_38 : Cond.methodLink RX5 38 Lib.Math.min.name ∈ lwg ∧ Cond.static Lib.Math.min.name ∈ lwg ∧ Cond.initialized "java/lang/Math" ∈ lwg ∧ Cond.code Lib.Math.min.name Lib.Math.min.code 2 (some .int) ∈ lwg := ⟨(inT2 (List.mem_of_getElem? (i := 232) (by decide +kernel)) (by decide +kernel)), (inT2 (List.mem_of_getElem? (i := 222) (by decide +kernel)) (by decide +kernel)), (inT1 (List.mem_of_getElem? (i := 12) (by decide +kernel)) (by decide +kernel)), (inT2 (List.mem_of_getElem? (i := 223) (by decide +kernel)) (by decide +kernel))⟩
theorem lxX6_62 : Cond.methodLink RX6 62 Lib.Math.min.name ∈ lwg ∧ Cond.static Lib.Math.min.name ∈ lwg ∧ Cond.initialized "java/lang/Math" ∈ lwg ∧ Cond.code Lib.Math.min.name Lib.Math.min.code 2 (some .int) ∈ lwg := ⟨(inT2 (List.mem_of_getElem? (i := 221) (by decide +kernel)) (by decide +kernel)), (inT2 (List.mem_of_getElem? (i := 222) (by decide +kernel)) (by decide +kernel)), (inT1 (List.mem_of_getElem? (i := 12) (by decide +kernel)) (by decide +kernel)), (inT2 (List.mem_of_getElem? (i := 223) (by decide +kernel)) (by decide +kernel))⟩
theorem lxX9_89 : Cond.methodLink RX9 89 Lib.Math.min.name ∈ lwg ∧ Cond.static Lib.Math.min.name ∈ lwg ∧ Cond.initialized "java/lang/Math" ∈ lwg ∧ Cond.code Lib.Math.min.name Lib.Math.min.code 2 (some .int) ∈ lwg := ⟨(inT3 (List.mem_of_getElem? (i := 230) (by decide +kernel)) (by decide +kernel)), (inT2 (List.mem_of_getElem? (i := 222) (by decide +kernel)) (by decide +kernel)), (inT1 (List.mem_of_getElem? (i := 12) (by decide +kernel)) (by decide +kernel)), (inT2 (List.mem_of_getElem? (i := 223) (by decide +kernel)) (by decide +kernel))⟩
theorem mcJ6_bitCount_0f7a4 : MC yJ6_bitCount_0f7a4 cJ6_bitCount_0f7a4 1 (some .int) 1 := ⟨(inT4 (List.mem_of_getElem? (i := 127) (by decide +kernel)) (by decide +kernel)), (inT1 (List.mem_of_getElem? (i := 19) (by decide +kernel)) (by decide +kernel)), by decide +kernel, by decide⟩
theorem msJ6_bitCount_0f7a4 : Cond.static yJ6_bitCount_0f7a4 ∈ lwg := (inT4 (List.mem_of_getElem? (i := 126) (by decide +kernel)) (by decide +kernel))
theorem mcX0_ofJoint : MC yX0_ofJoint cX0_ofJoint 1 (some .int) 1 := ⟨(inT3 (List.mem_of_getElem? (i := 67) (by decide +kernel)) (by decide +kernel)), (inT1 (List.mem_of_getElem? (i := 14) (by decide +kernel)) (by decide +kernel)), by decide +kernel, by decide⟩
theorem msX0_ofJoint : Cond.static yX0_ofJoint ∈ lwg := (inT3 (List.mem_of_getElem? (i := 66) (by decide +kernel)) (by decide +kernel))
theorem mcX0_ofThing : MC yX0_ofThing cX0_ofThing 2 (some .int) 2 := ⟨(inT3 (List.mem_of_getElem? (i := 53) (by decide +kernel)) (by decide +kernel)), (inT1 (List.mem_of_getElem? (i := 14) (by decide +kernel)) (by decide +kernel)), by decide +kernel, by decide⟩
theorem msX0_ofThing : Cond.static yX0_ofThing ∈ lwg := (inT3 (List.mem_of_getElem? (i := 52) (by decide +kernel)) (by decide +kernel))
theorem mcX0_rank : MC yX0_rank cX0_rank 1 (some .int) 1 := ⟨(inT3 (List.mem_of_getElem? (i := 64) (by decide +kernel)) (by decide +kernel)), (inT1 (List.mem_of_getElem? (i := 14) (by decide +kernel)) (by decide +kernel)), by decide +kernel, by decide⟩
theorem msX0_rank : Cond.static yX0_rank ∈ lwg := (inT3 (List.mem_of_getElem? (i := 63) (by decide +kernel)) (by decide +kernel))
theorem mcX10_commonDivisor : MC yX10_commonDivisor cX10_commonDivisor 11 (some .long) 2 := ⟨(inT4 (List.mem_of_getElem? (i := 87) (by decide +kernel)) (by decide +kernel)), (inT1 (List.mem_of_getElem? (i := 1) (by decide +kernel)) (by decide +kernel)), by decide +kernel, by decide⟩
theorem msX10_commonDivisor : Cond.static yX10_commonDivisor ∈ lwg := (inT4 (List.mem_of_getElem? (i := 86) (by decide +kernel)) (by decide +kernel))
theorem mcX10_comparedFractions : MC yX10_comparedFractions cX10_comparedFractions 18 (some .int) 4 := ⟨(inT4 (List.mem_of_getElem? (i := 94) (by decide +kernel)) (by decide +kernel)), (inT1 (List.mem_of_getElem? (i := 1) (by decide +kernel)) (by decide +kernel)), by decide +kernel, by decide⟩
theorem msX10_comparedFractions : Cond.static yX10_comparedFractions ∈ lwg := (inT4 (List.mem_of_getElem? (i := 93) (by decide +kernel)) (by decide +kernel))
theorem mcX10_explored : MC yX10_explored cX10_explored 2 (some .boolean) 1 := ⟨(inT3 (List.mem_of_getElem? (i := 221) (by decide +kernel)) (by decide +kernel)), (inT1 (List.mem_of_getElem? (i := 1) (by decide +kernel)) (by decide +kernel)), by decide +kernel, by decide⟩
theorem miX10_explored : MI yX10_explored := ⟨(inT3 (List.mem_of_getElem? (i := 220) (by decide +kernel)) (by decide +kernel)), (inTp (by decide +kernel) (by decide +kernel))⟩
theorem mcX10_fewest : MC yX10_fewest cX10_fewest 9 (some .int) 3 := ⟨(inT4 (List.mem_of_getElem? (i := 120) (by decide +kernel)) (by decide +kernel)), (inT1 (List.mem_of_getElem? (i := 1) (by decide +kernel)) (by decide +kernel)), by decide +kernel, by decide⟩
theorem miX10_fewest : MI yX10_fewest := ⟨(inT4 (List.mem_of_getElem? (i := 119) (by decide +kernel)) (by decide +kernel)), (inTp (by decide +kernel) (by decide +kernel))⟩
theorem mcX10_followed : MC yX10_followed cX10_followed 1 (some .boolean) 0 := ⟨(inT4 (List.mem_of_getElem? (i := 182) (by decide +kernel)) (by decide +kernel)), (inT1 (List.mem_of_getElem? (i := 1) (by decide +kernel)) (by decide +kernel)), by decide +kernel, by decide⟩
theorem miX10_followed : MI yX10_followed := ⟨(inT4 (List.mem_of_getElem? (i := 181) (by decide +kernel)) (by decide +kernel)), (inTp (by decide +kernel) (by decide +kernel))⟩
theorem mcX10_forgetKept : MC yX10_forgetKept cX10_forgetKept 2 none 0 := ⟨(inT3 (List.mem_of_getElem? (i := 89) (by decide +kernel)) (by decide +kernel)), (inT1 (List.mem_of_getElem? (i := 1) (by decide +kernel)) (by decide +kernel)), by decide +kernel, by decide⟩
theorem miX10_forgetKept : MI yX10_forgetKept := ⟨(inT3 (List.mem_of_getElem? (i := 88) (by decide +kernel)) (by decide +kernel)), (inTp (by decide +kernel) (by decide +kernel))⟩
theorem mcX10_narrowed : MC yX10_narrowed cX10_narrowed 2 (some .int) 2 := ⟨(inT3 (List.mem_of_getElem? (i := 196) (by decide +kernel)) (by decide +kernel)), (inT1 (List.mem_of_getElem? (i := 1) (by decide +kernel)) (by decide +kernel)), by decide +kernel, by decide⟩
theorem msX10_narrowed : Cond.static yX10_narrowed ∈ lwg := (inT3 (List.mem_of_getElem? (i := 195) (by decide +kernel)) (by decide +kernel))
theorem mcX10_nibble : MC yX10_nibble cX10_nibble 3 (some .int) 2 := ⟨(inT4 (List.mem_of_getElem? (i := 204) (by decide +kernel)) (by decide +kernel)), (inT1 (List.mem_of_getElem? (i := 1) (by decide +kernel)) (by decide +kernel)), by decide +kernel, by decide⟩
theorem msX10_nibble : Cond.static yX10_nibble ∈ lwg := (inT4 (List.mem_of_getElem? (i := 203) (by decide +kernel)) (by decide +kernel))
theorem mcX10_power : MC yX10_power cX10_power 5 (some .long) 2 := ⟨(inT4 (List.mem_of_getElem? (i := 53) (by decide +kernel)) (by decide +kernel)), (inT1 (List.mem_of_getElem? (i := 1) (by decide +kernel)) (by decide +kernel)), by decide +kernel, by decide⟩
theorem msX10_power : Cond.static yX10_power ∈ lwg := (inT4 (List.mem_of_getElem? (i := 52) (by decide +kernel)) (by decide +kernel))
theorem mcX10_refusesRuns : MC yX10_refusesRuns cX10_refusesRuns 2 (some .boolean) 1 := ⟨(inT3 (List.mem_of_getElem? (i := 217) (by decide +kernel)) (by decide +kernel)), (inT1 (List.mem_of_getElem? (i := 1) (by decide +kernel)) (by decide +kernel)), by decide +kernel, by decide⟩
theorem miX10_refusesRuns : MI yX10_refusesRuns := ⟨(inT3 (List.mem_of_getElem? (i := 216) (by decide +kernel)) (by decide +kernel)), (inTp (by decide +kernel) (by decide +kernel))⟩
theorem mcX10_refusesTyping : MC yX10_refusesTyping cX10_refusesTyping 1 (some .boolean) 0 := ⟨(inT4 (List.mem_of_getElem? (i := 178) (by decide +kernel)) (by decide +kernel)), (inT1 (List.mem_of_getElem? (i := 1) (by decide +kernel)) (by decide +kernel)), by decide +kernel, by decide⟩
theorem miX10_refusesTyping : MI yX10_refusesTyping := ⟨(inT4 (List.mem_of_getElem? (i := 177) (by decide +kernel)) (by decide +kernel)), (inTp (by decide +kernel) (by decide +kernel))⟩
theorem mcX10_stepByHand : MC yX10_stepByHand cX10_stepByHand 3 none 2 := ⟨(inT3 (List.mem_of_getElem? (i := 135) (by decide +kernel)) (by decide +kernel)), (inT1 (List.mem_of_getElem? (i := 1) (by decide +kernel)) (by decide +kernel)), by decide +kernel, by decide⟩
theorem miX10_stepByHand : MI yX10_stepByHand := ⟨(inT3 (List.mem_of_getElem? (i := 134) (by decide +kernel)) (by decide +kernel)), (inTp (by decide +kernel) (by decide +kernel))⟩
theorem mcX10_takeText : MC yX10_takeText cX10_takeText 2 (some .int) 0 := ⟨(inT2 (List.mem_of_getElem? (i := 212) (by decide +kernel)) (by decide +kernel)), (inT1 (List.mem_of_getElem? (i := 1) (by decide +kernel)) (by decide +kernel)), by decide +kernel, by decide⟩
theorem miX10_takeText : MI yX10_takeText := ⟨(inT2 (List.mem_of_getElem? (i := 211) (by decide +kernel)) (by decide +kernel)), (inTp (by decide +kernel) (by decide +kernel))⟩
theorem mcX10_tellBreakingNumbers : MC yX10_tellBreakingNumbers cX10_tellBreakingNumbers 3 (some .int) 0 := ⟨(inT4 (List.mem_of_getElem? (i := 103) (by decide +kernel)) (by decide +kernel)), (inT1 (List.mem_of_getElem? (i := 1) (by decide +kernel)) (by decide +kernel)), by decide +kernel, by decide⟩
theorem miX10_tellBreakingNumbers : MI yX10_tellBreakingNumbers := ⟨(inT4 (List.mem_of_getElem? (i := 102) (by decide +kernel)) (by decide +kernel)), (inTp (by decide +kernel) (by decide +kernel))⟩
theorem mcX10_tellShape : MC yX10_tellShape cX10_tellShape 12 (some .boolean) 2 := ⟨(inT4 (List.mem_of_getElem? (i := 198) (by decide +kernel)) (by decide +kernel)), (inT1 (List.mem_of_getElem? (i := 1) (by decide +kernel)) (by decide +kernel)), by decide +kernel, by decide⟩
theorem miX10_tellShape : MI yX10_tellShape := ⟨(inT4 (List.mem_of_getElem? (i := 197) (by decide +kernel)) (by decide +kernel)), (inTp (by decide +kernel) (by decide +kernel))⟩
theorem mcX10_tellStepsTo : MC yX10_tellStepsTo cX10_tellStepsTo 2 (some .int) 1 := ⟨(inT4 (List.mem_of_getElem? (i := 30) (by decide +kernel)) (by decide +kernel)), (inT1 (List.mem_of_getElem? (i := 1) (by decide +kernel)) (by decide +kernel)), by decide +kernel, by decide⟩
theorem miX10_tellStepsTo : MI yX10_tellStepsTo := ⟨(inT4 (List.mem_of_getElem? (i := 29) (by decide +kernel)) (by decide +kernel)), (inTp (by decide +kernel) (by decide +kernel))⟩
theorem mcX10_useSet : MC yX10_useSet cX10_useSet 3 none 2 := ⟨(inT4 (List.mem_of_getElem? (i := 134) (by decide +kernel)) (by decide +kernel)), (inT1 (List.mem_of_getElem? (i := 1) (by decide +kernel)) (by decide +kernel)), by decide +kernel, by decide⟩
theorem miX10_useSet : MI yX10_useSet := ⟨(inT4 (List.mem_of_getElem? (i := 133) (by decide +kernel)) (by decide +kernel)), (inTp (by decide +kernel) (by decide +kernel))⟩
theorem mcX10_weightOfAll : MC yX10_weightOfAll cX10_weightOfAll 6 (some .long) 2 := ⟨(inT4 (List.mem_of_getElem? (i := 84) (by decide +kernel)) (by decide +kernel)), (inT1 (List.mem_of_getElem? (i := 1) (by decide +kernel)) (by decide +kernel)), by decide +kernel, by decide⟩
theorem miX10_weightOfAll : MI yX10_weightOfAll := ⟨(inT4 (List.mem_of_getElem? (i := 83) (by decide +kernel)) (by decide +kernel)), (inTp (by decide +kernel) (by decide +kernel))⟩
theorem mcX10_weightsOf : MC yX10_weightsOf cX10_weightsOf 2 (some (.array .int)) 1 := ⟨(inT4 (List.mem_of_getElem? (i := 76) (by decide +kernel)) (by decide +kernel)), (inT1 (List.mem_of_getElem? (i := 1) (by decide +kernel)) (by decide +kernel)), by decide +kernel, by decide⟩
theorem miX10_weightsOf : MI yX10_weightsOf := ⟨(inT4 (List.mem_of_getElem? (i := 75) (by decide +kernel)) (by decide +kernel)), (inTp (by decide +kernel) (by decide +kernel))⟩
theorem mcX11_acted : MC yX11_acted cX11_acted 3 (some .int) 3 := ⟨(inT6 (List.mem_of_getElem? (i := 30) (by decide +kernel)) (by decide +kernel)), (inT1 (List.mem_of_getElem? (i := 11) (by decide +kernel)) (by decide +kernel)), by decide +kernel, by decide⟩
theorem msX11_acted : Cond.static yX11_acted ∈ lwg := (inT6 (List.mem_of_getElem? (i := 29) (by decide +kernel)) (by decide +kernel))
theorem mcX11_after : MC yX11_after cX11_after 3 (some .int) 2 := ⟨(inT6 (List.mem_of_getElem? (i := 110) (by decide +kernel)) (by decide +kernel)), (inT1 (List.mem_of_getElem? (i := 11) (by decide +kernel)) (by decide +kernel)), by decide +kernel, by decide⟩
theorem miX11_after : MI yX11_after := ⟨(inT6 (List.mem_of_getElem? (i := 109) (by decide +kernel)) (by decide +kernel)), (inTp (by decide +kernel) (by decide +kernel))⟩
theorem mcX11_ahead : MC yX11_ahead cX11_ahead 3 (some .boolean) 0 := ⟨(inT5 (List.mem_of_getElem? (i := 171) (by decide +kernel)) (by decide +kernel)), (inT1 (List.mem_of_getElem? (i := 11) (by decide +kernel)) (by decide +kernel)), by decide +kernel, by decide⟩
theorem miX11_ahead : MI yX11_ahead := ⟨(inT5 (List.mem_of_getElem? (i := 170) (by decide +kernel)) (by decide +kernel)), (inTp (by decide +kernel) (by decide +kernel))⟩
theorem mcX11_allWeights : MC yX11_allWeights cX11_allWeights 6 (some .long) 2 := ⟨(inT6 (List.mem_of_getElem? (i := 185) (by decide +kernel)) (by decide +kernel)), (inT1 (List.mem_of_getElem? (i := 11) (by decide +kernel)) (by decide +kernel)), by decide +kernel, by decide⟩
theorem miX11_allWeights : MI yX11_allWeights := ⟨(inT6 (List.mem_of_getElem? (i := 184) (by decide +kernel)) (by decide +kernel)), (inTp (by decide +kernel) (by decide +kernel))⟩
theorem mcX11_begins : MC yX11_begins cX11_begins 3 (some .int) 1 := ⟨(inT5 (List.mem_of_getElem? (i := 133) (by decide +kernel)) (by decide +kernel)), (inT1 (List.mem_of_getElem? (i := 11) (by decide +kernel)) (by decide +kernel)), by decide +kernel, by decide⟩
theorem miX11_begins : MI yX11_begins := ⟨(inT5 (List.mem_of_getElem? (i := 131) (by decide +kernel)) (by decide +kernel)), (inTp (by decide +kernel) (by decide +kernel))⟩
theorem mcX11_breaks : MC yX11_breaks cX11_breaks 1 (some .boolean) 0 := ⟨(inT6 (List.mem_of_getElem? (i := 138) (by decide +kernel)) (by decide +kernel)), (inT1 (List.mem_of_getElem? (i := 11) (by decide +kernel)) (by decide +kernel)), by decide +kernel, by decide⟩
theorem miX11_breaks : MI yX11_breaks := ⟨(inT6 (List.mem_of_getElem? (i := 137) (by decide +kernel)) (by decide +kernel)), (inTp (by decide +kernel) (by decide +kernel))⟩
theorem mcX11_byHand : MC yX11_byHand cX11_byHand 3 (some .int) 2 := ⟨(inT6 (List.mem_of_getElem? (i := 8) (by decide +kernel)) (by decide +kernel)), (inT1 (List.mem_of_getElem? (i := 11) (by decide +kernel)) (by decide +kernel)), by decide +kernel, by decide⟩
theorem miX11_byHand : MI yX11_byHand := ⟨(inT6 (List.mem_of_getElem? (i := 7) (by decide +kernel)) (by decide +kernel)), (inTp (by decide +kernel) (by decide +kernel))⟩
theorem mcX11_comes : MC yX11_comes cX11_comes 3 (some .boolean) 1 := ⟨(inT5 (List.mem_of_getElem? (i := 144) (by decide +kernel)) (by decide +kernel)), (inT1 (List.mem_of_getElem? (i := 11) (by decide +kernel)) (by decide +kernel)), by decide +kernel, by decide⟩
theorem miX11_comes : MI yX11_comes := ⟨(inT5 (List.mem_of_getElem? (i := 143) (by decide +kernel)) (by decide +kernel)), (inTp (by decide +kernel) (by decide +kernel))⟩
theorem mcX11_comesBack : MC yX11_comesBack cX11_comesBack 1 none 0 := ⟨(inT6 (List.mem_of_getElem? (i := 122) (by decide +kernel)) (by decide +kernel)), (inT1 (List.mem_of_getElem? (i := 11) (by decide +kernel)) (by decide +kernel)), by decide +kernel, by decide⟩
theorem miX11_comesBack : MI yX11_comesBack := ⟨(inT6 (List.mem_of_getElem? (i := 121) (by decide +kernel)) (by decide +kernel)), (inTp (by decide +kernel) (by decide +kernel))⟩
theorem mcX11_common : MC yX11_common cX11_common 10 (some .long) 2 := ⟨(inT6 (List.mem_of_getElem? (i := 192) (by decide +kernel)) (by decide +kernel)), (inT1 (List.mem_of_getElem? (i := 11) (by decide +kernel)) (by decide +kernel)), by decide +kernel, by decide⟩
theorem msX11_common : Cond.static yX11_common ∈ lwg := (inT6 (List.mem_of_getElem? (i := 191) (by decide +kernel)) (by decide +kernel))
theorem mcX11_compared : MC yX11_compared cX11_compared 3 (some .boolean) 0 := ⟨(inT5 (List.mem_of_getElem? (i := 163) (by decide +kernel)) (by decide +kernel)), (inT1 (List.mem_of_getElem? (i := 11) (by decide +kernel)) (by decide +kernel)), by decide +kernel, by decide⟩
theorem miX11_compared : MI yX11_compared := ⟨(inT5 (List.mem_of_getElem? (i := 162) (by decide +kernel)) (by decide +kernel)), (inTp (by decide +kernel) (by decide +kernel))⟩
theorem mcX11_compares : MC yX11_compares cX11_compares 25 (some .int) 4 := ⟨(inT6 (List.mem_of_getElem? (i := 199) (by decide +kernel)) (by decide +kernel)), (inT1 (List.mem_of_getElem? (i := 11) (by decide +kernel)) (by decide +kernel)), by decide +kernel, by decide⟩
theorem msX11_compares : Cond.static yX11_compares ∈ lwg := (inT6 (List.mem_of_getElem? (i := 198) (by decide +kernel)) (by decide +kernel))
theorem mcX11_copies : MC yX11_copies cX11_copies 4 none 2 := ⟨(inT5 (List.mem_of_getElem? (i := 204) (by decide +kernel)) (by decide +kernel)), (inT1 (List.mem_of_getElem? (i := 11) (by decide +kernel)) (by decide +kernel)), by decide +kernel, by decide⟩
theorem miX11_copies : MI yX11_copies := ⟨(inT5 (List.mem_of_getElem? (i := 203) (by decide +kernel)) (by decide +kernel)), (inTp (by decide +kernel) (by decide +kernel))⟩
theorem mcX11_digits : MC yX11_digits cX11_digits 4 (some .int) 1 := ⟨(inT5 (List.mem_of_getElem? (i := 179) (by decide +kernel)) (by decide +kernel)), (inT1 (List.mem_of_getElem? (i := 11) (by decide +kernel)) (by decide +kernel)), by decide +kernel, by decide⟩
theorem miX11_digits : MI yX11_digits := ⟨(inT5 (List.mem_of_getElem? (i := 178) (by decide +kernel)) (by decide +kernel)), (inTp (by decide +kernel) (by decide +kernel))⟩
theorem mcX11_does : MC yX11_does cX11_does 8 none 2 := ⟨(inT6 (List.mem_of_getElem? (i := 12) (by decide +kernel)) (by decide +kernel)), (inT1 (List.mem_of_getElem? (i := 11) (by decide +kernel)) (by decide +kernel)), by decide +kernel, by decide⟩
theorem miX11_does : MI yX11_does := ⟨(inT6 (List.mem_of_getElem? (i := 11) (by decide +kernel)) (by decide +kernel)), (inTp (by decide +kernel) (by decide +kernel))⟩
theorem mcX11_empties : MC yX11_empties cX11_empties 2 none 0 := ⟨(inT6 (List.mem_of_getElem? (i := 96) (by decide +kernel)) (by decide +kernel)), (inT1 (List.mem_of_getElem? (i := 11) (by decide +kernel)) (by decide +kernel)), by decide +kernel, by decide⟩
theorem miX11_empties : MI yX11_empties := ⟨(inT6 (List.mem_of_getElem? (i := 95) (by decide +kernel)) (by decide +kernel)), (inTp (by decide +kernel) (by decide +kernel))⟩
theorem mcX11_enters : MC yX11_enters cX11_enters 3 none 1 := ⟨(inT6 (List.mem_of_getElem? (i := 67) (by decide +kernel)) (by decide +kernel)), (inT1 (List.mem_of_getElem? (i := 11) (by decide +kernel)) (by decide +kernel)), by decide +kernel, by decide⟩
theorem miX11_enters : MI yX11_enters := ⟨(inT6 (List.mem_of_getElem? (i := 66) (by decide +kernel)) (by decide +kernel)), (inTp (by decide +kernel) (by decide +kernel))⟩
theorem mcX11_every : MC yX11_every cX11_every 2 (some .boolean) 0 := ⟨(inT5 (List.mem_of_getElem? (i := 159) (by decide +kernel)) (by decide +kernel)), (inT1 (List.mem_of_getElem? (i := 11) (by decide +kernel)) (by decide +kernel)), by decide +kernel, by decide⟩
theorem miX11_every : MI yX11_every := ⟨(inT5 (List.mem_of_getElem? (i := 158) (by decide +kernel)) (by decide +kernel)), (inTp (by decide +kernel) (by decide +kernel))⟩
theorem mcX11_explores : MC yX11_explores cX11_explores 8 (some .boolean) 2 := ⟨(inT6 (List.mem_of_getElem? (i := 92) (by decide +kernel)) (by decide +kernel)), (inT1 (List.mem_of_getElem? (i := 11) (by decide +kernel)) (by decide +kernel)), by decide +kernel, by decide⟩
theorem miX11_explores : MI yX11_explores := ⟨(inT6 (List.mem_of_getElem? (i := 91) (by decide +kernel)) (by decide +kernel)), (inTp (by decide +kernel) (by decide +kernel))⟩
theorem mcX11_fault : MC yX11_fault cX11_fault 4 (some .int) 2 := ⟨(inT5 (List.mem_of_getElem? (i := 200) (by decide +kernel)) (by decide +kernel)), (inT1 (List.mem_of_getElem? (i := 11) (by decide +kernel)) (by decide +kernel)), by decide +kernel, by decide⟩
theorem miX11_fault : MI yX11_fault := ⟨(inT5 (List.mem_of_getElem? (i := 199) (by decide +kernel)) (by decide +kernel)), (inTp (by decide +kernel) (by decide +kernel))⟩
theorem mcX11_finds : MC yX11_finds cX11_finds 5 (some .int) 1 := ⟨(inT6 (List.mem_of_getElem? (i := 130) (by decide +kernel)) (by decide +kernel)), (inT1 (List.mem_of_getElem? (i := 11) (by decide +kernel)) (by decide +kernel)), by decide +kernel, by decide⟩
theorem miX11_finds : MI yX11_finds := ⟨(inT6 (List.mem_of_getElem? (i := 129) (by decide +kernel)) (by decide +kernel)), (inTp (by decide +kernel) (by decide +kernel))⟩
theorem mcX11_fires : MC yX11_fires cX11_fires 2 none 0 := ⟨(inT6 (List.mem_of_getElem? (i := 38) (by decide +kernel)) (by decide +kernel)), (inT1 (List.mem_of_getElem? (i := 11) (by decide +kernel)) (by decide +kernel)), by decide +kernel, by decide⟩
theorem miX11_fires : MI yX11_fires := ⟨(inT6 (List.mem_of_getElem? (i := 37) (by decide +kernel)) (by decide +kernel)), (inTp (by decide +kernel) (by decide +kernel))⟩
theorem mcX11_forgetsKept : MC yX11_forgetsKept cX11_forgetsKept 2 none 0 := ⟨(inT5 (List.mem_of_getElem? (i := 211) (by decide +kernel)) (by decide +kernel)), (inT1 (List.mem_of_getElem? (i := 11) (by decide +kernel)) (by decide +kernel)), by decide +kernel, by decide⟩
theorem miX11_forgetsKept : MI yX11_forgetsKept := ⟨(inT5 (List.mem_of_getElem? (i := 210) (by decide +kernel)) (by decide +kernel)), (inTp (by decide +kernel) (by decide +kernel))⟩
theorem mcX11_goesTo : MC yX11_goesTo cX11_goesTo 3 none 2 := ⟨(inT6 (List.mem_of_getElem? (i := 114) (by decide +kernel)) (by decide +kernel)), (inT1 (List.mem_of_getElem? (i := 11) (by decide +kernel)) (by decide +kernel)), by decide +kernel, by decide⟩
theorem miX11_goesTo : MI yX11_goesTo := ⟨(inT6 (List.mem_of_getElem? (i := 113) (by decide +kernel)) (by decide +kernel)), (inTp (by decide +kernel) (by decide +kernel))⟩
theorem mcX11_has : MC yX11_has cX11_has 2 (some .boolean) 2 := ⟨(inT6 (List.mem_of_getElem? (i := 19) (by decide +kernel)) (by decide +kernel)), (inT1 (List.mem_of_getElem? (i := 11) (by decide +kernel)) (by decide +kernel)), by decide +kernel, by decide⟩
theorem msX11_has : Cond.static yX11_has ∈ lwg := (inT6 (List.mem_of_getElem? (i := 18) (by decide +kernel)) (by decide +kernel))
theorem mcX11_in : MC yX11_in cX11_in 6 (some .boolean) 3 := ⟨(inT5 (List.mem_of_getElem? (i := 124) (by decide +kernel)) (by decide +kernel)), (inT1 (List.mem_of_getElem? (i := 11) (by decide +kernel)) (by decide +kernel)), by decide +kernel, by decide⟩
theorem msX11_in : Cond.static yX11_in ∈ lwg := (inT5 (List.mem_of_getElem? (i := 123) (by decide +kernel)) (by decide +kernel))
theorem mcX11_isAt : MC yX11_isAt cX11_isAt 2 (some .boolean) 1 := ⟨(inT5 (List.mem_of_getElem? (i := 148) (by decide +kernel)) (by decide +kernel)), (inT1 (List.mem_of_getElem? (i := 11) (by decide +kernel)) (by decide +kernel)), by decide +kernel, by decide⟩
theorem miX11_isAt : MI yX11_isAt := ⟨(inT5 (List.mem_of_getElem? (i := 147) (by decide +kernel)) (by decide +kernel)), (inTp (by decide +kernel) (by decide +kernel))⟩
theorem mcX11_isDigit : MC yX11_isDigit cX11_isDigit 1 (some .boolean) 0 := ⟨(inT5 (List.mem_of_getElem? (i := 183) (by decide +kernel)) (by decide +kernel)), (inT1 (List.mem_of_getElem? (i := 11) (by decide +kernel)) (by decide +kernel)), by decide +kernel, by decide⟩
theorem miX11_isDigit : MI yX11_isDigit := ⟨(inT5 (List.mem_of_getElem? (i := 182) (by decide +kernel)) (by decide +kernel)), (inTp (by decide +kernel) (by decide +kernel))⟩
theorem mcX11_isFound : MC yX11_isFound cX11_isFound 1 (some .boolean) 0 := ⟨(inT6 (List.mem_of_getElem? (i := 134) (by decide +kernel)) (by decide +kernel)), (inT1 (List.mem_of_getElem? (i := 11) (by decide +kernel)) (by decide +kernel)), by decide +kernel, by decide⟩
theorem miX11_isFound : MI yX11_isFound := ⟨(inT6 (List.mem_of_getElem? (i := 133) (by decide +kernel)) (by decide +kernel)), (inTp (by decide +kernel) (by decide +kernel))⟩
theorem mcX11_isRun : MC yX11_isRun cX11_isRun 2 (some .boolean) 1 := ⟨(inT6 (List.mem_of_getElem? (i := 75) (by decide +kernel)) (by decide +kernel)), (inT1 (List.mem_of_getElem? (i := 11) (by decide +kernel)) (by decide +kernel)), by decide +kernel, by decide⟩
theorem miX11_isRun : MI yX11_isRun := ⟨(inT6 (List.mem_of_getElem? (i := 74) (by decide +kernel)) (by decide +kernel)), (inTp (by decide +kernel) (by decide +kernel))⟩
theorem mcX11_isWeightless : MC yX11_isWeightless cX11_isWeightless 4 (some .boolean) 1 := ⟨(inT6 (List.mem_of_getElem? (i := 189) (by decide +kernel)) (by decide +kernel)), (inT1 (List.mem_of_getElem? (i := 11) (by decide +kernel)) (by decide +kernel)), by decide +kernel, by decide⟩
theorem miX11_isWeightless : MI yX11_isWeightless := ⟨(inT6 (List.mem_of_getElem? (i := 188) (by decide +kernel)) (by decide +kernel)), (inTp (by decide +kernel) (by decide +kernel))⟩
theorem mcX11_letter : MC yX11_letter cX11_letter 2 (some .int) 0 := ⟨(inT5 (List.mem_of_getElem? (i := 193) (by decide +kernel)) (by decide +kernel)), (inT1 (List.mem_of_getElem? (i := 11) (by decide +kernel)) (by decide +kernel)), by decide +kernel, by decide⟩
theorem miX11_letter : MI yX11_letter := ⟨(inT5 (List.mem_of_getElem? (i := 192) (by decide +kernel)) (by decide +kernel)), (inTp (by decide +kernel) (by decide +kernel))⟩
theorem mcX11_line : MC yX11_line cX11_line 3 (some .boolean) 1 := ⟨(inT5 (List.mem_of_getElem? (i := 138) (by decide +kernel)) (by decide +kernel)), (inT1 (List.mem_of_getElem? (i := 11) (by decide +kernel)) (by decide +kernel)), by decide +kernel, by decide⟩
theorem miX11_line : MI yX11_line := ⟨(inT5 (List.mem_of_getElem? (i := 137) (by decide +kernel)) (by decide +kernel)), (inTp (by decide +kernel) (by decide +kernel))⟩
theorem mcX11_marks : MC yX11_marks cX11_marks 2 none 1 := ⟨(inT5 (List.mem_of_getElem? (i := 189) (by decide +kernel)) (by decide +kernel)), (inT1 (List.mem_of_getElem? (i := 11) (by decide +kernel)) (by decide +kernel)), by decide +kernel, by decide⟩
theorem miX11_marks : MI yX11_marks := ⟨(inT5 (List.mem_of_getElem? (i := 188) (by decide +kernel)) (by decide +kernel)), (inTp (by decide +kernel) (by decide +kernel))⟩
theorem mcX11_moves : MC yX11_moves cX11_moves 4 none 2 := ⟨(inT6 (List.mem_of_getElem? (i := 34) (by decide +kernel)) (by decide +kernel)), (inT1 (List.mem_of_getElem? (i := 11) (by decide +kernel)) (by decide +kernel)), by decide +kernel, by decide⟩
theorem miX11_moves : MI yX11_moves := ⟨(inT6 (List.mem_of_getElem? (i := 33) (by decide +kernel)) (by decide +kernel)), (inTp (by decide +kernel) (by decide +kernel))⟩
theorem mcX11_nextSet : MC yX11_nextSet cX11_nextSet 4 (some .int) 2 := ⟨(inT6 (List.mem_of_getElem? (i := 220) (by decide +kernel)) (by decide +kernel)), (inT1 (List.mem_of_getElem? (i := 11) (by decide +kernel)) (by decide +kernel)), by decide +kernel, by decide⟩
theorem msX11_nextSet : Cond.static yX11_nextSet ∈ lwg := (inT6 (List.mem_of_getElem? (i := 219) (by decide +kernel)) (by decide +kernel))
theorem mcX11_packsRest : MC yX11_packsRest cX11_packsRest 4 (some .long) 0 := ⟨(inT6 (List.mem_of_getElem? (i := 88) (by decide +kernel)) (by decide +kernel)), (inT1 (List.mem_of_getElem? (i := 11) (by decide +kernel)) (by decide +kernel)), by decide +kernel, by decide⟩
theorem miX11_packsRest : MI yX11_packsRest := ⟨(inT6 (List.mem_of_getElem? (i := 87) (by decide +kernel)) (by decide +kernel)), (inTp (by decide +kernel) (by decide +kernel))⟩
theorem mcX11_packsSlots : MC yX11_packsSlots cX11_packsSlots 4 (some .long) 0 := ⟨(inT6 (List.mem_of_getElem? (i := 84) (by decide +kernel)) (by decide +kernel)), (inT1 (List.mem_of_getElem? (i := 11) (by decide +kernel)) (by decide +kernel)), by decide +kernel, by decide⟩
theorem miX11_packsSlots : MI yX11_packsSlots := ⟨(inT6 (List.mem_of_getElem? (i := 83) (by decide +kernel)) (by decide +kernel)), (inTp (by decide +kernel) (by decide +kernel))⟩
theorem mcX11_placeOf : MC yX11_placeOf cX11_placeOf 6 (some .int) 2 := ⟨(inT6 (List.mem_of_getElem? (i := 100) (by decide +kernel)) (by decide +kernel)), (inT1 (List.mem_of_getElem? (i := 11) (by decide +kernel)) (by decide +kernel)), by decide +kernel, by decide⟩
theorem miX11_placeOf : MI yX11_placeOf := ⟨(inT6 (List.mem_of_getElem? (i := 99) (by decide +kernel)) (by decide +kernel)), (inTp (by decide +kernel) (by decide +kernel))⟩
theorem mcX11_places : MC yX11_places cX11_places 6 (some .int) 2 := ⟨(inT6 (List.mem_of_getElem? (i := 103) (by decide +kernel)) (by decide +kernel)), (inT1 (List.mem_of_getElem? (i := 11) (by decide +kernel)) (by decide +kernel)), by decide +kernel, by decide⟩
theorem msX11_places : Cond.static yX11_places ∈ lwg := (inT6 (List.mem_of_getElem? (i := 102) (by decide +kernel)) (by decide +kernel))
theorem mcX11_power : MC yX11_power cX11_power 6 (some .long) 2 := ⟨(inT6 (List.mem_of_getElem? (i := 157) (by decide +kernel)) (by decide +kernel)), (inT1 (List.mem_of_getElem? (i := 11) (by decide +kernel)) (by decide +kernel)), by decide +kernel, by decide⟩
theorem msX11_power : Cond.static yX11_power ∈ lwg := (inT6 (List.mem_of_getElem? (i := 156) (by decide +kernel)) (by decide +kernel))
theorem mcX11_reads : MC yX11_reads cX11_reads 3 (some .int) 0 := ⟨(inT6 (List.mem_of_getElem? (i := 63) (by decide +kernel)) (by decide +kernel)), (inT1 (List.mem_of_getElem? (i := 11) (by decide +kernel)) (by decide +kernel)), by decide +kernel, by decide⟩
theorem miX11_reads : MI yX11_reads := ⟨(inT6 (List.mem_of_getElem? (i := 62) (by decide +kernel)) (by decide +kernel)), (inTp (by decide +kernel) (by decide +kernel))⟩
theorem mcX11_refuse : MC yX11_refuse cX11_refuse 1 (some .int) 0 := ⟨(inT6 (List.mem_of_getElem? (i := 55) (by decide +kernel)) (by decide +kernel)), (inT1 (List.mem_of_getElem? (i := 11) (by decide +kernel)) (by decide +kernel)), by decide +kernel, by decide⟩
theorem miX11_refuse : MI yX11_refuse := ⟨(inT6 (List.mem_of_getElem? (i := 54) (by decide +kernel)) (by decide +kernel)), (inTp (by decide +kernel) (by decide +kernel))⟩
theorem mcX11_remembers : MC yX11_remembers cX11_remembers 1 none 0 := ⟨(inT6 (List.mem_of_getElem? (i := 80) (by decide +kernel)) (by decide +kernel)), (inT1 (List.mem_of_getElem? (i := 11) (by decide +kernel)) (by decide +kernel)), by decide +kernel, by decide⟩
theorem miX11_remembers : MI yX11_remembers := ⟨(inT6 (List.mem_of_getElem? (i := 79) (by decide +kernel)) (by decide +kernel)), (inTp (by decide +kernel) (by decide +kernel))⟩
theorem mcX11_rowOfLine : MC yX11_rowOfLine cX11_rowOfLine 5 (some .int) 2 := ⟨(inT6 (List.mem_of_getElem? (i := 16) (by decide +kernel)) (by decide +kernel)), (inT1 (List.mem_of_getElem? (i := 11) (by decide +kernel)) (by decide +kernel)), by decide +kernel, by decide⟩
theorem miX11_rowOfLine : MI yX11_rowOfLine := ⟨(inT6 (List.mem_of_getElem? (i := 15) (by decide +kernel)) (by decide +kernel)), (inTp (by decide +kernel) (by decide +kernel))⟩
theorem mcX11_some : MC yX11_some cX11_some 2 (some .boolean) 0 := ⟨(inT5 (List.mem_of_getElem? (i := 155) (by decide +kernel)) (by decide +kernel)), (inT1 (List.mem_of_getElem? (i := 11) (by decide +kernel)) (by decide +kernel)), by decide +kernel, by decide⟩
theorem miX11_some : MI yX11_some := ⟨(inT5 (List.mem_of_getElem? (i := 154) (by decide +kernel)) (by decide +kernel)), (inTp (by decide +kernel) (by decide +kernel))⟩
theorem mcX11_someBreaks : MC yX11_someBreaks cX11_someBreaks 6 (some .int) 2 := ⟨(inT6 (List.mem_of_getElem? (i := 209) (by decide +kernel)) (by decide +kernel)), (inT1 (List.mem_of_getElem? (i := 11) (by decide +kernel)) (by decide +kernel)), by decide +kernel, by decide⟩
theorem miX11_someBreaks : MI yX11_someBreaks := ⟨(inT6 (List.mem_of_getElem? (i := 208) (by decide +kernel)) (by decide +kernel)), (inTp (by decide +kernel) (by decide +kernel))⟩
theorem mcX11_sumOf : MC yX11_sumOf cX11_sumOf 7 (some .long) 2 := ⟨(inT6 (List.mem_of_getElem? (i := 167) (by decide +kernel)) (by decide +kernel)), (inT1 (List.mem_of_getElem? (i := 11) (by decide +kernel)) (by decide +kernel)), by decide +kernel, by decide⟩
theorem miX11_sumOf : MI yX11_sumOf := ⟨(inT6 (List.mem_of_getElem? (i := 166) (by decide +kernel)) (by decide +kernel)), (inTp (by decide +kernel) (by decide +kernel))⟩
theorem mcX11_tells : MC yX11_tells cX11_tells 5 none 0 := ⟨(inT7 (List.mem_of_getElem? (i := 40) (by decide +kernel)) (by decide +kernel)), (inT1 (List.mem_of_getElem? (i := 11) (by decide +kernel)) (by decide +kernel)), by decide +kernel, by decide⟩
theorem miX11_tells : MI yX11_tells := ⟨(inT7 (List.mem_of_getElem? (i := 39) (by decide +kernel)) (by decide +kernel)), (inTp (by decide +kernel) (by decide +kernel))⟩
theorem mcX11_tellsWay : MC yX11_tellsWay cX11_tellsWay 6 none 2 := ⟨(inT6 (List.mem_of_getElem? (i := 142) (by decide +kernel)) (by decide +kernel)), (inT1 (List.mem_of_getElem? (i := 11) (by decide +kernel)) (by decide +kernel)), by decide +kernel, by decide⟩
theorem miX11_tellsWay : MI yX11_tellsWay := ⟨(inT6 (List.mem_of_getElem? (i := 141) (by decide +kernel)) (by decide +kernel)), (inTp (by decide +kernel) (by decide +kernel))⟩
theorem mcX11_thing : MC yX11_thing cX11_thing 2 (some .boolean) 0 := ⟨(inT5 (List.mem_of_getElem? (i := 175) (by decide +kernel)) (by decide +kernel)), (inT1 (List.mem_of_getElem? (i := 11) (by decide +kernel)) (by decide +kernel)), by decide +kernel, by decide⟩
theorem miX11_thing : MI yX11_thing := ⟨(inT5 (List.mem_of_getElem? (i := 174) (by decide +kernel)) (by decide +kernel)), (inTp (by decide +kernel) (by decide +kernel))⟩
theorem mcX11_total : MC yX11_total cX11_total 3 (some .boolean) 0 := ⟨(inT5 (List.mem_of_getElem? (i := 167) (by decide +kernel)) (by decide +kernel)), (inT1 (List.mem_of_getElem? (i := 11) (by decide +kernel)) (by decide +kernel)), by decide +kernel, by decide⟩
theorem miX11_total : MI yX11_total := ⟨(inT5 (List.mem_of_getElem? (i := 166) (by decide +kernel)) (by decide +kernel)), (inTp (by decide +kernel) (by decide +kernel))⟩
theorem mcX11_truth : MC yX11_truth cX11_truth 1 (some .int) 1 := ⟨(inT5 (List.mem_of_getElem? (i := 151) (by decide +kernel)) (by decide +kernel)), (inT1 (List.mem_of_getElem? (i := 11) (by decide +kernel)) (by decide +kernel)), by decide +kernel, by decide⟩
theorem msX11_truth : Cond.static yX11_truth ∈ lwg := (inT5 (List.mem_of_getElem? (i := 150) (by decide +kernel)) (by decide +kernel))
theorem mcX11_types : MC yX11_types cX11_types 10 none 1 := ⟨(inT7 (List.mem_of_getElem? (i := 9) (by decide +kernel)) (by decide +kernel)), (inT1 (List.mem_of_getElem? (i := 11) (by decide +kernel)) (by decide +kernel)), by decide +kernel, by decide⟩
theorem miX11_types : MI yX11_types := ⟨(inT7 (List.mem_of_getElem? (i := 8) (by decide +kernel)) (by decide +kernel)), (inTp (by decide +kernel) (by decide +kernel))⟩
theorem mcX11_unpacks : MC yX11_unpacks cX11_unpacks 10 none 2 := ⟨(inT6 (List.mem_of_getElem? (i := 118) (by decide +kernel)) (by decide +kernel)), (inT1 (List.mem_of_getElem? (i := 11) (by decide +kernel)) (by decide +kernel)), by decide +kernel, by decide⟩
theorem miX11_unpacks : MI yX11_unpacks := ⟨(inT6 (List.mem_of_getElem? (i := 117) (by decide +kernel)) (by decide +kernel)), (inTp (by decide +kernel) (by decide +kernel))⟩
theorem mcX11_valueOf : MC yX11_valueOf cX11_valueOf 2 (some .int) 1 := ⟨(inT6 (List.mem_of_getElem? (i := 27) (by decide +kernel)) (by decide +kernel)), (inT1 (List.mem_of_getElem? (i := 11) (by decide +kernel)) (by decide +kernel)), by decide +kernel, by decide⟩
theorem miX11_valueOf : MI yX11_valueOf := ⟨(inT6 (List.mem_of_getElem? (i := 26) (by decide +kernel)) (by decide +kernel)), (inTp (by decide +kernel) (by decide +kernel))⟩
theorem mcX11_weighs : MC yX11_weighs cX11_weighs 13 none 3 := ⟨(inT6 (List.mem_of_getElem? (i := 163) (by decide +kernel)) (by decide +kernel)), (inT1 (List.mem_of_getElem? (i := 11) (by decide +kernel)) (by decide +kernel)), by decide +kernel, by decide⟩
theorem miX11_weighs : MI yX11_weighs := ⟨(inT6 (List.mem_of_getElem? (i := 162) (by decide +kernel)) (by decide +kernel)), (inTp (by decide +kernel) (by decide +kernel))⟩
theorem mcX11_width : MC yX11_width cX11_width 1 (some .int) 0 := ⟨(inT6 (List.mem_of_getElem? (i := 46) (by decide +kernel)) (by decide +kernel)), (inT1 (List.mem_of_getElem? (i := 11) (by decide +kernel)) (by decide +kernel)), by decide +kernel, by decide⟩
theorem miX11_width : MI yX11_width := ⟨(inT6 (List.mem_of_getElem? (i := 45) (by decide +kernel)) (by decide +kernel)), (inTp (by decide +kernel) (by decide +kernel))⟩
theorem mcX11_worked : MC yX11_worked cX11_worked 5 (some .int) 1 := ⟨(inT6 (List.mem_of_getElem? (i := 23) (by decide +kernel)) (by decide +kernel)), (inT1 (List.mem_of_getElem? (i := 11) (by decide +kernel)) (by decide +kernel)), by decide +kernel, by decide⟩
theorem miX11_worked : MI yX11_worked := ⟨(inT6 (List.mem_of_getElem? (i := 22) (by decide +kernel)) (by decide +kernel)), (inTp (by decide +kernel) (by decide +kernel))⟩
theorem mcX1_addCase : MC yX1_addCase cX1_addCase 4 (some .int) 3 := ⟨(inT4 (List.mem_of_getElem? (i := 215) (by decide +kernel)) (by decide +kernel)), (inT1 (List.mem_of_getElem? (i := 9) (by decide +kernel)) (by decide +kernel)), by decide +kernel, by decide⟩
theorem miX1_addCase : MI yX1_addCase := ⟨(inT4 (List.mem_of_getElem? (i := 213) (by decide +kernel)) (by decide +kernel)), (inT4 (List.mem_of_getElem? (i := 214) (by decide +kernel)) (by decide +kernel))⟩
theorem mcX1_addLetter : MC yX1_addLetter cX1_addLetter 5 (some .int) 4 := ⟨(inT4 (List.mem_of_getElem? (i := 231) (by decide +kernel)) (by decide +kernel)), (inT1 (List.mem_of_getElem? (i := 9) (by decide +kernel)) (by decide +kernel)), by decide +kernel, by decide⟩
theorem miX1_addLetter : MI yX1_addLetter := ⟨(inT4 (List.mem_of_getElem? (i := 229) (by decide +kernel)) (by decide +kernel)), (inT4 (List.mem_of_getElem? (i := 230) (by decide +kernel)) (by decide +kernel))⟩
theorem mcX1_hasEnough : MC yX1_hasEnough cX1_hasEnough 8 (some .boolean) 3 := ⟨(inT5 (List.mem_of_getElem? (i := 4) (by decide +kernel)) (by decide +kernel)), (inT1 (List.mem_of_getElem? (i := 9) (by decide +kernel)) (by decide +kernel)), by decide +kernel, by decide⟩
theorem miX1_hasEnough : MI yX1_hasEnough := ⟨(inT5 (List.mem_of_getElem? (i := 2) (by decide +kernel)) (by decide +kernel)), (inT5 (List.mem_of_getElem? (i := 3) (by decide +kernel)) (by decide +kernel))⟩
theorem mcX1_isHouse : MC yX1_isHouse cX1_isHouse 1 (some .boolean) 1 := ⟨(inT4 (List.mem_of_getElem? (i := 211) (by decide +kernel)) (by decide +kernel)), (inT1 (List.mem_of_getElem? (i := 9) (by decide +kernel)) (by decide +kernel)), by decide +kernel, by decide⟩
theorem msX1_isHouse : Cond.static yX1_isHouse ∈ lwg := (inT4 (List.mem_of_getElem? (i := 210) (by decide +kernel)) (by decide +kernel))
theorem mcX1_known : MC yX1_known cX1_known 5 (some .int) 2 := ⟨(inT4 (List.mem_of_getElem? (i := 223) (by decide +kernel)) (by decide +kernel)), (inT1 (List.mem_of_getElem? (i := 9) (by decide +kernel)) (by decide +kernel)), by decide +kernel, by decide⟩
theorem miX1_known : MI yX1_known := ⟨(inT4 (List.mem_of_getElem? (i := 221) (by decide +kernel)) (by decide +kernel)), (inT4 (List.mem_of_getElem? (i := 222) (by decide +kernel)) (by decide +kernel))⟩
theorem mcX1_settle : MC yX1_settle cX1_settle 3 none 0 := ⟨(inT4 (List.mem_of_getElem? (i := 219) (by decide +kernel)) (by decide +kernel)), (inT1 (List.mem_of_getElem? (i := 9) (by decide +kernel)) (by decide +kernel)), by decide +kernel, by decide⟩
theorem miX1_settle : MI yX1_settle := ⟨(inT4 (List.mem_of_getElem? (i := 218) (by decide +kernel)) (by decide +kernel)), (inTp (by decide +kernel) (by decide +kernel))⟩
theorem mcX2_giveBack : MC yX2_giveBack cX2_giveBack 3 none 2 := ⟨(inT5 (List.mem_of_getElem? (i := 22) (by decide +kernel)) (by decide +kernel)), (inT1 (List.mem_of_getElem? (i := 10) (by decide +kernel)) (by decide +kernel)), by decide +kernel, by decide⟩
theorem miX2_giveBack : MI yX2_giveBack := ⟨(inT5 (List.mem_of_getElem? (i := 20) (by decide +kernel)) (by decide +kernel)), (inT5 (List.mem_of_getElem? (i := 21) (by decide +kernel)) (by decide +kernel))⟩
theorem mcX2_take : MC yX2_take cX2_take 3 none 2 := ⟨(inT5 (List.mem_of_getElem? (i := 12) (by decide +kernel)) (by decide +kernel)), (inT1 (List.mem_of_getElem? (i := 10) (by decide +kernel)) (by decide +kernel)), by decide +kernel, by decide⟩
theorem miX2_take : MI yX2_take := ⟨(inT5 (List.mem_of_getElem? (i := 10) (by decide +kernel)) (by decide +kernel)), (inT5 (List.mem_of_getElem? (i := 11) (by decide +kernel)) (by decide +kernel))⟩
theorem mcX3_act : MC yX3_act cX3_act 13 none 3 := ⟨(inT3 (List.mem_of_getElem? (i := 139) (by decide +kernel)) (by decide +kernel)), (inT1 (List.mem_of_getElem? (i := 5) (by decide +kernel)) (by decide +kernel)), by decide +kernel, by decide⟩
theorem miX3_act : MI yX3_act := ⟨(inT3 (List.mem_of_getElem? (i := 137) (by decide +kernel)) (by decide +kernel)), (inT3 (List.mem_of_getElem? (i := 138) (by decide +kernel)) (by decide +kernel))⟩
theorem mcX3_breaks : MC yX3_breaks cX3_breaks 2 (some .boolean) 1 := ⟨(inT4 (List.mem_of_getElem? (i := 13) (by decide +kernel)) (by decide +kernel)), (inT1 (List.mem_of_getElem? (i := 5) (by decide +kernel)) (by decide +kernel)), by decide +kernel, by decide⟩
theorem miX3_breaks : MI yX3_breaks := ⟨(inT4 (List.mem_of_getElem? (i := 11) (by decide +kernel)) (by decide +kernel)), (inT4 (List.mem_of_getElem? (i := 12) (by decide +kernel)) (by decide +kernel))⟩
theorem mcX3_fire : MC yX3_fire cX3_fire 4 none 1 := ⟨(inT3 (List.mem_of_getElem? (i := 183) (by decide +kernel)) (by decide +kernel)), (inT1 (List.mem_of_getElem? (i := 5) (by decide +kernel)) (by decide +kernel)), by decide +kernel, by decide⟩
theorem miX3_fire : MI yX3_fire := ⟨(inT3 (List.mem_of_getElem? (i := 182) (by decide +kernel)) (by decide +kernel)), (inTp (by decide +kernel) (by decide +kernel))⟩
theorem mcX3_joined : MC yX3_joined cX3_joined 3 (some .int) 3 := ⟨(inT3 (List.mem_of_getElem? (i := 158) (by decide +kernel)) (by decide +kernel)), (inT1 (List.mem_of_getElem? (i := 5) (by decide +kernel)) (by decide +kernel)), by decide +kernel, by decide⟩
theorem msX3_joined : Cond.static yX3_joined ∈ lwg := (inT3 (List.mem_of_getElem? (i := 157) (by decide +kernel)) (by decide +kernel))
theorem mcX3_move : MC yX3_move cX3_move 4 none 3 := ⟨(inT3 (List.mem_of_getElem? (i := 163) (by decide +kernel)) (by decide +kernel)), (inT1 (List.mem_of_getElem? (i := 5) (by decide +kernel)) (by decide +kernel)), by decide +kernel, by decide⟩
theorem miX3_move : MI yX3_move := ⟨(inT3 (List.mem_of_getElem? (i := 162) (by decide +kernel)) (by decide +kernel)), (inTp (by decide +kernel) (by decide +kernel))⟩
theorem mcX3_thing : MC yX3_thing cX3_thing 3 (some .int) 2 := ⟨(inT3 (List.mem_of_getElem? (i := 155) (by decide +kernel)) (by decide +kernel)), (inT1 (List.mem_of_getElem? (i := 5) (by decide +kernel)) (by decide +kernel)), by decide +kernel, by decide⟩
theorem msX3_thing : Cond.static yX3_thing ∈ lwg := (inT3 (List.mem_of_getElem? (i := 154) (by decide +kernel)) (by decide +kernel))
theorem mcX3_usePatches : MC yX3_usePatches cX3_usePatches 5 none 1 := ⟨(inT4 (List.mem_of_getElem? (i := 138) (by decide +kernel)) (by decide +kernel)), (inT1 (List.mem_of_getElem? (i := 5) (by decide +kernel)) (by decide +kernel)), by decide +kernel, by decide⟩
theorem miX3_usePatches : MI yX3_usePatches := ⟨(inT4 (List.mem_of_getElem? (i := 136) (by decide +kernel)) (by decide +kernel)), (inT4 (List.mem_of_getElem? (i := 137) (by decide +kernel)) (by decide +kernel))⟩
theorem mcX3_value : MC yX3_value cX3_value 9 (some .int) 3 := ⟨(inT3 (List.mem_of_getElem? (i := 152) (by decide +kernel)) (by decide +kernel)), (inT1 (List.mem_of_getElem? (i := 5) (by decide +kernel)) (by decide +kernel)), by decide +kernel, by decide⟩
theorem miX3_value : MI yX3_value := ⟨(inT3 (List.mem_of_getElem? (i := 150) (by decide +kernel)) (by decide +kernel)), (inT3 (List.mem_of_getElem? (i := 151) (by decide +kernel)) (by decide +kernel))⟩
theorem mcX4_beginStep : MC yX4_beginStep cX4_beginStep 3 none 2 := ⟨(inT3 (List.mem_of_getElem? (i := 143) (by decide +kernel)) (by decide +kernel)), (inT1 (List.mem_of_getElem? (i := 6) (by decide +kernel)) (by decide +kernel)), by decide +kernel, by decide⟩
theorem miX4_beginStep : MI yX4_beginStep := ⟨(inT3 (List.mem_of_getElem? (i := 141) (by decide +kernel)) (by decide +kernel)), (inT3 (List.mem_of_getElem? (i := 142) (by decide +kernel)) (by decide +kernel))⟩
theorem mcX4_copy : MC yX4_copy cX4_copy 2 none 1 := ⟨(inT3 (List.mem_of_getElem? (i := 234) (by decide +kernel)) (by decide +kernel)), (inT1 (List.mem_of_getElem? (i := 6) (by decide +kernel)) (by decide +kernel)), by decide +kernel, by decide⟩
theorem miX4_copy : MI yX4_copy := ⟨(inT3 (List.mem_of_getElem? (i := 232) (by decide +kernel)) (by decide +kernel)), (inT3 (List.mem_of_getElem? (i := 233) (by decide +kernel)) (by decide +kernel))⟩
theorem mcX4_endStep : MC yX4_endStep cX4_endStep 4 none 1 := ⟨(inT3 (List.mem_of_getElem? (i := 188) (by decide +kernel)) (by decide +kernel)), (inT1 (List.mem_of_getElem? (i := 6) (by decide +kernel)) (by decide +kernel)), by decide +kernel, by decide⟩
theorem miX4_endStep : MI yX4_endStep := ⟨(inT3 (List.mem_of_getElem? (i := 186) (by decide +kernel)) (by decide +kernel)), (inT3 (List.mem_of_getElem? (i := 187) (by decide +kernel)) (by decide +kernel))⟩
theorem mcX4_isSlot : MC yX4_isSlot cX4_isSlot 1 (some .boolean) 1 := ⟨(inT4 (List.mem_of_getElem? (i := 201) (by decide +kernel)) (by decide +kernel)), (inT1 (List.mem_of_getElem? (i := 6) (by decide +kernel)) (by decide +kernel)), by decide +kernel, by decide⟩
theorem msX4_isSlot : Cond.static yX4_isSlot ∈ lwg := (inT4 (List.mem_of_getElem? (i := 200) (by decide +kernel)) (by decide +kernel))
theorem mcX4_lineOf : MC yX4_lineOf cX4_lineOf 2 (some .int) 1 := ⟨(inT3 (List.mem_of_getElem? (i := 148) (by decide +kernel)) (by decide +kernel)), (inT1 (List.mem_of_getElem? (i := 6) (by decide +kernel)) (by decide +kernel)), by decide +kernel, by decide⟩
theorem miX4_lineOf : MI yX4_lineOf := ⟨(inT3 (List.mem_of_getElem? (i := 146) (by decide +kernel)) (by decide +kernel)), (inT3 (List.mem_of_getElem? (i := 147) (by decide +kernel)) (by decide +kernel))⟩
theorem mcX4_putLine : MC yX4_putLine cX4_putLine 4 none 2 := ⟨(inT3 (List.mem_of_getElem? (i := 83) (by decide +kernel)) (by decide +kernel)), (inT1 (List.mem_of_getElem? (i := 6) (by decide +kernel)) (by decide +kernel)), by decide +kernel, by decide⟩
theorem miX4_putLine : MI yX4_putLine := ⟨(inT3 (List.mem_of_getElem? (i := 81) (by decide +kernel)) (by decide +kernel)), (inT3 (List.mem_of_getElem? (i := 82) (by decide +kernel)) (by decide +kernel))⟩
theorem mcX4_putPart : MC yX4_putPart cX4_putPart 7 none 3 := ⟨(inT3 (List.mem_of_getElem? (i := 178) (by decide +kernel)) (by decide +kernel)), (inT1 (List.mem_of_getElem? (i := 6) (by decide +kernel)) (by decide +kernel)), by decide +kernel, by decide⟩
theorem miX4_putPart : MI yX4_putPart := ⟨(inT3 (List.mem_of_getElem? (i := 176) (by decide +kernel)) (by decide +kernel)), (inT3 (List.mem_of_getElem? (i := 177) (by decide +kernel)) (by decide +kernel))⟩
theorem mcX4_putSlot : MC yX4_putSlot cX4_putSlot 4 none 2 := ⟨(inT3 (List.mem_of_getElem? (i := 118) (by decide +kernel)) (by decide +kernel)), (inT1 (List.mem_of_getElem? (i := 6) (by decide +kernel)) (by decide +kernel)), by decide +kernel, by decide⟩
theorem miX4_putSlot : MI yX4_putSlot := ⟨(inT3 (List.mem_of_getElem? (i := 116) (by decide +kernel)) (by decide +kernel)), (inT3 (List.mem_of_getElem? (i := 117) (by decide +kernel)) (by decide +kernel))⟩
theorem mcX4_slotValue : MC yX4_slotValue cX4_slotValue 2 (some .int) 1 := ⟨(inT3 (List.mem_of_getElem? (i := 114) (by decide +kernel)) (by decide +kernel)), (inT1 (List.mem_of_getElem? (i := 6) (by decide +kernel)) (by decide +kernel)), by decide +kernel, by decide⟩
theorem miX4_slotValue : MI yX4_slotValue := ⟨(inT3 (List.mem_of_getElem? (i := 112) (by decide +kernel)) (by decide +kernel)), (inT3 (List.mem_of_getElem? (i := 113) (by decide +kernel)) (by decide +kernel))⟩
theorem mcX4_targetOf : MC yX4_targetOf cX4_targetOf 2 (some .int) 1 := ⟨(inT3 (List.mem_of_getElem? (i := 174) (by decide +kernel)) (by decide +kernel)), (inT1 (List.mem_of_getElem? (i := 6) (by decide +kernel)) (by decide +kernel)), by decide +kernel, by decide⟩
theorem miX4_targetOf : MI yX4_targetOf := ⟨(inT3 (List.mem_of_getElem? (i := 172) (by decide +kernel)) (by decide +kernel)), (inT3 (List.mem_of_getElem? (i := 173) (by decide +kernel)) (by decide +kernel))⟩
theorem mcX4_tenthsIn : MC yX4_tenthsIn cX4_tenthsIn 3 (some .int) 2 := ⟨(inT3 (List.mem_of_getElem? (i := 170) (by decide +kernel)) (by decide +kernel)), (inT1 (List.mem_of_getElem? (i := 6) (by decide +kernel)) (by decide +kernel)), by decide +kernel, by decide⟩
theorem msX4_tenthsIn : Cond.static yX4_tenthsIn ∈ lwg := (inT3 (List.mem_of_getElem? (i := 169) (by decide +kernel)) (by decide +kernel))
theorem mcX4_tenthsOf : MC yX4_tenthsOf cX4_tenthsOf 2 (some .int) 1 := ⟨(inT3 (List.mem_of_getElem? (i := 167) (by decide +kernel)) (by decide +kernel)), (inT1 (List.mem_of_getElem? (i := 6) (by decide +kernel)) (by decide +kernel)), by decide +kernel, by decide⟩
theorem miX4_tenthsOf : MI yX4_tenthsOf := ⟨(inT3 (List.mem_of_getElem? (i := 165) (by decide +kernel)) (by decide +kernel)), (inT3 (List.mem_of_getElem? (i := 166) (by decide +kernel)) (by decide +kernel))⟩
theorem mcX5_beginLine : MC yX5_beginLine cX5_beginLine 3 none 2 := ⟨(inT3 (List.mem_of_getElem? (i := 11) (by decide +kernel)) (by decide +kernel)), (inT1 (List.mem_of_getElem? (i := 3) (by decide +kernel)) (by decide +kernel)), by decide +kernel, by decide⟩
theorem miX5_beginLine : MI yX5_beginLine := ⟨(inT3 (List.mem_of_getElem? (i := 9) (by decide +kernel)) (by decide +kernel)), (inT3 (List.mem_of_getElem? (i := 10) (by decide +kernel)) (by decide +kernel))⟩
theorem mcX5_clear : MC yX5_clear cX5_clear 1 none 0 := ⟨(inT2 (List.mem_of_getElem? (i := 227) (by decide +kernel)) (by decide +kernel)), (inT1 (List.mem_of_getElem? (i := 3) (by decide +kernel)) (by decide +kernel)), by decide +kernel, by decide⟩
theorem miX5_clear : MI yX5_clear := ⟨(inT2 (List.mem_of_getElem? (i := 225) (by decide +kernel)) (by decide +kernel)), (inT2 (List.mem_of_getElem? (i := 226) (by decide +kernel)) (by decide +kernel))⟩
theorem mcX5_copyText : MC yX5_copyText cX5_copyText 3 none 2 := ⟨(inT2 (List.mem_of_getElem? (i := 231) (by decide +kernel)) (by decide +kernel)), (inT1 (List.mem_of_getElem? (i := 3) (by decide +kernel)) (by decide +kernel)), by decide +kernel, by decide⟩
theorem miX5_copyText : MI yX5_copyText := ⟨(inT2 (List.mem_of_getElem? (i := 229) (by decide +kernel)) (by decide +kernel)), (inT2 (List.mem_of_getElem? (i := 230) (by decide +kernel)) (by decide +kernel))⟩
theorem mcX5_emit : MC yX5_emit cX5_emit 2 none 1 := ⟨(inT3 (List.mem_of_getElem? (i := 50) (by decide +kernel)) (by decide +kernel)), (inT1 (List.mem_of_getElem? (i := 3) (by decide +kernel)) (by decide +kernel)), by decide +kernel, by decide⟩
theorem miX5_emit : MI yX5_emit := ⟨(inT3 (List.mem_of_getElem? (i := 48) (by decide +kernel)) (by decide +kernel)), (inT3 (List.mem_of_getElem? (i := 49) (by decide +kernel)) (by decide +kernel))⟩
theorem mcX5_endLine : MC yX5_endLine cX5_endLine 1 none 0 := ⟨(inT3 (List.mem_of_getElem? (i := 75) (by decide +kernel)) (by decide +kernel)), (inT1 (List.mem_of_getElem? (i := 3) (by decide +kernel)) (by decide +kernel)), by decide +kernel, by decide⟩
theorem miX5_endLine : MI yX5_endLine := ⟨(inT3 (List.mem_of_getElem? (i := 73) (by decide +kernel)) (by decide +kernel)), (inT3 (List.mem_of_getElem? (i := 74) (by decide +kernel)) (by decide +kernel))⟩
theorem mcX6_begin : MC yX6_begin cX6_begin 2 none 1 := ⟨(inT2 (List.mem_of_getElem? (i := 220) (by decide +kernel)) (by decide +kernel)), (inT1 (List.mem_of_getElem? (i := 2) (by decide +kernel)) (by decide +kernel)), by decide +kernel, by decide⟩
theorem miX6_begin : MI yX6_begin := ⟨(inT2 (List.mem_of_getElem? (i := 219) (by decide +kernel)) (by decide +kernel)), (inTp (by decide +kernel) (by decide +kernel))⟩
theorem mcX6_exchange : MC yX6_exchange cX6_exchange 3 (some (.object "TwoKeys$Program")) 1 := ⟨(inT3 (List.mem_of_getElem? (i := 79) (by decide +kernel)) (by decide +kernel)), (inT1 (List.mem_of_getElem? (i := 2) (by decide +kernel)) (by decide +kernel)), by decide +kernel, by decide⟩
theorem miX6_exchange : MI yX6_exchange := ⟨(inT3 (List.mem_of_getElem? (i := 77) (by decide +kernel)) (by decide +kernel)), (inT3 (List.mem_of_getElem? (i := 78) (by decide +kernel)) (by decide +kernel))⟩
theorem mcX6_heldRank : MC yX6_heldRank cX6_heldRank 1 (some .int) 0 := ⟨(inT3 (List.mem_of_getElem? (i := 61) (by decide +kernel)) (by decide +kernel)), (inT1 (List.mem_of_getElem? (i := 2) (by decide +kernel)) (by decide +kernel)), by decide +kernel, by decide⟩
theorem miX6_heldRank : MI yX6_heldRank := ⟨(inT3 (List.mem_of_getElem? (i := 60) (by decide +kernel)) (by decide +kernel)), (inTp (by decide +kernel) (by decide +kernel))⟩
theorem mcX6_hold : MC yX6_hold cX6_hold 2 none 1 := ⟨(inT3 (List.mem_of_getElem? (i := 42) (by decide +kernel)) (by decide +kernel)), (inT1 (List.mem_of_getElem? (i := 2) (by decide +kernel)) (by decide +kernel)), by decide +kernel, by decide⟩
theorem miX6_hold : MI yX6_hold := ⟨(inT3 (List.mem_of_getElem? (i := 41) (by decide +kernel)) (by decide +kernel)), (inTp (by decide +kernel) (by decide +kernel))⟩
theorem mcX6_holdJoint : MC yX6_holdJoint cX6_holdJoint 3 (some .boolean) 1 := ⟨(inT3 (List.mem_of_getElem? (i := 71) (by decide +kernel)) (by decide +kernel)), (inT1 (List.mem_of_getElem? (i := 2) (by decide +kernel)) (by decide +kernel)), by decide +kernel, by decide⟩
theorem miX6_holdJoint : MI yX6_holdJoint := ⟨(inT3 (List.mem_of_getElem? (i := 70) (by decide +kernel)) (by decide +kernel)), (inTp (by decide +kernel) (by decide +kernel))⟩
theorem mcX6_isDigit : MC yX6_isDigit cX6_isDigit 1 (some .boolean) 1 := ⟨(inT3 (List.mem_of_getElem? (i := 26) (by decide +kernel)) (by decide +kernel)), (inT1 (List.mem_of_getElem? (i := 2) (by decide +kernel)) (by decide +kernel)), by decide +kernel, by decide⟩
theorem msX6_isDigit : Cond.static yX6_isDigit ∈ lwg := (inT3 (List.mem_of_getElem? (i := 25) (by decide +kernel)) (by decide +kernel))
theorem mcX6_look : MC yX6_look cX6_look 1 (some .int) 0 := ⟨(inT3 (List.mem_of_getElem? (i := 3) (by decide +kernel)) (by decide +kernel)), (inT1 (List.mem_of_getElem? (i := 2) (by decide +kernel)) (by decide +kernel)), by decide +kernel, by decide⟩
theorem miX6_look : MI yX6_look := ⟨(inT3 (List.mem_of_getElem? (i := 2) (by decide +kernel)) (by decide +kernel)), (inTp (by decide +kernel) (by decide +kernel))⟩
theorem mcX6_passes : MC yX6_passes cX6_passes 2 (some .boolean) 1 := ⟨(inT3 (List.mem_of_getElem? (i := 15) (by decide +kernel)) (by decide +kernel)), (inT1 (List.mem_of_getElem? (i := 2) (by decide +kernel)) (by decide +kernel)), by decide +kernel, by decide⟩
theorem miX6_passes : MI yX6_passes := ⟨(inT3 (List.mem_of_getElem? (i := 14) (by decide +kernel)) (by decide +kernel)), (inTp (by decide +kernel) (by decide +kernel))⟩
theorem mcX6_readAhead : MC yX6_readAhead cX6_readAhead 1 (some .boolean) 0 := ⟨(inT3 (List.mem_of_getElem? (i := 38) (by decide +kernel)) (by decide +kernel)), (inT1 (List.mem_of_getElem? (i := 2) (by decide +kernel)) (by decide +kernel)), by decide +kernel, by decide⟩
theorem miX6_readAhead : MI yX6_readAhead := ⟨(inT3 (List.mem_of_getElem? (i := 37) (by decide +kernel)) (by decide +kernel)), (inTp (by decide +kernel) (by decide +kernel))⟩
theorem mcX6_readAsked : MC yX6_readAsked cX6_readAsked 2 (some .int) 1 := ⟨(inT3 (List.mem_of_getElem? (i := 98) (by decide +kernel)) (by decide +kernel)), (inT1 (List.mem_of_getElem? (i := 2) (by decide +kernel)) (by decide +kernel)), by decide +kernel, by decide⟩
theorem miX6_readAsked : MI yX6_readAsked := ⟨(inT3 (List.mem_of_getElem? (i := 96) (by decide +kernel)) (by decide +kernel)), (inT3 (List.mem_of_getElem? (i := 97) (by decide +kernel)) (by decide +kernel))⟩
theorem mcX6_readExpression : MC yX6_readExpression cX6_readExpression 6 (some .boolean) 1 := ⟨(inT3 (List.mem_of_getElem? (i := 34) (by decide +kernel)) (by decide +kernel)), (inT1 (List.mem_of_getElem? (i := 2) (by decide +kernel)) (by decide +kernel)), by decide +kernel, by decide⟩
theorem miX6_readExpression : MI yX6_readExpression := ⟨(inT3 (List.mem_of_getElem? (i := 33) (by decide +kernel)) (by decide +kernel)), (inTp (by decide +kernel) (by decide +kernel))⟩
theorem mcX6_readHead : MC yX6_readHead cX6_readHead 2 (some .boolean) 1 := ⟨(inT3 (List.mem_of_getElem? (i := 7) (by decide +kernel)) (by decide +kernel)), (inT1 (List.mem_of_getElem? (i := 2) (by decide +kernel)) (by decide +kernel)), by decide +kernel, by decide⟩
theorem miX6_readHead : MI yX6_readHead := ⟨(inT3 (List.mem_of_getElem? (i := 6) (by decide +kernel)) (by decide +kernel)), (inTp (by decide +kernel) (by decide +kernel))⟩
theorem mcX6_readLine : MC yX6_readLine cX6_readLine 2 (some .boolean) 0 := ⟨(inT2 (List.mem_of_getElem? (i := 239) (by decide +kernel)) (by decide +kernel)), (inT1 (List.mem_of_getElem? (i := 2) (by decide +kernel)) (by decide +kernel)), by decide +kernel, by decide⟩
theorem miX6_readLine : MI yX6_readLine := ⟨(inT2 (List.mem_of_getElem? (i := 238) (by decide +kernel)) (by decide +kernel)), (inTp (by decide +kernel) (by decide +kernel))⟩
theorem mcX6_readLines : MC yX6_readLines cX6_readLines 4 (some .int) 2 := ⟨(inT2 (List.mem_of_getElem? (i := 216) (by decide +kernel)) (by decide +kernel)), (inT1 (List.mem_of_getElem? (i := 2) (by decide +kernel)) (by decide +kernel)), by decide +kernel, by decide⟩
theorem miX6_readLines : MI yX6_readLines := ⟨(inT2 (List.mem_of_getElem? (i := 214) (by decide +kernel)) (by decide +kernel)), (inT2 (List.mem_of_getElem? (i := 215) (by decide +kernel)) (by decide +kernel))⟩
theorem mcX6_readNumber : MC yX6_readNumber cX6_readNumber 4 (some .int) 1 := ⟨(inT3 (List.mem_of_getElem? (i := 30) (by decide +kernel)) (by decide +kernel)), (inT1 (List.mem_of_getElem? (i := 2) (by decide +kernel)) (by decide +kernel)), by decide +kernel, by decide⟩
theorem miX6_readNumber : MI yX6_readNumber := ⟨(inT3 (List.mem_of_getElem? (i := 29) (by decide +kernel)) (by decide +kernel)), (inTp (by decide +kernel) (by decide +kernel))⟩
theorem mcX6_readNumbered : MC yX6_readNumbered cX6_readNumbered 2 (some .boolean) 1 := ⟨(inT3 (List.mem_of_getElem? (i := 23) (by decide +kernel)) (by decide +kernel)), (inT1 (List.mem_of_getElem? (i := 2) (by decide +kernel)) (by decide +kernel)), by decide +kernel, by decide⟩
theorem miX6_readNumbered : MI yX6_readNumbered := ⟨(inT3 (List.mem_of_getElem? (i := 22) (by decide +kernel)) (by decide +kernel)), (inTp (by decide +kernel) (by decide +kernel))⟩
theorem mcX6_readPart : MC yX6_readPart cX6_readPart 2 (some .boolean) 0 := ⟨(inT3 (List.mem_of_getElem? (i := 19) (by decide +kernel)) (by decide +kernel)), (inT1 (List.mem_of_getElem? (i := 2) (by decide +kernel)) (by decide +kernel)), by decide +kernel, by decide⟩
theorem miX6_readPart : MI yX6_readPart := ⟨(inT3 (List.mem_of_getElem? (i := 18) (by decide +kernel)) (by decide +kernel)), (inTp (by decide +kernel) (by decide +kernel))⟩
theorem mcX6_readThing : MC yX6_readThing cX6_readThing 3 (some .boolean) 1 := ⟨(inT3 (List.mem_of_getElem? (i := 46) (by decide +kernel)) (by decide +kernel)), (inT1 (List.mem_of_getElem? (i := 2) (by decide +kernel)) (by decide +kernel)), by decide +kernel, by decide⟩
theorem miX6_readThing : MI yX6_readThing := ⟨(inT3 (List.mem_of_getElem? (i := 45) (by decide +kernel)) (by decide +kernel)), (inTp (by decide +kernel) (by decide +kernel))⟩
theorem mcX6_release : MC yX6_release cX6_release 2 none 1 := ⟨(inT3 (List.mem_of_getElem? (i := 57) (by decide +kernel)) (by decide +kernel)), (inT1 (List.mem_of_getElem? (i := 2) (by decide +kernel)) (by decide +kernel)), by decide +kernel, by decide⟩
theorem miX6_release : MI yX6_release := ⟨(inT3 (List.mem_of_getElem? (i := 56) (by decide +kernel)) (by decide +kernel)), (inTp (by decide +kernel) (by decide +kernel))⟩
theorem mcX7_clear : MC yX7_clear cX7_clear 1 none 0 := ⟨(inT4 (List.mem_of_getElem? (i := 42) (by decide +kernel)) (by decide +kernel)), (inT1 (List.mem_of_getElem? (i := 7) (by decide +kernel)) (by decide +kernel)), by decide +kernel, by decide⟩
theorem miX7_clear : MI yX7_clear := ⟨(inT4 (List.mem_of_getElem? (i := 40) (by decide +kernel)) (by decide +kernel)), (inT4 (List.mem_of_getElem? (i := 41) (by decide +kernel)) (by decide +kernel))⟩
theorem mcX7_tellNext : MC yX7_tellNext cX7_tellNext 3 none 1 := ⟨(inT3 (List.mem_of_getElem? (i := 209) (by decide +kernel)) (by decide +kernel)), (inT1 (List.mem_of_getElem? (i := 7) (by decide +kernel)) (by decide +kernel)), by decide +kernel, by decide⟩
theorem miX7_tellNext : MI yX7_tellNext := ⟨(inT3 (List.mem_of_getElem? (i := 207) (by decide +kernel)) (by decide +kernel)), (inT3 (List.mem_of_getElem? (i := 208) (by decide +kernel)) (by decide +kernel))⟩
theorem mcX7_tellOne : MC yX7_tellOne cX7_tellOne 3 none 1 := ⟨(inT3 (List.mem_of_getElem? (i := 205) (by decide +kernel)) (by decide +kernel)), (inT1 (List.mem_of_getElem? (i := 7) (by decide +kernel)) (by decide +kernel)), by decide +kernel, by decide⟩
theorem miX7_tellOne : MI yX7_tellOne := ⟨(inT3 (List.mem_of_getElem? (i := 203) (by decide +kernel)) (by decide +kernel)), (inT3 (List.mem_of_getElem? (i := 204) (by decide +kernel)) (by decide +kernel))⟩
theorem mcX7_tellTwo : MC yX7_tellTwo cX7_tellTwo 5 none 2 := ⟨(inT4 (List.mem_of_getElem? (i := 68) (by decide +kernel)) (by decide +kernel)), (inT1 (List.mem_of_getElem? (i := 7) (by decide +kernel)) (by decide +kernel)), by decide +kernel, by decide⟩
theorem miX7_tellTwo : MI yX7_tellTwo := ⟨(inT4 (List.mem_of_getElem? (i := 66) (by decide +kernel)) (by decide +kernel)), (inT4 (List.mem_of_getElem? (i := 67) (by decide +kernel)) (by decide +kernel))⟩
theorem mcX8_prepare : MC yX8_prepare cX8_prepare 5 none 2 := ⟨(inT4 (List.mem_of_getElem? (i := 142) (by decide +kernel)) (by decide +kernel)), (inT1 (List.mem_of_getElem? (i := 8) (by decide +kernel)) (by decide +kernel)), by decide +kernel, by decide⟩
theorem miX8_prepare : MI yX8_prepare := ⟨(inT4 (List.mem_of_getElem? (i := 140) (by decide +kernel)) (by decide +kernel)), (inT4 (List.mem_of_getElem? (i := 141) (by decide +kernel)) (by decide +kernel))⟩
theorem mcX8_typedBits : MC yX8_typedBits cX8_typedBits 3 (some .int) 0 := ⟨(inT4 (List.mem_of_getElem? (i := 124) (by decide +kernel)) (by decide +kernel)), (inT1 (List.mem_of_getElem? (i := 8) (by decide +kernel)) (by decide +kernel)), by decide +kernel, by decide⟩
theorem miX8_typedBits : MI yX8_typedBits := ⟨(inT4 (List.mem_of_getElem? (i := 122) (by decide +kernel)) (by decide +kernel)), (inT4 (List.mem_of_getElem? (i := 123) (by decide +kernel)) (by decide +kernel))⟩
theorem mcX9_add : MC yX9_add cX9_add 3 (some .int) 2 := ⟨(inT4 (List.mem_of_getElem? (i := 4) (by decide +kernel)) (by decide +kernel)), (inT1 (List.mem_of_getElem? (i := 4) (by decide +kernel)) (by decide +kernel)), by decide +kernel, by decide⟩
theorem miX9_add : MI yX9_add := ⟨(inT4 (List.mem_of_getElem? (i := 3) (by decide +kernel)) (by decide +kernel)), (inTp (by decide +kernel) (by decide +kernel))⟩
theorem mcX9_begin : MC yX9_begin cX9_begin 4 none 2 := ⟨(inT3 (List.mem_of_getElem? (i := 229) (by decide +kernel)) (by decide +kernel)), (inT1 (List.mem_of_getElem? (i := 4) (by decide +kernel)) (by decide +kernel)), by decide +kernel, by decide⟩
theorem miX9_begin : MI yX9_begin := ⟨(inT3 (List.mem_of_getElem? (i := 228) (by decide +kernel)) (by decide +kernel)), (inTp (by decide +kernel) (by decide +kernel))⟩
theorem mcX9_expand : MC yX9_expand cX9_expand 10 (some .boolean) 1 := ⟨(inT4 (List.mem_of_getElem? (i := 8) (by decide +kernel)) (by decide +kernel)), (inT1 (List.mem_of_getElem? (i := 4) (by decide +kernel)) (by decide +kernel)), by decide +kernel, by decide⟩
theorem miX9_expand : MI yX9_expand := ⟨(inT4 (List.mem_of_getElem? (i := 7) (by decide +kernel)) (by decide +kernel)), (inTp (by decide +kernel) (by decide +kernel))⟩
theorem mcX9_explore : MC yX9_explore cX9_explore 10 (some .boolean) 5 := ⟨(inT3 (List.mem_of_getElem? (i := 225) (by decide +kernel)) (by decide +kernel)), (inT1 (List.mem_of_getElem? (i := 4) (by decide +kernel)) (by decide +kernel)), by decide +kernel, by decide⟩
theorem miX9_explore : MI yX9_explore := ⟨(inT3 (List.mem_of_getElem? (i := 223) (by decide +kernel)) (by decide +kernel)), (inT3 (List.mem_of_getElem? (i := 224) (by decide +kernel)) (by decide +kernel))⟩
theorem mcX9_find : MC yX9_find cX9_find 8 (some .int) 2 := ⟨(inT3 (List.mem_of_getElem? (i := 238) (by decide +kernel)) (by decide +kernel)), (inT1 (List.mem_of_getElem? (i := 4) (by decide +kernel)) (by decide +kernel)), by decide +kernel, by decide⟩
theorem miX9_find : MI yX9_find := ⟨(inT3 (List.mem_of_getElem? (i := 237) (by decide +kernel)) (by decide +kernel)), (inTp (by decide +kernel) (by decide +kernel))⟩
theorem mcX9_follow : MC yX9_follow cX9_follow 8 (some .boolean) 3 := ⟨(inT4 (List.mem_of_getElem? (i := 146) (by decide +kernel)) (by decide +kernel)), (inT1 (List.mem_of_getElem? (i := 4) (by decide +kernel)) (by decide +kernel)), by decide +kernel, by decide⟩
theorem miX9_follow : MI yX9_follow := ⟨(inT4 (List.mem_of_getElem? (i := 144) (by decide +kernel)) (by decide +kernel)), (inT4 (List.mem_of_getElem? (i := 145) (by decide +kernel)) (by decide +kernel))⟩
theorem mcX9_followFrom : MC yX9_followFrom cX9_followFrom 8 (some .boolean) 4 := ⟨(inT4 (List.mem_of_getElem? (i := 150) (by decide +kernel)) (by decide +kernel)), (inT1 (List.mem_of_getElem? (i := 4) (by decide +kernel)) (by decide +kernel)), by decide +kernel, by decide⟩
theorem miX9_followFrom : MI yX9_followFrom := ⟨(inT4 (List.mem_of_getElem? (i := 149) (by decide +kernel)) (by decide +kernel)), (inTp (by decide +kernel) (by decide +kernel))⟩
theorem mcX9_isSought : MC yX9_isSought cX9_isSought 1 (some .boolean) 0 := ⟨(inT4 (List.mem_of_getElem? (i := 17) (by decide +kernel)) (by decide +kernel)), (inT1 (List.mem_of_getElem? (i := 4) (by decide +kernel)) (by decide +kernel)), by decide +kernel, by decide⟩
theorem miX9_isSought : MI yX9_isSought := ⟨(inT4 (List.mem_of_getElem? (i := 16) (by decide +kernel)) (by decide +kernel)), (inTp (by decide +kernel) (by decide +kernel))⟩
theorem mcX9_noteFirst : MC yX9_noteFirst cX9_noteFirst 3 none 2 := ⟨(inT4 (List.mem_of_getElem? (i := 22) (by decide +kernel)) (by decide +kernel)), (inT1 (List.mem_of_getElem? (i := 4) (by decide +kernel)) (by decide +kernel)), by decide +kernel, by decide⟩
theorem miX9_noteFirst : MI yX9_noteFirst := ⟨(inT4 (List.mem_of_getElem? (i := 21) (by decide +kernel)) (by decide +kernel)), (inTp (by decide +kernel) (by decide +kernel))⟩
theorem mcX9_spread : MC yX9_spread cX9_spread 8 none 3 := ⟨(inT4 (List.mem_of_getElem? (i := 64) (by decide +kernel)) (by decide +kernel)), (inT1 (List.mem_of_getElem? (i := 4) (by decide +kernel)) (by decide +kernel)), by decide +kernel, by decide⟩
theorem miX9_spread : MI yX9_spread := ⟨(inT4 (List.mem_of_getElem? (i := 63) (by decide +kernel)) (by decide +kernel)), (inTp (by decide +kernel) (by decide +kernel))⟩
theorem mcX9_tellSteps : MC yX9_tellSteps cX9_tellSteps 6 none 2 := ⟨(inT4 (List.mem_of_getElem? (i := 34) (by decide +kernel)) (by decide +kernel)), (inT1 (List.mem_of_getElem? (i := 4) (by decide +kernel)) (by decide +kernel)), by decide +kernel, by decide⟩
theorem miX9_tellSteps : MI yX9_tellSteps := ⟨(inT4 (List.mem_of_getElem? (i := 32) (by decide +kernel)) (by decide +kernel)), (inT4 (List.mem_of_getElem? (i := 33) (by decide +kernel)) (by decide +kernel))⟩
theorem mcX9_weightWithout : MC yX9_weightWithout cX9_weightWithout 7 (some .long) 3 := ⟨(inT4 (List.mem_of_getElem? (i := 60) (by decide +kernel)) (by decide +kernel)), (inT1 (List.mem_of_getElem? (i := 4) (by decide +kernel)) (by decide +kernel)), by decide +kernel, by decide⟩
theorem miX9_weightWithout : MI yX9_weightWithout := ⟨(inT4 (List.mem_of_getElem? (i := 58) (by decide +kernel)) (by decide +kernel)), (inT4 (List.mem_of_getElem? (i := 59) (by decide +kernel)) (by decide +kernel))⟩
