theorem inT0 {w : Cond} (h : w ∈ k2_sels lw_privs) (hg : goodWord w = true) : w ∈ TB := inTB (List.mem_append_left _ h) hg
theorem inT1 {w : Cond} (h : w ∈ tables_1_1) (hg : goodWord w = true) : w ∈ TB := inTB (List.mem_append_right _ (List.mem_append_left _ h)) hg
theorem inT2 {w : Cond} (h : w ∈ tables_1_2) (hg : goodWord w = true) : w ∈ TB := inTB (List.mem_append_right _ (List.mem_append_right _ (List.mem_append_left _ h))) hg
theorem inT3 {w : Cond} (h : w ∈ tables_1_3) (hg : goodWord w = true) : w ∈ TB := inTB (List.mem_append_right _ (List.mem_append_right _ (List.mem_append_right _ (List.mem_append_left _ h)))) hg
theorem inT4 {w : Cond} (h : w ∈ tables_1_4) (hg : goodWord w = true) : w ∈ TB := inTB (List.mem_append_right _ (List.mem_append_right _ (List.mem_append_right _ (List.mem_append_right _ (List.mem_append_left _ h))))) hg
theorem inT5 {w : Cond} (h : w ∈ tables_1_5) (hg : goodWord w = true) : w ∈ TB := inTB (List.mem_append_right _ (List.mem_append_right _ (List.mem_append_right _ (List.mem_append_right _ (List.mem_append_right _ (List.mem_append_left _ h)))))) hg
theorem inT6 {w : Cond} (h : w ∈ tables_1_6) (hg : goodWord w = true) : w ∈ TB := inTB (List.mem_append_right _ (List.mem_append_right _ (List.mem_append_right _ (List.mem_append_right _ (List.mem_append_right _ (List.mem_append_right _ (h))))))) hg
set_option maxRecDepth 100000 in
theorem lkX4_9 : Cond.fieldLink RX4 9 (TX4 0).1 (TX4 0).2.1 (TX4 0).2.2.1 ∈ TB := inT1 (List.mem_of_getElem? (i := 29) rfl) rfl
set_option maxRecDepth 100000 in
theorem lkX5_111 : Cond.fieldLink RX5 111 (TX4 0).1 (TX4 0).2.1 (TX4 0).2.2.1 ∈ TB := inT1 (List.mem_of_getElem? (i := 30) rfl) rfl
set_option maxRecDepth 100000 in
theorem lkX4_15 : Cond.fieldLink RX4 15 (TX4 1).1 (TX4 1).2.1 (TX4 1).2.2.1 ∈ TB := inT1 (List.mem_of_getElem? (i := 31) rfl) rfl
set_option maxRecDepth 100000 in
theorem lkX1_84 : Cond.fieldLink RX1 84 (TX4 1).1 (TX4 1).2.1 (TX4 1).2.2.1 ∈ TB := inT1 (List.mem_of_getElem? (i := 32) rfl) rfl
set_option maxRecDepth 100000 in
theorem lkX5_115 : Cond.fieldLink RX5 115 (TX4 1).1 (TX4 1).2.1 (TX4 1).2.2.1 ∈ TB := inT1 (List.mem_of_getElem? (i := 33) rfl) rfl
set_option maxRecDepth 100000 in
theorem lkX4_19 : Cond.fieldLink RX4 19 (TX4 2).1 (TX4 2).2.1 (TX4 2).2.2.1 ∈ TB := inT1 (List.mem_of_getElem? (i := 34) rfl) rfl
set_option maxRecDepth 100000 in
theorem lkX1_60 : Cond.fieldLink RX1 60 (TX4 2).1 (TX4 2).2.1 (TX4 2).2.2.1 ∈ TB := inT1 (List.mem_of_getElem? (i := 35) rfl) rfl
set_option maxRecDepth 100000 in
theorem lkX5_124 : Cond.fieldLink RX5 124 (TX4 2).1 (TX4 2).2.1 (TX4 2).2.2.1 ∈ TB := inT1 (List.mem_of_getElem? (i := 36) rfl) rfl
set_option maxRecDepth 100000 in
theorem lkX4_23 : Cond.fieldLink RX4 23 (TX4 3).1 (TX4 3).2.1 (TX4 3).2.2.1 ∈ TB := inT1 (List.mem_of_getElem? (i := 37) rfl) rfl
set_option maxRecDepth 100000 in
theorem lkX1_96 : Cond.fieldLink RX1 96 (TX4 3).1 (TX4 3).2.1 (TX4 3).2.2.1 ∈ TB := inT1 (List.mem_of_getElem? (i := 38) rfl) rfl
set_option maxRecDepth 100000 in
theorem lkX5_121 : Cond.fieldLink RX5 121 (TX4 3).1 (TX4 3).2.1 (TX4 3).2.2.1 ∈ TB := inT1 (List.mem_of_getElem? (i := 39) rfl) rfl
set_option maxRecDepth 100000 in
theorem lkX4_26 : Cond.fieldLink RX4 26 (TX4 4).1 (TX4 4).2.1 (TX4 4).2.2.1 ∈ TB := inT1 (List.mem_of_getElem? (i := 40) rfl) rfl
set_option maxRecDepth 100000 in
theorem lkX4_30 : Cond.fieldLink RX4 30 (TX4 5).1 (TX4 5).2.1 (TX4 5).2.2.1 ∈ TB := inT1 (List.mem_of_getElem? (i := 41) rfl) rfl
set_option maxRecDepth 100000 in
theorem lkX1_26 : Cond.fieldLink RX1 26 (TX4 5).1 (TX4 5).2.1 (TX4 5).2.2.1 ∈ TB := inT1 (List.mem_of_getElem? (i := 42) rfl) rfl
set_option maxRecDepth 100000 in
theorem lkX5_134 : Cond.fieldLink RX5 134 (TX4 5).1 (TX4 5).2.1 (TX4 5).2.2.1 ∈ TB := inT1 (List.mem_of_getElem? (i := 43) rfl) rfl
set_option maxRecDepth 100000 in
theorem lkX4_33 : Cond.fieldLink RX4 33 (TX4 6).1 (TX4 6).2.1 (TX4 6).2.2.1 ∈ TB := inT1 (List.mem_of_getElem? (i := 44) rfl) rfl
set_option maxRecDepth 100000 in
theorem lkX1_63 : Cond.fieldLink RX1 63 (TX4 6).1 (TX4 6).2.1 (TX4 6).2.2.1 ∈ TB := inT1 (List.mem_of_getElem? (i := 45) rfl) rfl
set_option maxRecDepth 100000 in
theorem lkX5_242 : Cond.fieldLink RX5 242 (TX4 6).1 (TX4 6).2.1 (TX4 6).2.2.1 ∈ TB := inT1 (List.mem_of_getElem? (i := 46) rfl) rfl
set_option maxRecDepth 100000 in
theorem lkX4_36 : Cond.fieldLink RX4 36 (TX4 7).1 (TX4 7).2.1 (TX4 7).2.2.1 ∈ TB := inT1 (List.mem_of_getElem? (i := 47) rfl) rfl
set_option maxRecDepth 100000 in
theorem lkX1_74 : Cond.fieldLink RX1 74 (TX4 7).1 (TX4 7).2.1 (TX4 7).2.2.1 ∈ TB := inT1 (List.mem_of_getElem? (i := 48) rfl) rfl
set_option maxRecDepth 100000 in
theorem lkX5_248 : Cond.fieldLink RX5 248 (TX4 7).1 (TX4 7).2.1 (TX4 7).2.2.1 ∈ TB := inT1 (List.mem_of_getElem? (i := 49) rfl) rfl
set_option maxRecDepth 100000 in
theorem lkX4_39 : Cond.fieldLink RX4 39 (TX4 8).1 (TX4 8).2.1 (TX4 8).2.2.1 ∈ TB := inT1 (List.mem_of_getElem? (i := 50) rfl) rfl
set_option maxRecDepth 100000 in
theorem lkX1_57 : Cond.fieldLink RX1 57 (TX4 8).1 (TX4 8).2.1 (TX4 8).2.2.1 ∈ TB := inT1 (List.mem_of_getElem? (i := 51) rfl) rfl
set_option maxRecDepth 100000 in
theorem lkX5_147 : Cond.fieldLink RX5 147 (TX4 8).1 (TX4 8).2.1 (TX4 8).2.2.1 ∈ TB := inT1 (List.mem_of_getElem? (i := 52) rfl) rfl
set_option maxRecDepth 100000 in
theorem lkX4_42 : Cond.fieldLink RX4 42 (TX4 9).1 (TX4 9).2.1 (TX4 9).2.2.1 ∈ TB := inT1 (List.mem_of_getElem? (i := 53) rfl) rfl
set_option maxRecDepth 100000 in
theorem lkX1_31 : Cond.fieldLink RX1 31 (TX4 9).1 (TX4 9).2.1 (TX4 9).2.2.1 ∈ TB := inT1 (List.mem_of_getElem? (i := 54) rfl) rfl
set_option maxRecDepth 100000 in
theorem lkX5_150 : Cond.fieldLink RX5 150 (TX4 9).1 (TX4 9).2.1 (TX4 9).2.2.1 ∈ TB := inT1 (List.mem_of_getElem? (i := 55) rfl) rfl
set_option maxRecDepth 100000 in
theorem lkX4_45 : Cond.fieldLink RX4 45 (TX4 10).1 (TX4 10).2.1 (TX4 10).2.2.1 ∈ TB := inT1 (List.mem_of_getElem? (i := 56) rfl) rfl
set_option maxRecDepth 100000 in
theorem lkX1_50 : Cond.fieldLink RX1 50 (TX4 10).1 (TX4 10).2.1 (TX4 10).2.2.1 ∈ TB := inT1 (List.mem_of_getElem? (i := 57) rfl) rfl
set_option maxRecDepth 100000 in
theorem lkX5_153 : Cond.fieldLink RX5 153 (TX4 10).1 (TX4 10).2.1 (TX4 10).2.2.1 ∈ TB := inT1 (List.mem_of_getElem? (i := 58) rfl) rfl
set_option maxRecDepth 100000 in
theorem lkX3_9 : Cond.fieldLink RX3 9 (TX3 0).1 (TX3 0).2.1 (TX3 0).2.2.1 ∈ TB := inT1 (List.mem_of_getElem? (i := 97) rfl) rfl
set_option maxRecDepth 100000 in
theorem lkX1_106 : Cond.fieldLink RX1 106 (TX3 0).1 (TX3 0).2.1 (TX3 0).2.2.1 ∈ TB := inT1 (List.mem_of_getElem? (i := 98) rfl) rfl
set_option maxRecDepth 100000 in
theorem lkX3_15 : Cond.fieldLink RX3 15 (TX3 1).1 (TX3 1).2.1 (TX3 1).2.2.1 ∈ TB := inT1 (List.mem_of_getElem? (i := 99) rfl) rfl
set_option maxRecDepth 100000 in
theorem lkX1_103 : Cond.fieldLink RX1 103 (TX3 1).1 (TX3 1).2.1 (TX3 1).2.2.1 ∈ TB := inT1 (List.mem_of_getElem? (i := 100) rfl) rfl
set_option maxRecDepth 100000 in
theorem lkX3_18 : Cond.fieldLink RX3 18 (TX3 2).1 (TX3 2).2.1 (TX3 2).2.2.1 ∈ TB := inT1 (List.mem_of_getElem? (i := 101) rfl) rfl
set_option maxRecDepth 100000 in
theorem lkX1_11 : Cond.fieldLink RX1 11 (TX1 0).1 (TX1 0).2.1 (TX1 0).2.2.1 ∈ TB := inT1 (List.mem_of_getElem? (i := 109) rfl) rfl
set_option maxRecDepth 100000 in
theorem lkX5_63 : Cond.fieldLink RX5 63 (TX1 0).1 (TX1 0).2.1 (TX1 0).2.2.1 ∈ TB := inT1 (List.mem_of_getElem? (i := 110) rfl) rfl
set_option maxRecDepth 100000 in
theorem lkX1_17 : Cond.fieldLink RX1 17 (TX1 1).1 (TX1 1).2.1 (TX1 1).2.2.1 ∈ TB := inT1 (List.mem_of_getElem? (i := 111) rfl) rfl
set_option maxRecDepth 100000 in
theorem lkX5_74 : Cond.fieldLink RX5 74 (TX1 1).1 (TX1 1).2.1 (TX1 1).2.2.1 ∈ TB := inT1 (List.mem_of_getElem? (i := 112) rfl) rfl
set_option maxRecDepth 100000 in
theorem lkX1_21 : Cond.fieldLink RX1 21 (TX1 2).1 (TX1 2).2.1 (TX1 2).2.2.1 ∈ TB := inT1 (List.mem_of_getElem? (i := 113) rfl) rfl
set_option maxRecDepth 100000 in
theorem lkX0_11 : Cond.fieldLink RX0 11 (TX0 0).1 (TX0 0).2.1 (TX0 0).2.2.1 ∈ TB := inT1 (List.mem_of_getElem? (i := 127) rfl) rfl
set_option maxRecDepth 100000 in
theorem lkX0_15 : Cond.fieldLink RX0 15 (TX0 1).1 (TX0 1).2.1 (TX0 1).2.2.1 ∈ TB := inT1 (List.mem_of_getElem? (i := 128) rfl) rfl
set_option maxRecDepth 100000 in
theorem lkX5_223 : Cond.fieldLink RX5 223 (TX0 1).1 (TX0 1).2.1 (TX0 1).2.2.1 ∈ TB := inT1 (List.mem_of_getElem? (i := 129) rfl) rfl
set_option maxRecDepth 100000 in
theorem lkX0_19 : Cond.fieldLink RX0 19 (TX0 2).1 (TX0 2).2.1 (TX0 2).2.2.1 ∈ TB := inT1 (List.mem_of_getElem? (i := 130) rfl) rfl
set_option maxRecDepth 100000 in
theorem lkX0_22 : Cond.fieldLink RX0 22 (TX0 3).1 (TX0 3).2.1 (TX0 3).2.2.1 ∈ TB := inT1 (List.mem_of_getElem? (i := 131) rfl) rfl
set_option maxRecDepth 100000 in
theorem lkX0_25 : Cond.fieldLink RX0 25 (TX0 4).1 (TX0 4).2.1 (TX0 4).2.2.1 ∈ TB := inT1 (List.mem_of_getElem? (i := 132) rfl) rfl
set_option maxRecDepth 100000 in
theorem lkX0_28 : Cond.fieldLink RX0 28 (TX0 5).1 (TX0 5).2.1 (TX0 5).2.2.1 ∈ TB := inT1 (List.mem_of_getElem? (i := 133) rfl) rfl
set_option maxRecDepth 100000 in
theorem lkX2_9 : Cond.fieldLink RX2 9 (TX2 0).1 (TX2 0).2.1 (TX2 0).2.2.1 ∈ TB := inT1 (List.mem_of_getElem? (i := 154) rfl) rfl
set_option maxRecDepth 100000 in
theorem lkX5_230 : Cond.fieldLink RX5 230 (TX2 0).1 (TX2 0).2.1 (TX2 0).2.2.1 ∈ TB := inT1 (List.mem_of_getElem? (i := 155) rfl) rfl
set_option maxRecDepth 100000 in
theorem lkX2_15 : Cond.fieldLink RX2 15 (TX2 1).1 (TX2 1).2.1 (TX2 1).2.2.1 ∈ TB := inT1 (List.mem_of_getElem? (i := 156) rfl) rfl
set_option maxRecDepth 100000 in
theorem lkX5_198 : Cond.fieldLink RX5 198 (TX2 1).1 (TX2 1).2.1 (TX2 1).2.2.1 ∈ TB := inT1 (List.mem_of_getElem? (i := 157) rfl) rfl
set_option maxRecDepth 100000 in
theorem lkX2_19 : Cond.fieldLink RX2 19 (TX2 2).1 (TX2 2).2.1 (TX2 2).2.2.1 ∈ TB := inT1 (List.mem_of_getElem? (i := 158) rfl) rfl
set_option maxRecDepth 100000 in
theorem lkX5_224 : Cond.fieldLink RX5 224 (TX2 2).1 (TX2 2).2.1 (TX2 2).2.2.1 ∈ TB := inT1 (List.mem_of_getElem? (i := 159) rfl) rfl
set_option maxRecDepth 100000 in
theorem lkX5_10 : Cond.fieldLink RX5 10 (TX5 0).1 (TX5 0).2.1 (TX5 0).2.2.1 ∈ TB := inT2 (List.mem_of_getElem? (i := 74) rfl) rfl
set_option maxRecDepth 100000 in
theorem lkX5_16 : Cond.fieldLink RX5 16 (TX5 1).1 (TX5 1).2.1 (TX5 1).2.2.1 ∈ TB := inT2 (List.mem_of_getElem? (i := 75) rfl) rfl
set_option maxRecDepth 100000 in
theorem lkX5_19 : Cond.fieldLink RX5 19 (TX5 2).1 (TX5 2).2.1 (TX5 2).2.2.1 ∈ TB := inT2 (List.mem_of_getElem? (i := 76) rfl) rfl
set_option maxRecDepth 100000 in
theorem lkX5_22 : Cond.fieldLink RX5 22 (TX5 3).1 (TX5 3).2.1 (TX5 3).2.2.1 ∈ TB := inT2 (List.mem_of_getElem? (i := 77) rfl) rfl
set_option maxRecDepth 100000 in
theorem lkX5_29 : Cond.fieldLink RX5 29 (TX5 4).1 (TX5 4).2.1 (TX5 4).2.2.1 ∈ TB := inT2 (List.mem_of_getElem? (i := 78) rfl) rfl
set_option maxRecDepth 100000 in
theorem lkX5_36 : Cond.fieldLink RX5 36 (TX5 5).1 (TX5 5).2.1 (TX5 5).2.2.1 ∈ TB := inT2 (List.mem_of_getElem? (i := 79) rfl) rfl
set_option maxRecDepth 100000 in
theorem lkX5_42 : Cond.fieldLink RX5 42 (TX5 6).1 (TX5 6).2.1 (TX5 6).2.2.1 ∈ TB := inT2 (List.mem_of_getElem? (i := 80) rfl) rfl
set_option maxRecDepth 100000 in
theorem lkX6_13 : Cond.fieldLink RX6 13 (TX6 1).1 (TX6 1).2.1 (TX6 1).2.2.1 ∈ TB := inT3 (List.mem_of_getElem? (i := 171) rfl) rfl
set_option maxRecDepth 100000 in
theorem lkX6_17 : Cond.fieldLink RX6 17 (TX6 2).1 (TX6 2).2.1 (TX6 2).2.2.1 ∈ TB := inT3 (List.mem_of_getElem? (i := 172) rfl) rfl
set_option maxRecDepth 100000 in
theorem lkX6_70 : Cond.fieldLink RX6 70 (TX6 3).1 (TX6 3).2.1 (TX6 3).2.2.1 ∈ TB := inT3 (List.mem_of_getElem? (i := 173) rfl) rfl
set_option maxRecDepth 100000 in
theorem lkX6_115 : Cond.fieldLink RX6 115 (TX6 4).1 (TX6 4).2.1 (TX6 4).2.2.1 ∈ TB := inT3 (List.mem_of_getElem? (i := 174) rfl) rfl
set_option maxRecDepth 100000 in
theorem lkX6_20 : Cond.fieldLink RX6 20 (TX6 5).1 (TX6 5).2.1 (TX6 5).2.2.1 ∈ TB := inT3 (List.mem_of_getElem? (i := 175) rfl) rfl
set_option maxRecDepth 100000 in
theorem lkX6_147 : Cond.fieldLink RX6 147 (TX6 6).1 (TX6 6).2.1 (TX6 6).2.2.1 ∈ TB := inT3 (List.mem_of_getElem? (i := 176) rfl) rfl
set_option maxRecDepth 100000 in
theorem lkX6_106 : Cond.fieldLink RX6 106 (TX6 7).1 (TX6 7).2.1 (TX6 7).2.2.1 ∈ TB := inT3 (List.mem_of_getElem? (i := 177) rfl) rfl
set_option maxRecDepth 100000 in
theorem lkX6_109 : Cond.fieldLink RX6 109 (TX6 8).1 (TX6 8).2.1 (TX6 8).2.2.1 ∈ TB := inT3 (List.mem_of_getElem? (i := 178) rfl) rfl
set_option maxRecDepth 100000 in
theorem lkX6_23 : Cond.fieldLink RX6 23 (TX6 9).1 (TX6 9).2.1 (TX6 9).2.2.1 ∈ TB := inT3 (List.mem_of_getElem? (i := 179) rfl) rfl
set_option maxRecDepth 100000 in
theorem lkX6_26 : Cond.fieldLink RX6 26 (TX6 10).1 (TX6 10).2.1 (TX6 10).2.2.1 ∈ TB := inT3 (List.mem_of_getElem? (i := 180) rfl) rfl
set_option maxRecDepth 100000 in
theorem lkX6_29 : Cond.fieldLink RX6 29 (TX6 11).1 (TX6 11).2.1 (TX6 11).2.2.1 ∈ TB := inT3 (List.mem_of_getElem? (i := 181) rfl) rfl
set_option maxRecDepth 100000 in
theorem lkX6_73 : Cond.fieldLink RX6 73 (TX6 12).1 (TX6 12).2.1 (TX6 12).2.2.1 ∈ TB := inT3 (List.mem_of_getElem? (i := 182) rfl) rfl
set_option maxRecDepth 100000 in
theorem lkX6_32 : Cond.fieldLink RX6 32 (TX6 13).1 (TX6 13).2.1 (TX6 13).2.2.1 ∈ TB := inT3 (List.mem_of_getElem? (i := 183) rfl) rfl
set_option maxRecDepth 100000 in
theorem lkX6_204 : Cond.fieldLink RX6 204 (TX6 14).1 (TX6 14).2.1 (TX6 14).2.2.1 ∈ TB := inT3 (List.mem_of_getElem? (i := 184) rfl) rfl
set_option maxRecDepth 100000 in
theorem lkX6_207 : Cond.fieldLink RX6 207 (TX6 15).1 (TX6 15).2.1 (TX6 15).2.2.1 ∈ TB := inT3 (List.mem_of_getElem? (i := 185) rfl) rfl
set_option maxRecDepth 100000 in
theorem lkX6_210 : Cond.fieldLink RX6 210 (TX6 16).1 (TX6 16).2.1 (TX6 16).2.2.1 ∈ TB := inT3 (List.mem_of_getElem? (i := 186) rfl) rfl
set_option maxRecDepth 100000 in
theorem lkX6_213 : Cond.fieldLink RX6 213 (TX6 17).1 (TX6 17).2.1 (TX6 17).2.2.1 ∈ TB := inT3 (List.mem_of_getElem? (i := 187) rfl) rfl
set_option maxRecDepth 100000 in
theorem lkX6_216 : Cond.fieldLink RX6 216 (TX6 18).1 (TX6 18).2.1 (TX6 18).2.2.1 ∈ TB := inT3 (List.mem_of_getElem? (i := 188) rfl) rfl
set_option maxRecDepth 100000 in
theorem lkX6_219 : Cond.fieldLink RX6 219 (TX6 19).1 (TX6 19).2.1 (TX6 19).2.2.1 ∈ TB := inT3 (List.mem_of_getElem? (i := 189) rfl) rfl
set_option maxRecDepth 100000 in
theorem lkX6_153 : Cond.fieldLink RX6 153 (TX6 20).1 (TX6 20).2.1 (TX6 20).2.2.1 ∈ TB := inT3 (List.mem_of_getElem? (i := 190) rfl) rfl
set_option maxRecDepth 100000 in
theorem lkX6_150 : Cond.fieldLink RX6 150 (TX6 21).1 (TX6 21).2.1 (TX6 21).2.2.1 ∈ TB := inT3 (List.mem_of_getElem? (i := 191) rfl) rfl
set_option maxRecDepth 100000 in
theorem lkX6_156 : Cond.fieldLink RX6 156 (TX6 22).1 (TX6 22).2.1 (TX6 22).2.2.1 ∈ TB := inT3 (List.mem_of_getElem? (i := 192) rfl) rfl
set_option maxRecDepth 100000 in
theorem lkX6_165 : Cond.fieldLink RX6 165 (TX6 23).1 (TX6 23).2.1 (TX6 23).2.2.1 ∈ TB := inT3 (List.mem_of_getElem? (i := 193) rfl) rfl
set_option maxRecDepth 100000 in
theorem lkX6_162 : Cond.fieldLink RX6 162 (TX6 24).1 (TX6 24).2.1 (TX6 24).2.2.1 ∈ TB := inT3 (List.mem_of_getElem? (i := 194) rfl) rfl
set_option maxRecDepth 100000 in
theorem lkX6_176 : Cond.fieldLink RX6 176 (TX6 25).1 (TX6 25).2.1 (TX6 25).2.2.1 ∈ TB := inT3 (List.mem_of_getElem? (i := 195) rfl) rfl
set_option maxRecDepth 100000 in
theorem lkX6_191 : Cond.fieldLink RX6 191 (TX6 26).1 (TX6 26).2.1 (TX6 26).2.2.1 ∈ TB := inT3 (List.mem_of_getElem? (i := 196) rfl) rfl
set_option maxRecDepth 100000 in
theorem lkX6_181 : Cond.fieldLink RX6 181 (TX6 27).1 (TX6 27).2.1 (TX6 27).2.2.1 ∈ TB := inT3 (List.mem_of_getElem? (i := 197) rfl) rfl
set_option maxRecDepth 100000 in
theorem lkX6_185 : Cond.fieldLink RX6 185 (TX6 28).1 (TX6 28).2.1 (TX6 28).2.2.1 ∈ TB := inT3 (List.mem_of_getElem? (i := 198) rfl) rfl
set_option maxRecDepth 100000 in
theorem lkX6_35 : Cond.fieldLink RX6 35 (TX6 29).1 (TX6 29).2.1 (TX6 29).2.2.1 ∈ TB := inT3 (List.mem_of_getElem? (i := 199) rfl) rfl
set_option maxRecDepth 100000 in
theorem lkX6_382 : Cond.fieldLink RX6 382 (TX6 30).1 (TX6 30).2.1 (TX6 30).2.2.1 ∈ TB := inT3 (List.mem_of_getElem? (i := 200) rfl) rfl
set_option maxRecDepth 100000 in
theorem lkX6_38 : Cond.fieldLink RX6 38 (TX6 31).1 (TX6 31).2.1 (TX6 31).2.2.1 ∈ TB := inT3 (List.mem_of_getElem? (i := 201) rfl) rfl
set_option maxRecDepth 100000 in
theorem lkX6_41 : Cond.fieldLink RX6 41 (TX6 32).1 (TX6 32).2.1 (TX6 32).2.2.1 ∈ TB := inT3 (List.mem_of_getElem? (i := 202) rfl) rfl
set_option maxRecDepth 100000 in
theorem lkX6_44 : Cond.fieldLink RX6 44 (TX6 33).1 (TX6 33).2.1 (TX6 33).2.2.1 ∈ TB := inT3 (List.mem_of_getElem? (i := 203) rfl) rfl
set_option maxRecDepth 100000 in
theorem lkX6_47 : Cond.fieldLink RX6 47 (TX6 34).1 (TX6 34).2.1 (TX6 34).2.2.1 ∈ TB := inT3 (List.mem_of_getElem? (i := 204) rfl) rfl
set_option maxRecDepth 100000 in
theorem lkX6_50 : Cond.fieldLink RX6 50 (TX6 35).1 (TX6 35).2.1 (TX6 35).2.2.1 ∈ TB := inT3 (List.mem_of_getElem? (i := 205) rfl) rfl
set_option maxRecDepth 100000 in
theorem lkX6_425 : Cond.fieldLink RX6 425 (TX6 36).1 (TX6 36).2.1 (TX6 36).2.2.1 ∈ TB := inT3 (List.mem_of_getElem? (i := 206) rfl) rfl
set_option maxRecDepth 100000 in
theorem lkX6_428 : Cond.fieldLink RX6 428 (TX6 37).1 (TX6 37).2.1 (TX6 37).2.2.1 ∈ TB := inT3 (List.mem_of_getElem? (i := 207) rfl) rfl
set_option maxRecDepth 100000 in
theorem lkX6_431 : Cond.fieldLink RX6 431 (TX6 38).1 (TX6 38).2.1 (TX6 38).2.2.1 ∈ TB := inT3 (List.mem_of_getElem? (i := 208) rfl) rfl
set_option maxRecDepth 100000 in
theorem lkX6_53 : Cond.fieldLink RX6 53 (TX6 39).1 (TX6 39).2.1 (TX6 39).2.2.1 ∈ TB := inT3 (List.mem_of_getElem? (i := 209) rfl) rfl
set_option maxRecDepth 100000 in
theorem lkX6_57 : Cond.fieldLink RX6 57 (TX6 40).1 (TX6 40).2.1 (TX6 40).2.2.1 ∈ TB := inT3 (List.mem_of_getElem? (i := 210) rfl) rfl
set_option maxRecDepth 100000 in
theorem lkX6_60 : Cond.fieldLink RX6 60 (TX6 41).1 (TX6 41).2.1 (TX6 41).2.2.1 ∈ TB := inT3 (List.mem_of_getElem? (i := 211) rfl) rfl
set_option maxRecDepth 100000 in
theorem lkX6_63 : Cond.fieldLink RX6 63 (TX6 42).1 (TX6 42).2.1 (TX6 42).2.2.1 ∈ TB := inT3 (List.mem_of_getElem? (i := 212) rfl) rfl
set_option maxRecDepth 100000 in
theorem cw_X5_init : Cond.code yX5_init cX5_init 2 none ∈ TB := inT1 (List.mem_of_getElem? (i := 19) rfl) rfl
set_option maxRecDepth 100000 in
theorem cw_X4_init : Cond.code yX4_init cX4_init 2 none ∈ TB := inT1 (List.mem_of_getElem? (i := 27) rfl) rfl
set_option maxRecDepth 100000 in
theorem cw_X1_init : Cond.code yX1_init cX1_init 2 none ∈ TB := inT1 (List.mem_of_getElem? (i := 88) rfl) rfl
set_option maxRecDepth 100000 in
theorem cw_X3_init : Cond.code yX3_init cX3_init 1 none ∈ TB := inT1 (List.mem_of_getElem? (i := 95) rfl) rfl
set_option maxRecDepth 100000 in
theorem cw_X0_init : Cond.code yX0_init cX0_init 1 none ∈ TB := inT1 (List.mem_of_getElem? (i := 125) rfl) rfl
set_option maxRecDepth 100000 in
theorem cw_X2_init : Cond.code yX2_init cX2_init 1 none ∈ TB := inT1 (List.mem_of_getElem? (i := 152) rfl) rfl
set_option maxRecDepth 100000 in
theorem cw_J0_length_8abf5 : Cond.code yJ0_length_8abf5 cJ0_length_8abf5 1 (some .int) ∈ TB := inT1 (List.mem_of_getElem? (i := 171) rfl) rfl
set_option maxRecDepth 100000 in
theorem cw_J0_coder_7d493 : Cond.code yJ0_coder_7d493 cJ0_coder_7d493 1 (some FieldType.byte) ∈ TB := inT1 (List.mem_of_getElem? (i := 175) rfl) rfl
set_option maxRecDepth 100000 in
theorem cw_J0_charAt_5068e : Cond.code yJ0_charAt_5068e cJ0_charAt_5068e 2 (some FieldType.char) ∈ TB := inT1 (List.mem_of_getElem? (i := 181) rfl) rfl
set_option maxRecDepth 100000 in
theorem cw_J0_isLatin1_aae02 : Cond.code yJ0_isLatin1_aae02 cJ0_isLatin1_aae02 1 (some .boolean) ∈ TB := inT1 (List.mem_of_getElem? (i := 185) rfl) rfl
set_option maxRecDepth 100000 in
theorem cw_J1_charAt_3b067 : Cond.code yJ1_charAt_3b067 cJ1_charAt_3b067 2 (some FieldType.char) ∈ TB := inT1 (List.mem_of_getElem? (i := 188) rfl) rfl
set_option maxRecDepth 100000 in
theorem cw_J0_checkIndex_df160 : Cond.code yJ0_checkIndex_df160 cJ0_checkIndex_df160 2 none ∈ TB := inT1 (List.mem_of_getElem? (i := 191) rfl) rfl
set_option maxRecDepth 100000 in
theorem cw_J3_checkIndex_8e157 : Cond.code yJ3_checkIndex_8e157 cJ3_checkIndex_8e157 3 (some .int) ∈ TB := inT1 (List.mem_of_getElem? (i := 196) rfl) rfl
set_option maxRecDepth 100000 in
theorem cw_J2_charAt_3b067 : Cond.code yJ2_charAt_3b067 cJ2_charAt_3b067 2 (some FieldType.char) ∈ TB := inT1 (List.mem_of_getElem? (i := 199) rfl) rfl
set_option maxRecDepth 100000 in
theorem cw_J2_checkIndex_2214a : Cond.code yJ2_checkIndex_2214a cJ2_checkIndex_2214a 2 none ∈ TB := inT1 (List.mem_of_getElem? (i := 202) rfl) rfl
set_option maxRecDepth 100000 in
theorem cw_J2_length_9d52b : Cond.code yJ2_length_9d52b cJ2_length_9d52b 1 (some .int) ∈ TB := inT1 (List.mem_of_getElem? (i := 205) rfl) rfl
set_option maxRecDepth 100000 in
theorem cw_J2_getChar_3b067 : Cond.code yJ2_getChar_3b067 cJ2_getChar_3b067 2 (some FieldType.char) ∈ TB := inT1 (List.mem_of_getElem? (i := 209) rfl) rfl
set_option maxRecDepth 100000 in
theorem cw_X0_append : Cond.code yX0_append cX0_append 2 (some .int) ∈ TB := inT1 (List.mem_of_getElem? (i := 219) rfl) rfl
set_option maxRecDepth 100000 in
theorem cw_X0_readInto : Cond.code yX0_readInto cX0_readInto 3 (some .int) ∈ TB := inT1 (List.mem_of_getElem? (i := 223) rfl) rfl
set_option maxRecDepth 100000 in
theorem cw_X3_clear : Cond.code yX3_clear cX3_clear 1 none ∈ TB := inT1 (List.mem_of_getElem? (i := 227) rfl) rfl
set_option maxRecDepth 100000 in
theorem cw_X0_advance : Cond.code yX0_advance cX0_advance 1 none ∈ TB := inT1 (List.mem_of_getElem? (i := 231) rfl) rfl
set_option maxRecDepth 100000 in
theorem cw_X0_isLetter : Cond.code yX0_isLetter cX0_isLetter 1 (some .boolean) ∈ TB := inT1 (List.mem_of_getElem? (i := 234) rfl) rfl
set_option maxRecDepth 100000 in
theorem cw_X0_takeWord : Cond.code yX0_takeWord cX0_takeWord 2 none ∈ TB := inT1 (List.mem_of_getElem? (i := 238) rfl) rfl
set_option maxRecDepth 100000 in
theorem cw_X0_wordAt : Cond.code yX0_wordAt cX0_wordAt 1 (some (FieldType.object "java/lang/String")) ∈ TB := inT2 (List.mem_of_getElem? (i := 1) rfl) rfl
set_option maxRecDepth 100000 in
theorem cw_X0_isWord : Cond.code yX0_isWord cX0_isWord 3 (some .boolean) ∈ TB := inT2 (List.mem_of_getElem? (i := 17) rfl) rfl
set_option maxRecDepth 100000 in
theorem cw_X0_isDigit : Cond.code yX0_isDigit cX0_isDigit 1 (some .boolean) ∈ TB := inT2 (List.mem_of_getElem? (i := 22) rfl) rfl
set_option maxRecDepth 100000 in
theorem cw_X0_takeDigits : Cond.code yX0_takeDigits cX0_takeDigits 1 none ∈ TB := inT2 (List.mem_of_getElem? (i := 26) rfl) rfl
set_option maxRecDepth 100000 in
theorem cw_X0_isSign : Cond.code yX0_isSign cX0_isSign 1 (some .boolean) ∈ TB := inT2 (List.mem_of_getElem? (i := 29) rfl) rfl
set_option maxRecDepth 100000 in
theorem cw_X0_skip : Cond.code yX0_skip cX0_skip 2 (some .boolean) ∈ TB := inT2 (List.mem_of_getElem? (i := 33) rfl) rfl
set_option maxRecDepth 100000 in
theorem cw_X0_either : Cond.code yX0_either cX0_either 5 (some .boolean) ∈ TB := inT2 (List.mem_of_getElem? (i := 37) rfl) rfl
set_option maxRecDepth 100000 in
theorem cw_X0_both : Cond.code yX0_both cX0_both 5 (some .boolean) ∈ TB := inT2 (List.mem_of_getElem? (i := 41) rfl) rfl
set_option maxRecDepth 100000 in
theorem cw_X0_negated : Cond.code yX0_negated cX0_negated 4 (some .boolean) ∈ TB := inT2 (List.mem_of_getElem? (i := 45) rfl) rfl
set_option maxRecDepth 100000 in
theorem cw_X0_compared : Cond.code yX0_compared cX0_compared 5 (some .boolean) ∈ TB := inT2 (List.mem_of_getElem? (i := 49) rfl) rfl
set_option maxRecDepth 100000 in
theorem cw_X0_sum : Cond.code yX0_sum cX0_sum 6 (some .boolean) ∈ TB := inT2 (List.mem_of_getElem? (i := 53) rfl) rfl
set_option maxRecDepth 100000 in
theorem cw_X0_term : Cond.code yX0_term cX0_term 5 (some .boolean) ∈ TB := inT2 (List.mem_of_getElem? (i := 57) rfl) rfl
set_option maxRecDepth 100000 in
theorem cw_X0_single : Cond.code yX0_single cX0_single 4 (some .boolean) ∈ TB := inT2 (List.mem_of_getElem? (i := 61) rfl) rfl
set_option maxRecDepth 100000 in
theorem cw_X3_add : Cond.code yX3_add cX3_add 2 none ∈ TB := inT2 (List.mem_of_getElem? (i := 65) rfl) rfl
set_option maxRecDepth 100000 in
theorem cw_X3_endPart : Cond.code yX3_endPart cX3_endPart 2 none ∈ TB := inT2 (List.mem_of_getElem? (i := 69) rfl) rfl
set_option maxRecDepth 100000 in
theorem cw_X0_wipe : Cond.code yX0_wipe cX0_wipe 1 none ∈ TB := inT2 (List.mem_of_getElem? (i := 73) rfl) rfl
set_option maxRecDepth 100000 in
theorem cw_X5_set : Cond.code yX5_set cX5_set 5 (some .int) ∈ TB := inT2 (List.mem_of_getElem? (i := 100) rfl) rfl
set_option maxRecDepth 100000 in
theorem cw_X5_isThere : Cond.code yX5_isThere cX5_isThere 3 (some .boolean) ∈ TB := inT2 (List.mem_of_getElem? (i := 104) rfl) rfl
set_option maxRecDepth 100000 in
theorem cw_X5_isIn : Cond.code yX5_isIn cX5_isIn 2 (some .boolean) ∈ TB := inT2 (List.mem_of_getElem? (i := 107) rfl) rfl
set_option maxRecDepth 100000 in
theorem cw_X4_figure : Cond.code yX4_figure cX4_figure 3 (some .int) ∈ TB := inT2 (List.mem_of_getElem? (i := 113) rfl) rfl
set_option maxRecDepth 100000 in
theorem cw_X4_wantOf : Cond.code yX4_wantOf cX4_wantOf 2 (some .int) ∈ TB := inT2 (List.mem_of_getElem? (i := 117) rfl) rfl
set_option maxRecDepth 100000 in
theorem cw_X4_colourOf : Cond.code yX4_colourOf cX4_colourOf 4 (some .int) ∈ TB := inT2 (List.mem_of_getElem? (i := 121) rfl) rfl
set_option maxRecDepth 100000 in
theorem cw_X4_isFilled : Cond.code yX4_isFilled cX4_isFilled 2 (some .boolean) ∈ TB := inT2 (List.mem_of_getElem? (i := 125) rfl) rfl
set_option maxRecDepth 100000 in
theorem cw_X4_change : Cond.code yX4_change cX4_change 4 none ∈ TB := inT2 (List.mem_of_getElem? (i := 129) rfl) rfl
set_option maxRecDepth 100000 in
theorem cw_X4_wish : Cond.code yX4_wish cX4_wish 4 none ∈ TB := inT2 (List.mem_of_getElem? (i := 133) rfl) rfl
set_option maxRecDepth 100000 in
theorem cw_X5_person : Cond.code yX5_person cX5_person 4 (some .int) ∈ TB := inT2 (List.mem_of_getElem? (i := 138) rfl) rfl
set_option maxRecDepth 100000 in
theorem cw_X4_welcome : Cond.code yX4_welcome cX4_welcome 5 (some .int) ∈ TB := inT2 (List.mem_of_getElem? (i := 142) rfl) rfl
set_option maxRecDepth 100000 in
theorem cw_X5_told : Cond.code yX5_told cX5_told 3 (some .int) ∈ TB := inT2 (List.mem_of_getElem? (i := 146) rfl) rfl
set_option maxRecDepth 100000 in
theorem cw_X1_daysNeeded : Cond.code yX1_daysNeeded cX1_daysNeeded 3 (some .int) ∈ TB := inT2 (List.mem_of_getElem? (i := 150) rfl) rfl
set_option maxRecDepth 100000 in
theorem cw_X1_reckon : Cond.code yX1_reckon cX1_reckon 9 (some .int) ∈ TB := inT2 (List.mem_of_getElem? (i := 154) rfl) rfl
set_option maxRecDepth 100000 in
theorem cw_X1_named : Cond.code yX1_named cX1_named 3 (some .int) ∈ TB := inT2 (List.mem_of_getElem? (i := 158) rfl) rfl
set_option maxRecDepth 100000 in
theorem cw_J13_bitCount_95d88 : Cond.code yJ13_bitCount_95d88 cJ13_bitCount_95d88 2 (some .int) ∈ TB := inT2 (List.mem_of_getElem? (i := 161) rfl) rfl
set_option maxRecDepth 100000 in
theorem cw_X4_squaresInBox : Cond.code yX4_squaresInBox cX4_squaresInBox 3 (some .int) ∈ TB := inT2 (List.mem_of_getElem? (i := 168) rfl) rfl
set_option maxRecDepth 100000 in
theorem cw_X1_ofOne : Cond.code yX1_ofOne cX1_ofOne 2 (some .int) ∈ TB := inT2 (List.mem_of_getElem? (i := 171) rfl) rfl
set_option maxRecDepth 100000 in
theorem cw_X1_ofTwo : Cond.code yX1_ofTwo cX1_ofTwo 3 (some .int) ∈ TB := inT2 (List.mem_of_getElem? (i := 174) rfl) rfl
set_option maxRecDepth 100000 in
theorem cw_J9_min_7cf53 : Cond.code yJ9_min_7cf53 cJ9_min_7cf53 2 (some .int) ∈ TB := inT2 (List.mem_of_getElem? (i := 177) rfl) rfl
set_option maxRecDepth 100000 in
theorem cw_J9_max_7cf53 : Cond.code yJ9_max_7cf53 cJ9_max_7cf53 2 (some .int) ∈ TB := inT2 (List.mem_of_getElem? (i := 180) rfl) rfl
set_option maxRecDepth 100000 in
theorem cw_X1_daysBounded : Cond.code yX1_daysBounded cX1_daysBounded 1 (some .int) ∈ TB := inT2 (List.mem_of_getElem? (i := 183) rfl) rfl
set_option maxRecDepth 100000 in
theorem cw_X1_colourGiven : Cond.code yX1_colourGiven cX1_colourGiven 4 (some .int) ∈ TB := inT2 (List.mem_of_getElem? (i := 187) rfl) rfl
set_option maxRecDepth 100000 in
theorem cw_J9_floorMod_7cf53 : Cond.code yJ9_floorMod_7cf53 cJ9_floorMod_7cf53 3 (some .int) ∈ TB := inT2 (List.mem_of_getElem? (i := 190) rfl) rfl
set_option maxRecDepth 100000 in
theorem cw_X4_colourOfFirstEmpty : Cond.code yX4_colourOfFirstEmpty cX4_colourOfFirstEmpty 3 (some .int) ∈ TB := inT2 (List.mem_of_getElem? (i := 195) rfl) rfl
set_option maxRecDepth 100000 in
theorem cw_X1_colourNext : Cond.code yX1_colourNext cX1_colourNext 4 (some .int) ∈ TB := inT2 (List.mem_of_getElem? (i := 199) rfl) rfl
set_option maxRecDepth 100000 in
theorem cw_X5_picture : Cond.code yX5_picture cX5_picture 2 (some .long) ∈ TB := inT2 (List.mem_of_getElem? (i := 203) rfl) rfl
set_option maxRecDepth 100000 in
theorem cw_X5_feed : Cond.code yX5_feed cX5_feed 2 (some .int) ∈ TB := inT2 (List.mem_of_getElem? (i := 208) rfl) rfl
set_option maxRecDepth 100000 in
theorem cw_X5_text : Cond.code yX5_text cX5_text 2 (some .int) ∈ TB := inT2 (List.mem_of_getElem? (i := 212) rfl) rfl
set_option maxRecDepth 100000 in
theorem cw_X5_force : Cond.code yX5_force cX5_force 3 (some .int) ∈ TB := inT2 (List.mem_of_getElem? (i := 216) rfl) rfl
set_option maxRecDepth 100000 in
theorem cw_X5_day : Cond.code yX5_day cX5_day 1 (some .int) ∈ TB := inT2 (List.mem_of_getElem? (i := 220) rfl) rfl
set_option maxRecDepth 100000 in
theorem cw_X1_passDay : Cond.code yX1_passDay cX1_passDay 6 none ∈ TB := inT2 (List.mem_of_getElem? (i := 224) rfl) rfl
set_option maxRecDepth 100000 in
theorem cw_X4_lay : Cond.code yX4_lay cX4_lay 4 none ∈ TB := inT2 (List.mem_of_getElem? (i := 231) rfl) rfl
set_option maxRecDepth 100000 in
theorem cw_X4_filledCells : Cond.code yX4_filledCells cX4_filledCells 1 (some .int) ∈ TB := inT2 (List.mem_of_getElem? (i := 235) rfl) rfl
set_option maxRecDepth 100000 in
theorem cw_X5_run : Cond.code yX5_run cX5_run 4 (some .int) ∈ TB := inT3 (List.mem_of_getElem? (i := 0) rfl) rfl
set_option maxRecDepth 100000 in
theorem cw_X5_think : Cond.code yX5_think cX5_think 1 none ∈ TB := inT3 (List.mem_of_getElem? (i := 4) rfl) rfl
set_option maxRecDepth 100000 in
theorem cw_X4_become : Cond.code yX4_become cX4_become 3 none ∈ TB := inT3 (List.mem_of_getElem? (i := 8) rfl) rfl
set_option maxRecDepth 100000 in
theorem cw_X5_passInThought : Cond.code yX5_passInThought cX5_passInThought 3 none ∈ TB := inT3 (List.mem_of_getElem? (i := 12) rfl) rfl
set_option maxRecDepth 100000 in
theorem cw_X5_later : Cond.code yX5_later cX5_later 2 (some .long) ∈ TB := inT3 (List.mem_of_getElem? (i := 17) rfl) rfl
set_option maxRecDepth 100000 in
theorem cw_X5_ends : Cond.code yX5_ends cX5_ends 2 (some .int) ∈ TB := inT3 (List.mem_of_getElem? (i := 21) rfl) rfl
set_option maxRecDepth 100000 in
theorem cw_X5_atWhat : Cond.code yX5_atWhat cX5_atWhat 8 (some .int) ∈ TB := inT3 (List.mem_of_getElem? (i := 26) rfl) rfl
set_option maxRecDepth 100000 in
theorem cw_X5_filledBehind : Cond.code yX5_filledBehind cX5_filledBehind 4 (some .int) ∈ TB := inT3 (List.mem_of_getElem? (i := 30) rfl) rfl
set_option maxRecDepth 100000 in
theorem cw_X5_want : Cond.code yX5_want cX5_want 10 (some .int) ∈ TB := inT3 (List.mem_of_getElem? (i := 34) rfl) rfl
set_option maxRecDepth 100000 in
theorem cw_X5_idle : Cond.code yX5_idle cX5_idle 4 (some .int) ∈ TB := inT3 (List.mem_of_getElem? (i := 42) rfl) rfl
set_option maxRecDepth 100000 in
theorem cw_X5_gap : Cond.code yX5_gap cX5_gap 2 (some .int) ∈ TB := inT3 (List.mem_of_getElem? (i := 46) rfl) rfl
set_option maxRecDepth 100000 in
theorem cw_X4_longestGap : Cond.code yX4_longestGap cX4_longestGap 6 (some .int) ∈ TB := inT3 (List.mem_of_getElem? (i := 50) rfl) rfl
set_option maxRecDepth 100000 in
theorem cw_X4_fillableFromBox : Cond.code yX4_fillableFromBox cX4_fillableFromBox 3 (some .int) ∈ TB := inT3 (List.mem_of_getElem? (i := 54) rfl) rfl
set_option maxRecDepth 100000 in
theorem cw_X4_coloursUnwanted : Cond.code yX4_coloursUnwanted cX4_coloursUnwanted 3 (some .int) ∈ TB := inT3 (List.mem_of_getElem? (i := 59) rfl) rfl
set_option maxRecDepth 100000 in
theorem cw_X5_share : Cond.code yX5_share cX5_share 3 (some .long) ∈ TB := inT3 (List.mem_of_getElem? (i := 63) rfl) rfl
set_option maxRecDepth 100000 in
theorem cw_X4_squaresGiven : Cond.code yX4_squaresGiven cX4_squaresGiven 3 (some .int) ∈ TB := inT3 (List.mem_of_getElem? (i := 67) rfl) rfl
set_option maxRecDepth 100000 in
theorem cw_X5_lowest : Cond.code yX5_lowest cX5_lowest 7 (some .long) ∈ TB := inT3 (List.mem_of_getElem? (i := 70) rfl) rfl
set_option maxRecDepth 100000 in
theorem cw_X5_tells : Cond.code yX5_tells cX5_tells 10 (some .int) ∈ TB := inT3 (List.mem_of_getElem? (i := 74) rfl) rfl
set_option maxRecDepth 100000 in
theorem cw_X2_isMissing : Cond.code yX2_isMissing cX2_isMissing 1 (some .boolean) ∈ TB := inT3 (List.mem_of_getElem? (i := 78) rfl) rfl
set_option maxRecDepth 100000 in
theorem cw_X5_firstOtherwise : Cond.code yX5_firstOtherwise cX5_firstOtherwise 3 (some .int) ∈ TB := inT3 (List.mem_of_getElem? (i := 82) rfl) rfl
set_option maxRecDepth 100000 in
theorem cw_X5_choicesOf : Cond.code yX5_choicesOf cX5_choicesOf 2 (some .int) ∈ TB := inT3 (List.mem_of_getElem? (i := 86) rfl) rfl
set_option maxRecDepth 100000 in
theorem cw_X5_suppose : Cond.code yX5_suppose cX5_suppose 4 none ∈ TB := inT3 (List.mem_of_getElem? (i := 90) rfl) rfl
set_option maxRecDepth 100000 in
theorem cw_X5_film : Cond.code yX5_film cX5_film 5 (some .int) ∈ TB := inT3 (List.mem_of_getElem? (i := 94) rfl) rfl
set_option maxRecDepth 100000 in
theorem cw_X2_become : Cond.code yX2_become cX2_become 4 none ∈ TB := inT3 (List.mem_of_getElem? (i := 98) rfl) rfl
set_option maxRecDepth 100000 in
theorem cw_X2_put : Cond.code yX2_put cX2_put 3 none ∈ TB := inT3 (List.mem_of_getElem? (i := 102) rfl) rfl
set_option maxRecDepth 100000 in
theorem cw_X5_drawn : Cond.code yX5_drawn cX5_drawn 3 (some .int) ∈ TB := inT3 (List.mem_of_getElem? (i := 106) rfl) rfl
set_option maxRecDepth 100000 in
theorem cw_X5_thinkDrawn : Cond.code yX5_thinkDrawn cX5_thinkDrawn 4 none ∈ TB := inT3 (List.mem_of_getElem? (i := 110) rfl) rfl
set_option maxRecDepth 100000 in
theorem cw_X5_chance : Cond.code yX5_chance cX5_chance 7 (some .long) ∈ TB := inT3 (List.mem_of_getElem? (i := 115) rfl) rfl
set_option maxRecDepth 100000 in
theorem cw_X5_image : Cond.code yX5_image cX5_image 1 (some .int) ∈ TB := inT3 (List.mem_of_getElem? (i := 119) rfl) rfl
set_option maxRecDepth 100000 in
theorem cw_X5_back : Cond.code yX5_back cX5_back 1 (some .int) ∈ TB := inT3 (List.mem_of_getElem? (i := 123) rfl) rfl
set_option maxRecDepth 100000 in
theorem cw_X5_count : Cond.code yX5_count cX5_count 2 (some .int) ∈ TB := inT3 (List.mem_of_getElem? (i := 127) rfl) rfl
set_option maxRecDepth 100000 in
theorem cw_X5_sheet : Cond.code yX5_sheet cX5_sheet 4 (some .int) ∈ TB := inT3 (List.mem_of_getElem? (i := 131) rfl) rfl
set_option maxRecDepth 100000 in
theorem cw_X5_cell : Cond.code yX5_cell cX5_cell 5 (some .int) ∈ TB := inT3 (List.mem_of_getElem? (i := 135) rfl) rfl
set_option maxRecDepth 100000 in
theorem cw_X5_copy : Cond.code yX5_copy cX5_copy 8 (some .int) ∈ TB := inT3 (List.mem_of_getElem? (i := 139) rfl) rfl
set_option maxRecDepth 100000 in
theorem cw_X2_hasRow : Cond.code yX2_hasRow cX2_hasRow 3 (some .boolean) ∈ TB := inT3 (List.mem_of_getElem? (i := 143) rfl) rfl
set_option maxRecDepth 100000 in
theorem cw_X5_exarchate : Cond.code yX5_exarchate cX5_exarchate 9 (some .int) ∈ TB := inT3 (List.mem_of_getElem? (i := 150) rfl) rfl
set_option maxRecDepth 100000 in
theorem cw_X5_taken : Cond.code yX5_taken cX5_taken 3 (some .int) ∈ TB := inT3 (List.mem_of_getElem? (i := 155) rfl) rfl
set_option maxRecDepth 100000 in
theorem cw_X5_isUnder : Cond.code yX5_isUnder cX5_isUnder 4 (some .boolean) ∈ TB := inT3 (List.mem_of_getElem? (i := 158) rfl) rfl
set_option maxRecDepth 100000 in
theorem cw_X6_init : Cond.code yX6_init cX6_init 2 none ∈ TB := inT3 (List.mem_of_getElem? (i := 165) rfl) rfl
set_option maxRecDepth 100000 in
theorem cw_X6_spell : Cond.code yX6_spell cX6_spell 10 none ∈ TB := inT3 (List.mem_of_getElem? (i := 170) rfl) rfl
set_option maxRecDepth 100000 in
theorem cw_X6_set : Cond.code yX6_set cX6_set 5 (some .int) ∈ TB := inT4 (List.mem_of_getElem? (i := 64) rfl) rfl
set_option maxRecDepth 100000 in
theorem cw_X6_in : Cond.code yX6_in cX6_in 6 (some .boolean) ∈ TB := inT4 (List.mem_of_getElem? (i := 68) rfl) rfl
set_option maxRecDepth 100000 in
theorem cw_X6_isOf : Cond.code yX6_isOf cX6_isOf 3 (some .boolean) ∈ TB := inT4 (List.mem_of_getElem? (i := 72) rfl) rfl
set_option maxRecDepth 100000 in
theorem cw_X6_isOne : Cond.code yX6_isOne cX6_isOne 2 (some .boolean) ∈ TB := inT4 (List.mem_of_getElem? (i := 78) rfl) rfl
set_option maxRecDepth 100000 in
theorem cw_X6_mostOf : Cond.code yX6_mostOf cX6_mostOf 1 (some .int) ∈ TB := inT4 (List.mem_of_getElem? (i := 81) rfl) rfl
set_option maxRecDepth 100000 in
theorem cw_X6_told : Cond.code yX6_told cX6_told 3 (some .int) ∈ TB := inT4 (List.mem_of_getElem? (i := 85) rfl) rfl
set_option maxRecDepth 100000 in
theorem cw_X6_has : Cond.code yX6_has cX6_has 3 (some .boolean) ∈ TB := inT4 (List.mem_of_getElem? (i := 89) rfl) rfl
set_option maxRecDepth 100000 in
theorem cw_X6_needsOf : Cond.code yX6_needsOf cX6_needsOf 4 (some .int) ∈ TB := inT4 (List.mem_of_getElem? (i := 93) rfl) rfl
set_option maxRecDepth 100000 in
theorem cw_X6_boxAll : Cond.code yX6_boxAll cX6_boxAll 1 (some .int) ∈ TB := inT4 (List.mem_of_getElem? (i := 97) rfl) rfl
set_option maxRecDepth 100000 in
theorem cw_X6_says : Cond.code yX6_says cX6_says 3 (some .int) ∈ TB := inT4 (List.mem_of_getElem? (i := 101) rfl) rfl
set_option maxRecDepth 100000 in
theorem cw_X6_bitsOf : Cond.code yX6_bitsOf cX6_bitsOf 5 (some .int) ∈ TB := inT4 (List.mem_of_getElem? (i := 104) rfl) rfl
set_option maxRecDepth 100000 in
theorem cw_X6_read : Cond.code yX6_read cX6_read 6 (some .int) ∈ TB := inT4 (List.mem_of_getElem? (i := 108) rfl) rfl
set_option maxRecDepth 100000 in
theorem cw_X6_next : Cond.code yX6_next cX6_next 3 none ∈ TB := inT4 (List.mem_of_getElem? (i := 112) rfl) rfl
set_option maxRecDepth 100000 in
theorem cw_X6_byteAt : Cond.code yX6_byteAt cX6_byteAt 2 (some .int) ∈ TB := inT4 (List.mem_of_getElem? (i := 116) rfl) rfl
set_option maxRecDepth 100000 in
theorem cw_X6_isWord : Cond.code yX6_isWord cX6_isWord 9 (some .boolean) ∈ TB := inT4 (List.mem_of_getElem? (i := 125) rfl) rfl
set_option maxRecDepth 100000 in
theorem cw_X6_isLetter : Cond.code yX6_isLetter cX6_isLetter 3 (some .boolean) ∈ TB := inT4 (List.mem_of_getElem? (i := 129) rfl) rfl
set_option maxRecDepth 100000 in
theorem cw_X6_part : Cond.code yX6_part cX6_part 3 (some .int) ∈ TB := inT4 (List.mem_of_getElem? (i := 133) rfl) rfl
set_option maxRecDepth 100000 in
theorem cw_X6_fail : Cond.code yX6_fail cX6_fail 1 none ∈ TB := inT4 (List.mem_of_getElem? (i := 137) rfl) rfl
set_option maxRecDepth 100000 in
theorem cw_X6_either0 : Cond.code yX6_either0 cX6_either0 3 (some .int) ∈ TB := inT4 (List.mem_of_getElem? (i := 141) rfl) rfl
set_option maxRecDepth 100000 in
theorem cw_X6_both0 : Cond.code yX6_both0 cX6_both0 3 (some .int) ∈ TB := inT4 (List.mem_of_getElem? (i := 145) rfl) rfl
set_option maxRecDepth 100000 in
theorem cw_X6_not0 : Cond.code yX6_not0 cX6_not0 4 (some .int) ∈ TB := inT4 (List.mem_of_getElem? (i := 149) rfl) rfl
set_option maxRecDepth 100000 in
theorem cw_X6_opens : Cond.code yX6_opens cX6_opens 1 (some .boolean) ∈ TB := inT4 (List.mem_of_getElem? (i := 153) rfl) rfl
set_option maxRecDepth 100000 in
theorem cw_X6_not1 : Cond.code yX6_not1 cX6_not1 4 (some .int) ∈ TB := inT4 (List.mem_of_getElem? (i := 157) rfl) rfl
set_option maxRecDepth 100000 in
theorem cw_X6_not2 : Cond.code yX6_not2 cX6_not2 4 (some .int) ∈ TB := inT4 (List.mem_of_getElem? (i := 161) rfl) rfl
set_option maxRecDepth 100000 in
theorem cw_X6_not3 : Cond.code yX6_not3 cX6_not3 4 (some .int) ∈ TB := inT4 (List.mem_of_getElem? (i := 165) rfl) rfl
set_option maxRecDepth 100000 in
theorem cw_X6_not4 : Cond.code yX6_not4 cX6_not4 4 (some .int) ∈ TB := inT4 (List.mem_of_getElem? (i := 169) rfl) rfl
set_option maxRecDepth 100000 in
theorem cw_X6_not5 : Cond.code yX6_not5 cX6_not5 4 (some .int) ∈ TB := inT4 (List.mem_of_getElem? (i := 173) rfl) rfl
set_option maxRecDepth 100000 in
theorem cw_X6_added5 : Cond.code yX6_added5 cX6_added5 4 (some .int) ∈ TB := inT4 (List.mem_of_getElem? (i := 177) rfl) rfl
set_option maxRecDepth 100000 in
theorem cw_X6_term5 : Cond.code yX6_term5 cX6_term5 2 (some .int) ∈ TB := inT4 (List.mem_of_getElem? (i := 181) rfl) rfl
set_option maxRecDepth 100000 in
theorem cw_X6_atom5 : Cond.code yX6_atom5 cX6_atom5 2 (some .int) ∈ TB := inT4 (List.mem_of_getElem? (i := 185) rfl) rfl
set_option maxRecDepth 100000 in
theorem cw_X6_isSign : Cond.code yX6_isSign cX6_isSign 2 (some .boolean) ∈ TB := inT4 (List.mem_of_getElem? (i := 189) rfl) rfl
set_option maxRecDepth 100000 in
theorem cw_X6_name : Cond.code yX6_name cX6_name 1 (some .int) ∈ TB := inT4 (List.mem_of_getElem? (i := 193) rfl) rfl
set_option maxRecDepth 100000 in
theorem cw_X6_added4 : Cond.code yX6_added4 cX6_added4 4 (some .int) ∈ TB := inT4 (List.mem_of_getElem? (i := 199) rfl) rfl
set_option maxRecDepth 100000 in
theorem cw_X6_term4 : Cond.code yX6_term4 cX6_term4 2 (some .int) ∈ TB := inT4 (List.mem_of_getElem? (i := 203) rfl) rfl
set_option maxRecDepth 100000 in
theorem cw_X6_atom4 : Cond.code yX6_atom4 cX6_atom4 2 (some .int) ∈ TB := inT4 (List.mem_of_getElem? (i := 207) rfl) rfl
set_option maxRecDepth 100000 in
theorem cw_X6_either5 : Cond.code yX6_either5 cX6_either5 3 (some .int) ∈ TB := inT4 (List.mem_of_getElem? (i := 211) rfl) rfl
set_option maxRecDepth 100000 in
theorem cw_X6_both5 : Cond.code yX6_both5 cX6_both5 3 (some .int) ∈ TB := inT4 (List.mem_of_getElem? (i := 215) rfl) rfl
set_option maxRecDepth 100000 in
theorem cw_X6_added3 : Cond.code yX6_added3 cX6_added3 4 (some .int) ∈ TB := inT4 (List.mem_of_getElem? (i := 219) rfl) rfl
set_option maxRecDepth 100000 in
theorem cw_X6_term3 : Cond.code yX6_term3 cX6_term3 2 (some .int) ∈ TB := inT4 (List.mem_of_getElem? (i := 223) rfl) rfl
set_option maxRecDepth 100000 in
theorem cw_X6_atom3 : Cond.code yX6_atom3 cX6_atom3 2 (some .int) ∈ TB := inT4 (List.mem_of_getElem? (i := 227) rfl) rfl
set_option maxRecDepth 100000 in
theorem cw_X6_either4 : Cond.code yX6_either4 cX6_either4 3 (some .int) ∈ TB := inT4 (List.mem_of_getElem? (i := 231) rfl) rfl
set_option maxRecDepth 100000 in
theorem cw_X6_both4 : Cond.code yX6_both4 cX6_both4 3 (some .int) ∈ TB := inT4 (List.mem_of_getElem? (i := 235) rfl) rfl
set_option maxRecDepth 100000 in
theorem cw_X6_added2 : Cond.code yX6_added2 cX6_added2 4 (some .int) ∈ TB := inT4 (List.mem_of_getElem? (i := 239) rfl) rfl
set_option maxRecDepth 100000 in
theorem cw_X6_term2 : Cond.code yX6_term2 cX6_term2 2 (some .int) ∈ TB := inT5 (List.mem_of_getElem? (i := 3) rfl) rfl
set_option maxRecDepth 100000 in
theorem cw_X6_atom2 : Cond.code yX6_atom2 cX6_atom2 2 (some .int) ∈ TB := inT5 (List.mem_of_getElem? (i := 7) rfl) rfl
set_option maxRecDepth 100000 in
theorem cw_X6_either3 : Cond.code yX6_either3 cX6_either3 3 (some .int) ∈ TB := inT5 (List.mem_of_getElem? (i := 11) rfl) rfl
set_option maxRecDepth 100000 in
theorem cw_X6_both3 : Cond.code yX6_both3 cX6_both3 3 (some .int) ∈ TB := inT5 (List.mem_of_getElem? (i := 15) rfl) rfl
set_option maxRecDepth 100000 in
theorem cw_X6_added1 : Cond.code yX6_added1 cX6_added1 4 (some .int) ∈ TB := inT5 (List.mem_of_getElem? (i := 19) rfl) rfl
set_option maxRecDepth 100000 in
theorem cw_X6_term1 : Cond.code yX6_term1 cX6_term1 2 (some .int) ∈ TB := inT5 (List.mem_of_getElem? (i := 23) rfl) rfl
set_option maxRecDepth 100000 in
theorem cw_X6_atom1 : Cond.code yX6_atom1 cX6_atom1 2 (some .int) ∈ TB := inT5 (List.mem_of_getElem? (i := 27) rfl) rfl
set_option maxRecDepth 100000 in
theorem cw_X6_either2 : Cond.code yX6_either2 cX6_either2 3 (some .int) ∈ TB := inT5 (List.mem_of_getElem? (i := 31) rfl) rfl
set_option maxRecDepth 100000 in
theorem cw_X6_both2 : Cond.code yX6_both2 cX6_both2 3 (some .int) ∈ TB := inT5 (List.mem_of_getElem? (i := 35) rfl) rfl
set_option maxRecDepth 100000 in
theorem cw_X6_added0 : Cond.code yX6_added0 cX6_added0 4 (some .int) ∈ TB := inT5 (List.mem_of_getElem? (i := 39) rfl) rfl
set_option maxRecDepth 100000 in
theorem cw_X6_term0 : Cond.code yX6_term0 cX6_term0 2 (some .int) ∈ TB := inT5 (List.mem_of_getElem? (i := 43) rfl) rfl
set_option maxRecDepth 100000 in
theorem cw_X6_atom0 : Cond.code yX6_atom0 cX6_atom0 2 (some .int) ∈ TB := inT5 (List.mem_of_getElem? (i := 47) rfl) rfl
set_option maxRecDepth 100000 in
theorem cw_X6_either1 : Cond.code yX6_either1 cX6_either1 3 (some .int) ∈ TB := inT5 (List.mem_of_getElem? (i := 51) rfl) rfl
set_option maxRecDepth 100000 in
theorem cw_X6_both1 : Cond.code yX6_both1 cX6_both1 3 (some .int) ∈ TB := inT5 (List.mem_of_getElem? (i := 55) rfl) rfl
set_option maxRecDepth 100000 in
theorem cw_X6_within : Cond.code yX6_within cX6_within 3 (some .int) ∈ TB := inT5 (List.mem_of_getElem? (i := 58) rfl) rfl
set_option maxRecDepth 100000 in
theorem cw_X6_givesOf : Cond.code yX6_givesOf cX6_givesOf 5 (some .int) ∈ TB := inT5 (List.mem_of_getElem? (i := 62) rfl) rfl
set_option maxRecDepth 100000 in
theorem cw_X6_round : Cond.code yX6_round cX6_round 1 (some .int) ∈ TB := inT5 (List.mem_of_getElem? (i := 65) rfl) rfl
set_option maxRecDepth 100000 in
theorem cw_X6_firstEmpty : Cond.code yX6_firstEmpty cX6_firstEmpty 3 (some .int) ∈ TB := inT5 (List.mem_of_getElem? (i := 69) rfl) rfl
set_option maxRecDepth 100000 in
theorem cw_X6_turnsOf : Cond.code yX6_turnsOf cX6_turnsOf 5 (some .int) ∈ TB := inT5 (List.mem_of_getElem? (i := 73) rfl) rfl
set_option maxRecDepth 100000 in
theorem cw_X6_lays : Cond.code yX6_lays cX6_lays 4 none ∈ TB := inT5 (List.mem_of_getElem? (i := 77) rfl) rfl
set_option maxRecDepth 100000 in
theorem cw_X6_person : Cond.code yX6_person cX6_person 5 (some .int) ∈ TB := inT5 (List.mem_of_getElem? (i := 82) rfl) rfl
set_option maxRecDepth 100000 in
theorem cw_X6_picture : Cond.code yX6_picture cX6_picture 2 (some .long) ∈ TB := inT5 (List.mem_of_getElem? (i := 89) rfl) rfl
set_option maxRecDepth 100000 in
theorem cw_X6_wanting : Cond.code yX6_wanting cX6_wanting 5 (some .long) ∈ TB := inT5 (List.mem_of_getElem? (i := 95) rfl) rfl
set_option maxRecDepth 100000 in
theorem cw_X6_feed : Cond.code yX6_feed cX6_feed 2 (some .int) ∈ TB := inT5 (List.mem_of_getElem? (i := 99) rfl) rfl
set_option maxRecDepth 100000 in
theorem cw_X6_text : Cond.code yX6_text cX6_text 2 (some .int) ∈ TB := inT5 (List.mem_of_getElem? (i := 104) rfl) rfl
set_option maxRecDepth 100000 in
theorem cw_X6_force : Cond.code yX6_force cX6_force 3 (some .int) ∈ TB := inT5 (List.mem_of_getElem? (i := 108) rfl) rfl
set_option maxRecDepth 100000 in
theorem cw_X6_day : Cond.code yX6_day cX6_day 1 (some .int) ∈ TB := inT5 (List.mem_of_getElem? (i := 112) rfl) rfl
set_option maxRecDepth 100000 in
theorem cw_X6_passes : Cond.code yX6_passes cX6_passes 2 none ∈ TB := inT5 (List.mem_of_getElem? (i := 116) rfl) rfl
set_option maxRecDepth 100000 in
theorem cw_X6_looks : Cond.code yX6_looks cX6_looks 5 none ∈ TB := inT5 (List.mem_of_getElem? (i := 120) rfl) rfl
set_option maxRecDepth 100000 in
theorem cw_X6_goesIn : Cond.code yX6_goesIn cX6_goesIn 3 none ∈ TB := inT5 (List.mem_of_getElem? (i := 124) rfl) rfl
set_option maxRecDepth 100000 in
theorem cw_X6_run : Cond.code yX6_run cX6_run 5 (some .int) ∈ TB := inT5 (List.mem_of_getElem? (i := 128) rfl) rfl
set_option maxRecDepth 100000 in
theorem cw_X6_laysAside : Cond.code yX6_laysAside cX6_laysAside 2 none ∈ TB := inT5 (List.mem_of_getElem? (i := 133) rfl) rfl
set_option maxRecDepth 100000 in
theorem cw_X6_goes : Cond.code yX6_goes cX6_goes 3 none ∈ TB := inT5 (List.mem_of_getElem? (i := 137) rfl) rfl
set_option maxRecDepth 100000 in
theorem cw_X6_laysBack : Cond.code yX6_laysBack cX6_laysBack 2 none ∈ TB := inT5 (List.mem_of_getElem? (i := 141) rfl) rfl
set_option maxRecDepth 100000 in
theorem cw_X6_later : Cond.code yX6_later cX6_later 2 (some .long) ∈ TB := inT5 (List.mem_of_getElem? (i := 145) rfl) rfl
set_option maxRecDepth 100000 in
theorem cw_X6_filledBehind : Cond.code yX6_filledBehind cX6_filledBehind 4 (some .long) ∈ TB := inT5 (List.mem_of_getElem? (i := 149) rfl) rfl
set_option maxRecDepth 100000 in
theorem cw_X6_ends : Cond.code yX6_ends cX6_ends 2 (some .int) ∈ TB := inT5 (List.mem_of_getElem? (i := 153) rfl) rfl
set_option maxRecDepth 100000 in
theorem cw_X6_atWhat : Cond.code yX6_atWhat cX6_atWhat 9 (some .int) ∈ TB := inT5 (List.mem_of_getElem? (i := 157) rfl) rfl
set_option maxRecDepth 100000 in
theorem cw_X6_want : Cond.code yX6_want cX6_want 9 (some .int) ∈ TB := inT5 (List.mem_of_getElem? (i := 161) rfl) rfl
set_option maxRecDepth 100000 in
theorem cw_X6_idle : Cond.code yX6_idle cX6_idle 5 (some .int) ∈ TB := inT5 (List.mem_of_getElem? (i := 166) rfl) rfl
set_option maxRecDepth 100000 in
theorem cw_X6_gap : Cond.code yX6_gap cX6_gap 6 (some .int) ∈ TB := inT5 (List.mem_of_getElem? (i := 170) rfl) rfl
set_option maxRecDepth 100000 in
theorem cw_X6_longest : Cond.code yX6_longest cX6_longest 6 (some .int) ∈ TB := inT5 (List.mem_of_getElem? (i := 174) rfl) rfl
set_option maxRecDepth 100000 in
theorem cw_X6_share : Cond.code yX6_share cX6_share 4 (some .long) ∈ TB := inT5 (List.mem_of_getElem? (i := 178) rfl) rfl
set_option maxRecDepth 100000 in
theorem cw_X6_lowest : Cond.code yX6_lowest cX6_lowest 11 (some .long) ∈ TB := inT5 (List.mem_of_getElem? (i := 181) rfl) rfl
set_option maxRecDepth 100000 in
theorem cw_X6_tells : Cond.code yX6_tells cX6_tells 11 (some .int) ∈ TB := inT5 (List.mem_of_getElem? (i := 185) rfl) rfl
set_option maxRecDepth 100000 in
theorem cw_X6_isSheet : Cond.code yX6_isSheet cX6_isSheet 1 (some .boolean) ∈ TB := inT5 (List.mem_of_getElem? (i := 188) rfl) rfl
set_option maxRecDepth 100000 in
theorem cw_X6_firstOther : Cond.code yX6_firstOther cX6_firstOther 4 (some .int) ∈ TB := inT5 (List.mem_of_getElem? (i := 193) rfl) rfl
set_option maxRecDepth 100000 in
theorem cw_X6_film : Cond.code yX6_film cX6_film 4 (some .int) ∈ TB := inT5 (List.mem_of_getElem? (i := 197) rfl) rfl
set_option maxRecDepth 100000 in
theorem cw_X6_sheet : Cond.code yX6_sheet cX6_sheet 5 (some .int) ∈ TB := inT5 (List.mem_of_getElem? (i := 201) rfl) rfl
set_option maxRecDepth 100000 in
theorem cw_X6_drawn : Cond.code yX6_drawn cX6_drawn 3 (some .int) ∈ TB := inT5 (List.mem_of_getElem? (i := 206) rfl) rfl
set_option maxRecDepth 100000 in
theorem cw_X6_filledDrawn : Cond.code yX6_filledDrawn cX6_filledDrawn 6 (some .int) ∈ TB := inT5 (List.mem_of_getElem? (i := 210) rfl) rfl
set_option maxRecDepth 100000 in
theorem cw_X6_chance : Cond.code yX6_chance cX6_chance 8 (some .long) ∈ TB := inT5 (List.mem_of_getElem? (i := 215) rfl) rfl
set_option maxRecDepth 100000 in
theorem cw_X6_image : Cond.code yX6_image cX6_image 2 (some .int) ∈ TB := inT5 (List.mem_of_getElem? (i := 220) rfl) rfl
set_option maxRecDepth 100000 in
theorem cw_X6_back : Cond.code yX6_back cX6_back 2 (some .int) ∈ TB := inT5 (List.mem_of_getElem? (i := 224) rfl) rfl
set_option maxRecDepth 100000 in
theorem cw_X6_count : Cond.code yX6_count cX6_count 2 (some .int) ∈ TB := inT5 (List.mem_of_getElem? (i := 228) rfl) rfl
set_option maxRecDepth 100000 in
theorem cw_X6_cell : Cond.code yX6_cell cX6_cell 4 (some .int) ∈ TB := inT5 (List.mem_of_getElem? (i := 233) rfl) rfl
set_option maxRecDepth 100000 in
theorem cw_X6_copy : Cond.code yX6_copy cX6_copy 9 (some .int) ∈ TB := inT5 (List.mem_of_getElem? (i := 237) rfl) rfl
set_option maxRecDepth 100000 in
theorem cw_X6_exarchate : Cond.code yX6_exarchate cX6_exarchate 8 (some .int) ∈ TB := inT6 (List.mem_of_getElem? (i := 1) rfl) rfl
set_option maxRecDepth 100000 in
theorem cw_X6_taken : Cond.code yX6_taken cX6_taken 4 (some .int) ∈ TB := inT6 (List.mem_of_getElem? (i := 6) rfl) rfl
set_option maxRecDepth 100000 in
theorem cw_X6_over : Cond.code yX6_over cX6_over 1 (some .int) ∈ TB := inT6 (List.mem_of_getElem? (i := 9) rfl) rfl
set_option maxRecDepth 100000 in
theorem tw_257 : Cond.methodLink RX5 49 yJ0_length_8abf5 ∈ TB := inT1 (List.mem_of_getElem? (i := 168) rfl) rfl
set_option maxRecDepth 100000 in
theorem tw_258 : Cond.instanceMethod yJ0_length_8abf5 ∈ TB := inT1 (List.mem_of_getElem? (i := 169) rfl) rfl
set_option maxRecDepth 100000 in
theorem tw_259 : Cond.selects RJ0 yJ0_length_8abf5 yJ0_length_8abf5 ∈ TB := inT1 (List.mem_of_getElem? (i := 170) rfl) rfl
set_option maxRecDepth 100000 in
theorem tw_96 : Cond.initialized RJ0 ∈ TB := inT1 (List.mem_of_getElem? (i := 7) rfl) rfl
theorem mwX5_49 : MwV RX5 RJ0 49 yJ0_length_8abf5 cJ0_length_8abf5 1 (some .int) 0 := ⟨⟨tw_257, tw_258, tw_259, tw_96, cw_J0_length_8abf5⟩, by decide +kernel, by decide⟩
set_option maxRecDepth 100000 in
theorem tw_261 : Cond.methodLink RJ0 335 yJ0_coder_7d493 ∈ TB := inT1 (List.mem_of_getElem? (i := 172) rfl) rfl
set_option maxRecDepth 100000 in
theorem tw_262 : Cond.instanceMethod yJ0_coder_7d493 ∈ TB := inT1 (List.mem_of_getElem? (i := 173) rfl) rfl
set_option maxRecDepth 100000 in
theorem tw_263 : Cond.selects RJ0 yJ0_coder_7d493 yJ0_coder_7d493 ∈ TB := inT1 (List.mem_of_getElem? (i := 174) rfl) rfl
theorem mwJ0_335 : MwV RJ0 RJ0 335 yJ0_coder_7d493 cJ0_coder_7d493 1 (some FieldType.byte) 0 := ⟨⟨tw_261, tw_262, tw_263, tw_96, cw_J0_coder_7d493⟩, by decide +kernel, by decide⟩
set_option maxRecDepth 100000 in
theorem tw_267 : Cond.methodLink RX5 55 yJ0_charAt_5068e ∈ TB := inT1 (List.mem_of_getElem? (i := 178) rfl) rfl
set_option maxRecDepth 100000 in
theorem tw_268 : Cond.instanceMethod yJ0_charAt_5068e ∈ TB := inT1 (List.mem_of_getElem? (i := 179) rfl) rfl
set_option maxRecDepth 100000 in
theorem tw_269 : Cond.selects RJ0 yJ0_charAt_5068e yJ0_charAt_5068e ∈ TB := inT1 (List.mem_of_getElem? (i := 180) rfl) rfl
theorem mwX5_55 : MwV RX5 RJ0 55 yJ0_charAt_5068e cJ0_charAt_5068e 2 (some FieldType.char) 1 := ⟨⟨tw_267, tw_268, tw_269, tw_96, cw_J0_charAt_5068e⟩, by decide +kernel, by decide⟩
set_option maxRecDepth 100000 in
theorem tw_271 : Cond.methodLink RJ0 492 yJ0_isLatin1_aae02 ∈ TB := inT1 (List.mem_of_getElem? (i := 182) rfl) rfl
set_option maxRecDepth 100000 in
theorem tw_272 : Cond.instanceMethod yJ0_isLatin1_aae02 ∈ TB := inT1 (List.mem_of_getElem? (i := 183) rfl) rfl
set_option maxRecDepth 100000 in
theorem tw_273 : Cond.selects RJ0 yJ0_isLatin1_aae02 yJ0_isLatin1_aae02 ∈ TB := inT1 (List.mem_of_getElem? (i := 184) rfl) rfl
theorem mwJ0_492 : MwV RJ0 RJ0 492 yJ0_isLatin1_aae02 cJ0_isLatin1_aae02 1 (some .boolean) 0 := ⟨⟨tw_271, tw_272, tw_273, tw_96, cw_J0_isLatin1_aae02⟩, by decide +kernel, by decide⟩
set_option maxRecDepth 100000 in
theorem tw_275 : Cond.methodLink RJ0 495 yJ1_charAt_3b067 ∈ TB := inT1 (List.mem_of_getElem? (i := 186) rfl) rfl
set_option maxRecDepth 100000 in
theorem tw_276 : Cond.static yJ1_charAt_3b067 ∈ TB := inT1 (List.mem_of_getElem? (i := 187) rfl) rfl
set_option maxRecDepth 100000 in
theorem tw_97 : Cond.initialized RJ1 ∈ TB := inT1 (List.mem_of_getElem? (i := 8) rfl) rfl
theorem mwJ0_495 : MwS RJ0 495 yJ1_charAt_3b067 cJ1_charAt_3b067 2 (some FieldType.char) 2 := ⟨⟨tw_275, tw_276, tw_97, cw_J1_charAt_3b067⟩, by decide +kernel, by decide⟩
set_option maxRecDepth 100000 in
theorem tw_278 : Cond.methodLink RJ1 9 yJ0_checkIndex_df160 ∈ TB := inT1 (List.mem_of_getElem? (i := 189) rfl) rfl
set_option maxRecDepth 100000 in
theorem tw_279 : Cond.static yJ0_checkIndex_df160 ∈ TB := inT1 (List.mem_of_getElem? (i := 190) rfl) rfl
theorem mwJ1_9 : MwS RJ1 9 yJ0_checkIndex_df160 cJ0_checkIndex_df160 2 none 2 := ⟨⟨tw_278, tw_279, tw_96, cw_J0_checkIndex_df160⟩, by decide +kernel, by decide⟩
set_option maxRecDepth 100000 in
theorem tw_283 : Cond.methodLink RJ0 1059 yJ3_checkIndex_8e157 ∈ TB := inT1 (List.mem_of_getElem? (i := 194) rfl) rfl
set_option maxRecDepth 100000 in
theorem tw_284 : Cond.static yJ3_checkIndex_8e157 ∈ TB := inT1 (List.mem_of_getElem? (i := 195) rfl) rfl
set_option maxRecDepth 100000 in
theorem tw_98 : Cond.initialized RJ3 ∈ TB := inT1 (List.mem_of_getElem? (i := 9) rfl) rfl
theorem mwJ0_1059 : MwS RJ0 1059 yJ3_checkIndex_8e157 cJ3_checkIndex_8e157 3 (some .int) 3 := ⟨⟨tw_283, tw_284, tw_98, cw_J3_checkIndex_8e157⟩, by decide +kernel, by decide⟩
set_option maxRecDepth 100000 in
theorem tw_286 : Cond.methodLink RJ0 498 yJ2_charAt_3b067 ∈ TB := inT1 (List.mem_of_getElem? (i := 197) rfl) rfl
set_option maxRecDepth 100000 in
theorem tw_287 : Cond.static yJ2_charAt_3b067 ∈ TB := inT1 (List.mem_of_getElem? (i := 198) rfl) rfl
set_option maxRecDepth 100000 in
theorem tw_99 : Cond.initialized RJ2 ∈ TB := inT1 (List.mem_of_getElem? (i := 10) rfl) rfl
theorem mwJ0_498 : MwS RJ0 498 yJ2_charAt_3b067 cJ2_charAt_3b067 2 (some FieldType.char) 2 := ⟨⟨tw_286, tw_287, tw_99, cw_J2_charAt_3b067⟩, by decide +kernel, by decide⟩
set_option maxRecDepth 100000 in
theorem tw_289 : Cond.methodLink RJ2 67 yJ2_checkIndex_2214a ∈ TB := inT1 (List.mem_of_getElem? (i := 200) rfl) rfl
set_option maxRecDepth 100000 in
theorem tw_290 : Cond.static yJ2_checkIndex_2214a ∈ TB := inT1 (List.mem_of_getElem? (i := 201) rfl) rfl
theorem mwJ2_67 : MwS RJ2 67 yJ2_checkIndex_2214a cJ2_checkIndex_2214a 2 none 2 := ⟨⟨tw_289, tw_290, tw_99, cw_J2_checkIndex_2214a⟩, by decide +kernel, by decide⟩
set_option maxRecDepth 100000 in
theorem tw_292 : Cond.methodLink RJ2 48 yJ2_length_9d52b ∈ TB := inT1 (List.mem_of_getElem? (i := 203) rfl) rfl
set_option maxRecDepth 100000 in
theorem tw_293 : Cond.static yJ2_length_9d52b ∈ TB := inT1 (List.mem_of_getElem? (i := 204) rfl) rfl
theorem mwJ2_48 : MwS RJ2 48 yJ2_length_9d52b cJ2_length_9d52b 1 (some .int) 1 := ⟨⟨tw_292, tw_293, tw_99, cw_J2_length_9d52b⟩, by decide +kernel, by decide⟩
set_option maxRecDepth 100000 in
theorem tw_295 : Cond.methodLink RJ2 414 yJ0_checkIndex_df160 ∈ TB := inT1 (List.mem_of_getElem? (i := 206) rfl) rfl
theorem mwJ2_414 : MwS RJ2 414 yJ0_checkIndex_df160 cJ0_checkIndex_df160 2 none 2 := ⟨⟨tw_295, tw_279, tw_96, cw_J0_checkIndex_df160⟩, by decide +kernel, by decide⟩
set_option maxRecDepth 100000 in
theorem tw_296 : Cond.methodLink RJ2 71 yJ2_getChar_3b067 ∈ TB := inT1 (List.mem_of_getElem? (i := 207) rfl) rfl
set_option maxRecDepth 100000 in
theorem tw_297 : Cond.static yJ2_getChar_3b067 ∈ TB := inT1 (List.mem_of_getElem? (i := 208) rfl) rfl
theorem mwJ2_71 : MwS RJ2 71 yJ2_getChar_3b067 cJ2_getChar_3b067 2 (some FieldType.char) 2 := ⟨⟨tw_296, tw_297, tw_99, cw_J2_getChar_3b067⟩, by decide +kernel, by decide⟩
set_option maxRecDepth 100000 in
theorem tw_305 : Cond.methodLink RX5 59 yX0_append ∈ TB := inT1 (List.mem_of_getElem? (i := 216) rfl) rfl
set_option maxRecDepth 100000 in
theorem tw_306 : Cond.instanceMethod yX0_append ∈ TB := inT1 (List.mem_of_getElem? (i := 217) rfl) rfl
set_option maxRecDepth 100000 in
theorem tw_307 : Cond.selects RX0 yX0_append yX0_append ∈ TB := inT1 (List.mem_of_getElem? (i := 218) rfl) rfl
set_option maxRecDepth 100000 in
theorem tw_94 : Cond.initialized RX0 ∈ TB := inT1 (List.mem_of_getElem? (i := 5) rfl) rfl
theorem mwX5_59 : MwV RX5 RX0 59 yX0_append cX0_append 2 (some .int) 1 := ⟨⟨tw_305, tw_306, tw_307, tw_94, cw_X0_append⟩, by decide +kernel, by decide⟩
set_option maxRecDepth 100000 in
theorem tw_309 : Cond.methodLink RX5 67 yX0_readInto ∈ TB := inT1 (List.mem_of_getElem? (i := 220) rfl) rfl
set_option maxRecDepth 100000 in
theorem tw_310 : Cond.instanceMethod yX0_readInto ∈ TB := inT1 (List.mem_of_getElem? (i := 221) rfl) rfl
set_option maxRecDepth 100000 in
theorem tw_311 : Cond.selects RX0 yX0_readInto yX0_readInto ∈ TB := inT1 (List.mem_of_getElem? (i := 222) rfl) rfl
theorem mwX5_67 : MwV RX5 RX0 67 yX0_readInto cX0_readInto 3 (some .int) 1 := ⟨⟨tw_309, tw_310, tw_311, tw_94, cw_X0_readInto⟩, by decide +kernel, by decide⟩
set_option maxRecDepth 100000 in
theorem tw_313 : Cond.methodLink RX0 31 yX3_clear ∈ TB := inT1 (List.mem_of_getElem? (i := 224) rfl) rfl
set_option maxRecDepth 100000 in
theorem tw_314 : Cond.instanceMethod yX3_clear ∈ TB := inT1 (List.mem_of_getElem? (i := 225) rfl) rfl
set_option maxRecDepth 100000 in
theorem tw_315 : Cond.selects RX3 yX3_clear yX3_clear ∈ TB := inT1 (List.mem_of_getElem? (i := 226) rfl) rfl
set_option maxRecDepth 100000 in
theorem tw_93 : Cond.initialized RX3 ∈ TB := inT1 (List.mem_of_getElem? (i := 4) rfl) rfl
theorem mwX0_31 : MwV RX0 RX3 31 yX3_clear cX3_clear 1 none 0 := ⟨⟨tw_313, tw_314, tw_315, tw_93, cw_X3_clear⟩, by decide +kernel, by decide⟩
set_option maxRecDepth 100000 in
theorem tw_317 : Cond.methodLink RX0 36 yX0_advance ∈ TB := inT1 (List.mem_of_getElem? (i := 228) rfl) rfl
set_option maxRecDepth 100000 in
theorem tw_319 : Cond.instanceMethod yX0_advance ∈ TB := inT1 (List.mem_of_getElem? (i := 230) rfl) rfl
set_option maxRecDepth 100000 in
theorem tw_0 : Cond.selects RX0 yX0_advance yX0_advance ∈ TB := inT0 (List.mem_of_getElem? (i := 0) rfl) rfl
theorem mwX0_36 : MwV RX0 RX0 36 yX0_advance cX0_advance 1 none 0 := ⟨⟨tw_317, tw_319, tw_0, tw_94, cw_X0_advance⟩, by decide +kernel, by decide⟩
set_option maxRecDepth 100000 in
theorem tw_321 : Cond.methodLink RX0 72 yX0_isLetter ∈ TB := inT1 (List.mem_of_getElem? (i := 232) rfl) rfl
set_option maxRecDepth 100000 in
theorem tw_322 : Cond.static yX0_isLetter ∈ TB := inT1 (List.mem_of_getElem? (i := 233) rfl) rfl
theorem mwX0_72 : MwS RX0 72 yX0_isLetter cX0_isLetter 1 (some .boolean) 1 := ⟨⟨tw_321, tw_322, tw_94, cw_X0_isLetter⟩, by decide +kernel, by decide⟩
set_option maxRecDepth 100000 in
theorem tw_324 : Cond.methodLink RX0 75 yX0_takeWord ∈ TB := inT1 (List.mem_of_getElem? (i := 235) rfl) rfl
set_option maxRecDepth 100000 in
theorem tw_326 : Cond.instanceMethod yX0_takeWord ∈ TB := inT1 (List.mem_of_getElem? (i := 237) rfl) rfl
set_option maxRecDepth 100000 in
theorem tw_1 : Cond.selects RX0 yX0_takeWord yX0_takeWord ∈ TB := inT0 (List.mem_of_getElem? (i := 1) rfl) rfl
theorem mwX0_75 : MwV RX0 RX0 75 yX0_takeWord cX0_takeWord 2 none 0 := ⟨⟨tw_324, tw_326, tw_1, tw_94, cw_X0_takeWord⟩, by decide +kernel, by decide⟩
set_option maxRecDepth 100000 in
theorem tw_328 : Cond.methodLink RX0 87 yX0_wordAt ∈ TB := inT1 (List.mem_of_getElem? (i := 239) rfl) rfl
set_option maxRecDepth 100000 in
theorem tw_329 : Cond.static yX0_wordAt ∈ TB := inT2 (List.mem_of_getElem? (i := 0) rfl) rfl
theorem mwX0_87 : MwS RX0 87 yX0_wordAt cX0_wordAt 1 (some (FieldType.object "java/lang/String")) 1 := ⟨⟨tw_328, tw_329, tw_94, cw_X0_wordAt⟩, by decide +kernel, by decide⟩
set_option maxRecDepth 100000 in
theorem tw_343 : Cond.methodLink RX0 91 yX0_isWord ∈ TB := inT2 (List.mem_of_getElem? (i := 14) rfl) rfl
set_option maxRecDepth 100000 in
theorem tw_345 : Cond.instanceMethod yX0_isWord ∈ TB := inT2 (List.mem_of_getElem? (i := 16) rfl) rfl
set_option maxRecDepth 100000 in
theorem tw_2 : Cond.selects RX0 yX0_isWord yX0_isWord ∈ TB := inT0 (List.mem_of_getElem? (i := 2) rfl) rfl
theorem mwX0_91 : MwV RX0 RX0 91 yX0_isWord cX0_isWord 3 (some .boolean) 1 := ⟨⟨tw_343, tw_345, tw_2, tw_94, cw_X0_isWord⟩, by decide +kernel, by decide⟩
set_option maxRecDepth 100000 in
theorem tw_347 : Cond.methodLink RX0 95 yJ0_length_8abf5 ∈ TB := inT2 (List.mem_of_getElem? (i := 18) rfl) rfl
theorem mwX0_95 : MwV RX0 RJ0 95 yJ0_length_8abf5 cJ0_length_8abf5 1 (some .int) 0 := ⟨⟨tw_347, tw_258, tw_259, tw_96, cw_J0_length_8abf5⟩, by decide +kernel, by decide⟩
set_option maxRecDepth 100000 in
theorem tw_348 : Cond.methodLink RX0 101 yJ0_charAt_5068e ∈ TB := inT2 (List.mem_of_getElem? (i := 19) rfl) rfl
theorem mwX0_101 : MwV RX0 RJ0 101 yJ0_charAt_5068e cJ0_charAt_5068e 2 (some FieldType.char) 1 := ⟨⟨tw_348, tw_268, tw_269, tw_96, cw_J0_charAt_5068e⟩, by decide +kernel, by decide⟩
set_option maxRecDepth 100000 in
theorem tw_349 : Cond.methodLink RX0 78 yX0_isDigit ∈ TB := inT2 (List.mem_of_getElem? (i := 20) rfl) rfl
set_option maxRecDepth 100000 in
theorem tw_350 : Cond.static yX0_isDigit ∈ TB := inT2 (List.mem_of_getElem? (i := 21) rfl) rfl
theorem mwX0_78 : MwS RX0 78 yX0_isDigit cX0_isDigit 1 (some .boolean) 1 := ⟨⟨tw_349, tw_350, tw_94, cw_X0_isDigit⟩, by decide +kernel, by decide⟩
set_option maxRecDepth 100000 in
theorem tw_352 : Cond.methodLink RX0 81 yX0_takeDigits ∈ TB := inT2 (List.mem_of_getElem? (i := 23) rfl) rfl
set_option maxRecDepth 100000 in
theorem tw_354 : Cond.instanceMethod yX0_takeDigits ∈ TB := inT2 (List.mem_of_getElem? (i := 25) rfl) rfl
set_option maxRecDepth 100000 in
theorem tw_3 : Cond.selects RX0 yX0_takeDigits yX0_takeDigits ∈ TB := inT0 (List.mem_of_getElem? (i := 3) rfl) rfl
theorem mwX0_81 : MwV RX0 RX0 81 yX0_takeDigits cX0_takeDigits 1 none 0 := ⟨⟨tw_352, tw_354, tw_3, tw_94, cw_X0_takeDigits⟩, by decide +kernel, by decide⟩
set_option maxRecDepth 100000 in
theorem tw_356 : Cond.methodLink RX0 84 yX0_isSign ∈ TB := inT2 (List.mem_of_getElem? (i := 27) rfl) rfl
set_option maxRecDepth 100000 in
theorem tw_357 : Cond.static yX0_isSign ∈ TB := inT2 (List.mem_of_getElem? (i := 28) rfl) rfl
theorem mwX0_84 : MwS RX0 84 yX0_isSign cX0_isSign 1 (some .boolean) 1 := ⟨⟨tw_356, tw_357, tw_94, cw_X0_isSign⟩, by decide +kernel, by decide⟩
set_option maxRecDepth 100000 in
theorem tw_359 : Cond.methodLink RX0 39 yX0_skip ∈ TB := inT2 (List.mem_of_getElem? (i := 30) rfl) rfl
set_option maxRecDepth 100000 in
theorem tw_361 : Cond.instanceMethod yX0_skip ∈ TB := inT2 (List.mem_of_getElem? (i := 32) rfl) rfl
set_option maxRecDepth 100000 in
theorem tw_4 : Cond.selects RX0 yX0_skip yX0_skip ∈ TB := inT0 (List.mem_of_getElem? (i := 4) rfl) rfl
theorem mwX0_39 : MwV RX0 RX0 39 yX0_skip cX0_skip 2 (some .boolean) 1 := ⟨⟨tw_359, tw_361, tw_4, tw_94, cw_X0_skip⟩, by decide +kernel, by decide⟩
set_option maxRecDepth 100000 in
theorem tw_363 : Cond.methodLink RX0 43 yX0_either ∈ TB := inT2 (List.mem_of_getElem? (i := 34) rfl) rfl
set_option maxRecDepth 100000 in
theorem tw_365 : Cond.instanceMethod yX0_either ∈ TB := inT2 (List.mem_of_getElem? (i := 36) rfl) rfl
set_option maxRecDepth 100000 in
theorem tw_5 : Cond.selects RX0 yX0_either yX0_either ∈ TB := inT0 (List.mem_of_getElem? (i := 5) rfl) rfl
theorem mwX0_43 : MwV RX0 RX0 43 yX0_either cX0_either 5 (some .boolean) 2 := ⟨⟨tw_363, tw_365, tw_5, tw_94, cw_X0_either⟩, by decide +kernel, by decide⟩
set_option maxRecDepth 100000 in
theorem tw_367 : Cond.methodLink RX0 51 yX0_both ∈ TB := inT2 (List.mem_of_getElem? (i := 38) rfl) rfl
set_option maxRecDepth 100000 in
theorem tw_369 : Cond.instanceMethod yX0_both ∈ TB := inT2 (List.mem_of_getElem? (i := 40) rfl) rfl
set_option maxRecDepth 100000 in
theorem tw_6 : Cond.selects RX0 yX0_both yX0_both ∈ TB := inT0 (List.mem_of_getElem? (i := 6) rfl) rfl
theorem mwX0_51 : MwV RX0 RX0 51 yX0_both cX0_both 5 (some .boolean) 2 := ⟨⟨tw_367, tw_369, tw_6, tw_94, cw_X0_both⟩, by decide +kernel, by decide⟩
set_option maxRecDepth 100000 in
theorem tw_371 : Cond.methodLink RX0 57 yX0_negated ∈ TB := inT2 (List.mem_of_getElem? (i := 42) rfl) rfl
set_option maxRecDepth 100000 in
theorem tw_373 : Cond.instanceMethod yX0_negated ∈ TB := inT2 (List.mem_of_getElem? (i := 44) rfl) rfl
set_option maxRecDepth 100000 in
theorem tw_7 : Cond.selects RX0 yX0_negated yX0_negated ∈ TB := inT0 (List.mem_of_getElem? (i := 7) rfl) rfl
theorem mwX0_57 : MwV RX0 RX0 57 yX0_negated cX0_negated 4 (some .boolean) 2 := ⟨⟨tw_371, tw_373, tw_7, tw_94, cw_X0_negated⟩, by decide +kernel, by decide⟩
set_option maxRecDepth 100000 in
theorem tw_375 : Cond.methodLink RX0 60 yX0_compared ∈ TB := inT2 (List.mem_of_getElem? (i := 46) rfl) rfl
set_option maxRecDepth 100000 in
theorem tw_377 : Cond.instanceMethod yX0_compared ∈ TB := inT2 (List.mem_of_getElem? (i := 48) rfl) rfl
set_option maxRecDepth 100000 in
theorem tw_8 : Cond.selects RX0 yX0_compared yX0_compared ∈ TB := inT0 (List.mem_of_getElem? (i := 8) rfl) rfl
theorem mwX0_60 : MwV RX0 RX0 60 yX0_compared cX0_compared 5 (some .boolean) 2 := ⟨⟨tw_375, tw_377, tw_8, tw_94, cw_X0_compared⟩, by decide +kernel, by decide⟩
set_option maxRecDepth 100000 in
theorem tw_379 : Cond.methodLink RX0 63 yX0_sum ∈ TB := inT2 (List.mem_of_getElem? (i := 50) rfl) rfl
set_option maxRecDepth 100000 in
theorem tw_381 : Cond.instanceMethod yX0_sum ∈ TB := inT2 (List.mem_of_getElem? (i := 52) rfl) rfl
set_option maxRecDepth 100000 in
theorem tw_9 : Cond.selects RX0 yX0_sum yX0_sum ∈ TB := inT0 (List.mem_of_getElem? (i := 9) rfl) rfl
theorem mwX0_63 : MwV RX0 RX0 63 yX0_sum cX0_sum 6 (some .boolean) 2 := ⟨⟨tw_379, tw_381, tw_9, tw_94, cw_X0_sum⟩, by decide +kernel, by decide⟩
set_option maxRecDepth 100000 in
theorem tw_383 : Cond.methodLink RX0 66 yX0_term ∈ TB := inT2 (List.mem_of_getElem? (i := 54) rfl) rfl
set_option maxRecDepth 100000 in
theorem tw_385 : Cond.instanceMethod yX0_term ∈ TB := inT2 (List.mem_of_getElem? (i := 56) rfl) rfl
set_option maxRecDepth 100000 in
theorem tw_10 : Cond.selects RX0 yX0_term yX0_term ∈ TB := inT0 (List.mem_of_getElem? (i := 10) rfl) rfl
theorem mwX0_66 : MwV RX0 RX0 66 yX0_term cX0_term 5 (some .boolean) 2 := ⟨⟨tw_383, tw_385, tw_10, tw_94, cw_X0_term⟩, by decide +kernel, by decide⟩
set_option maxRecDepth 100000 in
theorem tw_387 : Cond.methodLink RX0 69 yX0_single ∈ TB := inT2 (List.mem_of_getElem? (i := 58) rfl) rfl
set_option maxRecDepth 100000 in
theorem tw_389 : Cond.instanceMethod yX0_single ∈ TB := inT2 (List.mem_of_getElem? (i := 60) rfl) rfl
set_option maxRecDepth 100000 in
theorem tw_11 : Cond.selects RX0 yX0_single yX0_single ∈ TB := inT0 (List.mem_of_getElem? (i := 11) rfl) rfl
theorem mwX0_69 : MwV RX0 RX0 69 yX0_single cX0_single 4 (some .boolean) 2 := ⟨⟨tw_387, tw_389, tw_11, tw_94, cw_X0_single⟩, by decide +kernel, by decide⟩
set_option maxRecDepth 100000 in
theorem tw_391 : Cond.methodLink RX0 54 yX3_add ∈ TB := inT2 (List.mem_of_getElem? (i := 62) rfl) rfl
set_option maxRecDepth 100000 in
theorem tw_392 : Cond.instanceMethod yX3_add ∈ TB := inT2 (List.mem_of_getElem? (i := 63) rfl) rfl
set_option maxRecDepth 100000 in
theorem tw_393 : Cond.selects RX3 yX3_add yX3_add ∈ TB := inT2 (List.mem_of_getElem? (i := 64) rfl) rfl
theorem mwX0_54 : MwV RX0 RX3 54 yX3_add cX3_add 2 none 1 := ⟨⟨tw_391, tw_392, tw_393, tw_93, cw_X3_add⟩, by decide +kernel, by decide⟩
set_option maxRecDepth 100000 in
theorem tw_395 : Cond.methodLink RX0 47 yX3_endPart ∈ TB := inT2 (List.mem_of_getElem? (i := 66) rfl) rfl
set_option maxRecDepth 100000 in
theorem tw_396 : Cond.instanceMethod yX3_endPart ∈ TB := inT2 (List.mem_of_getElem? (i := 67) rfl) rfl
set_option maxRecDepth 100000 in
theorem tw_397 : Cond.selects RX3 yX3_endPart yX3_endPart ∈ TB := inT2 (List.mem_of_getElem? (i := 68) rfl) rfl
theorem mwX0_47 : MwV RX0 RX3 47 yX3_endPart cX3_endPart 2 none 1 := ⟨⟨tw_395, tw_396, tw_397, tw_93, cw_X3_endPart⟩, by decide +kernel, by decide⟩
set_option maxRecDepth 100000 in
theorem tw_399 : Cond.methodLink RX5 71 yX0_wipe ∈ TB := inT2 (List.mem_of_getElem? (i := 70) rfl) rfl
set_option maxRecDepth 100000 in
theorem tw_400 : Cond.instanceMethod yX0_wipe ∈ TB := inT2 (List.mem_of_getElem? (i := 71) rfl) rfl
set_option maxRecDepth 100000 in
theorem tw_401 : Cond.selects RX0 yX0_wipe yX0_wipe ∈ TB := inT2 (List.mem_of_getElem? (i := 72) rfl) rfl
theorem mwX5_71 : MwV RX5 RX0 71 yX0_wipe cX0_wipe 1 none 0 := ⟨⟨tw_399, tw_400, tw_401, tw_94, cw_X0_wipe⟩, by decide +kernel, by decide⟩
set_option maxRecDepth 100000 in
theorem tw_426 : Cond.methodLink RL 13 yX5_set ∈ TB := inT2 (List.mem_of_getElem? (i := 97) rfl) rfl
set_option maxRecDepth 100000 in
theorem tw_427 : Cond.instanceMethod yX5_set ∈ TB := inT2 (List.mem_of_getElem? (i := 98) rfl) rfl
set_option maxRecDepth 100000 in
theorem tw_428 : Cond.selects RX5 yX5_set yX5_set ∈ TB := inT2 (List.mem_of_getElem? (i := 99) rfl) rfl
set_option maxRecDepth 100000 in
theorem tw_90 : Cond.initialized RX5 ∈ TB := inT1 (List.mem_of_getElem? (i := 1) rfl) rfl
theorem mwL_13 : MwV RL RX5 13 yX5_set cX5_set 5 (some .int) 3 := ⟨⟨tw_426, tw_427, tw_428, tw_90, cw_X5_set⟩, by decide +kernel, by decide⟩
set_option maxRecDepth 100000 in
theorem tw_430 : Cond.methodLink RX5 78 yX5_isThere ∈ TB := inT2 (List.mem_of_getElem? (i := 101) rfl) rfl
set_option maxRecDepth 100000 in
theorem tw_432 : Cond.instanceMethod yX5_isThere ∈ TB := inT2 (List.mem_of_getElem? (i := 103) rfl) rfl
set_option maxRecDepth 100000 in
theorem tw_12 : Cond.selects RX5 yX5_isThere yX5_isThere ∈ TB := inT0 (List.mem_of_getElem? (i := 12) rfl) rfl
theorem mwX5_78 : MwV RX5 RX5 78 yX5_isThere cX5_isThere 3 (some .boolean) 2 := ⟨⟨tw_430, tw_432, tw_12, tw_90, cw_X5_isThere⟩, by decide +kernel, by decide⟩
set_option maxRecDepth 100000 in
theorem tw_434 : Cond.methodLink RX5 94 yX5_isIn ∈ TB := inT2 (List.mem_of_getElem? (i := 105) rfl) rfl
set_option maxRecDepth 100000 in
theorem tw_435 : Cond.static yX5_isIn ∈ TB := inT2 (List.mem_of_getElem? (i := 106) rfl) rfl
theorem mwX5_94 : MwS RX5 94 yX5_isIn cX5_isIn 2 (some .boolean) 2 := ⟨⟨tw_434, tw_435, tw_90, cw_X5_isIn⟩, by decide +kernel, by decide⟩
set_option maxRecDepth 100000 in
theorem tw_439 : Cond.methodLink RX5 86 yX4_figure ∈ TB := inT2 (List.mem_of_getElem? (i := 110) rfl) rfl
set_option maxRecDepth 100000 in
theorem tw_440 : Cond.instanceMethod yX4_figure ∈ TB := inT2 (List.mem_of_getElem? (i := 111) rfl) rfl
set_option maxRecDepth 100000 in
theorem tw_441 : Cond.selects RX4 yX4_figure yX4_figure ∈ TB := inT2 (List.mem_of_getElem? (i := 112) rfl) rfl
set_option maxRecDepth 100000 in
theorem tw_91 : Cond.initialized RX4 ∈ TB := inT1 (List.mem_of_getElem? (i := 2) rfl) rfl
theorem mwX5_86 : MwV RX5 RX4 86 yX4_figure cX4_figure 3 (some .int) 2 := ⟨⟨tw_439, tw_440, tw_441, tw_91, cw_X4_figure⟩, by decide +kernel, by decide⟩
set_option maxRecDepth 100000 in
theorem tw_443 : Cond.methodLink RX4 48 yX4_wantOf ∈ TB := inT2 (List.mem_of_getElem? (i := 114) rfl) rfl
set_option maxRecDepth 100000 in
theorem tw_444 : Cond.instanceMethod yX4_wantOf ∈ TB := inT2 (List.mem_of_getElem? (i := 115) rfl) rfl
set_option maxRecDepth 100000 in
theorem tw_445 : Cond.selects RX4 yX4_wantOf yX4_wantOf ∈ TB := inT2 (List.mem_of_getElem? (i := 116) rfl) rfl
theorem mwX4_48 : MwV RX4 RX4 48 yX4_wantOf cX4_wantOf 2 (some .int) 1 := ⟨⟨tw_443, tw_444, tw_445, tw_91, cw_X4_wantOf⟩, by decide +kernel, by decide⟩
set_option maxRecDepth 100000 in
theorem tw_447 : Cond.methodLink RX4 62 yX4_colourOf ∈ TB := inT2 (List.mem_of_getElem? (i := 118) rfl) rfl
set_option maxRecDepth 100000 in
theorem tw_449 : Cond.instanceMethod yX4_colourOf ∈ TB := inT2 (List.mem_of_getElem? (i := 120) rfl) rfl
set_option maxRecDepth 100000 in
theorem tw_13 : Cond.selects RX4 yX4_colourOf yX4_colourOf ∈ TB := inT0 (List.mem_of_getElem? (i := 13) rfl) rfl
theorem mwX4_62 : MwV RX4 RX4 62 yX4_colourOf cX4_colourOf 4 (some .int) 1 := ⟨⟨tw_447, tw_449, tw_13, tw_91, cw_X4_colourOf⟩, by decide +kernel, by decide⟩
set_option maxRecDepth 100000 in
theorem tw_451 : Cond.methodLink RX4 52 yX4_isFilled ∈ TB := inT2 (List.mem_of_getElem? (i := 122) rfl) rfl
set_option maxRecDepth 100000 in
theorem tw_452 : Cond.instanceMethod yX4_isFilled ∈ TB := inT2 (List.mem_of_getElem? (i := 123) rfl) rfl
set_option maxRecDepth 100000 in
theorem tw_453 : Cond.selects RX4 yX4_isFilled yX4_isFilled ∈ TB := inT2 (List.mem_of_getElem? (i := 124) rfl) rfl
theorem mwX4_52 : MwV RX4 RX4 52 yX4_isFilled cX4_isFilled 2 (some .boolean) 1 := ⟨⟨tw_451, tw_452, tw_453, tw_91, cw_X4_isFilled⟩, by decide +kernel, by decide⟩
set_option maxRecDepth 100000 in
theorem tw_455 : Cond.methodLink RX5 90 yX4_change ∈ TB := inT2 (List.mem_of_getElem? (i := 126) rfl) rfl
set_option maxRecDepth 100000 in
theorem tw_456 : Cond.instanceMethod yX4_change ∈ TB := inT2 (List.mem_of_getElem? (i := 127) rfl) rfl
set_option maxRecDepth 100000 in
theorem tw_457 : Cond.selects RX4 yX4_change yX4_change ∈ TB := inT2 (List.mem_of_getElem? (i := 128) rfl) rfl
theorem mwX5_90 : MwV RX5 RX4 90 yX4_change cX4_change 4 none 3 := ⟨⟨tw_455, tw_456, tw_457, tw_91, cw_X4_change⟩, by decide +kernel, by decide⟩
set_option maxRecDepth 100000 in
theorem tw_459 : Cond.methodLink RX4 56 yX4_wish ∈ TB := inT2 (List.mem_of_getElem? (i := 130) rfl) rfl
set_option maxRecDepth 100000 in
theorem tw_460 : Cond.instanceMethod yX4_wish ∈ TB := inT2 (List.mem_of_getElem? (i := 131) rfl) rfl
set_option maxRecDepth 100000 in
theorem tw_461 : Cond.selects RX4 yX4_wish yX4_wish ∈ TB := inT2 (List.mem_of_getElem? (i := 132) rfl) rfl
theorem mwX4_56 : MwV RX4 RX4 56 yX4_wish cX4_wish 4 none 2 := ⟨⟨tw_459, tw_460, tw_461, tw_91, cw_X4_wish⟩, by decide +kernel, by decide⟩
set_option maxRecDepth 100000 in
theorem kcX4_60 : Cond.constantLong RX4 60 (-1 : Int64) ∈ TB := inT2 (List.mem_of_getElem? (i := 134) rfl) rfl
set_option maxRecDepth 100000 in
theorem tw_464 : Cond.methodLink RL 18 yX5_person ∈ TB := inT2 (List.mem_of_getElem? (i := 135) rfl) rfl
set_option maxRecDepth 100000 in
theorem tw_465 : Cond.instanceMethod yX5_person ∈ TB := inT2 (List.mem_of_getElem? (i := 136) rfl) rfl
set_option maxRecDepth 100000 in
theorem tw_466 : Cond.selects RX5 yX5_person yX5_person ∈ TB := inT2 (List.mem_of_getElem? (i := 137) rfl) rfl
theorem mwL_18 : MwV RL RX5 18 yX5_person cX5_person 4 (some .int) 3 := ⟨⟨tw_464, tw_465, tw_466, tw_90, cw_X5_person⟩, by decide +kernel, by decide⟩
set_option maxRecDepth 100000 in
theorem tw_468 : Cond.methodLink RX5 97 yX4_welcome ∈ TB := inT2 (List.mem_of_getElem? (i := 139) rfl) rfl
set_option maxRecDepth 100000 in
theorem tw_469 : Cond.instanceMethod yX4_welcome ∈ TB := inT2 (List.mem_of_getElem? (i := 140) rfl) rfl
set_option maxRecDepth 100000 in
theorem tw_470 : Cond.selects RX4 yX4_welcome yX4_welcome ∈ TB := inT2 (List.mem_of_getElem? (i := 141) rfl) rfl
theorem mwX5_97 : MwV RX5 RX4 97 yX4_welcome cX4_welcome 5 (some .int) 3 := ⟨⟨tw_468, tw_469, tw_470, tw_91, cw_X4_welcome⟩, by decide +kernel, by decide⟩
set_option maxRecDepth 100000 in
theorem tw_472 : Cond.methodLink RL 22 yX5_told ∈ TB := inT2 (List.mem_of_getElem? (i := 143) rfl) rfl
set_option maxRecDepth 100000 in
theorem tw_473 : Cond.instanceMethod yX5_told ∈ TB := inT2 (List.mem_of_getElem? (i := 144) rfl) rfl
set_option maxRecDepth 100000 in
theorem tw_474 : Cond.selects RX5 yX5_told yX5_told ∈ TB := inT2 (List.mem_of_getElem? (i := 145) rfl) rfl
theorem mwL_22 : MwV RL RX5 22 yX5_told cX5_told 3 (some .int) 2 := ⟨⟨tw_472, tw_473, tw_474, tw_90, cw_X5_told⟩, by decide +kernel, by decide⟩
set_option maxRecDepth 100000 in
theorem tw_476 : Cond.methodLink RX5 101 yX1_daysNeeded ∈ TB := inT2 (List.mem_of_getElem? (i := 147) rfl) rfl
set_option maxRecDepth 100000 in
theorem tw_477 : Cond.instanceMethod yX1_daysNeeded ∈ TB := inT2 (List.mem_of_getElem? (i := 148) rfl) rfl
set_option maxRecDepth 100000 in
theorem tw_478 : Cond.selects RX1 yX1_daysNeeded yX1_daysNeeded ∈ TB := inT2 (List.mem_of_getElem? (i := 149) rfl) rfl
set_option maxRecDepth 100000 in
theorem tw_92 : Cond.initialized RX1 ∈ TB := inT1 (List.mem_of_getElem? (i := 3) rfl) rfl
theorem mwX5_101 : MwV RX5 RX1 101 yX1_daysNeeded cX1_daysNeeded 3 (some .int) 2 := ⟨⟨tw_476, tw_477, tw_478, tw_92, cw_X1_daysNeeded⟩, by decide +kernel, by decide⟩
set_option maxRecDepth 100000 in
theorem tw_480 : Cond.methodLink RX1 66 yX1_reckon ∈ TB := inT2 (List.mem_of_getElem? (i := 151) rfl) rfl
set_option maxRecDepth 100000 in
theorem tw_482 : Cond.instanceMethod yX1_reckon ∈ TB := inT2 (List.mem_of_getElem? (i := 153) rfl) rfl
set_option maxRecDepth 100000 in
theorem tw_14 : Cond.selects RX1 yX1_reckon yX1_reckon ∈ TB := inT0 (List.mem_of_getElem? (i := 14) rfl) rfl
theorem mwX1_66 : MwV RX1 RX1 66 yX1_reckon cX1_reckon 9 (some .int) 3 := ⟨⟨tw_480, tw_482, tw_14, tw_92, cw_X1_reckon⟩, by decide +kernel, by decide⟩
set_option maxRecDepth 100000 in
theorem tw_485 : Cond.methodLink RX1 109 yX1_named ∈ TB := inT2 (List.mem_of_getElem? (i := 156) rfl) rfl
set_option maxRecDepth 100000 in
theorem tw_486 : Cond.static yX1_named ∈ TB := inT2 (List.mem_of_getElem? (i := 157) rfl) rfl
theorem mwX1_109 : MwS RX1 109 yX1_named cX1_named 3 (some .int) 3 := ⟨⟨tw_485, tw_486, tw_92, cw_X1_named⟩, by decide +kernel, by decide⟩
set_option maxRecDepth 100000 in
theorem tw_488 : Cond.methodLink RX1 119 yJ13_bitCount_95d88 ∈ TB := inT2 (List.mem_of_getElem? (i := 159) rfl) rfl
set_option maxRecDepth 100000 in
theorem tw_489 : Cond.static yJ13_bitCount_95d88 ∈ TB := inT2 (List.mem_of_getElem? (i := 160) rfl) rfl
set_option maxRecDepth 100000 in
theorem tw_101 : Cond.initialized RJ13 ∈ TB := inT1 (List.mem_of_getElem? (i := 12) rfl) rfl
theorem mwX1_119 : MwS RX1 119 yJ13_bitCount_95d88 cJ13_bitCount_95d88 2 (some .int) 1 := ⟨⟨tw_488, tw_489, tw_101, cw_J13_bitCount_95d88⟩, by decide +kernel, by decide⟩
set_option maxRecDepth 100000 in
theorem kcJ13_314 : Cond.constantLong RJ13 314 (6148914691236517205 : Int64) ∈ TB := inT2 (List.mem_of_getElem? (i := 162) rfl) rfl
set_option maxRecDepth 100000 in
theorem kcJ13_316 : Cond.constantLong RJ13 316 (3689348814741910323 : Int64) ∈ TB := inT2 (List.mem_of_getElem? (i := 163) rfl) rfl
set_option maxRecDepth 100000 in
theorem kcJ13_318 : Cond.constantLong RJ13 318 (1085102592571150095 : Int64) ∈ TB := inT2 (List.mem_of_getElem? (i := 164) rfl) rfl
set_option maxRecDepth 100000 in
theorem tw_494 : Cond.methodLink RX1 77 yX4_squaresInBox ∈ TB := inT2 (List.mem_of_getElem? (i := 165) rfl) rfl
set_option maxRecDepth 100000 in
theorem tw_495 : Cond.instanceMethod yX4_squaresInBox ∈ TB := inT2 (List.mem_of_getElem? (i := 166) rfl) rfl
set_option maxRecDepth 100000 in
theorem tw_496 : Cond.selects RX4 yX4_squaresInBox yX4_squaresInBox ∈ TB := inT2 (List.mem_of_getElem? (i := 167) rfl) rfl
theorem mwX1_77 : MwV RX1 RX4 77 yX4_squaresInBox cX4_squaresInBox 3 (some .int) 0 := ⟨⟨tw_494, tw_495, tw_496, tw_91, cw_X4_squaresInBox⟩, by decide +kernel, by decide⟩
set_option maxRecDepth 100000 in
theorem tw_498 : Cond.methodLink RX1 112 yX1_ofOne ∈ TB := inT2 (List.mem_of_getElem? (i := 169) rfl) rfl
set_option maxRecDepth 100000 in
theorem tw_499 : Cond.static yX1_ofOne ∈ TB := inT2 (List.mem_of_getElem? (i := 170) rfl) rfl
theorem mwX1_112 : MwS RX1 112 yX1_ofOne cX1_ofOne 2 (some .int) 2 := ⟨⟨tw_498, tw_499, tw_92, cw_X1_ofOne⟩, by decide +kernel, by decide⟩
set_option maxRecDepth 100000 in
theorem tw_501 : Cond.methodLink RX1 115 yX1_ofTwo ∈ TB := inT2 (List.mem_of_getElem? (i := 172) rfl) rfl
set_option maxRecDepth 100000 in
theorem tw_502 : Cond.static yX1_ofTwo ∈ TB := inT2 (List.mem_of_getElem? (i := 173) rfl) rfl
theorem mwX1_115 : MwS RX1 115 yX1_ofTwo cX1_ofTwo 3 (some .int) 3 := ⟨⟨tw_501, tw_502, tw_92, cw_X1_ofTwo⟩, by decide +kernel, by decide⟩
set_option maxRecDepth 100000 in
theorem tw_504 : Cond.methodLink RX1 34 yJ9_min_7cf53 ∈ TB := inT2 (List.mem_of_getElem? (i := 175) rfl) rfl
set_option maxRecDepth 100000 in
theorem tw_505 : Cond.static yJ9_min_7cf53 ∈ TB := inT2 (List.mem_of_getElem? (i := 176) rfl) rfl
set_option maxRecDepth 100000 in
theorem tw_102 : Cond.initialized RJ9 ∈ TB := inT1 (List.mem_of_getElem? (i := 13) rfl) rfl
theorem mwX1_34 : MwS RX1 34 yJ9_min_7cf53 cJ9_min_7cf53 2 (some .int) 2 := ⟨⟨tw_504, tw_505, tw_102, cw_J9_min_7cf53⟩, by decide +kernel, by decide⟩
set_option maxRecDepth 100000 in
theorem tw_507 : Cond.methodLink RX1 93 yJ9_max_7cf53 ∈ TB := inT2 (List.mem_of_getElem? (i := 178) rfl) rfl
set_option maxRecDepth 100000 in
theorem tw_508 : Cond.static yJ9_max_7cf53 ∈ TB := inT2 (List.mem_of_getElem? (i := 179) rfl) rfl
theorem mwX1_93 : MwS RX1 93 yJ9_max_7cf53 cJ9_max_7cf53 2 (some .int) 2 := ⟨⟨tw_507, tw_508, tw_102, cw_J9_max_7cf53⟩, by decide +kernel, by decide⟩
set_option maxRecDepth 100000 in
theorem tw_510 : Cond.methodLink RX1 70 yX1_daysBounded ∈ TB := inT2 (List.mem_of_getElem? (i := 181) rfl) rfl
set_option maxRecDepth 100000 in
theorem tw_511 : Cond.static yX1_daysBounded ∈ TB := inT2 (List.mem_of_getElem? (i := 182) rfl) rfl
theorem mwX1_70 : MwS RX1 70 yX1_daysBounded cX1_daysBounded 1 (some .int) 1 := ⟨⟨tw_510, tw_511, tw_92, cw_X1_daysBounded⟩, by decide +kernel, by decide⟩
set_option maxRecDepth 100000 in
theorem tw_513 : Cond.methodLink RX5 105 yX1_colourGiven ∈ TB := inT2 (List.mem_of_getElem? (i := 184) rfl) rfl
set_option maxRecDepth 100000 in
theorem tw_514 : Cond.instanceMethod yX1_colourGiven ∈ TB := inT2 (List.mem_of_getElem? (i := 185) rfl) rfl
set_option maxRecDepth 100000 in
theorem tw_515 : Cond.selects RX1 yX1_colourGiven yX1_colourGiven ∈ TB := inT2 (List.mem_of_getElem? (i := 186) rfl) rfl
theorem mwX5_105 : MwV RX5 RX1 105 yX1_colourGiven cX1_colourGiven 4 (some .int) 2 := ⟨⟨tw_513, tw_514, tw_515, tw_92, cw_X1_colourGiven⟩, by decide +kernel, by decide⟩
set_option maxRecDepth 100000 in
theorem tw_517 : Cond.methodLink RX1 81 yJ9_floorMod_7cf53 ∈ TB := inT2 (List.mem_of_getElem? (i := 188) rfl) rfl
set_option maxRecDepth 100000 in
theorem tw_518 : Cond.static yJ9_floorMod_7cf53 ∈ TB := inT2 (List.mem_of_getElem? (i := 189) rfl) rfl
theorem mwX1_81 : MwS RX1 81 yJ9_floorMod_7cf53 cJ9_floorMod_7cf53 3 (some .int) 2 := ⟨⟨tw_517, tw_518, tw_102, cw_J9_floorMod_7cf53⟩, by decide +kernel, by decide⟩
set_option maxRecDepth 100000 in
theorem kcX1_88 : Cond.constantLong RX1 88 (-1 : Int64) ∈ TB := inT2 (List.mem_of_getElem? (i := 191) rfl) rfl
set_option maxRecDepth 100000 in
theorem tw_521 : Cond.methodLink RX1 90 yX4_colourOfFirstEmpty ∈ TB := inT2 (List.mem_of_getElem? (i := 192) rfl) rfl
set_option maxRecDepth 100000 in
theorem tw_522 : Cond.instanceMethod yX4_colourOfFirstEmpty ∈ TB := inT2 (List.mem_of_getElem? (i := 193) rfl) rfl
set_option maxRecDepth 100000 in
theorem tw_523 : Cond.selects RX4 yX4_colourOfFirstEmpty yX4_colourOfFirstEmpty ∈ TB := inT2 (List.mem_of_getElem? (i := 194) rfl) rfl
theorem mwX1_90 : MwV RX1 RX4 90 yX4_colourOfFirstEmpty cX4_colourOfFirstEmpty 3 (some .int) 0 := ⟨⟨tw_521, tw_522, tw_523, tw_91, cw_X4_colourOfFirstEmpty⟩, by decide +kernel, by decide⟩
set_option maxRecDepth 100000 in
theorem tw_525 : Cond.methodLink RX5 108 yX1_colourNext ∈ TB := inT2 (List.mem_of_getElem? (i := 196) rfl) rfl
set_option maxRecDepth 100000 in
theorem tw_526 : Cond.instanceMethod yX1_colourNext ∈ TB := inT2 (List.mem_of_getElem? (i := 197) rfl) rfl
set_option maxRecDepth 100000 in
theorem tw_527 : Cond.selects RX1 yX1_colourNext yX1_colourNext ∈ TB := inT2 (List.mem_of_getElem? (i := 198) rfl) rfl
theorem mwX5_108 : MwV RX5 RX1 108 yX1_colourNext cX1_colourNext 4 (some .int) 2 := ⟨⟨tw_525, tw_526, tw_527, tw_92, cw_X1_colourNext⟩, by decide +kernel, by decide⟩
set_option maxRecDepth 100000 in
theorem tw_529 : Cond.methodLink RL 27 yX5_picture ∈ TB := inT2 (List.mem_of_getElem? (i := 200) rfl) rfl
set_option maxRecDepth 100000 in
theorem tw_530 : Cond.instanceMethod yX5_picture ∈ TB := inT2 (List.mem_of_getElem? (i := 201) rfl) rfl
set_option maxRecDepth 100000 in
theorem tw_531 : Cond.selects RX5 yX5_picture yX5_picture ∈ TB := inT2 (List.mem_of_getElem? (i := 202) rfl) rfl
theorem mwL_27 : MwV RL RX5 27 yX5_picture cX5_picture 2 (some .long) 1 := ⟨⟨tw_529, tw_530, tw_531, tw_90, cw_X5_picture⟩, by decide +kernel, by decide⟩
set_option maxRecDepth 100000 in
theorem kcX5_119 : Cond.constantLong RX5 119 (-4611686018427387904 : Int64) ∈ TB := inT2 (List.mem_of_getElem? (i := 204) rfl) rfl
set_option maxRecDepth 100000 in
theorem tw_534 : Cond.methodLink RL 32 yX5_feed ∈ TB := inT2 (List.mem_of_getElem? (i := 205) rfl) rfl
set_option maxRecDepth 100000 in
theorem tw_535 : Cond.instanceMethod yX5_feed ∈ TB := inT2 (List.mem_of_getElem? (i := 206) rfl) rfl
set_option maxRecDepth 100000 in
theorem tw_536 : Cond.selects RX5 yX5_feed yX5_feed ∈ TB := inT2 (List.mem_of_getElem? (i := 207) rfl) rfl
theorem mwL_32 : MwV RL RX5 32 yX5_feed cX5_feed 2 (some .int) 1 := ⟨⟨tw_534, tw_535, tw_536, tw_90, cw_X5_feed⟩, by decide +kernel, by decide⟩
set_option maxRecDepth 100000 in
theorem tw_538 : Cond.methodLink RL 37 yX5_text ∈ TB := inT2 (List.mem_of_getElem? (i := 209) rfl) rfl
set_option maxRecDepth 100000 in
theorem tw_539 : Cond.instanceMethod yX5_text ∈ TB := inT2 (List.mem_of_getElem? (i := 210) rfl) rfl
set_option maxRecDepth 100000 in
theorem tw_540 : Cond.selects RX5 yX5_text yX5_text ∈ TB := inT2 (List.mem_of_getElem? (i := 211) rfl) rfl
theorem mwL_37 : MwV RL RX5 37 yX5_text cX5_text 2 (some .int) 0 := ⟨⟨tw_538, tw_539, tw_540, tw_90, cw_X5_text⟩, by decide +kernel, by decide⟩
set_option maxRecDepth 100000 in
theorem tw_542 : Cond.methodLink RL 42 yX5_force ∈ TB := inT2 (List.mem_of_getElem? (i := 213) rfl) rfl
set_option maxRecDepth 100000 in
theorem tw_543 : Cond.instanceMethod yX5_force ∈ TB := inT2 (List.mem_of_getElem? (i := 214) rfl) rfl
set_option maxRecDepth 100000 in
theorem tw_544 : Cond.selects RX5 yX5_force yX5_force ∈ TB := inT2 (List.mem_of_getElem? (i := 215) rfl) rfl
theorem mwL_42 : MwV RL RX5 42 yX5_force cX5_force 3 (some .int) 1 := ⟨⟨tw_542, tw_543, tw_544, tw_90, cw_X5_force⟩, by decide +kernel, by decide⟩
set_option maxRecDepth 100000 in
theorem tw_546 : Cond.methodLink RL 46 yX5_day ∈ TB := inT2 (List.mem_of_getElem? (i := 217) rfl) rfl
set_option maxRecDepth 100000 in
theorem tw_547 : Cond.instanceMethod yX5_day ∈ TB := inT2 (List.mem_of_getElem? (i := 218) rfl) rfl
set_option maxRecDepth 100000 in
theorem tw_548 : Cond.selects RX5 yX5_day yX5_day ∈ TB := inT2 (List.mem_of_getElem? (i := 219) rfl) rfl
theorem mwL_46 : MwV RL RX5 46 yX5_day cX5_day 1 (some .int) 0 := ⟨⟨tw_546, tw_547, tw_548, tw_90, cw_X5_day⟩, by decide +kernel, by decide⟩
set_option maxRecDepth 100000 in
theorem tw_550 : Cond.methodLink RX5 127 yX1_passDay ∈ TB := inT2 (List.mem_of_getElem? (i := 221) rfl) rfl
set_option maxRecDepth 100000 in
theorem tw_551 : Cond.instanceMethod yX1_passDay ∈ TB := inT2 (List.mem_of_getElem? (i := 222) rfl) rfl
set_option maxRecDepth 100000 in
theorem tw_552 : Cond.selects RX1 yX1_passDay yX1_passDay ∈ TB := inT2 (List.mem_of_getElem? (i := 223) rfl) rfl
theorem mwX5_127 : MwV RX5 RX1 127 yX1_passDay cX1_passDay 6 none 2 := ⟨⟨tw_550, tw_551, tw_552, tw_92, cw_X1_passDay⟩, by decide +kernel, by decide⟩
set_option maxRecDepth 100000 in
theorem tw_554 : Cond.methodLink RX1 40 yX1_daysNeeded ∈ TB := inT2 (List.mem_of_getElem? (i := 225) rfl) rfl
theorem mwX1_40 : MwV RX1 RX1 40 yX1_daysNeeded cX1_daysNeeded 3 (some .int) 2 := ⟨⟨tw_554, tw_477, tw_478, tw_92, cw_X1_daysNeeded⟩, by decide +kernel, by decide⟩
set_option maxRecDepth 100000 in
theorem tw_555 : Cond.methodLink RX1 44 yX1_colourGiven ∈ TB := inT2 (List.mem_of_getElem? (i := 226) rfl) rfl
theorem mwX1_44 : MwV RX1 RX1 44 yX1_colourGiven cX1_colourGiven 4 (some .int) 2 := ⟨⟨tw_555, tw_514, tw_515, tw_92, cw_X1_colourGiven⟩, by decide +kernel, by decide⟩
set_option maxRecDepth 100000 in
theorem tw_556 : Cond.methodLink RX1 47 yX1_colourNext ∈ TB := inT2 (List.mem_of_getElem? (i := 227) rfl) rfl
theorem mwX1_47 : MwV RX1 RX1 47 yX1_colourNext cX1_colourNext 4 (some .int) 2 := ⟨⟨tw_556, tw_526, tw_527, tw_92, cw_X1_colourNext⟩, by decide +kernel, by decide⟩
set_option maxRecDepth 100000 in
theorem tw_557 : Cond.methodLink RX1 53 yX4_lay ∈ TB := inT2 (List.mem_of_getElem? (i := 228) rfl) rfl
set_option maxRecDepth 100000 in
theorem tw_558 : Cond.instanceMethod yX4_lay ∈ TB := inT2 (List.mem_of_getElem? (i := 229) rfl) rfl
set_option maxRecDepth 100000 in
theorem tw_559 : Cond.selects RX4 yX4_lay yX4_lay ∈ TB := inT2 (List.mem_of_getElem? (i := 230) rfl) rfl
theorem mwX1_53 : MwV RX1 RX4 53 yX4_lay cX4_lay 4 none 1 := ⟨⟨tw_557, tw_558, tw_559, tw_91, cw_X4_lay⟩, by decide +kernel, by decide⟩
set_option maxRecDepth 100000 in
theorem tw_561 : Cond.methodLink RX5 131 yX4_filledCells ∈ TB := inT2 (List.mem_of_getElem? (i := 232) rfl) rfl
set_option maxRecDepth 100000 in
theorem tw_562 : Cond.instanceMethod yX4_filledCells ∈ TB := inT2 (List.mem_of_getElem? (i := 233) rfl) rfl
set_option maxRecDepth 100000 in
theorem tw_563 : Cond.selects RX4 yX4_filledCells yX4_filledCells ∈ TB := inT2 (List.mem_of_getElem? (i := 234) rfl) rfl
theorem mwX5_131 : MwV RX5 RX4 131 yX4_filledCells cX4_filledCells 1 (some .int) 0 := ⟨⟨tw_561, tw_562, tw_563, tw_91, cw_X4_filledCells⟩, by decide +kernel, by decide⟩
set_option maxRecDepth 100000 in
theorem tw_565 : Cond.methodLink RX4 66 yJ13_bitCount_95d88 ∈ TB := inT2 (List.mem_of_getElem? (i := 236) rfl) rfl
theorem mwX4_66 : MwS RX4 66 yJ13_bitCount_95d88 cJ13_bitCount_95d88 2 (some .int) 1 := ⟨⟨tw_565, tw_489, tw_101, cw_J13_bitCount_95d88⟩, by decide +kernel, by decide⟩
set_option maxRecDepth 100000 in
theorem tw_566 : Cond.methodLink RL 50 yX5_run ∈ TB := inT2 (List.mem_of_getElem? (i := 237) rfl) rfl
set_option maxRecDepth 100000 in
theorem tw_567 : Cond.instanceMethod yX5_run ∈ TB := inT2 (List.mem_of_getElem? (i := 238) rfl) rfl
set_option maxRecDepth 100000 in
theorem tw_568 : Cond.selects RX5 yX5_run yX5_run ∈ TB := inT2 (List.mem_of_getElem? (i := 239) rfl) rfl
theorem mwL_50 : MwV RL RX5 50 yX5_run cX5_run 4 (some .int) 3 := ⟨⟨tw_566, tw_567, tw_568, tw_90, cw_X5_run⟩, by decide +kernel, by decide⟩
set_option maxRecDepth 100000 in
theorem tw_570 : Cond.methodLink RX5 137 yX5_think ∈ TB := inT3 (List.mem_of_getElem? (i := 1) rfl) rfl
set_option maxRecDepth 100000 in
theorem tw_572 : Cond.instanceMethod yX5_think ∈ TB := inT3 (List.mem_of_getElem? (i := 3) rfl) rfl
set_option maxRecDepth 100000 in
theorem tw_15 : Cond.selects RX5 yX5_think yX5_think ∈ TB := inT0 (List.mem_of_getElem? (i := 15) rfl) rfl
theorem mwX5_137 : MwV RX5 RX5 137 yX5_think cX5_think 1 none 0 := ⟨⟨tw_570, tw_572, tw_15, tw_90, cw_X5_think⟩, by decide +kernel, by decide⟩
set_option maxRecDepth 100000 in
theorem tw_574 : Cond.methodLink RX5 220 yX4_become ∈ TB := inT3 (List.mem_of_getElem? (i := 5) rfl) rfl
set_option maxRecDepth 100000 in
theorem tw_575 : Cond.instanceMethod yX4_become ∈ TB := inT3 (List.mem_of_getElem? (i := 6) rfl) rfl
set_option maxRecDepth 100000 in
theorem tw_576 : Cond.selects RX4 yX4_become yX4_become ∈ TB := inT3 (List.mem_of_getElem? (i := 7) rfl) rfl
theorem mwX5_220 : MwV RX5 RX4 220 yX4_become cX4_become 3 none 1 := ⟨⟨tw_574, tw_575, tw_576, tw_91, cw_X4_become⟩, by decide +kernel, by decide⟩
set_option maxRecDepth 100000 in
theorem tw_578 : Cond.methodLink RX5 140 yX5_passInThought ∈ TB := inT3 (List.mem_of_getElem? (i := 9) rfl) rfl
set_option maxRecDepth 100000 in
theorem tw_580 : Cond.instanceMethod yX5_passInThought ∈ TB := inT3 (List.mem_of_getElem? (i := 11) rfl) rfl
set_option maxRecDepth 100000 in
theorem tw_16 : Cond.selects RX5 yX5_passInThought yX5_passInThought ∈ TB := inT0 (List.mem_of_getElem? (i := 16) rfl) rfl
theorem mwX5_140 : MwV RX5 RX5 140 yX5_passInThought cX5_passInThought 3 none 1 := ⟨⟨tw_578, tw_580, tw_16, tw_90, cw_X5_passInThought⟩, by decide +kernel, by decide⟩
set_option maxRecDepth 100000 in
theorem tw_582 : Cond.methodLink RX5 144 yX4_squaresInBox ∈ TB := inT3 (List.mem_of_getElem? (i := 13) rfl) rfl
theorem mwX5_144 : MwV RX5 RX4 144 yX4_squaresInBox cX4_squaresInBox 3 (some .int) 0 := ⟨⟨tw_582, tw_495, tw_496, tw_91, cw_X4_squaresInBox⟩, by decide +kernel, by decide⟩
set_option maxRecDepth 100000 in
theorem tw_583 : Cond.methodLink RL 54 yX5_later ∈ TB := inT3 (List.mem_of_getElem? (i := 14) rfl) rfl
set_option maxRecDepth 100000 in
theorem tw_584 : Cond.instanceMethod yX5_later ∈ TB := inT3 (List.mem_of_getElem? (i := 15) rfl) rfl
set_option maxRecDepth 100000 in
theorem tw_585 : Cond.selects RX5 yX5_later yX5_later ∈ TB := inT3 (List.mem_of_getElem? (i := 16) rfl) rfl
theorem mwL_54 : MwV RL RX5 54 yX5_later cX5_later 2 (some .long) 1 := ⟨⟨tw_583, tw_584, tw_585, tw_90, cw_X5_later⟩, by decide +kernel, by decide⟩
set_option maxRecDepth 100000 in
theorem tw_587 : Cond.methodLink RL 58 yX5_ends ∈ TB := inT3 (List.mem_of_getElem? (i := 18) rfl) rfl
set_option maxRecDepth 100000 in
theorem tw_588 : Cond.instanceMethod yX5_ends ∈ TB := inT3 (List.mem_of_getElem? (i := 19) rfl) rfl
set_option maxRecDepth 100000 in
theorem tw_589 : Cond.selects RX5 yX5_ends yX5_ends ∈ TB := inT3 (List.mem_of_getElem? (i := 20) rfl) rfl
theorem mwL_58 : MwV RL RX5 58 yX5_ends cX5_ends 2 (some .int) 0 := ⟨⟨tw_587, tw_588, tw_589, tw_90, cw_X5_ends⟩, by decide +kernel, by decide⟩
set_option maxRecDepth 100000 in
theorem kcX5_156 : Cond.constantLong RX5 156 (-1 : Int64) ∈ TB := inT3 (List.mem_of_getElem? (i := 22) rfl) rfl
set_option maxRecDepth 100000 in
theorem tw_592 : Cond.methodLink RL 62 yX5_atWhat ∈ TB := inT3 (List.mem_of_getElem? (i := 23) rfl) rfl
set_option maxRecDepth 100000 in
theorem tw_593 : Cond.instanceMethod yX5_atWhat ∈ TB := inT3 (List.mem_of_getElem? (i := 24) rfl) rfl
set_option maxRecDepth 100000 in
theorem tw_594 : Cond.selects RX5 yX5_atWhat yX5_atWhat ∈ TB := inT3 (List.mem_of_getElem? (i := 25) rfl) rfl
theorem mwL_62 : MwV RL RX5 62 yX5_atWhat cX5_atWhat 8 (some .int) 3 := ⟨⟨tw_592, tw_593, tw_594, tw_90, cw_X5_atWhat⟩, by decide +kernel, by decide⟩
set_option maxRecDepth 100000 in
theorem tw_596 : Cond.methodLink RX5 158 yX5_filledBehind ∈ TB := inT3 (List.mem_of_getElem? (i := 27) rfl) rfl
set_option maxRecDepth 100000 in
theorem tw_598 : Cond.instanceMethod yX5_filledBehind ∈ TB := inT3 (List.mem_of_getElem? (i := 29) rfl) rfl
set_option maxRecDepth 100000 in
theorem tw_17 : Cond.selects RX5 yX5_filledBehind yX5_filledBehind ∈ TB := inT0 (List.mem_of_getElem? (i := 17) rfl) rfl
theorem mwX5_158 : MwV RX5 RX5 158 yX5_filledBehind cX5_filledBehind 4 (some .int) 2 := ⟨⟨tw_596, tw_598, tw_17, tw_90, cw_X5_filledBehind⟩, by decide +kernel, by decide⟩
set_option maxRecDepth 100000 in
theorem tw_600 : Cond.methodLink RL 66 yX5_want ∈ TB := inT3 (List.mem_of_getElem? (i := 31) rfl) rfl
set_option maxRecDepth 100000 in
theorem tw_601 : Cond.instanceMethod yX5_want ∈ TB := inT3 (List.mem_of_getElem? (i := 32) rfl) rfl
set_option maxRecDepth 100000 in
theorem tw_602 : Cond.selects RX5 yX5_want yX5_want ∈ TB := inT3 (List.mem_of_getElem? (i := 33) rfl) rfl
theorem mwL_66 : MwV RL RX5 66 yX5_want cX5_want 10 (some .int) 2 := ⟨⟨tw_600, tw_601, tw_602, tw_90, cw_X5_want⟩, by decide +kernel, by decide⟩
set_option maxRecDepth 100000 in
theorem tw_604 : Cond.methodLink RX5 161 yJ9_min_7cf53 ∈ TB := inT3 (List.mem_of_getElem? (i := 35) rfl) rfl
theorem mwX5_161 : MwS RX5 161 yJ9_min_7cf53 cJ9_min_7cf53 2 (some .int) 2 := ⟨⟨tw_604, tw_505, tw_102, cw_J9_min_7cf53⟩, by decide +kernel, by decide⟩
set_option maxRecDepth 100000 in
theorem tw_605 : Cond.methodLink RX5 166 yX4_isFilled ∈ TB := inT3 (List.mem_of_getElem? (i := 36) rfl) rfl
theorem mwX5_166 : MwV RX5 RX4 166 yX4_isFilled cX4_isFilled 2 (some .boolean) 1 := ⟨⟨tw_605, tw_452, tw_453, tw_91, cw_X4_isFilled⟩, by decide +kernel, by decide⟩
set_option maxRecDepth 100000 in
theorem tw_606 : Cond.methodLink RX5 170 yX4_wantOf ∈ TB := inT3 (List.mem_of_getElem? (i := 37) rfl) rfl
theorem mwX5_170 : MwV RX5 RX4 170 yX4_wantOf cX4_wantOf 2 (some .int) 1 := ⟨⟨tw_606, tw_444, tw_445, tw_91, cw_X4_wantOf⟩, by decide +kernel, by decide⟩
set_option maxRecDepth 100000 in
theorem tw_607 : Cond.methodLink RX5 173 yX4_wish ∈ TB := inT3 (List.mem_of_getElem? (i := 38) rfl) rfl
theorem mwX5_173 : MwV RX5 RX4 173 yX4_wish cX4_wish 4 none 2 := ⟨⟨tw_607, tw_460, tw_461, tw_91, cw_X4_wish⟩, by decide +kernel, by decide⟩
set_option maxRecDepth 100000 in
theorem tw_608 : Cond.methodLink RL 70 yX5_idle ∈ TB := inT3 (List.mem_of_getElem? (i := 39) rfl) rfl
set_option maxRecDepth 100000 in
theorem tw_609 : Cond.instanceMethod yX5_idle ∈ TB := inT3 (List.mem_of_getElem? (i := 40) rfl) rfl
set_option maxRecDepth 100000 in
theorem tw_610 : Cond.selects RX5 yX5_idle yX5_idle ∈ TB := inT3 (List.mem_of_getElem? (i := 41) rfl) rfl
theorem mwL_70 : MwV RL RX5 70 yX5_idle cX5_idle 4 (some .int) 1 := ⟨⟨tw_608, tw_609, tw_610, tw_90, cw_X5_idle⟩, by decide +kernel, by decide⟩
set_option maxRecDepth 100000 in
theorem tw_612 : Cond.methodLink RL 74 yX5_gap ∈ TB := inT3 (List.mem_of_getElem? (i := 43) rfl) rfl
set_option maxRecDepth 100000 in
theorem tw_613 : Cond.instanceMethod yX5_gap ∈ TB := inT3 (List.mem_of_getElem? (i := 44) rfl) rfl
set_option maxRecDepth 100000 in
theorem tw_614 : Cond.selects RX5 yX5_gap yX5_gap ∈ TB := inT3 (List.mem_of_getElem? (i := 45) rfl) rfl
theorem mwL_74 : MwV RL RX5 74 yX5_gap cX5_gap 2 (some .int) 1 := ⟨⟨tw_612, tw_613, tw_614, tw_90, cw_X5_gap⟩, by decide +kernel, by decide⟩
set_option maxRecDepth 100000 in
theorem tw_616 : Cond.methodLink RX5 177 yX4_longestGap ∈ TB := inT3 (List.mem_of_getElem? (i := 47) rfl) rfl
set_option maxRecDepth 100000 in
theorem tw_617 : Cond.instanceMethod yX4_longestGap ∈ TB := inT3 (List.mem_of_getElem? (i := 48) rfl) rfl
set_option maxRecDepth 100000 in
theorem tw_618 : Cond.selects RX4 yX4_longestGap yX4_longestGap ∈ TB := inT3 (List.mem_of_getElem? (i := 49) rfl) rfl
theorem mwX5_177 : MwV RX5 RX4 177 yX4_longestGap cX4_longestGap 6 (some .int) 1 := ⟨⟨tw_616, tw_617, tw_618, tw_91, cw_X4_longestGap⟩, by decide +kernel, by decide⟩
set_option maxRecDepth 100000 in
theorem tw_620 : Cond.methodLink RX5 181 yX4_fillableFromBox ∈ TB := inT3 (List.mem_of_getElem? (i := 51) rfl) rfl
set_option maxRecDepth 100000 in
theorem tw_621 : Cond.instanceMethod yX4_fillableFromBox ∈ TB := inT3 (List.mem_of_getElem? (i := 52) rfl) rfl
set_option maxRecDepth 100000 in
theorem tw_622 : Cond.selects RX4 yX4_fillableFromBox yX4_fillableFromBox ∈ TB := inT3 (List.mem_of_getElem? (i := 53) rfl) rfl
theorem mwX5_181 : MwV RX5 RX4 181 yX4_fillableFromBox cX4_fillableFromBox 3 (some .int) 0 := ⟨⟨tw_620, tw_621, tw_622, tw_91, cw_X4_fillableFromBox⟩, by decide +kernel, by decide⟩
set_option maxRecDepth 100000 in
theorem tw_624 : Cond.methodLink RX4 71 yJ9_min_7cf53 ∈ TB := inT3 (List.mem_of_getElem? (i := 55) rfl) rfl
theorem mwX4_71 : MwS RX4 71 yJ9_min_7cf53 cJ9_min_7cf53 2 (some .int) 2 := ⟨⟨tw_624, tw_505, tw_102, cw_J9_min_7cf53⟩, by decide +kernel, by decide⟩
set_option maxRecDepth 100000 in
theorem tw_625 : Cond.methodLink RX5 184 yX4_coloursUnwanted ∈ TB := inT3 (List.mem_of_getElem? (i := 56) rfl) rfl
set_option maxRecDepth 100000 in
theorem tw_626 : Cond.instanceMethod yX4_coloursUnwanted ∈ TB := inT3 (List.mem_of_getElem? (i := 57) rfl) rfl
set_option maxRecDepth 100000 in
theorem tw_627 : Cond.selects RX4 yX4_coloursUnwanted yX4_coloursUnwanted ∈ TB := inT3 (List.mem_of_getElem? (i := 58) rfl) rfl
theorem mwX5_184 : MwV RX5 RX4 184 yX4_coloursUnwanted cX4_coloursUnwanted 3 (some .int) 0 := ⟨⟨tw_625, tw_626, tw_627, tw_91, cw_X4_coloursUnwanted⟩, by decide +kernel, by decide⟩
set_option maxRecDepth 100000 in
theorem tw_629 : Cond.methodLink RL 78 yX5_share ∈ TB := inT3 (List.mem_of_getElem? (i := 60) rfl) rfl
set_option maxRecDepth 100000 in
theorem tw_630 : Cond.instanceMethod yX5_share ∈ TB := inT3 (List.mem_of_getElem? (i := 61) rfl) rfl
set_option maxRecDepth 100000 in
theorem tw_631 : Cond.selects RX5 yX5_share yX5_share ∈ TB := inT3 (List.mem_of_getElem? (i := 62) rfl) rfl
theorem mwL_78 : MwV RL RX5 78 yX5_share cX5_share 3 (some .long) 1 := ⟨⟨tw_629, tw_630, tw_631, tw_90, cw_X5_share⟩, by decide +kernel, by decide⟩
set_option maxRecDepth 100000 in
theorem tw_633 : Cond.methodLink RX5 187 yX4_squaresGiven ∈ TB := inT3 (List.mem_of_getElem? (i := 64) rfl) rfl
set_option maxRecDepth 100000 in
theorem tw_634 : Cond.instanceMethod yX4_squaresGiven ∈ TB := inT3 (List.mem_of_getElem? (i := 65) rfl) rfl
set_option maxRecDepth 100000 in
theorem tw_635 : Cond.selects RX4 yX4_squaresGiven yX4_squaresGiven ∈ TB := inT3 (List.mem_of_getElem? (i := 66) rfl) rfl
theorem mwX5_187 : MwV RX5 RX4 187 yX4_squaresGiven cX4_squaresGiven 3 (some .int) 0 := ⟨⟨tw_633, tw_634, tw_635, tw_91, cw_X4_squaresGiven⟩, by decide +kernel, by decide⟩
set_option maxRecDepth 100000 in
theorem tw_637 : Cond.methodLink RX5 190 yX5_lowest ∈ TB := inT3 (List.mem_of_getElem? (i := 68) rfl) rfl
set_option maxRecDepth 100000 in
theorem tw_638 : Cond.static yX5_lowest ∈ TB := inT3 (List.mem_of_getElem? (i := 69) rfl) rfl
theorem mwX5_190 : MwS RX5 190 yX5_lowest cX5_lowest 7 (some .long) 3 := ⟨⟨tw_637, tw_638, tw_90, cw_X5_lowest⟩, by decide +kernel, by decide⟩
set_option maxRecDepth 100000 in
theorem tw_640 : Cond.methodLink RL 82 yX5_tells ∈ TB := inT3 (List.mem_of_getElem? (i := 71) rfl) rfl
set_option maxRecDepth 100000 in
theorem tw_641 : Cond.instanceMethod yX5_tells ∈ TB := inT3 (List.mem_of_getElem? (i := 72) rfl) rfl
set_option maxRecDepth 100000 in
theorem tw_642 : Cond.selects RX5 yX5_tells yX5_tells ∈ TB := inT3 (List.mem_of_getElem? (i := 73) rfl) rfl
theorem mwL_82 : MwV RL RX5 82 yX5_tells cX5_tells 10 (some .int) 3 := ⟨⟨tw_640, tw_641, tw_642, tw_90, cw_X5_tells⟩, by decide +kernel, by decide⟩
set_option maxRecDepth 100000 in
theorem tw_644 : Cond.methodLink RX5 194 yX2_isMissing ∈ TB := inT3 (List.mem_of_getElem? (i := 75) rfl) rfl
set_option maxRecDepth 100000 in
theorem tw_645 : Cond.instanceMethod yX2_isMissing ∈ TB := inT3 (List.mem_of_getElem? (i := 76) rfl) rfl
set_option maxRecDepth 100000 in
theorem tw_646 : Cond.selects RX2 yX2_isMissing yX2_isMissing ∈ TB := inT3 (List.mem_of_getElem? (i := 77) rfl) rfl
set_option maxRecDepth 100000 in
theorem tw_95 : Cond.initialized RX2 ∈ TB := inT1 (List.mem_of_getElem? (i := 6) rfl) rfl
theorem mwX5_194 : MwV RX5 RX2 194 yX2_isMissing cX2_isMissing 1 (some .boolean) 0 := ⟨⟨tw_644, tw_645, tw_646, tw_95, cw_X2_isMissing⟩, by decide +kernel, by decide⟩
set_option maxRecDepth 100000 in
theorem tw_648 : Cond.methodLink RX5 201 yX5_firstOtherwise ∈ TB := inT3 (List.mem_of_getElem? (i := 79) rfl) rfl
set_option maxRecDepth 100000 in
theorem tw_650 : Cond.instanceMethod yX5_firstOtherwise ∈ TB := inT3 (List.mem_of_getElem? (i := 81) rfl) rfl
set_option maxRecDepth 100000 in
theorem tw_18 : Cond.selects RX5 yX5_firstOtherwise yX5_firstOtherwise ∈ TB := inT0 (List.mem_of_getElem? (i := 18) rfl) rfl
theorem mwX5_201 : MwV RX5 RX5 201 yX5_firstOtherwise cX5_firstOtherwise 3 (some .int) 1 := ⟨⟨tw_648, tw_650, tw_18, tw_90, cw_X5_firstOtherwise⟩, by decide +kernel, by decide⟩
set_option maxRecDepth 100000 in
theorem tw_652 : Cond.methodLink RX5 205 yX5_choicesOf ∈ TB := inT3 (List.mem_of_getElem? (i := 83) rfl) rfl
set_option maxRecDepth 100000 in
theorem tw_654 : Cond.instanceMethod yX5_choicesOf ∈ TB := inT3 (List.mem_of_getElem? (i := 85) rfl) rfl
set_option maxRecDepth 100000 in
theorem tw_19 : Cond.selects RX5 yX5_choicesOf yX5_choicesOf ∈ TB := inT0 (List.mem_of_getElem? (i := 19) rfl) rfl
theorem mwX5_205 : MwV RX5 RX5 205 yX5_choicesOf cX5_choicesOf 2 (some .int) 1 := ⟨⟨tw_652, tw_654, tw_19, tw_90, cw_X5_choicesOf⟩, by decide +kernel, by decide⟩
set_option maxRecDepth 100000 in
theorem tw_656 : Cond.methodLink RX5 208 yX5_suppose ∈ TB := inT3 (List.mem_of_getElem? (i := 87) rfl) rfl
set_option maxRecDepth 100000 in
theorem tw_658 : Cond.instanceMethod yX5_suppose ∈ TB := inT3 (List.mem_of_getElem? (i := 89) rfl) rfl
set_option maxRecDepth 100000 in
theorem tw_20 : Cond.selects RX5 yX5_suppose yX5_suppose ∈ TB := inT0 (List.mem_of_getElem? (i := 20) rfl) rfl
theorem mwX5_208 : MwV RX5 RX5 208 yX5_suppose cX5_suppose 4 none 3 := ⟨⟨tw_656, tw_658, tw_20, tw_90, cw_X5_suppose⟩, by decide +kernel, by decide⟩
set_option maxRecDepth 100000 in
theorem tw_660 : Cond.methodLink RL 86 yX5_film ∈ TB := inT3 (List.mem_of_getElem? (i := 91) rfl) rfl
set_option maxRecDepth 100000 in
theorem tw_661 : Cond.instanceMethod yX5_film ∈ TB := inT3 (List.mem_of_getElem? (i := 92) rfl) rfl
set_option maxRecDepth 100000 in
theorem tw_662 : Cond.selects RX5 yX5_film yX5_film ∈ TB := inT3 (List.mem_of_getElem? (i := 93) rfl) rfl
theorem mwL_86 : MwV RL RX5 86 yX5_film cX5_film 5 (some .int) 2 := ⟨⟨tw_660, tw_661, tw_662, tw_90, cw_X5_film⟩, by decide +kernel, by decide⟩
set_option maxRecDepth 100000 in
theorem tw_664 : Cond.methodLink RX5 211 yX2_become ∈ TB := inT3 (List.mem_of_getElem? (i := 95) rfl) rfl
set_option maxRecDepth 100000 in
theorem tw_665 : Cond.instanceMethod yX2_become ∈ TB := inT3 (List.mem_of_getElem? (i := 96) rfl) rfl
set_option maxRecDepth 100000 in
theorem tw_666 : Cond.selects RX2 yX2_become yX2_become ∈ TB := inT3 (List.mem_of_getElem? (i := 97) rfl) rfl
theorem mwX5_211 : MwV RX5 RX2 211 yX2_become cX2_become 4 none 2 := ⟨⟨tw_664, tw_665, tw_666, tw_95, cw_X2_become⟩, by decide +kernel, by decide⟩
set_option maxRecDepth 100000 in
theorem tw_668 : Cond.methodLink RX5 214 yX2_put ∈ TB := inT3 (List.mem_of_getElem? (i := 99) rfl) rfl
set_option maxRecDepth 100000 in
theorem tw_669 : Cond.instanceMethod yX2_put ∈ TB := inT3 (List.mem_of_getElem? (i := 100) rfl) rfl
set_option maxRecDepth 100000 in
theorem tw_670 : Cond.selects RX2 yX2_put yX2_put ∈ TB := inT3 (List.mem_of_getElem? (i := 101) rfl) rfl
theorem mwX5_214 : MwV RX5 RX2 214 yX2_put cX2_put 3 none 2 := ⟨⟨tw_668, tw_669, tw_670, tw_95, cw_X2_put⟩, by decide +kernel, by decide⟩
set_option maxRecDepth 100000 in
theorem tw_672 : Cond.methodLink RL 90 yX5_drawn ∈ TB := inT3 (List.mem_of_getElem? (i := 103) rfl) rfl
set_option maxRecDepth 100000 in
theorem tw_673 : Cond.instanceMethod yX5_drawn ∈ TB := inT3 (List.mem_of_getElem? (i := 104) rfl) rfl
set_option maxRecDepth 100000 in
theorem tw_674 : Cond.selects RX5 yX5_drawn yX5_drawn ∈ TB := inT3 (List.mem_of_getElem? (i := 105) rfl) rfl
theorem mwL_90 : MwV RL RX5 90 yX5_drawn cX5_drawn 3 (some .int) 2 := ⟨⟨tw_672, tw_673, tw_674, tw_90, cw_X5_drawn⟩, by decide +kernel, by decide⟩
set_option maxRecDepth 100000 in
theorem tw_676 : Cond.methodLink RX5 217 yX5_thinkDrawn ∈ TB := inT3 (List.mem_of_getElem? (i := 107) rfl) rfl
set_option maxRecDepth 100000 in
theorem tw_678 : Cond.instanceMethod yX5_thinkDrawn ∈ TB := inT3 (List.mem_of_getElem? (i := 109) rfl) rfl
set_option maxRecDepth 100000 in
theorem tw_21 : Cond.selects RX5 yX5_thinkDrawn yX5_thinkDrawn ∈ TB := inT0 (List.mem_of_getElem? (i := 21) rfl) rfl
theorem mwX5_217 : MwV RX5 RX5 217 yX5_thinkDrawn cX5_thinkDrawn 4 none 1 := ⟨⟨tw_676, tw_678, tw_21, tw_90, cw_X5_thinkDrawn⟩, by decide +kernel, by decide⟩
set_option maxRecDepth 100000 in
theorem kcX5_254 : Cond.constant RX5 254 (1103515245 : Int32) ∈ TB := inT3 (List.mem_of_getElem? (i := 111) rfl) rfl
set_option maxRecDepth 100000 in
theorem tw_681 : Cond.methodLink RL 94 yX5_chance ∈ TB := inT3 (List.mem_of_getElem? (i := 112) rfl) rfl
set_option maxRecDepth 100000 in
theorem tw_682 : Cond.instanceMethod yX5_chance ∈ TB := inT3 (List.mem_of_getElem? (i := 113) rfl) rfl
set_option maxRecDepth 100000 in
theorem tw_683 : Cond.selects RX5 yX5_chance yX5_chance ∈ TB := inT3 (List.mem_of_getElem? (i := 114) rfl) rfl
theorem mwL_94 : MwV RL RX5 94 yX5_chance cX5_chance 7 (some .long) 4 := ⟨⟨tw_681, tw_682, tw_683, tw_90, cw_X5_chance⟩, by decide +kernel, by decide⟩
set_option maxRecDepth 100000 in
theorem tw_685 : Cond.methodLink RL 99 yX5_image ∈ TB := inT3 (List.mem_of_getElem? (i := 116) rfl) rfl
set_option maxRecDepth 100000 in
theorem tw_686 : Cond.instanceMethod yX5_image ∈ TB := inT3 (List.mem_of_getElem? (i := 117) rfl) rfl
set_option maxRecDepth 100000 in
theorem tw_687 : Cond.selects RX5 yX5_image yX5_image ∈ TB := inT3 (List.mem_of_getElem? (i := 118) rfl) rfl
theorem mwL_99 : MwV RL RX5 99 yX5_image cX5_image 1 (some .int) 0 := ⟨⟨tw_685, tw_686, tw_687, tw_90, cw_X5_image⟩, by decide +kernel, by decide⟩
set_option maxRecDepth 100000 in
theorem tw_689 : Cond.methodLink RL 103 yX5_back ∈ TB := inT3 (List.mem_of_getElem? (i := 120) rfl) rfl
set_option maxRecDepth 100000 in
theorem tw_690 : Cond.instanceMethod yX5_back ∈ TB := inT3 (List.mem_of_getElem? (i := 121) rfl) rfl
set_option maxRecDepth 100000 in
theorem tw_691 : Cond.selects RX5 yX5_back yX5_back ∈ TB := inT3 (List.mem_of_getElem? (i := 122) rfl) rfl
theorem mwL_103 : MwV RL RX5 103 yX5_back cX5_back 1 (some .int) 0 := ⟨⟨tw_689, tw_690, tw_691, tw_90, cw_X5_back⟩, by decide +kernel, by decide⟩
set_option maxRecDepth 100000 in
theorem tw_693 : Cond.methodLink RL 107 yX5_count ∈ TB := inT3 (List.mem_of_getElem? (i := 124) rfl) rfl
set_option maxRecDepth 100000 in
theorem tw_694 : Cond.instanceMethod yX5_count ∈ TB := inT3 (List.mem_of_getElem? (i := 125) rfl) rfl
set_option maxRecDepth 100000 in
theorem tw_695 : Cond.selects RX5 yX5_count yX5_count ∈ TB := inT3 (List.mem_of_getElem? (i := 126) rfl) rfl
theorem mwL_107 : MwV RL RX5 107 yX5_count cX5_count 2 (some .int) 1 := ⟨⟨tw_693, tw_694, tw_695, tw_90, cw_X5_count⟩, by decide +kernel, by decide⟩
set_option maxRecDepth 100000 in
theorem tw_697 : Cond.methodLink RL 111 yX5_sheet ∈ TB := inT3 (List.mem_of_getElem? (i := 128) rfl) rfl
set_option maxRecDepth 100000 in
theorem tw_698 : Cond.instanceMethod yX5_sheet ∈ TB := inT3 (List.mem_of_getElem? (i := 129) rfl) rfl
set_option maxRecDepth 100000 in
theorem tw_699 : Cond.selects RX5 yX5_sheet yX5_sheet ∈ TB := inT3 (List.mem_of_getElem? (i := 130) rfl) rfl
theorem mwL_111 : MwV RL RX5 111 yX5_sheet cX5_sheet 4 (some .int) 3 := ⟨⟨tw_697, tw_698, tw_699, tw_90, cw_X5_sheet⟩, by decide +kernel, by decide⟩
set_option maxRecDepth 100000 in
theorem tw_701 : Cond.methodLink RL 115 yX5_cell ∈ TB := inT3 (List.mem_of_getElem? (i := 132) rfl) rfl
set_option maxRecDepth 100000 in
theorem tw_702 : Cond.instanceMethod yX5_cell ∈ TB := inT3 (List.mem_of_getElem? (i := 133) rfl) rfl
set_option maxRecDepth 100000 in
theorem tw_703 : Cond.selects RX5 yX5_cell yX5_cell ∈ TB := inT3 (List.mem_of_getElem? (i := 134) rfl) rfl
theorem mwL_115 : MwV RL RX5 115 yX5_cell cX5_cell 5 (some .int) 3 := ⟨⟨tw_701, tw_702, tw_703, tw_90, cw_X5_cell⟩, by decide +kernel, by decide⟩
set_option maxRecDepth 100000 in
theorem tw_705 : Cond.methodLink RL 119 yX5_copy ∈ TB := inT3 (List.mem_of_getElem? (i := 136) rfl) rfl
set_option maxRecDepth 100000 in
theorem tw_706 : Cond.instanceMethod yX5_copy ∈ TB := inT3 (List.mem_of_getElem? (i := 137) rfl) rfl
set_option maxRecDepth 100000 in
theorem tw_707 : Cond.selects RX5 yX5_copy yX5_copy ∈ TB := inT3 (List.mem_of_getElem? (i := 138) rfl) rfl
theorem mwL_119 : MwV RL RX5 119 yX5_copy cX5_copy 8 (some .int) 5 := ⟨⟨tw_705, tw_706, tw_707, tw_90, cw_X5_copy⟩, by decide +kernel, by decide⟩
set_option maxRecDepth 100000 in
theorem tw_709 : Cond.methodLink RX5 227 yX2_hasRow ∈ TB := inT3 (List.mem_of_getElem? (i := 140) rfl) rfl
set_option maxRecDepth 100000 in
theorem tw_710 : Cond.instanceMethod yX2_hasRow ∈ TB := inT3 (List.mem_of_getElem? (i := 141) rfl) rfl
set_option maxRecDepth 100000 in
theorem tw_711 : Cond.selects RX2 yX2_hasRow yX2_hasRow ∈ TB := inT3 (List.mem_of_getElem? (i := 142) rfl) rfl
theorem mwX5_227 : MwV RX5 RX2 227 yX2_hasRow cX2_hasRow 3 (some .boolean) 2 := ⟨⟨tw_709, tw_710, tw_711, tw_95, cw_X2_hasRow⟩, by decide +kernel, by decide⟩
set_option maxRecDepth 100000 in
theorem tw_716 : Cond.methodLink RL 124 yX5_exarchate ∈ TB := inT3 (List.mem_of_getElem? (i := 147) rfl) rfl
set_option maxRecDepth 100000 in
theorem tw_717 : Cond.instanceMethod yX5_exarchate ∈ TB := inT3 (List.mem_of_getElem? (i := 148) rfl) rfl
set_option maxRecDepth 100000 in
theorem tw_718 : Cond.selects RX5 yX5_exarchate yX5_exarchate ∈ TB := inT3 (List.mem_of_getElem? (i := 149) rfl) rfl
theorem mwL_124 : MwV RL RX5 124 yX5_exarchate cX5_exarchate 9 (some .int) 4 := ⟨⟨tw_716, tw_717, tw_718, tw_90, cw_X5_exarchate⟩, by decide +kernel, by decide⟩
set_option maxRecDepth 100000 in
theorem tw_720 : Cond.methodLink RX5 239 yX5_person ∈ TB := inT3 (List.mem_of_getElem? (i := 151) rfl) rfl
theorem mwX5_239 : MwV RX5 RX5 239 yX5_person cX5_person 4 (some .int) 3 := ⟨⟨tw_720, tw_465, tw_466, tw_90, cw_X5_person⟩, by decide +kernel, by decide⟩
set_option maxRecDepth 100000 in
theorem tw_721 : Cond.methodLink RL 129 yX5_taken ∈ TB := inT3 (List.mem_of_getElem? (i := 152) rfl) rfl
set_option maxRecDepth 100000 in
theorem tw_722 : Cond.instanceMethod yX5_taken ∈ TB := inT3 (List.mem_of_getElem? (i := 153) rfl) rfl
set_option maxRecDepth 100000 in
theorem tw_723 : Cond.selects RX5 yX5_taken yX5_taken ∈ TB := inT3 (List.mem_of_getElem? (i := 154) rfl) rfl
theorem mwL_129 : MwV RL RX5 129 yX5_taken cX5_taken 3 (some .int) 2 := ⟨⟨tw_721, tw_722, tw_723, tw_90, cw_X5_taken⟩, by decide +kernel, by decide⟩
set_option maxRecDepth 100000 in
theorem tw_725 : Cond.methodLink RX5 245 yX5_isUnder ∈ TB := inT3 (List.mem_of_getElem? (i := 156) rfl) rfl
set_option maxRecDepth 100000 in
theorem tw_726 : Cond.static yX5_isUnder ∈ TB := inT3 (List.mem_of_getElem? (i := 157) rfl) rfl
theorem mwX5_245 : MwS RX5 245 yX5_isUnder cX5_isUnder 4 (some .boolean) 2 := ⟨⟨tw_725, tw_726, tw_90, cw_X5_isUnder⟩, by decide +kernel, by decide⟩
set_option maxRecDepth 100000 in
theorem tw_736 : Cond.methodLink RX6 66 yX6_spell ∈ TB := inT3 (List.mem_of_getElem? (i := 167) rfl) rfl
set_option maxRecDepth 100000 in
theorem tw_738 : Cond.instanceMethod yX6_spell ∈ TB := inT3 (List.mem_of_getElem? (i := 169) rfl) rfl
set_option maxRecDepth 100000 in
theorem tw_22 : Cond.selects RX6 yX6_spell yX6_spell ∈ TB := inT0 (List.mem_of_getElem? (i := 22) rfl) rfl
set_option maxRecDepth 100000 in
theorem tw_100 : Cond.initialized RX6 ∈ TB := inT1 (List.mem_of_getElem? (i := 11) rfl) rfl
theorem mwX6_66 : MwV RX6 RX6 66 yX6_spell cX6_spell 10 none 9 := ⟨⟨tw_736, tw_738, tw_22, tw_100, cw_X6_spell⟩, by decide +kernel, by decide⟩
set_option maxRecDepth 100000 in
theorem tw_870 : Cond.methodLink RL 17 yX6_set ∈ TB := inT4 (List.mem_of_getElem? (i := 61) rfl) rfl
set_option maxRecDepth 100000 in
theorem tw_871 : Cond.instanceMethod yX6_set ∈ TB := inT4 (List.mem_of_getElem? (i := 62) rfl) rfl
set_option maxRecDepth 100000 in
theorem tw_872 : Cond.selects RX6 yX6_set yX6_set ∈ TB := inT4 (List.mem_of_getElem? (i := 63) rfl) rfl
theorem mwL_17 : MwV RL RX6 17 yX6_set cX6_set 5 (some .int) 3 := ⟨⟨tw_870, tw_871, tw_872, tw_100, cw_X6_set⟩, by decide +kernel, by decide⟩
set_option maxRecDepth 100000 in
theorem kcX6_88 : Cond.constantLong RX6 88 (7 : Int64) ∈ TB := inT4 (List.mem_of_getElem? (i := 65) rfl) rfl
set_option maxRecDepth 100000 in
theorem tw_875 : Cond.methodLink RX6 76 yX6_in ∈ TB := inT4 (List.mem_of_getElem? (i := 66) rfl) rfl
set_option maxRecDepth 100000 in
theorem tw_876 : Cond.static yX6_in ∈ TB := inT4 (List.mem_of_getElem? (i := 67) rfl) rfl
theorem mwX6_76 : MwS RX6 76 yX6_in cX6_in 6 (some .boolean) 3 := ⟨⟨tw_875, tw_876, tw_100, cw_X6_in⟩, by decide +kernel, by decide⟩
set_option maxRecDepth 100000 in
theorem tw_878 : Cond.methodLink RX6 90 yX6_isOf ∈ TB := inT4 (List.mem_of_getElem? (i := 69) rfl) rfl
set_option maxRecDepth 100000 in
theorem tw_880 : Cond.instanceMethod yX6_isOf ∈ TB := inT4 (List.mem_of_getElem? (i := 71) rfl) rfl
set_option maxRecDepth 100000 in
theorem tw_23 : Cond.selects RX6 yX6_isOf yX6_isOf ∈ TB := inT0 (List.mem_of_getElem? (i := 23) rfl) rfl
theorem mwX6_90 : MwV RX6 RX6 90 yX6_isOf cX6_isOf 3 (some .boolean) 2 := ⟨⟨tw_878, tw_880, tw_23, tw_100, cw_X6_isOf⟩, by decide +kernel, by decide⟩
set_option maxRecDepth 100000 in
theorem kcX6_80 : Cond.constantLong RX6 80 (63 : Int64) ∈ TB := inT4 (List.mem_of_getElem? (i := 73) rfl) rfl
set_option maxRecDepth 100000 in
theorem kcX6_82 : Cond.constantLong RX6 82 (3 : Int64) ∈ TB := inT4 (List.mem_of_getElem? (i := 74) rfl) rfl
set_option maxRecDepth 100000 in
theorem tw_884 : Cond.methodLink RX6 84 yX6_isOne ∈ TB := inT4 (List.mem_of_getElem? (i := 75) rfl) rfl
set_option maxRecDepth 100000 in
theorem tw_886 : Cond.instanceMethod yX6_isOne ∈ TB := inT4 (List.mem_of_getElem? (i := 77) rfl) rfl
set_option maxRecDepth 100000 in
theorem tw_24 : Cond.selects RX6 yX6_isOne yX6_isOne ∈ TB := inT0 (List.mem_of_getElem? (i := 24) rfl) rfl
theorem mwX6_84 : MwV RX6 RX6 84 yX6_isOne cX6_isOne 2 (some .boolean) 1 := ⟨⟨tw_884, tw_886, tw_24, tw_100, cw_X6_isOne⟩, by decide +kernel, by decide⟩
set_option maxRecDepth 100000 in
theorem tw_888 : Cond.methodLink RX6 94 yX6_mostOf ∈ TB := inT4 (List.mem_of_getElem? (i := 79) rfl) rfl
set_option maxRecDepth 100000 in
theorem tw_889 : Cond.static yX6_mostOf ∈ TB := inT4 (List.mem_of_getElem? (i := 80) rfl) rfl
theorem mwX6_94 : MwS RX6 94 yX6_mostOf cX6_mostOf 1 (some .int) 1 := ⟨⟨tw_888, tw_889, tw_100, cw_X6_mostOf⟩, by decide +kernel, by decide⟩
set_option maxRecDepth 100000 in
theorem tw_891 : Cond.methodLink RX6 98 yX6_told ∈ TB := inT4 (List.mem_of_getElem? (i := 82) rfl) rfl
set_option maxRecDepth 100000 in
theorem tw_892 : Cond.instanceMethod yX6_told ∈ TB := inT4 (List.mem_of_getElem? (i := 83) rfl) rfl
set_option maxRecDepth 100000 in
theorem tw_893 : Cond.selects RX6 yX6_told yX6_told ∈ TB := inT4 (List.mem_of_getElem? (i := 84) rfl) rfl
theorem mwX6_98 : MwV RX6 RX6 98 yX6_told cX6_told 3 (some .int) 2 := ⟨⟨tw_891, tw_892, tw_893, tw_100, cw_X6_told⟩, by decide +kernel, by decide⟩
set_option maxRecDepth 100000 in
theorem kcX6_122 : Cond.constantLong RX6 122 (11 : Int64) ∈ TB := inT4 (List.mem_of_getElem? (i := 86) rfl) rfl
set_option maxRecDepth 100000 in
theorem tw_896 : Cond.methodLink RX6 124 yX6_has ∈ TB := inT4 (List.mem_of_getElem? (i := 87) rfl) rfl
set_option maxRecDepth 100000 in
theorem tw_897 : Cond.static yX6_has ∈ TB := inT4 (List.mem_of_getElem? (i := 88) rfl) rfl
theorem mwX6_124 : MwS RX6 124 yX6_has cX6_has 3 (some .boolean) 2 := ⟨⟨tw_896, tw_897, tw_100, cw_X6_has⟩, by decide +kernel, by decide⟩
set_option maxRecDepth 100000 in
theorem tw_899 : Cond.methodLink RX6 128 yX6_needsOf ∈ TB := inT4 (List.mem_of_getElem? (i := 90) rfl) rfl
set_option maxRecDepth 100000 in
theorem tw_901 : Cond.instanceMethod yX6_needsOf ∈ TB := inT4 (List.mem_of_getElem? (i := 92) rfl) rfl
set_option maxRecDepth 100000 in
theorem tw_25 : Cond.selects RX6 yX6_needsOf yX6_needsOf ∈ TB := inT0 (List.mem_of_getElem? (i := 25) rfl) rfl
theorem mwX6_128 : MwV RX6 RX6 128 yX6_needsOf cX6_needsOf 4 (some .int) 1 := ⟨⟨tw_899, tw_901, tw_25, tw_100, cw_X6_needsOf⟩, by decide +kernel, by decide⟩
set_option maxRecDepth 100000 in
theorem tw_903 : Cond.methodLink RX6 356 yX6_boxAll ∈ TB := inT4 (List.mem_of_getElem? (i := 94) rfl) rfl
set_option maxRecDepth 100000 in
theorem tw_905 : Cond.instanceMethod yX6_boxAll ∈ TB := inT4 (List.mem_of_getElem? (i := 96) rfl) rfl
set_option maxRecDepth 100000 in
theorem tw_26 : Cond.selects RX6 yX6_boxAll yX6_boxAll ∈ TB := inT0 (List.mem_of_getElem? (i := 26) rfl) rfl
theorem mwX6_356 : MwV RX6 RX6 356 yX6_boxAll cX6_boxAll 1 (some .int) 0 := ⟨⟨tw_903, tw_905, tw_26, tw_100, cw_X6_boxAll⟩, by decide +kernel, by decide⟩
set_option maxRecDepth 100000 in
theorem tw_907 : Cond.methodLink RX6 363 yX6_says ∈ TB := inT4 (List.mem_of_getElem? (i := 98) rfl) rfl
set_option maxRecDepth 100000 in
theorem tw_909 : Cond.instanceMethod yX6_says ∈ TB := inT4 (List.mem_of_getElem? (i := 100) rfl) rfl
set_option maxRecDepth 100000 in
theorem tw_27 : Cond.selects RX6 yX6_says yX6_says ∈ TB := inT0 (List.mem_of_getElem? (i := 27) rfl) rfl
theorem mwX6_363 : MwV RX6 RX6 363 yX6_says cX6_says 3 (some .int) 2 := ⟨⟨tw_907, tw_909, tw_27, tw_100, cw_X6_says⟩, by decide +kernel, by decide⟩
set_option maxRecDepth 100000 in
theorem tw_911 : Cond.methodLink RX6 352 yX6_bitsOf ∈ TB := inT4 (List.mem_of_getElem? (i := 102) rfl) rfl
set_option maxRecDepth 100000 in
theorem tw_912 : Cond.static yX6_bitsOf ∈ TB := inT4 (List.mem_of_getElem? (i := 103) rfl) rfl
theorem mwX6_352 : MwS RX6 352 yX6_bitsOf cX6_bitsOf 5 (some .int) 1 := ⟨⟨tw_911, tw_912, tw_100, cw_X6_bitsOf⟩, by decide +kernel, by decide⟩
set_option maxRecDepth 100000 in
theorem tw_914 : Cond.methodLink RX6 349 yX6_read ∈ TB := inT4 (List.mem_of_getElem? (i := 105) rfl) rfl
set_option maxRecDepth 100000 in
theorem tw_916 : Cond.instanceMethod yX6_read ∈ TB := inT4 (List.mem_of_getElem? (i := 107) rfl) rfl
set_option maxRecDepth 100000 in
theorem tw_28 : Cond.selects RX6 yX6_read yX6_read ∈ TB := inT0 (List.mem_of_getElem? (i := 28) rfl) rfl
theorem mwX6_349 : MwV RX6 RX6 349 yX6_read cX6_read 6 (some .int) 2 := ⟨⟨tw_914, tw_916, tw_28, tw_100, cw_X6_read⟩, by decide +kernel, by decide⟩
set_option maxRecDepth 100000 in
theorem tw_918 : Cond.methodLink RX6 197 yX6_next ∈ TB := inT4 (List.mem_of_getElem? (i := 109) rfl) rfl
set_option maxRecDepth 100000 in
theorem tw_920 : Cond.instanceMethod yX6_next ∈ TB := inT4 (List.mem_of_getElem? (i := 111) rfl) rfl
set_option maxRecDepth 100000 in
theorem tw_29 : Cond.selects RX6 yX6_next yX6_next ∈ TB := inT0 (List.mem_of_getElem? (i := 29) rfl) rfl
theorem mwX6_197 : MwV RX6 RX6 197 yX6_next cX6_next 3 none 0 := ⟨⟨tw_918, tw_920, tw_29, tw_100, cw_X6_next⟩, by decide +kernel, by decide⟩
set_option maxRecDepth 100000 in
theorem tw_922 : Cond.methodLink RX6 159 yX6_byteAt ∈ TB := inT4 (List.mem_of_getElem? (i := 113) rfl) rfl
set_option maxRecDepth 100000 in
theorem tw_924 : Cond.instanceMethod yX6_byteAt ∈ TB := inT4 (List.mem_of_getElem? (i := 115) rfl) rfl
set_option maxRecDepth 100000 in
theorem tw_30 : Cond.selects RX6 yX6_byteAt yX6_byteAt ∈ TB := inT0 (List.mem_of_getElem? (i := 30) rfl) rfl
theorem mwX6_159 : MwV RX6 RX6 159 yX6_byteAt cX6_byteAt 2 (some .int) 1 := ⟨⟨tw_922, tw_924, tw_30, tw_100, cw_X6_byteAt⟩, by decide +kernel, by decide⟩
set_option maxRecDepth 100000 in
theorem kcX6_168 : Cond.constantLong RX6 168 (97 : Int64) ∈ TB := inT4 (List.mem_of_getElem? (i := 117) rfl) rfl
set_option maxRecDepth 100000 in
theorem kcX6_170 : Cond.constantLong RX6 170 (122 : Int64) ∈ TB := inT4 (List.mem_of_getElem? (i := 118) rfl) rfl
set_option maxRecDepth 100000 in
theorem kcX6_172 : Cond.constantLong RX6 172 (48 : Int64) ∈ TB := inT4 (List.mem_of_getElem? (i := 119) rfl) rfl
set_option maxRecDepth 100000 in
theorem kcX6_174 : Cond.constantLong RX6 174 (57 : Int64) ∈ TB := inT4 (List.mem_of_getElem? (i := 120) rfl) rfl
set_option maxRecDepth 100000 in
theorem kcX6_179 : Cond.constantLong RX6 179 (10 : Int64) ∈ TB := inT4 (List.mem_of_getElem? (i := 121) rfl) rfl
set_option maxRecDepth 100000 in
theorem tw_931 : Cond.methodLink RX6 200 yX6_isWord ∈ TB := inT4 (List.mem_of_getElem? (i := 122) rfl) rfl
set_option maxRecDepth 100000 in
theorem tw_933 : Cond.instanceMethod yX6_isWord ∈ TB := inT4 (List.mem_of_getElem? (i := 124) rfl) rfl
set_option maxRecDepth 100000 in
theorem tw_31 : Cond.selects RX6 yX6_isWord yX6_isWord ∈ TB := inT0 (List.mem_of_getElem? (i := 31) rfl) rfl
theorem mwX6_200 : MwV RX6 RX6 200 yX6_isWord cX6_isWord 9 (some .boolean) 8 := ⟨⟨tw_931, tw_933, tw_31, tw_100, cw_X6_isWord⟩, by decide +kernel, by decide⟩
set_option maxRecDepth 100000 in
theorem tw_935 : Cond.methodLink RX6 188 yX6_isLetter ∈ TB := inT4 (List.mem_of_getElem? (i := 126) rfl) rfl
set_option maxRecDepth 100000 in
theorem tw_937 : Cond.instanceMethod yX6_isLetter ∈ TB := inT4 (List.mem_of_getElem? (i := 128) rfl) rfl
set_option maxRecDepth 100000 in
theorem tw_32 : Cond.selects RX6 yX6_isLetter yX6_isLetter ∈ TB := inT0 (List.mem_of_getElem? (i := 32) rfl) rfl
theorem mwX6_188 : MwV RX6 RX6 188 yX6_isLetter cX6_isLetter 3 (some .boolean) 2 := ⟨⟨tw_935, tw_937, tw_32, tw_100, cw_X6_isLetter⟩, by decide +kernel, by decide⟩
set_option maxRecDepth 100000 in
theorem tw_939 : Cond.methodLink RX6 345 yX6_part ∈ TB := inT4 (List.mem_of_getElem? (i := 130) rfl) rfl
set_option maxRecDepth 100000 in
theorem tw_941 : Cond.instanceMethod yX6_part ∈ TB := inT4 (List.mem_of_getElem? (i := 132) rfl) rfl
set_option maxRecDepth 100000 in
theorem tw_33 : Cond.selects RX6 yX6_part yX6_part ∈ TB := inT0 (List.mem_of_getElem? (i := 33) rfl) rfl
theorem mwX6_345 : MwV RX6 RX6 345 yX6_part cX6_part 3 (some .int) 1 := ⟨⟨tw_939, tw_941, tw_33, tw_100, cw_X6_part⟩, by decide +kernel, by decide⟩
set_option maxRecDepth 100000 in
theorem tw_943 : Cond.methodLink RX6 194 yX6_fail ∈ TB := inT4 (List.mem_of_getElem? (i := 134) rfl) rfl
set_option maxRecDepth 100000 in
theorem tw_945 : Cond.instanceMethod yX6_fail ∈ TB := inT4 (List.mem_of_getElem? (i := 136) rfl) rfl
set_option maxRecDepth 100000 in
theorem tw_34 : Cond.selects RX6 yX6_fail yX6_fail ∈ TB := inT0 (List.mem_of_getElem? (i := 34) rfl) rfl
theorem mwX6_194 : MwV RX6 RX6 194 yX6_fail cX6_fail 1 none 0 := ⟨⟨tw_943, tw_945, tw_34, tw_100, cw_X6_fail⟩, by decide +kernel, by decide⟩
set_option maxRecDepth 100000 in
theorem tw_947 : Cond.methodLink RX6 342 yX6_either0 ∈ TB := inT4 (List.mem_of_getElem? (i := 138) rfl) rfl
set_option maxRecDepth 100000 in
theorem tw_949 : Cond.instanceMethod yX6_either0 ∈ TB := inT4 (List.mem_of_getElem? (i := 140) rfl) rfl
set_option maxRecDepth 100000 in
theorem tw_35 : Cond.selects RX6 yX6_either0 yX6_either0 ∈ TB := inT0 (List.mem_of_getElem? (i := 35) rfl) rfl
theorem mwX6_342 : MwV RX6 RX6 342 yX6_either0 cX6_either0 3 (some .int) 0 := ⟨⟨tw_947, tw_949, tw_35, tw_100, cw_X6_either0⟩, by decide +kernel, by decide⟩
set_option maxRecDepth 100000 in
theorem tw_951 : Cond.methodLink RX6 339 yX6_both0 ∈ TB := inT4 (List.mem_of_getElem? (i := 142) rfl) rfl
set_option maxRecDepth 100000 in
theorem tw_953 : Cond.instanceMethod yX6_both0 ∈ TB := inT4 (List.mem_of_getElem? (i := 144) rfl) rfl
set_option maxRecDepth 100000 in
theorem tw_36 : Cond.selects RX6 yX6_both0 yX6_both0 ∈ TB := inT0 (List.mem_of_getElem? (i := 36) rfl) rfl
theorem mwX6_339 : MwV RX6 RX6 339 yX6_both0 cX6_both0 3 (some .int) 0 := ⟨⟨tw_951, tw_953, tw_36, tw_100, cw_X6_both0⟩, by decide +kernel, by decide⟩
set_option maxRecDepth 100000 in
theorem tw_955 : Cond.methodLink RX6 336 yX6_not0 ∈ TB := inT4 (List.mem_of_getElem? (i := 146) rfl) rfl
set_option maxRecDepth 100000 in
theorem tw_957 : Cond.instanceMethod yX6_not0 ∈ TB := inT4 (List.mem_of_getElem? (i := 148) rfl) rfl
set_option maxRecDepth 100000 in
theorem tw_37 : Cond.selects RX6 yX6_not0 yX6_not0 ∈ TB := inT0 (List.mem_of_getElem? (i := 37) rfl) rfl
theorem mwX6_336 : MwV RX6 RX6 336 yX6_not0 cX6_not0 4 (some .int) 0 := ⟨⟨tw_955, tw_957, tw_37, tw_100, cw_X6_not0⟩, by decide +kernel, by decide⟩
set_option maxRecDepth 100000 in
theorem tw_959 : Cond.methodLink RX6 225 yX6_opens ∈ TB := inT4 (List.mem_of_getElem? (i := 150) rfl) rfl
set_option maxRecDepth 100000 in
theorem tw_961 : Cond.instanceMethod yX6_opens ∈ TB := inT4 (List.mem_of_getElem? (i := 152) rfl) rfl
set_option maxRecDepth 100000 in
theorem tw_38 : Cond.selects RX6 yX6_opens yX6_opens ∈ TB := inT0 (List.mem_of_getElem? (i := 38) rfl) rfl
theorem mwX6_225 : MwV RX6 RX6 225 yX6_opens cX6_opens 1 (some .boolean) 0 := ⟨⟨tw_959, tw_961, tw_38, tw_100, cw_X6_opens⟩, by decide +kernel, by decide⟩
set_option maxRecDepth 100000 in
theorem tw_963 : Cond.methodLink RX6 318 yX6_not1 ∈ TB := inT4 (List.mem_of_getElem? (i := 154) rfl) rfl
set_option maxRecDepth 100000 in
theorem tw_965 : Cond.instanceMethod yX6_not1 ∈ TB := inT4 (List.mem_of_getElem? (i := 156) rfl) rfl
set_option maxRecDepth 100000 in
theorem tw_39 : Cond.selects RX6 yX6_not1 yX6_not1 ∈ TB := inT0 (List.mem_of_getElem? (i := 39) rfl) rfl
theorem mwX6_318 : MwV RX6 RX6 318 yX6_not1 cX6_not1 4 (some .int) 0 := ⟨⟨tw_963, tw_965, tw_39, tw_100, cw_X6_not1⟩, by decide +kernel, by decide⟩
set_option maxRecDepth 100000 in
theorem tw_967 : Cond.methodLink RX6 300 yX6_not2 ∈ TB := inT4 (List.mem_of_getElem? (i := 158) rfl) rfl
set_option maxRecDepth 100000 in
theorem tw_969 : Cond.instanceMethod yX6_not2 ∈ TB := inT4 (List.mem_of_getElem? (i := 160) rfl) rfl
set_option maxRecDepth 100000 in
theorem tw_40 : Cond.selects RX6 yX6_not2 yX6_not2 ∈ TB := inT0 (List.mem_of_getElem? (i := 40) rfl) rfl
theorem mwX6_300 : MwV RX6 RX6 300 yX6_not2 cX6_not2 4 (some .int) 0 := ⟨⟨tw_967, tw_969, tw_40, tw_100, cw_X6_not2⟩, by decide +kernel, by decide⟩
set_option maxRecDepth 100000 in
theorem tw_971 : Cond.methodLink RX6 282 yX6_not3 ∈ TB := inT4 (List.mem_of_getElem? (i := 162) rfl) rfl
set_option maxRecDepth 100000 in
theorem tw_973 : Cond.instanceMethod yX6_not3 ∈ TB := inT4 (List.mem_of_getElem? (i := 164) rfl) rfl
set_option maxRecDepth 100000 in
theorem tw_41 : Cond.selects RX6 yX6_not3 yX6_not3 ∈ TB := inT0 (List.mem_of_getElem? (i := 41) rfl) rfl
theorem mwX6_282 : MwV RX6 RX6 282 yX6_not3 cX6_not3 4 (some .int) 0 := ⟨⟨tw_971, tw_973, tw_41, tw_100, cw_X6_not3⟩, by decide +kernel, by decide⟩
set_option maxRecDepth 100000 in
theorem tw_975 : Cond.methodLink RX6 264 yX6_not4 ∈ TB := inT4 (List.mem_of_getElem? (i := 166) rfl) rfl
set_option maxRecDepth 100000 in
theorem tw_977 : Cond.instanceMethod yX6_not4 ∈ TB := inT4 (List.mem_of_getElem? (i := 168) rfl) rfl
set_option maxRecDepth 100000 in
theorem tw_42 : Cond.selects RX6 yX6_not4 yX6_not4 ∈ TB := inT0 (List.mem_of_getElem? (i := 42) rfl) rfl
theorem mwX6_264 : MwV RX6 RX6 264 yX6_not4 cX6_not4 4 (some .int) 0 := ⟨⟨tw_975, tw_977, tw_42, tw_100, cw_X6_not4⟩, by decide +kernel, by decide⟩
set_option maxRecDepth 100000 in
theorem tw_979 : Cond.methodLink RX6 246 yX6_not5 ∈ TB := inT4 (List.mem_of_getElem? (i := 170) rfl) rfl
set_option maxRecDepth 100000 in
theorem tw_981 : Cond.instanceMethod yX6_not5 ∈ TB := inT4 (List.mem_of_getElem? (i := 172) rfl) rfl
set_option maxRecDepth 100000 in
theorem tw_43 : Cond.selects RX6 yX6_not5 yX6_not5 ∈ TB := inT0 (List.mem_of_getElem? (i := 43) rfl) rfl
theorem mwX6_246 : MwV RX6 RX6 246 yX6_not5 cX6_not5 4 (some .int) 0 := ⟨⟨tw_979, tw_981, tw_43, tw_100, cw_X6_not5⟩, by decide +kernel, by decide⟩
set_option maxRecDepth 100000 in
theorem tw_983 : Cond.methodLink RX6 241 yX6_added5 ∈ TB := inT4 (List.mem_of_getElem? (i := 174) rfl) rfl
set_option maxRecDepth 100000 in
theorem tw_985 : Cond.instanceMethod yX6_added5 ∈ TB := inT4 (List.mem_of_getElem? (i := 176) rfl) rfl
set_option maxRecDepth 100000 in
theorem tw_44 : Cond.selects RX6 yX6_added5 yX6_added5 ∈ TB := inT0 (List.mem_of_getElem? (i := 44) rfl) rfl
theorem mwX6_241 : MwV RX6 RX6 241 yX6_added5 cX6_added5 4 (some .int) 0 := ⟨⟨tw_983, tw_985, tw_44, tw_100, cw_X6_added5⟩, by decide +kernel, by decide⟩
set_option maxRecDepth 100000 in
theorem tw_987 : Cond.methodLink RX6 236 yX6_term5 ∈ TB := inT4 (List.mem_of_getElem? (i := 178) rfl) rfl
set_option maxRecDepth 100000 in
theorem tw_989 : Cond.instanceMethod yX6_term5 ∈ TB := inT4 (List.mem_of_getElem? (i := 180) rfl) rfl
set_option maxRecDepth 100000 in
theorem tw_45 : Cond.selects RX6 yX6_term5 yX6_term5 ∈ TB := inT0 (List.mem_of_getElem? (i := 45) rfl) rfl
theorem mwX6_236 : MwV RX6 RX6 236 yX6_term5 cX6_term5 2 (some .int) 0 := ⟨⟨tw_987, tw_989, tw_45, tw_100, cw_X6_term5⟩, by decide +kernel, by decide⟩
set_option maxRecDepth 100000 in
theorem tw_991 : Cond.methodLink RX6 233 yX6_atom5 ∈ TB := inT4 (List.mem_of_getElem? (i := 182) rfl) rfl
set_option maxRecDepth 100000 in
theorem tw_993 : Cond.instanceMethod yX6_atom5 ∈ TB := inT4 (List.mem_of_getElem? (i := 184) rfl) rfl
set_option maxRecDepth 100000 in
theorem tw_46 : Cond.selects RX6 yX6_atom5 yX6_atom5 ∈ TB := inT0 (List.mem_of_getElem? (i := 46) rfl) rfl
theorem mwX6_233 : MwV RX6 RX6 233 yX6_atom5 cX6_atom5 2 (some .int) 0 := ⟨⟨tw_991, tw_993, tw_46, tw_100, cw_X6_atom5⟩, by decide +kernel, by decide⟩
set_option maxRecDepth 100000 in
theorem tw_995 : Cond.methodLink RX6 222 yX6_isSign ∈ TB := inT4 (List.mem_of_getElem? (i := 186) rfl) rfl
set_option maxRecDepth 100000 in
theorem tw_997 : Cond.instanceMethod yX6_isSign ∈ TB := inT4 (List.mem_of_getElem? (i := 188) rfl) rfl
set_option maxRecDepth 100000 in
theorem tw_47 : Cond.selects RX6 yX6_isSign yX6_isSign ∈ TB := inT0 (List.mem_of_getElem? (i := 47) rfl) rfl
theorem mwX6_222 : MwV RX6 RX6 222 yX6_isSign cX6_isSign 2 (some .boolean) 1 := ⟨⟨tw_995, tw_997, tw_47, tw_100, cw_X6_isSign⟩, by decide +kernel, by decide⟩
set_option maxRecDepth 100000 in
theorem tw_999 : Cond.methodLink RX6 229 yX6_name ∈ TB := inT4 (List.mem_of_getElem? (i := 190) rfl) rfl
set_option maxRecDepth 100000 in
theorem tw_1001 : Cond.instanceMethod yX6_name ∈ TB := inT4 (List.mem_of_getElem? (i := 192) rfl) rfl
set_option maxRecDepth 100000 in
theorem tw_48 : Cond.selects RX6 yX6_name yX6_name ∈ TB := inT0 (List.mem_of_getElem? (i := 48) rfl) rfl
theorem mwX6_229 : MwV RX6 RX6 229 yX6_name cX6_name 1 (some .int) 0 := ⟨⟨tw_999, tw_1001, tw_48, tw_100, cw_X6_name⟩, by decide +kernel, by decide⟩
set_option maxRecDepth 100000 in
theorem kcX6_239 : Cond.constantLong RX6 239 (43 : Int64) ∈ TB := inT4 (List.mem_of_getElem? (i := 194) rfl) rfl
set_option maxRecDepth 100000 in
theorem kcX6_244 : Cond.constantLong RX6 244 (60 : Int64) ∈ TB := inT4 (List.mem_of_getElem? (i := 195) rfl) rfl
set_option maxRecDepth 100000 in
theorem tw_1005 : Cond.methodLink RX6 261 yX6_added4 ∈ TB := inT4 (List.mem_of_getElem? (i := 196) rfl) rfl
set_option maxRecDepth 100000 in
theorem tw_1007 : Cond.instanceMethod yX6_added4 ∈ TB := inT4 (List.mem_of_getElem? (i := 198) rfl) rfl
set_option maxRecDepth 100000 in
theorem tw_49 : Cond.selects RX6 yX6_added4 yX6_added4 ∈ TB := inT0 (List.mem_of_getElem? (i := 49) rfl) rfl
theorem mwX6_261 : MwV RX6 RX6 261 yX6_added4 cX6_added4 4 (some .int) 0 := ⟨⟨tw_1005, tw_1007, tw_49, tw_100, cw_X6_added4⟩, by decide +kernel, by decide⟩
set_option maxRecDepth 100000 in
theorem tw_1009 : Cond.methodLink RX6 258 yX6_term4 ∈ TB := inT4 (List.mem_of_getElem? (i := 200) rfl) rfl
set_option maxRecDepth 100000 in
theorem tw_1011 : Cond.instanceMethod yX6_term4 ∈ TB := inT4 (List.mem_of_getElem? (i := 202) rfl) rfl
set_option maxRecDepth 100000 in
theorem tw_50 : Cond.selects RX6 yX6_term4 yX6_term4 ∈ TB := inT0 (List.mem_of_getElem? (i := 50) rfl) rfl
theorem mwX6_258 : MwV RX6 RX6 258 yX6_term4 cX6_term4 2 (some .int) 0 := ⟨⟨tw_1009, tw_1011, tw_50, tw_100, cw_X6_term4⟩, by decide +kernel, by decide⟩
set_option maxRecDepth 100000 in
theorem tw_1013 : Cond.methodLink RX6 255 yX6_atom4 ∈ TB := inT4 (List.mem_of_getElem? (i := 204) rfl) rfl
set_option maxRecDepth 100000 in
theorem tw_1015 : Cond.instanceMethod yX6_atom4 ∈ TB := inT4 (List.mem_of_getElem? (i := 206) rfl) rfl
set_option maxRecDepth 100000 in
theorem tw_51 : Cond.selects RX6 yX6_atom4 yX6_atom4 ∈ TB := inT0 (List.mem_of_getElem? (i := 51) rfl) rfl
theorem mwX6_255 : MwV RX6 RX6 255 yX6_atom4 cX6_atom4 2 (some .int) 0 := ⟨⟨tw_1013, tw_1015, tw_51, tw_100, cw_X6_atom4⟩, by decide +kernel, by decide⟩
set_option maxRecDepth 100000 in
theorem tw_1017 : Cond.methodLink RX6 252 yX6_either5 ∈ TB := inT4 (List.mem_of_getElem? (i := 208) rfl) rfl
set_option maxRecDepth 100000 in
theorem tw_1019 : Cond.instanceMethod yX6_either5 ∈ TB := inT4 (List.mem_of_getElem? (i := 210) rfl) rfl
set_option maxRecDepth 100000 in
theorem tw_52 : Cond.selects RX6 yX6_either5 yX6_either5 ∈ TB := inT0 (List.mem_of_getElem? (i := 52) rfl) rfl
theorem mwX6_252 : MwV RX6 RX6 252 yX6_either5 cX6_either5 3 (some .int) 0 := ⟨⟨tw_1017, tw_1019, tw_52, tw_100, cw_X6_either5⟩, by decide +kernel, by decide⟩
set_option maxRecDepth 100000 in
theorem tw_1021 : Cond.methodLink RX6 249 yX6_both5 ∈ TB := inT4 (List.mem_of_getElem? (i := 212) rfl) rfl
set_option maxRecDepth 100000 in
theorem tw_1023 : Cond.instanceMethod yX6_both5 ∈ TB := inT4 (List.mem_of_getElem? (i := 214) rfl) rfl
set_option maxRecDepth 100000 in
theorem tw_53 : Cond.selects RX6 yX6_both5 yX6_both5 ∈ TB := inT0 (List.mem_of_getElem? (i := 53) rfl) rfl
theorem mwX6_249 : MwV RX6 RX6 249 yX6_both5 cX6_both5 3 (some .int) 0 := ⟨⟨tw_1021, tw_1023, tw_53, tw_100, cw_X6_both5⟩, by decide +kernel, by decide⟩
set_option maxRecDepth 100000 in
theorem tw_1025 : Cond.methodLink RX6 279 yX6_added3 ∈ TB := inT4 (List.mem_of_getElem? (i := 216) rfl) rfl
set_option maxRecDepth 100000 in
theorem tw_1027 : Cond.instanceMethod yX6_added3 ∈ TB := inT4 (List.mem_of_getElem? (i := 218) rfl) rfl
set_option maxRecDepth 100000 in
theorem tw_54 : Cond.selects RX6 yX6_added3 yX6_added3 ∈ TB := inT0 (List.mem_of_getElem? (i := 54) rfl) rfl
theorem mwX6_279 : MwV RX6 RX6 279 yX6_added3 cX6_added3 4 (some .int) 0 := ⟨⟨tw_1025, tw_1027, tw_54, tw_100, cw_X6_added3⟩, by decide +kernel, by decide⟩
set_option maxRecDepth 100000 in
theorem tw_1029 : Cond.methodLink RX6 276 yX6_term3 ∈ TB := inT4 (List.mem_of_getElem? (i := 220) rfl) rfl
set_option maxRecDepth 100000 in
theorem tw_1031 : Cond.instanceMethod yX6_term3 ∈ TB := inT4 (List.mem_of_getElem? (i := 222) rfl) rfl
set_option maxRecDepth 100000 in
theorem tw_55 : Cond.selects RX6 yX6_term3 yX6_term3 ∈ TB := inT0 (List.mem_of_getElem? (i := 55) rfl) rfl
theorem mwX6_276 : MwV RX6 RX6 276 yX6_term3 cX6_term3 2 (some .int) 0 := ⟨⟨tw_1029, tw_1031, tw_55, tw_100, cw_X6_term3⟩, by decide +kernel, by decide⟩
set_option maxRecDepth 100000 in
theorem tw_1033 : Cond.methodLink RX6 273 yX6_atom3 ∈ TB := inT4 (List.mem_of_getElem? (i := 224) rfl) rfl
set_option maxRecDepth 100000 in
theorem tw_1035 : Cond.instanceMethod yX6_atom3 ∈ TB := inT4 (List.mem_of_getElem? (i := 226) rfl) rfl
set_option maxRecDepth 100000 in
theorem tw_56 : Cond.selects RX6 yX6_atom3 yX6_atom3 ∈ TB := inT0 (List.mem_of_getElem? (i := 56) rfl) rfl
theorem mwX6_273 : MwV RX6 RX6 273 yX6_atom3 cX6_atom3 2 (some .int) 0 := ⟨⟨tw_1033, tw_1035, tw_56, tw_100, cw_X6_atom3⟩, by decide +kernel, by decide⟩
set_option maxRecDepth 100000 in
theorem tw_1037 : Cond.methodLink RX6 270 yX6_either4 ∈ TB := inT4 (List.mem_of_getElem? (i := 228) rfl) rfl
set_option maxRecDepth 100000 in
theorem tw_1039 : Cond.instanceMethod yX6_either4 ∈ TB := inT4 (List.mem_of_getElem? (i := 230) rfl) rfl
set_option maxRecDepth 100000 in
theorem tw_57 : Cond.selects RX6 yX6_either4 yX6_either4 ∈ TB := inT0 (List.mem_of_getElem? (i := 57) rfl) rfl
theorem mwX6_270 : MwV RX6 RX6 270 yX6_either4 cX6_either4 3 (some .int) 0 := ⟨⟨tw_1037, tw_1039, tw_57, tw_100, cw_X6_either4⟩, by decide +kernel, by decide⟩
set_option maxRecDepth 100000 in
theorem tw_1041 : Cond.methodLink RX6 267 yX6_both4 ∈ TB := inT4 (List.mem_of_getElem? (i := 232) rfl) rfl
set_option maxRecDepth 100000 in
theorem tw_1043 : Cond.instanceMethod yX6_both4 ∈ TB := inT4 (List.mem_of_getElem? (i := 234) rfl) rfl
set_option maxRecDepth 100000 in
theorem tw_58 : Cond.selects RX6 yX6_both4 yX6_both4 ∈ TB := inT0 (List.mem_of_getElem? (i := 58) rfl) rfl
theorem mwX6_267 : MwV RX6 RX6 267 yX6_both4 cX6_both4 3 (some .int) 0 := ⟨⟨tw_1041, tw_1043, tw_58, tw_100, cw_X6_both4⟩, by decide +kernel, by decide⟩
set_option maxRecDepth 100000 in
theorem tw_1045 : Cond.methodLink RX6 297 yX6_added2 ∈ TB := inT4 (List.mem_of_getElem? (i := 236) rfl) rfl
set_option maxRecDepth 100000 in
theorem tw_1047 : Cond.instanceMethod yX6_added2 ∈ TB := inT4 (List.mem_of_getElem? (i := 238) rfl) rfl
set_option maxRecDepth 100000 in
theorem tw_59 : Cond.selects RX6 yX6_added2 yX6_added2 ∈ TB := inT0 (List.mem_of_getElem? (i := 59) rfl) rfl
theorem mwX6_297 : MwV RX6 RX6 297 yX6_added2 cX6_added2 4 (some .int) 0 := ⟨⟨tw_1045, tw_1047, tw_59, tw_100, cw_X6_added2⟩, by decide +kernel, by decide⟩
set_option maxRecDepth 100000 in
theorem tw_1049 : Cond.methodLink RX6 294 yX6_term2 ∈ TB := inT5 (List.mem_of_getElem? (i := 0) rfl) rfl
set_option maxRecDepth 100000 in
theorem tw_1051 : Cond.instanceMethod yX6_term2 ∈ TB := inT5 (List.mem_of_getElem? (i := 2) rfl) rfl
set_option maxRecDepth 100000 in
theorem tw_60 : Cond.selects RX6 yX6_term2 yX6_term2 ∈ TB := inT0 (List.mem_of_getElem? (i := 60) rfl) rfl
theorem mwX6_294 : MwV RX6 RX6 294 yX6_term2 cX6_term2 2 (some .int) 0 := ⟨⟨tw_1049, tw_1051, tw_60, tw_100, cw_X6_term2⟩, by decide +kernel, by decide⟩
set_option maxRecDepth 100000 in
theorem tw_1053 : Cond.methodLink RX6 291 yX6_atom2 ∈ TB := inT5 (List.mem_of_getElem? (i := 4) rfl) rfl
set_option maxRecDepth 100000 in
theorem tw_1055 : Cond.instanceMethod yX6_atom2 ∈ TB := inT5 (List.mem_of_getElem? (i := 6) rfl) rfl
set_option maxRecDepth 100000 in
theorem tw_61 : Cond.selects RX6 yX6_atom2 yX6_atom2 ∈ TB := inT0 (List.mem_of_getElem? (i := 61) rfl) rfl
theorem mwX6_291 : MwV RX6 RX6 291 yX6_atom2 cX6_atom2 2 (some .int) 0 := ⟨⟨tw_1053, tw_1055, tw_61, tw_100, cw_X6_atom2⟩, by decide +kernel, by decide⟩
set_option maxRecDepth 100000 in
theorem tw_1057 : Cond.methodLink RX6 288 yX6_either3 ∈ TB := inT5 (List.mem_of_getElem? (i := 8) rfl) rfl
set_option maxRecDepth 100000 in
theorem tw_1059 : Cond.instanceMethod yX6_either3 ∈ TB := inT5 (List.mem_of_getElem? (i := 10) rfl) rfl
set_option maxRecDepth 100000 in
theorem tw_62 : Cond.selects RX6 yX6_either3 yX6_either3 ∈ TB := inT0 (List.mem_of_getElem? (i := 62) rfl) rfl
theorem mwX6_288 : MwV RX6 RX6 288 yX6_either3 cX6_either3 3 (some .int) 0 := ⟨⟨tw_1057, tw_1059, tw_62, tw_100, cw_X6_either3⟩, by decide +kernel, by decide⟩
set_option maxRecDepth 100000 in
theorem tw_1061 : Cond.methodLink RX6 285 yX6_both3 ∈ TB := inT5 (List.mem_of_getElem? (i := 12) rfl) rfl
set_option maxRecDepth 100000 in
theorem tw_1063 : Cond.instanceMethod yX6_both3 ∈ TB := inT5 (List.mem_of_getElem? (i := 14) rfl) rfl
set_option maxRecDepth 100000 in
theorem tw_63 : Cond.selects RX6 yX6_both3 yX6_both3 ∈ TB := inT0 (List.mem_of_getElem? (i := 63) rfl) rfl
theorem mwX6_285 : MwV RX6 RX6 285 yX6_both3 cX6_both3 3 (some .int) 0 := ⟨⟨tw_1061, tw_1063, tw_63, tw_100, cw_X6_both3⟩, by decide +kernel, by decide⟩
set_option maxRecDepth 100000 in
theorem tw_1065 : Cond.methodLink RX6 315 yX6_added1 ∈ TB := inT5 (List.mem_of_getElem? (i := 16) rfl) rfl
set_option maxRecDepth 100000 in
theorem tw_1067 : Cond.instanceMethod yX6_added1 ∈ TB := inT5 (List.mem_of_getElem? (i := 18) rfl) rfl
set_option maxRecDepth 100000 in
theorem tw_64 : Cond.selects RX6 yX6_added1 yX6_added1 ∈ TB := inT0 (List.mem_of_getElem? (i := 64) rfl) rfl
theorem mwX6_315 : MwV RX6 RX6 315 yX6_added1 cX6_added1 4 (some .int) 0 := ⟨⟨tw_1065, tw_1067, tw_64, tw_100, cw_X6_added1⟩, by decide +kernel, by decide⟩
set_option maxRecDepth 100000 in
theorem tw_1069 : Cond.methodLink RX6 312 yX6_term1 ∈ TB := inT5 (List.mem_of_getElem? (i := 20) rfl) rfl
set_option maxRecDepth 100000 in
theorem tw_1071 : Cond.instanceMethod yX6_term1 ∈ TB := inT5 (List.mem_of_getElem? (i := 22) rfl) rfl
set_option maxRecDepth 100000 in
theorem tw_65 : Cond.selects RX6 yX6_term1 yX6_term1 ∈ TB := inT0 (List.mem_of_getElem? (i := 65) rfl) rfl
theorem mwX6_312 : MwV RX6 RX6 312 yX6_term1 cX6_term1 2 (some .int) 0 := ⟨⟨tw_1069, tw_1071, tw_65, tw_100, cw_X6_term1⟩, by decide +kernel, by decide⟩
set_option maxRecDepth 100000 in
theorem tw_1073 : Cond.methodLink RX6 309 yX6_atom1 ∈ TB := inT5 (List.mem_of_getElem? (i := 24) rfl) rfl
set_option maxRecDepth 100000 in
theorem tw_1075 : Cond.instanceMethod yX6_atom1 ∈ TB := inT5 (List.mem_of_getElem? (i := 26) rfl) rfl
set_option maxRecDepth 100000 in
theorem tw_66 : Cond.selects RX6 yX6_atom1 yX6_atom1 ∈ TB := inT0 (List.mem_of_getElem? (i := 66) rfl) rfl
theorem mwX6_309 : MwV RX6 RX6 309 yX6_atom1 cX6_atom1 2 (some .int) 0 := ⟨⟨tw_1073, tw_1075, tw_66, tw_100, cw_X6_atom1⟩, by decide +kernel, by decide⟩
set_option maxRecDepth 100000 in
theorem tw_1077 : Cond.methodLink RX6 306 yX6_either2 ∈ TB := inT5 (List.mem_of_getElem? (i := 28) rfl) rfl
set_option maxRecDepth 100000 in
theorem tw_1079 : Cond.instanceMethod yX6_either2 ∈ TB := inT5 (List.mem_of_getElem? (i := 30) rfl) rfl
set_option maxRecDepth 100000 in
theorem tw_67 : Cond.selects RX6 yX6_either2 yX6_either2 ∈ TB := inT0 (List.mem_of_getElem? (i := 67) rfl) rfl
theorem mwX6_306 : MwV RX6 RX6 306 yX6_either2 cX6_either2 3 (some .int) 0 := ⟨⟨tw_1077, tw_1079, tw_67, tw_100, cw_X6_either2⟩, by decide +kernel, by decide⟩
set_option maxRecDepth 100000 in
theorem tw_1081 : Cond.methodLink RX6 303 yX6_both2 ∈ TB := inT5 (List.mem_of_getElem? (i := 32) rfl) rfl
set_option maxRecDepth 100000 in
theorem tw_1083 : Cond.instanceMethod yX6_both2 ∈ TB := inT5 (List.mem_of_getElem? (i := 34) rfl) rfl
set_option maxRecDepth 100000 in
theorem tw_68 : Cond.selects RX6 yX6_both2 yX6_both2 ∈ TB := inT0 (List.mem_of_getElem? (i := 68) rfl) rfl
theorem mwX6_303 : MwV RX6 RX6 303 yX6_both2 cX6_both2 3 (some .int) 0 := ⟨⟨tw_1081, tw_1083, tw_68, tw_100, cw_X6_both2⟩, by decide +kernel, by decide⟩
set_option maxRecDepth 100000 in
theorem tw_1085 : Cond.methodLink RX6 333 yX6_added0 ∈ TB := inT5 (List.mem_of_getElem? (i := 36) rfl) rfl
set_option maxRecDepth 100000 in
theorem tw_1087 : Cond.instanceMethod yX6_added0 ∈ TB := inT5 (List.mem_of_getElem? (i := 38) rfl) rfl
set_option maxRecDepth 100000 in
theorem tw_69 : Cond.selects RX6 yX6_added0 yX6_added0 ∈ TB := inT0 (List.mem_of_getElem? (i := 69) rfl) rfl
theorem mwX6_333 : MwV RX6 RX6 333 yX6_added0 cX6_added0 4 (some .int) 0 := ⟨⟨tw_1085, tw_1087, tw_69, tw_100, cw_X6_added0⟩, by decide +kernel, by decide⟩
set_option maxRecDepth 100000 in
theorem tw_1089 : Cond.methodLink RX6 330 yX6_term0 ∈ TB := inT5 (List.mem_of_getElem? (i := 40) rfl) rfl
set_option maxRecDepth 100000 in
theorem tw_1091 : Cond.instanceMethod yX6_term0 ∈ TB := inT5 (List.mem_of_getElem? (i := 42) rfl) rfl
set_option maxRecDepth 100000 in
theorem tw_70 : Cond.selects RX6 yX6_term0 yX6_term0 ∈ TB := inT0 (List.mem_of_getElem? (i := 70) rfl) rfl
theorem mwX6_330 : MwV RX6 RX6 330 yX6_term0 cX6_term0 2 (some .int) 0 := ⟨⟨tw_1089, tw_1091, tw_70, tw_100, cw_X6_term0⟩, by decide +kernel, by decide⟩
set_option maxRecDepth 100000 in
theorem tw_1093 : Cond.methodLink RX6 327 yX6_atom0 ∈ TB := inT5 (List.mem_of_getElem? (i := 44) rfl) rfl
set_option maxRecDepth 100000 in
theorem tw_1095 : Cond.instanceMethod yX6_atom0 ∈ TB := inT5 (List.mem_of_getElem? (i := 46) rfl) rfl
set_option maxRecDepth 100000 in
theorem tw_71 : Cond.selects RX6 yX6_atom0 yX6_atom0 ∈ TB := inT0 (List.mem_of_getElem? (i := 71) rfl) rfl
theorem mwX6_327 : MwV RX6 RX6 327 yX6_atom0 cX6_atom0 2 (some .int) 0 := ⟨⟨tw_1093, tw_1095, tw_71, tw_100, cw_X6_atom0⟩, by decide +kernel, by decide⟩
set_option maxRecDepth 100000 in
theorem tw_1097 : Cond.methodLink RX6 324 yX6_either1 ∈ TB := inT5 (List.mem_of_getElem? (i := 48) rfl) rfl
set_option maxRecDepth 100000 in
theorem tw_1099 : Cond.instanceMethod yX6_either1 ∈ TB := inT5 (List.mem_of_getElem? (i := 50) rfl) rfl
set_option maxRecDepth 100000 in
theorem tw_72 : Cond.selects RX6 yX6_either1 yX6_either1 ∈ TB := inT0 (List.mem_of_getElem? (i := 72) rfl) rfl
theorem mwX6_324 : MwV RX6 RX6 324 yX6_either1 cX6_either1 3 (some .int) 0 := ⟨⟨tw_1097, tw_1099, tw_72, tw_100, cw_X6_either1⟩, by decide +kernel, by decide⟩
set_option maxRecDepth 100000 in
theorem tw_1101 : Cond.methodLink RX6 321 yX6_both1 ∈ TB := inT5 (List.mem_of_getElem? (i := 52) rfl) rfl
set_option maxRecDepth 100000 in
theorem tw_1103 : Cond.instanceMethod yX6_both1 ∈ TB := inT5 (List.mem_of_getElem? (i := 54) rfl) rfl
set_option maxRecDepth 100000 in
theorem tw_73 : Cond.selects RX6 yX6_both1 yX6_both1 ∈ TB := inT0 (List.mem_of_getElem? (i := 73) rfl) rfl
theorem mwX6_321 : MwV RX6 RX6 321 yX6_both1 cX6_both1 3 (some .int) 0 := ⟨⟨tw_1101, tw_1103, tw_73, tw_100, cw_X6_both1⟩, by decide +kernel, by decide⟩
set_option maxRecDepth 100000 in
theorem tw_1105 : Cond.methodLink RX6 359 yX6_within ∈ TB := inT5 (List.mem_of_getElem? (i := 56) rfl) rfl
set_option maxRecDepth 100000 in
theorem tw_1106 : Cond.static yX6_within ∈ TB := inT5 (List.mem_of_getElem? (i := 57) rfl) rfl
theorem mwX6_359 : MwS RX6 359 yX6_within cX6_within 3 (some .int) 3 := ⟨⟨tw_1105, tw_1106, tw_100, cw_X6_within⟩, by decide +kernel, by decide⟩
set_option maxRecDepth 100000 in
theorem tw_1108 : Cond.methodLink RX6 131 yX6_givesOf ∈ TB := inT5 (List.mem_of_getElem? (i := 59) rfl) rfl
set_option maxRecDepth 100000 in
theorem tw_1110 : Cond.instanceMethod yX6_givesOf ∈ TB := inT5 (List.mem_of_getElem? (i := 61) rfl) rfl
set_option maxRecDepth 100000 in
theorem tw_74 : Cond.selects RX6 yX6_givesOf yX6_givesOf ∈ TB := inT0 (List.mem_of_getElem? (i := 74) rfl) rfl
theorem mwX6_131 : MwV RX6 RX6 131 yX6_givesOf cX6_givesOf 5 (some .int) 1 := ⟨⟨tw_1108, tw_1110, tw_74, tw_100, cw_X6_givesOf⟩, by decide +kernel, by decide⟩
set_option maxRecDepth 100000 in
theorem tw_1112 : Cond.methodLink RX6 366 yX6_round ∈ TB := inT5 (List.mem_of_getElem? (i := 63) rfl) rfl
set_option maxRecDepth 100000 in
theorem tw_1113 : Cond.static yX6_round ∈ TB := inT5 (List.mem_of_getElem? (i := 64) rfl) rfl
theorem mwX6_366 : MwS RX6 366 yX6_round cX6_round 1 (some .int) 1 := ⟨⟨tw_1112, tw_1113, tw_100, cw_X6_round⟩, by decide +kernel, by decide⟩
set_option maxRecDepth 100000 in
theorem tw_1115 : Cond.methodLink RX6 369 yX6_firstEmpty ∈ TB := inT5 (List.mem_of_getElem? (i := 66) rfl) rfl
set_option maxRecDepth 100000 in
theorem tw_1117 : Cond.instanceMethod yX6_firstEmpty ∈ TB := inT5 (List.mem_of_getElem? (i := 68) rfl) rfl
set_option maxRecDepth 100000 in
theorem tw_75 : Cond.selects RX6 yX6_firstEmpty yX6_firstEmpty ∈ TB := inT0 (List.mem_of_getElem? (i := 75) rfl) rfl
theorem mwX6_369 : MwV RX6 RX6 369 yX6_firstEmpty cX6_firstEmpty 3 (some .int) 1 := ⟨⟨tw_1115, tw_1117, tw_75, tw_100, cw_X6_firstEmpty⟩, by decide +kernel, by decide⟩
set_option maxRecDepth 100000 in
theorem tw_1119 : Cond.methodLink RX6 134 yX6_turnsOf ∈ TB := inT5 (List.mem_of_getElem? (i := 70) rfl) rfl
set_option maxRecDepth 100000 in
theorem tw_1121 : Cond.instanceMethod yX6_turnsOf ∈ TB := inT5 (List.mem_of_getElem? (i := 72) rfl) rfl
set_option maxRecDepth 100000 in
theorem tw_76 : Cond.selects RX6 yX6_turnsOf yX6_turnsOf ∈ TB := inT0 (List.mem_of_getElem? (i := 76) rfl) rfl
theorem mwX6_134 : MwV RX6 RX6 134 yX6_turnsOf cX6_turnsOf 5 (some .int) 1 := ⟨⟨tw_1119, tw_1121, tw_76, tw_100, cw_X6_turnsOf⟩, by decide +kernel, by decide⟩
set_option maxRecDepth 100000 in
theorem tw_1123 : Cond.methodLink RX6 102 yX6_lays ∈ TB := inT5 (List.mem_of_getElem? (i := 74) rfl) rfl
set_option maxRecDepth 100000 in
theorem tw_1125 : Cond.instanceMethod yX6_lays ∈ TB := inT5 (List.mem_of_getElem? (i := 76) rfl) rfl
set_option maxRecDepth 100000 in
theorem tw_77 : Cond.selects RX6 yX6_lays yX6_lays ∈ TB := inT0 (List.mem_of_getElem? (i := 77) rfl) rfl
theorem mwX6_102 : MwV RX6 RX6 102 yX6_lays cX6_lays 4 none 3 := ⟨⟨tw_1123, tw_1125, tw_77, tw_100, cw_X6_lays⟩, by decide +kernel, by decide⟩
set_option maxRecDepth 100000 in
theorem kcX6_113 : Cond.constantLong RX6 113 (-1 : Int64) ∈ TB := inT5 (List.mem_of_getElem? (i := 78) rfl) rfl
set_option maxRecDepth 100000 in
theorem tw_1128 : Cond.methodLink RL 21 yX6_person ∈ TB := inT5 (List.mem_of_getElem? (i := 79) rfl) rfl
set_option maxRecDepth 100000 in
theorem tw_1129 : Cond.instanceMethod yX6_person ∈ TB := inT5 (List.mem_of_getElem? (i := 80) rfl) rfl
set_option maxRecDepth 100000 in
theorem tw_1130 : Cond.selects RX6 yX6_person yX6_person ∈ TB := inT5 (List.mem_of_getElem? (i := 81) rfl) rfl
theorem mwL_21 : MwV RL RX6 21 yX6_person cX6_person 5 (some .int) 3 := ⟨⟨tw_1128, tw_1129, tw_1130, tw_100, cw_X6_person⟩, by decide +kernel, by decide⟩
set_option maxRecDepth 100000 in
theorem kcX6_118 : Cond.constantLong RX6 118 (5 : Int64) ∈ TB := inT5 (List.mem_of_getElem? (i := 83) rfl) rfl
set_option maxRecDepth 100000 in
theorem kcX6_120 : Cond.constantLong RX6 120 (9 : Int64) ∈ TB := inT5 (List.mem_of_getElem? (i := 84) rfl) rfl
set_option maxRecDepth 100000 in
theorem tw_1134 : Cond.methodLink RL 26 yX6_told ∈ TB := inT5 (List.mem_of_getElem? (i := 85) rfl) rfl
theorem mwL_26 : MwV RL RX6 26 yX6_told cX6_told 3 (some .int) 2 := ⟨⟨tw_1134, tw_892, tw_893, tw_100, cw_X6_told⟩, by decide +kernel, by decide⟩
set_option maxRecDepth 100000 in
theorem tw_1135 : Cond.methodLink RL 31 yX6_picture ∈ TB := inT5 (List.mem_of_getElem? (i := 86) rfl) rfl
set_option maxRecDepth 100000 in
theorem tw_1136 : Cond.instanceMethod yX6_picture ∈ TB := inT5 (List.mem_of_getElem? (i := 87) rfl) rfl
set_option maxRecDepth 100000 in
theorem tw_1137 : Cond.selects RX6 yX6_picture yX6_picture ∈ TB := inT5 (List.mem_of_getElem? (i := 88) rfl) rfl
theorem mwL_31 : MwV RL RX6 31 yX6_picture cX6_picture 2 (some .long) 1 := ⟨⟨tw_1135, tw_1136, tw_1137, tw_100, cw_X6_picture⟩, by decide +kernel, by decide⟩
set_option maxRecDepth 100000 in
theorem kcX6_137 : Cond.constantLong RX6 137 (4 : Int64) ∈ TB := inT5 (List.mem_of_getElem? (i := 90) rfl) rfl
set_option maxRecDepth 100000 in
theorem kcX6_139 : Cond.constantLong RX6 139 (-4611686018427387904 : Int64) ∈ TB := inT5 (List.mem_of_getElem? (i := 91) rfl) rfl
set_option maxRecDepth 100000 in
theorem tw_1141 : Cond.methodLink RX6 141 yX6_wanting ∈ TB := inT5 (List.mem_of_getElem? (i := 92) rfl) rfl
set_option maxRecDepth 100000 in
theorem tw_1143 : Cond.instanceMethod yX6_wanting ∈ TB := inT5 (List.mem_of_getElem? (i := 94) rfl) rfl
set_option maxRecDepth 100000 in
theorem tw_78 : Cond.selects RX6 yX6_wanting yX6_wanting ∈ TB := inT0 (List.mem_of_getElem? (i := 78) rfl) rfl
theorem mwX6_141 : MwV RX6 RX6 141 yX6_wanting cX6_wanting 5 (some .long) 1 := ⟨⟨tw_1141, tw_1143, tw_78, tw_100, cw_X6_wanting⟩, by decide +kernel, by decide⟩
set_option maxRecDepth 100000 in
theorem tw_1145 : Cond.methodLink RL 36 yX6_feed ∈ TB := inT5 (List.mem_of_getElem? (i := 96) rfl) rfl
set_option maxRecDepth 100000 in
theorem tw_1146 : Cond.instanceMethod yX6_feed ∈ TB := inT5 (List.mem_of_getElem? (i := 97) rfl) rfl
set_option maxRecDepth 100000 in
theorem tw_1147 : Cond.selects RX6 yX6_feed yX6_feed ∈ TB := inT5 (List.mem_of_getElem? (i := 98) rfl) rfl
theorem mwL_36 : MwV RL RX6 36 yX6_feed cX6_feed 2 (some .int) 1 := ⟨⟨tw_1145, tw_1146, tw_1147, tw_100, cw_X6_feed⟩, by decide +kernel, by decide⟩
set_option maxRecDepth 100000 in
theorem kcX6_145 : Cond.constantLong RX6 145 (255 : Int64) ∈ TB := inT5 (List.mem_of_getElem? (i := 100) rfl) rfl
set_option maxRecDepth 100000 in
theorem tw_1150 : Cond.methodLink RL 41 yX6_text ∈ TB := inT5 (List.mem_of_getElem? (i := 101) rfl) rfl
set_option maxRecDepth 100000 in
theorem tw_1151 : Cond.instanceMethod yX6_text ∈ TB := inT5 (List.mem_of_getElem? (i := 102) rfl) rfl
set_option maxRecDepth 100000 in
theorem tw_1152 : Cond.selects RX6 yX6_text yX6_text ∈ TB := inT5 (List.mem_of_getElem? (i := 103) rfl) rfl
theorem mwL_41 : MwV RL RX6 41 yX6_text cX6_text 2 (some .int) 0 := ⟨⟨tw_1150, tw_1151, tw_1152, tw_100, cw_X6_text⟩, by decide +kernel, by decide⟩
set_option maxRecDepth 100000 in
theorem tw_1154 : Cond.methodLink RL 45 yX6_force ∈ TB := inT5 (List.mem_of_getElem? (i := 105) rfl) rfl
set_option maxRecDepth 100000 in
theorem tw_1155 : Cond.instanceMethod yX6_force ∈ TB := inT5 (List.mem_of_getElem? (i := 106) rfl) rfl
set_option maxRecDepth 100000 in
theorem tw_1156 : Cond.selects RX6 yX6_force yX6_force ∈ TB := inT5 (List.mem_of_getElem? (i := 107) rfl) rfl
theorem mwL_45 : MwV RL RX6 45 yX6_force cX6_force 3 (some .int) 1 := ⟨⟨tw_1154, tw_1155, tw_1156, tw_100, cw_X6_force⟩, by decide +kernel, by decide⟩
set_option maxRecDepth 100000 in
theorem tw_1158 : Cond.methodLink RL 49 yX6_day ∈ TB := inT5 (List.mem_of_getElem? (i := 109) rfl) rfl
set_option maxRecDepth 100000 in
theorem tw_1159 : Cond.instanceMethod yX6_day ∈ TB := inT5 (List.mem_of_getElem? (i := 110) rfl) rfl
set_option maxRecDepth 100000 in
theorem tw_1160 : Cond.selects RX6 yX6_day yX6_day ∈ TB := inT5 (List.mem_of_getElem? (i := 111) rfl) rfl
theorem mwL_49 : MwV RL RX6 49 yX6_day cX6_day 1 (some .int) 0 := ⟨⟨tw_1158, tw_1159, tw_1160, tw_100, cw_X6_day⟩, by decide +kernel, by decide⟩
set_option maxRecDepth 100000 in
theorem tw_1162 : Cond.methodLink RX6 379 yX6_passes ∈ TB := inT5 (List.mem_of_getElem? (i := 113) rfl) rfl
set_option maxRecDepth 100000 in
theorem tw_1164 : Cond.instanceMethod yX6_passes ∈ TB := inT5 (List.mem_of_getElem? (i := 115) rfl) rfl
set_option maxRecDepth 100000 in
theorem tw_79 : Cond.selects RX6 yX6_passes yX6_passes ∈ TB := inT0 (List.mem_of_getElem? (i := 79) rfl) rfl
theorem mwX6_379 : MwV RX6 RX6 379 yX6_passes cX6_passes 2 none 0 := ⟨⟨tw_1162, tw_1164, tw_79, tw_100, cw_X6_passes⟩, by decide +kernel, by decide⟩
set_option maxRecDepth 100000 in
theorem tw_1166 : Cond.methodLink RX6 376 yX6_looks ∈ TB := inT5 (List.mem_of_getElem? (i := 117) rfl) rfl
set_option maxRecDepth 100000 in
theorem tw_1168 : Cond.instanceMethod yX6_looks ∈ TB := inT5 (List.mem_of_getElem? (i := 119) rfl) rfl
set_option maxRecDepth 100000 in
theorem tw_80 : Cond.selects RX6 yX6_looks yX6_looks ∈ TB := inT0 (List.mem_of_getElem? (i := 80) rfl) rfl
theorem mwX6_376 : MwV RX6 RX6 376 yX6_looks cX6_looks 5 none 1 := ⟨⟨tw_1166, tw_1168, tw_80, tw_100, cw_X6_looks⟩, by decide +kernel, by decide⟩
set_option maxRecDepth 100000 in
theorem tw_1170 : Cond.methodLink RX6 372 yX6_goesIn ∈ TB := inT5 (List.mem_of_getElem? (i := 121) rfl) rfl
set_option maxRecDepth 100000 in
theorem tw_1172 : Cond.instanceMethod yX6_goesIn ∈ TB := inT5 (List.mem_of_getElem? (i := 123) rfl) rfl
set_option maxRecDepth 100000 in
theorem tw_81 : Cond.selects RX6 yX6_goesIn yX6_goesIn ∈ TB := inT0 (List.mem_of_getElem? (i := 81) rfl) rfl
theorem mwX6_372 : MwV RX6 RX6 372 yX6_goesIn cX6_goesIn 3 none 1 := ⟨⟨tw_1170, tw_1172, tw_81, tw_100, cw_X6_goesIn⟩, by decide +kernel, by decide⟩
set_option maxRecDepth 100000 in
theorem tw_1174 : Cond.methodLink RL 53 yX6_run ∈ TB := inT5 (List.mem_of_getElem? (i := 125) rfl) rfl
set_option maxRecDepth 100000 in
theorem tw_1175 : Cond.instanceMethod yX6_run ∈ TB := inT5 (List.mem_of_getElem? (i := 126) rfl) rfl
set_option maxRecDepth 100000 in
theorem tw_1176 : Cond.selects RX6 yX6_run yX6_run ∈ TB := inT5 (List.mem_of_getElem? (i := 127) rfl) rfl
theorem mwL_53 : MwV RL RX6 53 yX6_run cX6_run 5 (some .int) 3 := ⟨⟨tw_1174, tw_1175, tw_1176, tw_100, cw_X6_run⟩, by decide +kernel, by decide⟩
set_option maxRecDepth 100000 in
theorem kcX6_394 : Cond.constantLong RX6 394 (40 : Int64) ∈ TB := inT5 (List.mem_of_getElem? (i := 129) rfl) rfl
set_option maxRecDepth 100000 in
theorem tw_1179 : Cond.methodLink RX6 385 yX6_laysAside ∈ TB := inT5 (List.mem_of_getElem? (i := 130) rfl) rfl
set_option maxRecDepth 100000 in
theorem tw_1181 : Cond.instanceMethod yX6_laysAside ∈ TB := inT5 (List.mem_of_getElem? (i := 132) rfl) rfl
set_option maxRecDepth 100000 in
theorem tw_82 : Cond.selects RX6 yX6_laysAside yX6_laysAside ∈ TB := inT0 (List.mem_of_getElem? (i := 82) rfl) rfl
theorem mwX6_385 : MwV RX6 RX6 385 yX6_laysAside cX6_laysAside 2 none 0 := ⟨⟨tw_1179, tw_1181, tw_82, tw_100, cw_X6_laysAside⟩, by decide +kernel, by decide⟩
set_option maxRecDepth 100000 in
theorem tw_1183 : Cond.methodLink RX6 388 yX6_goes ∈ TB := inT5 (List.mem_of_getElem? (i := 134) rfl) rfl
set_option maxRecDepth 100000 in
theorem tw_1185 : Cond.instanceMethod yX6_goes ∈ TB := inT5 (List.mem_of_getElem? (i := 136) rfl) rfl
set_option maxRecDepth 100000 in
theorem tw_83 : Cond.selects RX6 yX6_goes yX6_goes ∈ TB := inT0 (List.mem_of_getElem? (i := 83) rfl) rfl
theorem mwX6_388 : MwV RX6 RX6 388 yX6_goes cX6_goes 3 none 1 := ⟨⟨tw_1183, tw_1185, tw_83, tw_100, cw_X6_goes⟩, by decide +kernel, by decide⟩
set_option maxRecDepth 100000 in
theorem tw_1187 : Cond.methodLink RX6 391 yX6_laysBack ∈ TB := inT5 (List.mem_of_getElem? (i := 138) rfl) rfl
set_option maxRecDepth 100000 in
theorem tw_1189 : Cond.instanceMethod yX6_laysBack ∈ TB := inT5 (List.mem_of_getElem? (i := 140) rfl) rfl
set_option maxRecDepth 100000 in
theorem tw_84 : Cond.selects RX6 yX6_laysBack yX6_laysBack ∈ TB := inT0 (List.mem_of_getElem? (i := 84) rfl) rfl
theorem mwX6_391 : MwV RX6 RX6 391 yX6_laysBack cX6_laysBack 2 none 0 := ⟨⟨tw_1187, tw_1189, tw_84, tw_100, cw_X6_laysBack⟩, by decide +kernel, by decide⟩
set_option maxRecDepth 100000 in
theorem tw_1191 : Cond.methodLink RL 57 yX6_later ∈ TB := inT5 (List.mem_of_getElem? (i := 142) rfl) rfl
set_option maxRecDepth 100000 in
theorem tw_1192 : Cond.instanceMethod yX6_later ∈ TB := inT5 (List.mem_of_getElem? (i := 143) rfl) rfl
set_option maxRecDepth 100000 in
theorem tw_1193 : Cond.selects RX6 yX6_later yX6_later ∈ TB := inT5 (List.mem_of_getElem? (i := 144) rfl) rfl
theorem mwL_57 : MwV RL RX6 57 yX6_later cX6_later 2 (some .long) 1 := ⟨⟨tw_1191, tw_1192, tw_1193, tw_100, cw_X6_later⟩, by decide +kernel, by decide⟩
set_option maxRecDepth 100000 in
theorem tw_1195 : Cond.methodLink RX6 396 yX6_filledBehind ∈ TB := inT5 (List.mem_of_getElem? (i := 146) rfl) rfl
set_option maxRecDepth 100000 in
theorem tw_1197 : Cond.instanceMethod yX6_filledBehind ∈ TB := inT5 (List.mem_of_getElem? (i := 148) rfl) rfl
set_option maxRecDepth 100000 in
theorem tw_85 : Cond.selects RX6 yX6_filledBehind yX6_filledBehind ∈ TB := inT0 (List.mem_of_getElem? (i := 85) rfl) rfl
theorem mwX6_396 : MwV RX6 RX6 396 yX6_filledBehind cX6_filledBehind 4 (some .long) 1 := ⟨⟨tw_1195, tw_1197, tw_85, tw_100, cw_X6_filledBehind⟩, by decide +kernel, by decide⟩
set_option maxRecDepth 100000 in
theorem tw_1199 : Cond.methodLink RL 61 yX6_ends ∈ TB := inT5 (List.mem_of_getElem? (i := 150) rfl) rfl
set_option maxRecDepth 100000 in
theorem tw_1200 : Cond.instanceMethod yX6_ends ∈ TB := inT5 (List.mem_of_getElem? (i := 151) rfl) rfl
set_option maxRecDepth 100000 in
theorem tw_1201 : Cond.selects RX6 yX6_ends yX6_ends ∈ TB := inT5 (List.mem_of_getElem? (i := 152) rfl) rfl
theorem mwL_61 : MwV RL RX6 61 yX6_ends cX6_ends 2 (some .int) 0 := ⟨⟨tw_1199, tw_1200, tw_1201, tw_100, cw_X6_ends⟩, by decide +kernel, by decide⟩
set_option maxRecDepth 100000 in
theorem tw_1203 : Cond.methodLink RL 65 yX6_atWhat ∈ TB := inT5 (List.mem_of_getElem? (i := 154) rfl) rfl
set_option maxRecDepth 100000 in
theorem tw_1204 : Cond.instanceMethod yX6_atWhat ∈ TB := inT5 (List.mem_of_getElem? (i := 155) rfl) rfl
set_option maxRecDepth 100000 in
theorem tw_1205 : Cond.selects RX6 yX6_atWhat yX6_atWhat ∈ TB := inT5 (List.mem_of_getElem? (i := 156) rfl) rfl
theorem mwL_65 : MwV RL RX6 65 yX6_atWhat cX6_atWhat 9 (some .int) 3 := ⟨⟨tw_1203, tw_1204, tw_1205, tw_100, cw_X6_atWhat⟩, by decide +kernel, by decide⟩
set_option maxRecDepth 100000 in
theorem tw_1207 : Cond.methodLink RL 69 yX6_want ∈ TB := inT5 (List.mem_of_getElem? (i := 158) rfl) rfl
set_option maxRecDepth 100000 in
theorem tw_1208 : Cond.instanceMethod yX6_want ∈ TB := inT5 (List.mem_of_getElem? (i := 159) rfl) rfl
set_option maxRecDepth 100000 in
theorem tw_1209 : Cond.selects RX6 yX6_want yX6_want ∈ TB := inT5 (List.mem_of_getElem? (i := 160) rfl) rfl
theorem mwL_69 : MwV RL RX6 69 yX6_want cX6_want 9 (some .int) 2 := ⟨⟨tw_1207, tw_1208, tw_1209, tw_100, cw_X6_want⟩, by decide +kernel, by decide⟩
set_option maxRecDepth 100000 in
theorem kcX6_399 : Cond.constantLong RX6 399 (20 : Int64) ∈ TB := inT5 (List.mem_of_getElem? (i := 162) rfl) rfl
set_option maxRecDepth 100000 in
theorem tw_1212 : Cond.methodLink RL 73 yX6_idle ∈ TB := inT5 (List.mem_of_getElem? (i := 163) rfl) rfl
set_option maxRecDepth 100000 in
theorem tw_1213 : Cond.instanceMethod yX6_idle ∈ TB := inT5 (List.mem_of_getElem? (i := 164) rfl) rfl
set_option maxRecDepth 100000 in
theorem tw_1214 : Cond.selects RX6 yX6_idle yX6_idle ∈ TB := inT5 (List.mem_of_getElem? (i := 165) rfl) rfl
theorem mwL_73 : MwV RL RX6 73 yX6_idle cX6_idle 5 (some .int) 1 := ⟨⟨tw_1212, tw_1213, tw_1214, tw_100, cw_X6_idle⟩, by decide +kernel, by decide⟩
set_option maxRecDepth 100000 in
theorem tw_1216 : Cond.methodLink RL 77 yX6_gap ∈ TB := inT5 (List.mem_of_getElem? (i := 167) rfl) rfl
set_option maxRecDepth 100000 in
theorem tw_1217 : Cond.instanceMethod yX6_gap ∈ TB := inT5 (List.mem_of_getElem? (i := 168) rfl) rfl
set_option maxRecDepth 100000 in
theorem tw_1218 : Cond.selects RX6 yX6_gap yX6_gap ∈ TB := inT5 (List.mem_of_getElem? (i := 169) rfl) rfl
theorem mwL_77 : MwV RL RX6 77 yX6_gap cX6_gap 6 (some .int) 1 := ⟨⟨tw_1216, tw_1217, tw_1218, tw_100, cw_X6_gap⟩, by decide +kernel, by decide⟩
set_option maxRecDepth 100000 in
theorem tw_1220 : Cond.methodLink RX6 401 yX6_longest ∈ TB := inT5 (List.mem_of_getElem? (i := 171) rfl) rfl
set_option maxRecDepth 100000 in
theorem tw_1222 : Cond.instanceMethod yX6_longest ∈ TB := inT5 (List.mem_of_getElem? (i := 173) rfl) rfl
set_option maxRecDepth 100000 in
theorem tw_86 : Cond.selects RX6 yX6_longest yX6_longest ∈ TB := inT0 (List.mem_of_getElem? (i := 86) rfl) rfl
theorem mwX6_401 : MwV RX6 RX6 401 yX6_longest cX6_longest 6 (some .int) 1 := ⟨⟨tw_1220, tw_1222, tw_86, tw_100, cw_X6_longest⟩, by decide +kernel, by decide⟩
set_option maxRecDepth 100000 in
theorem tw_1224 : Cond.methodLink RL 81 yX6_share ∈ TB := inT5 (List.mem_of_getElem? (i := 175) rfl) rfl
set_option maxRecDepth 100000 in
theorem tw_1225 : Cond.instanceMethod yX6_share ∈ TB := inT5 (List.mem_of_getElem? (i := 176) rfl) rfl
set_option maxRecDepth 100000 in
theorem tw_1226 : Cond.selects RX6 yX6_share yX6_share ∈ TB := inT5 (List.mem_of_getElem? (i := 177) rfl) rfl
theorem mwL_81 : MwV RL RX6 81 yX6_share cX6_share 4 (some .long) 1 := ⟨⟨tw_1224, tw_1225, tw_1226, tw_100, cw_X6_share⟩, by decide +kernel, by decide⟩
set_option maxRecDepth 100000 in
theorem tw_1228 : Cond.methodLink RX6 404 yX6_lowest ∈ TB := inT5 (List.mem_of_getElem? (i := 179) rfl) rfl
set_option maxRecDepth 100000 in
theorem tw_1229 : Cond.static yX6_lowest ∈ TB := inT5 (List.mem_of_getElem? (i := 180) rfl) rfl
theorem mwX6_404 : MwS RX6 404 yX6_lowest cX6_lowest 11 (some .long) 3 := ⟨⟨tw_1228, tw_1229, tw_100, cw_X6_lowest⟩, by decide +kernel, by decide⟩
set_option maxRecDepth 100000 in
theorem tw_1231 : Cond.methodLink RL 85 yX6_tells ∈ TB := inT5 (List.mem_of_getElem? (i := 182) rfl) rfl
set_option maxRecDepth 100000 in
theorem tw_1232 : Cond.instanceMethod yX6_tells ∈ TB := inT5 (List.mem_of_getElem? (i := 183) rfl) rfl
set_option maxRecDepth 100000 in
theorem tw_1233 : Cond.selects RX6 yX6_tells yX6_tells ∈ TB := inT5 (List.mem_of_getElem? (i := 184) rfl) rfl
theorem mwL_85 : MwV RL RX6 85 yX6_tells cX6_tells 11 (some .int) 3 := ⟨⟨tw_1231, tw_1232, tw_1233, tw_100, cw_X6_tells⟩, by decide +kernel, by decide⟩
set_option maxRecDepth 100000 in
theorem tw_1235 : Cond.methodLink RX6 408 yX6_isSheet ∈ TB := inT5 (List.mem_of_getElem? (i := 186) rfl) rfl
set_option maxRecDepth 100000 in
theorem tw_1236 : Cond.static yX6_isSheet ∈ TB := inT5 (List.mem_of_getElem? (i := 187) rfl) rfl
theorem mwX6_408 : MwS RX6 408 yX6_isSheet cX6_isSheet 1 (some .boolean) 1 := ⟨⟨tw_1235, tw_1236, tw_100, cw_X6_isSheet⟩, by decide +kernel, by decide⟩
set_option maxRecDepth 100000 in
theorem kcX6_411 : Cond.constantLong RX6 411 (6 : Int64) ∈ TB := inT5 (List.mem_of_getElem? (i := 189) rfl) rfl
set_option maxRecDepth 100000 in
theorem tw_1239 : Cond.methodLink RX6 413 yX6_firstOther ∈ TB := inT5 (List.mem_of_getElem? (i := 190) rfl) rfl
set_option maxRecDepth 100000 in
theorem tw_1241 : Cond.instanceMethod yX6_firstOther ∈ TB := inT5 (List.mem_of_getElem? (i := 192) rfl) rfl
set_option maxRecDepth 100000 in
theorem tw_87 : Cond.selects RX6 yX6_firstOther yX6_firstOther ∈ TB := inT0 (List.mem_of_getElem? (i := 87) rfl) rfl
theorem mwX6_413 : MwV RX6 RX6 413 yX6_firstOther cX6_firstOther 4 (some .int) 1 := ⟨⟨tw_1239, tw_1241, tw_87, tw_100, cw_X6_firstOther⟩, by decide +kernel, by decide⟩
set_option maxRecDepth 100000 in
theorem tw_1243 : Cond.methodLink RL 89 yX6_film ∈ TB := inT5 (List.mem_of_getElem? (i := 194) rfl) rfl
set_option maxRecDepth 100000 in
theorem tw_1244 : Cond.instanceMethod yX6_film ∈ TB := inT5 (List.mem_of_getElem? (i := 195) rfl) rfl
set_option maxRecDepth 100000 in
theorem tw_1245 : Cond.selects RX6 yX6_film yX6_film ∈ TB := inT5 (List.mem_of_getElem? (i := 196) rfl) rfl
theorem mwL_89 : MwV RL RX6 89 yX6_film cX6_film 4 (some .int) 2 := ⟨⟨tw_1243, tw_1244, tw_1245, tw_100, cw_X6_film⟩, by decide +kernel, by decide⟩
set_option maxRecDepth 100000 in
theorem tw_1247 : Cond.methodLink RX6 416 yX6_sheet ∈ TB := inT5 (List.mem_of_getElem? (i := 198) rfl) rfl
set_option maxRecDepth 100000 in
theorem tw_1248 : Cond.instanceMethod yX6_sheet ∈ TB := inT5 (List.mem_of_getElem? (i := 199) rfl) rfl
set_option maxRecDepth 100000 in
theorem tw_1249 : Cond.selects RX6 yX6_sheet yX6_sheet ∈ TB := inT5 (List.mem_of_getElem? (i := 200) rfl) rfl
theorem mwX6_416 : MwV RX6 RX6 416 yX6_sheet cX6_sheet 5 (some .int) 3 := ⟨⟨tw_1247, tw_1248, tw_1249, tw_100, cw_X6_sheet⟩, by decide +kernel, by decide⟩
set_option maxRecDepth 100000 in
theorem kcX6_434 : Cond.constantLong RX6 434 (2 : Int64) ∈ TB := inT5 (List.mem_of_getElem? (i := 202) rfl) rfl
set_option maxRecDepth 100000 in
theorem tw_1252 : Cond.methodLink RL 93 yX6_drawn ∈ TB := inT5 (List.mem_of_getElem? (i := 203) rfl) rfl
set_option maxRecDepth 100000 in
theorem tw_1253 : Cond.instanceMethod yX6_drawn ∈ TB := inT5 (List.mem_of_getElem? (i := 204) rfl) rfl
set_option maxRecDepth 100000 in
theorem tw_1254 : Cond.selects RX6 yX6_drawn yX6_drawn ∈ TB := inT5 (List.mem_of_getElem? (i := 205) rfl) rfl
theorem mwL_93 : MwV RL RX6 93 yX6_drawn cX6_drawn 3 (some .int) 2 := ⟨⟨tw_1252, tw_1253, tw_1254, tw_100, cw_X6_drawn⟩, by decide +kernel, by decide⟩
set_option maxRecDepth 100000 in
theorem tw_1256 : Cond.methodLink RX6 420 yX6_filledDrawn ∈ TB := inT5 (List.mem_of_getElem? (i := 207) rfl) rfl
set_option maxRecDepth 100000 in
theorem tw_1258 : Cond.instanceMethod yX6_filledDrawn ∈ TB := inT5 (List.mem_of_getElem? (i := 209) rfl) rfl
set_option maxRecDepth 100000 in
theorem tw_88 : Cond.selects RX6 yX6_filledDrawn yX6_filledDrawn ∈ TB := inT0 (List.mem_of_getElem? (i := 88) rfl) rfl
theorem mwX6_420 : MwV RX6 RX6 420 yX6_filledDrawn cX6_filledDrawn 6 (some .int) 2 := ⟨⟨tw_1256, tw_1258, tw_88, tw_100, cw_X6_filledDrawn⟩, by decide +kernel, by decide⟩
set_option maxRecDepth 100000 in
theorem kcX6_419 : Cond.constant RX6 419 (1103515245 : Int32) ∈ TB := inT5 (List.mem_of_getElem? (i := 211) rfl) rfl
set_option maxRecDepth 100000 in
theorem tw_1261 : Cond.methodLink RL 98 yX6_chance ∈ TB := inT5 (List.mem_of_getElem? (i := 212) rfl) rfl
set_option maxRecDepth 100000 in
theorem tw_1262 : Cond.instanceMethod yX6_chance ∈ TB := inT5 (List.mem_of_getElem? (i := 213) rfl) rfl
set_option maxRecDepth 100000 in
theorem tw_1263 : Cond.selects RX6 yX6_chance yX6_chance ∈ TB := inT5 (List.mem_of_getElem? (i := 214) rfl) rfl
theorem mwL_98 : MwV RL RX6 98 yX6_chance cX6_chance 8 (some .long) 4 := ⟨⟨tw_1261, tw_1262, tw_1263, tw_100, cw_X6_chance⟩, by decide +kernel, by decide⟩
set_option maxRecDepth 100000 in
theorem kcX6_423 : Cond.constantLong RX6 423 (64 : Int64) ∈ TB := inT5 (List.mem_of_getElem? (i := 216) rfl) rfl
set_option maxRecDepth 100000 in
theorem tw_1266 : Cond.methodLink RL 102 yX6_image ∈ TB := inT5 (List.mem_of_getElem? (i := 217) rfl) rfl
set_option maxRecDepth 100000 in
theorem tw_1267 : Cond.instanceMethod yX6_image ∈ TB := inT5 (List.mem_of_getElem? (i := 218) rfl) rfl
set_option maxRecDepth 100000 in
theorem tw_1268 : Cond.selects RX6 yX6_image yX6_image ∈ TB := inT5 (List.mem_of_getElem? (i := 219) rfl) rfl
theorem mwL_102 : MwV RL RX6 102 yX6_image cX6_image 2 (some .int) 0 := ⟨⟨tw_1266, tw_1267, tw_1268, tw_100, cw_X6_image⟩, by decide +kernel, by decide⟩
set_option maxRecDepth 100000 in
theorem tw_1270 : Cond.methodLink RL 106 yX6_back ∈ TB := inT5 (List.mem_of_getElem? (i := 221) rfl) rfl
set_option maxRecDepth 100000 in
theorem tw_1271 : Cond.instanceMethod yX6_back ∈ TB := inT5 (List.mem_of_getElem? (i := 222) rfl) rfl
set_option maxRecDepth 100000 in
theorem tw_1272 : Cond.selects RX6 yX6_back yX6_back ∈ TB := inT5 (List.mem_of_getElem? (i := 223) rfl) rfl
theorem mwL_106 : MwV RL RX6 106 yX6_back cX6_back 2 (some .int) 0 := ⟨⟨tw_1270, tw_1271, tw_1272, tw_100, cw_X6_back⟩, by decide +kernel, by decide⟩
set_option maxRecDepth 100000 in
theorem tw_1274 : Cond.methodLink RL 110 yX6_count ∈ TB := inT5 (List.mem_of_getElem? (i := 225) rfl) rfl
set_option maxRecDepth 100000 in
theorem tw_1275 : Cond.instanceMethod yX6_count ∈ TB := inT5 (List.mem_of_getElem? (i := 226) rfl) rfl
set_option maxRecDepth 100000 in
theorem tw_1276 : Cond.selects RX6 yX6_count yX6_count ∈ TB := inT5 (List.mem_of_getElem? (i := 227) rfl) rfl
theorem mwL_110 : MwV RL RX6 110 yX6_count cX6_count 2 (some .int) 1 := ⟨⟨tw_1274, tw_1275, tw_1276, tw_100, cw_X6_count⟩, by decide +kernel, by decide⟩
set_option maxRecDepth 100000 in
theorem tw_1278 : Cond.methodLink RL 114 yX6_sheet ∈ TB := inT5 (List.mem_of_getElem? (i := 229) rfl) rfl
theorem mwL_114 : MwV RL RX6 114 yX6_sheet cX6_sheet 5 (some .int) 3 := ⟨⟨tw_1278, tw_1248, tw_1249, tw_100, cw_X6_sheet⟩, by decide +kernel, by decide⟩
set_option maxRecDepth 100000 in
theorem tw_1279 : Cond.methodLink RL 118 yX6_cell ∈ TB := inT5 (List.mem_of_getElem? (i := 230) rfl) rfl
set_option maxRecDepth 100000 in
theorem tw_1280 : Cond.instanceMethod yX6_cell ∈ TB := inT5 (List.mem_of_getElem? (i := 231) rfl) rfl
set_option maxRecDepth 100000 in
theorem tw_1281 : Cond.selects RX6 yX6_cell yX6_cell ∈ TB := inT5 (List.mem_of_getElem? (i := 232) rfl) rfl
theorem mwL_118 : MwV RL RX6 118 yX6_cell cX6_cell 4 (some .int) 3 := ⟨⟨tw_1279, tw_1280, tw_1281, tw_100, cw_X6_cell⟩, by decide +kernel, by decide⟩
set_option maxRecDepth 100000 in
theorem tw_1283 : Cond.methodLink RL 123 yX6_copy ∈ TB := inT5 (List.mem_of_getElem? (i := 234) rfl) rfl
set_option maxRecDepth 100000 in
theorem tw_1284 : Cond.instanceMethod yX6_copy ∈ TB := inT5 (List.mem_of_getElem? (i := 235) rfl) rfl
set_option maxRecDepth 100000 in
theorem tw_1285 : Cond.selects RX6 yX6_copy yX6_copy ∈ TB := inT5 (List.mem_of_getElem? (i := 236) rfl) rfl
theorem mwL_123 : MwV RL RX6 123 yX6_copy cX6_copy 9 (some .int) 5 := ⟨⟨tw_1283, tw_1284, tw_1285, tw_100, cw_X6_copy⟩, by decide +kernel, by decide⟩
set_option maxRecDepth 100000 in
theorem tw_1287 : Cond.methodLink RL 128 yX6_exarchate ∈ TB := inT5 (List.mem_of_getElem? (i := 238) rfl) rfl
set_option maxRecDepth 100000 in
theorem tw_1288 : Cond.instanceMethod yX6_exarchate ∈ TB := inT5 (List.mem_of_getElem? (i := 239) rfl) rfl
set_option maxRecDepth 100000 in
theorem tw_1289 : Cond.selects RX6 yX6_exarchate yX6_exarchate ∈ TB := inT6 (List.mem_of_getElem? (i := 0) rfl) rfl
theorem mwL_128 : MwV RL RX6 128 yX6_exarchate cX6_exarchate 8 (some .int) 4 := ⟨⟨tw_1287, tw_1288, tw_1289, tw_100, cw_X6_exarchate⟩, by decide +kernel, by decide⟩
set_option maxRecDepth 100000 in
theorem tw_1291 : Cond.methodLink RX6 436 yX6_person ∈ TB := inT6 (List.mem_of_getElem? (i := 2) rfl) rfl
theorem mwX6_436 : MwV RX6 RX6 436 yX6_person cX6_person 5 (some .int) 3 := ⟨⟨tw_1291, tw_1129, tw_1130, tw_100, cw_X6_person⟩, by decide +kernel, by decide⟩
set_option maxRecDepth 100000 in
theorem tw_1292 : Cond.methodLink RL 132 yX6_taken ∈ TB := inT6 (List.mem_of_getElem? (i := 3) rfl) rfl
set_option maxRecDepth 100000 in
theorem tw_1293 : Cond.instanceMethod yX6_taken ∈ TB := inT6 (List.mem_of_getElem? (i := 4) rfl) rfl
set_option maxRecDepth 100000 in
theorem tw_1294 : Cond.selects RX6 yX6_taken yX6_taken ∈ TB := inT6 (List.mem_of_getElem? (i := 5) rfl) rfl
theorem mwL_132 : MwV RL RX6 132 yX6_taken cX6_taken 4 (some .int) 2 := ⟨⟨tw_1292, tw_1293, tw_1294, tw_100, cw_X6_taken⟩, by decide +kernel, by decide⟩
set_option maxRecDepth 100000 in
theorem tw_1296 : Cond.methodLink RX6 439 yX6_over ∈ TB := inT6 (List.mem_of_getElem? (i := 7) rfl) rfl
set_option maxRecDepth 100000 in
theorem tw_1297 : Cond.static yX6_over ∈ TB := inT6 (List.mem_of_getElem? (i := 8) rfl) rfl
theorem mwX6_439 : MwS RX6 439 yX6_over cX6_over 1 (some .int) 1 := ⟨⟨tw_1296, tw_1297, tw_100, cw_X6_over⟩, by decide +kernel, by decide⟩
