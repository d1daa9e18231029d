set_option maxRecDepth 20000 in
theorem fX5_10 : Cond.fieldLink RX5 10 (TX5 0).1 (TX5 0).2.1 (TX5 0).2.2.1 ∈ TB := TB_in (List.mem_of_getElem? (i := 232) rfl) rfl
set_option maxRecDepth 20000 in
theorem fX5_16 : Cond.fieldLink RX5 16 (TX5 1).1 (TX5 1).2.1 (TX5 1).2.2.1 ∈ TB := TB_in (List.mem_of_getElem? (i := 233) rfl) rfl
set_option maxRecDepth 20000 in
theorem fX5_19 : Cond.fieldLink RX5 19 (TX5 2).1 (TX5 2).2.1 (TX5 2).2.2.1 ∈ TB := TB_in (List.mem_of_getElem? (i := 234) rfl) rfl
set_option maxRecDepth 20000 in
theorem fX5_22 : Cond.fieldLink RX5 22 (TX5 3).1 (TX5 3).2.1 (TX5 3).2.2.1 ∈ TB := TB_in (List.mem_of_getElem? (i := 235) rfl) rfl
set_option maxRecDepth 20000 in
theorem fX5_29 : Cond.fieldLink RX5 29 (TX5 4).1 (TX5 4).2.1 (TX5 4).2.2.1 ∈ TB := TB_in (List.mem_of_getElem? (i := 236) rfl) rfl
set_option maxRecDepth 20000 in
theorem fX5_35 : Cond.fieldLink RX5 35 (TX5 5).1 (TX5 5).2.1 (TX5 5).2.2.1 ∈ TB := TB_in (List.mem_of_getElem? (i := 237) rfl) rfl
set_option maxRecDepth 20000 in
theorem fX5_42 : Cond.fieldLink RX5 42 (TX5 6).1 (TX5 6).2.1 (TX5 6).2.2.1 ∈ TB := TB_in (List.mem_of_getElem? (i := 238) rfl) rfl
set_option maxRecDepth 20000 in
theorem fX5_46 : Cond.fieldLink RX5 46 (TX5 7).1 (TX5 7).2.1 (TX5 7).2.2.1 ∈ TB := TB_in (List.mem_of_getElem? (i := 239) rfl) rfl
set_option maxRecDepth 20000 in
theorem fX5_49 : Cond.fieldLink RX5 49 (TX5 8).1 (TX5 8).2.1 (TX5 8).2.2.1 ∈ TB := TB_in (List.mem_of_getElem? (i := 240) rfl) rfl
set_option maxRecDepth 20000 in
theorem fX5_53 : Cond.fieldLink RX5 53 (TX5 9).1 (TX5 9).2.1 (TX5 9).2.2.1 ∈ TB := TB_in (List.mem_of_getElem? (i := 241) rfl) rfl
set_option maxRecDepth 20000 in
theorem fX5_65 : Cond.fieldLink RX5 65 (TX1 0).1 (TX1 0).2.1 (TX1 0).2.2.1 ∈ TB := TB_in (List.mem_of_getElem? (i := 93) rfl) rfl
set_option maxRecDepth 20000 in
theorem fX5_77 : Cond.fieldLink RX5 77 (TX1 1).1 (TX1 1).2.1 (TX1 1).2.2.1 ∈ TB := TB_in (List.mem_of_getElem? (i := 96) rfl) rfl
set_option maxRecDepth 20000 in
theorem fX5_80 : Cond.fieldLink RX5 80 (TX1 3).1 (TX1 3).2.1 (TX1 3).2.2.1 ∈ TB := TB_in (List.mem_of_getElem? (i := 101) rfl) rfl
set_option maxRecDepth 20000 in
theorem fX5_83 : Cond.fieldLink RX5 83 (TX1 7).1 (TX1 7).2.1 (TX1 7).2.2.1 ∈ TB := TB_in (List.mem_of_getElem? (i := 111) rfl) rfl
set_option maxRecDepth 20000 in
theorem fX5_112 : Cond.fieldLink RX5 112 "StarCrew" "MOST_SETTING" "[I" ∈ TB := TB_in (List.mem_of_getElem? (i := 332) rfl) rfl
set_option maxRecDepth 20000 in
theorem fX5_119 : Cond.fieldLink RX5 119 (TX1 8).1 (TX1 8).2.1 (TX1 8).2.2.1 ∈ TB := TB_in (List.mem_of_getElem? (i := 114) rfl) rfl
set_option maxRecDepth 20000 in
theorem fX5_142 : Cond.fieldLink RX5 142 (TX1 5).1 (TX1 5).2.1 (TX1 5).2.2.1 ∈ TB := TB_in (List.mem_of_getElem? (i := 105) rfl) rfl
set_option maxRecDepth 20000 in
theorem fX5_145 : Cond.fieldLink RX5 145 (TX1 2).1 (TX1 2).2.1 (TX1 2).2.2.1 ∈ TB := TB_in (List.mem_of_getElem? (i := 99) rfl) rfl
set_option maxRecDepth 20000 in
theorem fX5_194 : Cond.fieldLink RX5 194 (TX1 9).1 (TX1 9).2.1 (TX1 9).2.2.1 ∈ TB := TB_in (List.mem_of_getElem? (i := 117) rfl) rfl
set_option maxRecDepth 20000 in
theorem fX5_200 : Cond.fieldLink RX5 200 (TX1 10).1 (TX1 10).2.1 (TX1 10).2.2.1 ∈ TB := TB_in (List.mem_of_getElem? (i := 119) rfl) rfl
set_option maxRecDepth 20000 in
theorem fX5_223 : Cond.fieldLink RX5 223 (TX1 12).1 (TX1 12).2.1 (TX1 12).2.2.1 ∈ TB := TB_in (List.mem_of_getElem? (i := 123) rfl) rfl
set_option maxRecDepth 20000 in
theorem fX5_226 : Cond.fieldLink RX5 226 (TX3 0).1 (TX3 0).2.1 (TX3 0).2.2.1 ∈ TB := TB_in (List.mem_of_getElem? (i := 189) rfl) rfl
set_option maxRecDepth 20000 in
theorem fX5_230 : Cond.fieldLink RX5 230 (TX2 1).1 (TX2 1).2.1 (TX2 1).2.2.1 ∈ TB := TB_in (List.mem_of_getElem? (i := 166) rfl) rfl
set_option maxRecDepth 20000 in
theorem fX5_247 : Cond.fieldLink RX5 247 (TX1 11).1 (TX1 11).2.1 (TX1 11).2.2.1 ∈ TB := TB_in (List.mem_of_getElem? (i := 121) rfl) rfl
set_option maxRecDepth 20000 in
theorem fX5_256 : Cond.fieldLink RX5 256 (TX0 1).1 (TX0 1).2.1 (TX0 1).2.2.1 ∈ TB := TB_in (List.mem_of_getElem? (i := 222) rfl) rfl
set_option maxRecDepth 20000 in
theorem fX5_260 : Cond.fieldLink RX5 260 (TX0 0).1 (TX0 0).2.1 (TX0 0).2.2.1 ∈ TB := TB_in (List.mem_of_getElem? (i := 220) rfl) rfl
set_option maxRecDepth 20000 in
theorem fX5_266 : Cond.fieldLink RX5 266 (TX0 2).1 (TX0 2).2.1 (TX0 2).2.2.1 ∈ TB := TB_in (List.mem_of_getElem? (i := 224) rfl) rfl
set_option maxRecDepth 20000 in
theorem fX5_275 : Cond.fieldLink RX5 275 (TX1 6).1 (TX1 6).2.1 (TX1 6).2.2.1 ∈ TB := TB_in (List.mem_of_getElem? (i := 108) rfl) rfl
set_option maxRecDepth 20000 in
theorem fX0_9 : Cond.fieldLink RX0 9 (TX0 0).1 (TX0 0).2.1 (TX0 0).2.2.1 ∈ TB := TB_in (List.mem_of_getElem? (i := 219) rfl) rfl
set_option maxRecDepth 20000 in
theorem fX0_15 : Cond.fieldLink RX0 15 (TX0 1).1 (TX0 1).2.1 (TX0 1).2.2.1 ∈ TB := TB_in (List.mem_of_getElem? (i := 221) rfl) rfl
set_option maxRecDepth 20000 in
theorem fX0_18 : Cond.fieldLink RX0 18 (TX0 2).1 (TX0 2).2.1 (TX0 2).2.2.1 ∈ TB := TB_in (List.mem_of_getElem? (i := 223) rfl) rfl
set_option maxRecDepth 20000 in
theorem fX1_9 : Cond.fieldLink RX1 9 (TX1 0).1 (TX1 0).2.1 (TX1 0).2.2.1 ∈ TB := TB_in (List.mem_of_getElem? (i := 91) rfl) rfl
set_option maxRecDepth 20000 in
theorem fX1_15 : Cond.fieldLink RX1 15 (TX1 1).1 (TX1 1).2.1 (TX1 1).2.2.1 ∈ TB := TB_in (List.mem_of_getElem? (i := 95) rfl) rfl
set_option maxRecDepth 20000 in
theorem fX1_19 : Cond.fieldLink RX1 19 (TX1 2).1 (TX1 2).2.1 (TX1 2).2.2.1 ∈ TB := TB_in (List.mem_of_getElem? (i := 97) rfl) rfl
set_option maxRecDepth 20000 in
theorem fX1_22 : Cond.fieldLink RX1 22 (TX1 3).1 (TX1 3).2.1 (TX1 3).2.2.1 ∈ TB := TB_in (List.mem_of_getElem? (i := 100) rfl) rfl
set_option maxRecDepth 20000 in
theorem fX1_25 : Cond.fieldLink RX1 25 (TX1 4).1 (TX1 4).2.1 (TX1 4).2.2.1 ∈ TB := TB_in (List.mem_of_getElem? (i := 102) rfl) rfl
set_option maxRecDepth 20000 in
theorem fX1_28 : Cond.fieldLink RX1 28 (TX1 5).1 (TX1 5).2.1 (TX1 5).2.2.1 ∈ TB := TB_in (List.mem_of_getElem? (i := 103) rfl) rfl
set_option maxRecDepth 20000 in
theorem fX1_31 : Cond.fieldLink RX1 31 (TX1 6).1 (TX1 6).2.1 (TX1 6).2.2.1 ∈ TB := TB_in (List.mem_of_getElem? (i := 106) rfl) rfl
set_option maxRecDepth 20000 in
theorem fX1_34 : Cond.fieldLink RX1 34 (TX1 7).1 (TX1 7).2.1 (TX1 7).2.2.1 ∈ TB := TB_in (List.mem_of_getElem? (i := 109) rfl) rfl
set_option maxRecDepth 20000 in
theorem fX1_37 : Cond.fieldLink RX1 37 (TX1 8).1 (TX1 8).2.1 (TX1 8).2.2.1 ∈ TB := TB_in (List.mem_of_getElem? (i := 113) rfl) rfl
set_option maxRecDepth 20000 in
theorem fX1_40 : Cond.fieldLink RX1 40 (TX1 9).1 (TX1 9).2.1 (TX1 9).2.2.1 ∈ TB := TB_in (List.mem_of_getElem? (i := 115) rfl) rfl
set_option maxRecDepth 20000 in
theorem fX1_43 : Cond.fieldLink RX1 43 (TX1 10).1 (TX1 10).2.1 (TX1 10).2.2.1 ∈ TB := TB_in (List.mem_of_getElem? (i := 118) rfl) rfl
set_option maxRecDepth 20000 in
theorem fX1_46 : Cond.fieldLink RX1 46 (TX1 11).1 (TX1 11).2.1 (TX1 11).2.2.1 ∈ TB := TB_in (List.mem_of_getElem? (i := 120) rfl) rfl
set_option maxRecDepth 20000 in
theorem fX1_49 : Cond.fieldLink RX1 49 (TX1 12).1 (TX1 12).2.1 (TX1 12).2.2.1 ∈ TB := TB_in (List.mem_of_getElem? (i := 122) rfl) rfl
set_option maxRecDepth 20000 in
theorem fX2_9 : Cond.fieldLink RX2 9 (TX2 0).1 (TX2 0).2.1 (TX2 0).2.2.1 ∈ TB := TB_in (List.mem_of_getElem? (i := 164) rfl) rfl
set_option maxRecDepth 20000 in
theorem fX2_15 : Cond.fieldLink RX2 15 (TX2 1).1 (TX2 1).2.1 (TX2 1).2.2.1 ∈ TB := TB_in (List.mem_of_getElem? (i := 165) rfl) rfl
set_option maxRecDepth 20000 in
theorem fX2_19 : Cond.fieldLink RX2 19 (TX2 2).1 (TX2 2).2.1 (TX2 2).2.2.1 ∈ TB := TB_in (List.mem_of_getElem? (i := 167) rfl) rfl
set_option maxRecDepth 20000 in
theorem fX2_22 : Cond.fieldLink RX2 22 (TX2 3).1 (TX2 3).2.1 (TX2 3).2.2.1 ∈ TB := TB_in (List.mem_of_getElem? (i := 169) rfl) rfl
set_option maxRecDepth 20000 in
theorem fX2_25 : Cond.fieldLink RX2 25 (TX2 4).1 (TX2 4).2.1 (TX2 4).2.2.1 ∈ TB := TB_in (List.mem_of_getElem? (i := 171) rfl) rfl
set_option maxRecDepth 20000 in
theorem fX2_28 : Cond.fieldLink RX2 28 (TX2 5).1 (TX2 5).2.1 (TX2 5).2.2.1 ∈ TB := TB_in (List.mem_of_getElem? (i := 173) rfl) rfl
set_option maxRecDepth 20000 in
theorem fX3_12 : Cond.fieldLink RX3 12 (TX3 0).1 (TX3 0).2.1 (TX3 0).2.2.1 ∈ TB := TB_in (List.mem_of_getElem? (i := 188) rfl) rfl
set_option maxRecDepth 20000 in
theorem fX3_25 : Cond.fieldLink RX3 25 (TX2 2).1 (TX2 2).2.1 (TX2 2).2.2.1 ∈ TB := TB_in (List.mem_of_getElem? (i := 168) rfl) rfl
set_option maxRecDepth 20000 in
theorem fX3_32 : Cond.fieldLink RX3 32 (TX2 3).1 (TX2 3).2.1 (TX2 3).2.2.1 ∈ TB := TB_in (List.mem_of_getElem? (i := 170) rfl) rfl
set_option maxRecDepth 20000 in
theorem fX3_85 : Cond.fieldLink RX3 85 (TX1 0).1 (TX1 0).2.1 (TX1 0).2.2.1 ∈ TB := TB_in (List.mem_of_getElem? (i := 94) rfl) rfl
set_option maxRecDepth 20000 in
theorem fX3_108 : Cond.fieldLink RX3 108 (TX1 5).1 (TX1 5).2.1 (TX1 5).2.2.1 ∈ TB := TB_in (List.mem_of_getElem? (i := 104) rfl) rfl
set_option maxRecDepth 20000 in
theorem fX3_114 : Cond.fieldLink RX3 114 (TX1 6).1 (TX1 6).2.1 (TX1 6).2.2.1 ∈ TB := TB_in (List.mem_of_getElem? (i := 107) rfl) rfl
set_option maxRecDepth 20000 in
theorem fX3_117 : Cond.fieldLink RX3 117 (TX1 9).1 (TX1 9).2.1 (TX1 9).2.2.1 ∈ TB := TB_in (List.mem_of_getElem? (i := 116) rfl) rfl
set_option maxRecDepth 20000 in
theorem fX3_127 : Cond.fieldLink RX3 127 (TX1 7).1 (TX1 7).2.1 (TX1 7).2.2.1 ∈ TB := TB_in (List.mem_of_getElem? (i := 112) rfl) rfl
set_option maxRecDepth 20000 in
theorem fX3_130 : Cond.fieldLink RX3 130 (TX2 4).1 (TX2 4).2.1 (TX2 4).2.2.1 ∈ TB := TB_in (List.mem_of_getElem? (i := 172) rfl) rfl
set_option maxRecDepth 20000 in
theorem fX4_9 : Cond.fieldLink RX4 9 (TX4 0).1 (TX4 0).2.1 (TX4 0).2.2.1 ∈ TB := TB_in (List.mem_of_getElem? (i := 201) rfl) rfl
set_option maxRecDepth 20000 in
theorem fX4_15 : Cond.fieldLink RX4 15 (TX4 1).1 (TX4 1).2.1 (TX4 1).2.2.1 ∈ TB := TB_in (List.mem_of_getElem? (i := 202) rfl) rfl
set_option maxRecDepth 20000 in
theorem fX4_18 : Cond.fieldLink RX4 18 (TX4 2).1 (TX4 2).2.1 (TX4 2).2.2.1 ∈ TB := TB_in (List.mem_of_getElem? (i := 203) rfl) rfl
set_option maxRecDepth 20000 in
theorem fX4_22 : Cond.fieldLink RX4 22 (TX4 3).1 (TX4 3).2.1 (TX4 3).2.2.1 ∈ TB := TB_in (List.mem_of_getElem? (i := 204) rfl) rfl
set_option maxRecDepth 20000 in
theorem fX4_25 : Cond.fieldLink RX4 25 (TX1 0).1 (TX1 0).2.1 (TX1 0).2.2.1 ∈ TB := TB_in (List.mem_of_getElem? (i := 92) rfl) rfl
set_option maxRecDepth 20000 in
theorem fX4_28 : Cond.fieldLink RX4 28 (TX1 7).1 (TX1 7).2.1 (TX1 7).2.2.1 ∈ TB := TB_in (List.mem_of_getElem? (i := 110) rfl) rfl
set_option maxRecDepth 20000 in
theorem fX4_31 : Cond.fieldLink RX4 31 (TX1 2).1 (TX1 2).2.1 (TX1 2).2.2.1 ∈ TB := TB_in (List.mem_of_getElem? (i := 98) rfl) rfl
set_option maxRecDepth 20000 in
theorem fX6_9 : Cond.fieldLink RX6 9 (TX6 0).1 (TX6 0).2.1 (TX6 0).2.2.1 ∈ TB := TB_in (List.mem_of_getElem? (i := 803) rfl) rfl
set_option maxRecDepth 20000 in
theorem fX6_13 : Cond.fieldLink RX6 13 (TX6 1).1 (TX6 1).2.1 (TX6 1).2.2.1 ∈ TB := TB_in (List.mem_of_getElem? (i := 804) rfl) rfl
set_option maxRecDepth 20000 in
theorem fX6_16 : Cond.fieldLink RX6 16 (TX6 2).1 (TX6 2).2.1 (TX6 2).2.2.1 ∈ TB := TB_in (List.mem_of_getElem? (i := 805) rfl) rfl
set_option maxRecDepth 20000 in
theorem fX6_19 : Cond.fieldLink RX6 19 (TX6 4).1 (TX6 4).2.1 (TX6 4).2.2.1 ∈ TB := TB_in (List.mem_of_getElem? (i := 807) rfl) rfl
set_option maxRecDepth 20000 in
theorem fX6_22 : Cond.fieldLink RX6 22 (TX6 5).1 (TX6 5).2.1 (TX6 5).2.2.1 ∈ TB := TB_in (List.mem_of_getElem? (i := 808) rfl) rfl
set_option maxRecDepth 20000 in
theorem fX6_25 : Cond.fieldLink RX6 25 (TX6 6).1 (TX6 6).2.1 (TX6 6).2.2.1 ∈ TB := TB_in (List.mem_of_getElem? (i := 809) rfl) rfl
set_option maxRecDepth 20000 in
theorem fX6_28 : Cond.fieldLink RX6 28 (TX6 12).1 (TX6 12).2.1 (TX6 12).2.2.1 ∈ TB := TB_in (List.mem_of_getElem? (i := 815) rfl) rfl
set_option maxRecDepth 20000 in
theorem fX6_32 : Cond.fieldLink RX6 32 (TX6 13).1 (TX6 13).2.1 (TX6 13).2.2.1 ∈ TB := TB_in (List.mem_of_getElem? (i := 816) rfl) rfl
set_option maxRecDepth 20000 in
theorem fX6_35 : Cond.fieldLink RX6 35 (TX6 14).1 (TX6 14).2.1 (TX6 14).2.2.1 ∈ TB := TB_in (List.mem_of_getElem? (i := 817) rfl) rfl
set_option maxRecDepth 20000 in
theorem fX6_38 : Cond.fieldLink RX6 38 (TX6 15).1 (TX6 15).2.1 (TX6 15).2.2.1 ∈ TB := TB_in (List.mem_of_getElem? (i := 818) rfl) rfl
set_option maxRecDepth 20000 in
theorem fX6_41 : Cond.fieldLink RX6 41 (TX6 16).1 (TX6 16).2.1 (TX6 16).2.2.1 ∈ TB := TB_in (List.mem_of_getElem? (i := 819) rfl) rfl
set_option maxRecDepth 20000 in
theorem fX6_44 : Cond.fieldLink RX6 44 (TX6 17).1 (TX6 17).2.1 (TX6 17).2.2.1 ∈ TB := TB_in (List.mem_of_getElem? (i := 820) rfl) rfl
set_option maxRecDepth 20000 in
theorem fX6_47 : Cond.fieldLink RX6 47 (TX6 18).1 (TX6 18).2.1 (TX6 18).2.2.1 ∈ TB := TB_in (List.mem_of_getElem? (i := 821) rfl) rfl
set_option maxRecDepth 20000 in
theorem fX6_50 : Cond.fieldLink RX6 50 (TX6 19).1 (TX6 19).2.1 (TX6 19).2.2.1 ∈ TB := TB_in (List.mem_of_getElem? (i := 822) rfl) rfl
set_option maxRecDepth 20000 in
theorem fX6_198 : Cond.fieldLink RX6 198 (TX6 7).1 (TX6 7).2.1 (TX6 7).2.2.1 ∈ TB := TB_in (List.mem_of_getElem? (i := 810) rfl) rfl
set_option maxRecDepth 20000 in
theorem fX6_202 : Cond.fieldLink RX6 202 (TX6 10).1 (TX6 10).2.1 (TX6 10).2.2.1 ∈ TB := TB_in (List.mem_of_getElem? (i := 813) rfl) rfl
set_option maxRecDepth 20000 in
theorem fX6_205 : Cond.fieldLink RX6 205 (TX6 9).1 (TX6 9).2.1 (TX6 9).2.2.1 ∈ TB := TB_in (List.mem_of_getElem? (i := 812) rfl) rfl
set_option maxRecDepth 20000 in
theorem fX6_208 : Cond.fieldLink RX6 208 (TX6 11).1 (TX6 11).2.1 (TX6 11).2.2.1 ∈ TB := TB_in (List.mem_of_getElem? (i := 814) rfl) rfl
set_option maxRecDepth 20000 in
theorem fX6_212 : Cond.fieldLink RX6 212 (TX6 8).1 (TX6 8).2.1 (TX6 8).2.2.1 ∈ TB := TB_in (List.mem_of_getElem? (i := 811) rfl) rfl
set_option maxRecDepth 20000 in
theorem fX6_259 : Cond.fieldLink RX6 259 (TX6 3).1 (TX6 3).2.1 (TX6 3).2.2.1 ∈ TB := TB_in (List.mem_of_getElem? (i := 806) rfl) rfl
set_option maxRecDepth 20000 in
theorem fJ0_9 : Cond.fieldLink RJ0 9 "java/lang/String" "value" "[B" ∈ TB := TB_in (List.mem_of_getElem? (i := 1273) rfl) rfl
set_option maxRecDepth 20000 in
theorem fJ0_15 : Cond.fieldLink RJ0 15 "java/lang/String" "coder" "B" ∈ TB := TB_in (List.mem_of_getElem? (i := 1274) rfl) rfl
set_option maxRecDepth 20000 in
theorem fJ0_38 : Cond.fieldLink RJ0 38 "java/lang/String" "COMPACT_STRINGS" "Z" ∈ TB := TB_in (List.mem_of_getElem? (i := 634) rfl) rfl
set_option maxRecDepth 20000 in
theorem fJ0_1053 : Cond.fieldLink RJ0 1053 "jdk/internal/util/Preconditions" "SIOOBE_FORMATTER" "Ljava/util/function/BiFunction;" ∈ TB := TB_in (List.mem_of_getElem? (i := 650) rfl) rfl
set_option maxRecDepth 20000 in
theorem fJ2_44 : Cond.fieldLink RJ2 44 "java/lang/StringUTF16" "$assertionsDisabled" "Z" ∈ TB := TB_in (List.mem_of_getElem? (i := 668) rfl) rfl
set_option maxRecDepth 20000 in
theorem fJ2_59 : Cond.fieldLink RJ2 59 "java/lang/StringUTF16" "HI_BYTE_SHIFT" "I" ∈ TB := TB_in (List.mem_of_getElem? (i := 670) rfl) rfl
set_option maxRecDepth 20000 in
theorem fJ2_63 : Cond.fieldLink RJ2 63 "java/lang/StringUTF16" "LO_BYTE_SHIFT" "I" ∈ TB := TB_in (List.mem_of_getElem? (i := 672) rfl) rfl
set_option maxRecDepth 20000 in
theorem lX5_1 : Cond.methodLink RX5 1 objectInit ∈ TB := TB_in (List.mem_of_getElem? (i := 79) rfl) rfl
set_option maxRecDepth 20000 in
theorem lX5_9 : Cond.methodLink RX5 9 yX1_init ∈ TB := TB_in (List.mem_of_getElem? (i := 84) rfl) rfl
set_option maxRecDepth 20000 in
theorem lX5_57 : Cond.methodLink RX5 57 yX5_isBelow ∈ TB := TB_in (List.mem_of_getElem? (i := 267) rfl) rfl
set_option maxRecDepth 20000 in
theorem lX5_61 : Cond.methodLink RX5 61 yX5_finding ∈ TB := TB_in (List.mem_of_getElem? (i := 270) rfl) rfl
set_option maxRecDepth 20000 in
theorem lX5_69 : Cond.methodLink RX5 69 yX1_addStar ∈ TB := TB_in (List.mem_of_getElem? (i := 275) rfl) rfl
set_option maxRecDepth 20000 in
theorem lX5_73 : Cond.methodLink RX5 73 yX1_starRow ∈ TB := TB_in (List.mem_of_getElem? (i := 283) rfl) rfl
set_option maxRecDepth 20000 in
theorem lX5_86 : Cond.methodLink RX5 86 yX1_wearOf ∈ TB := TB_in (List.mem_of_getElem? (i := 287) rfl) rfl
set_option maxRecDepth 20000 in
theorem lX5_90 : Cond.methodLink RX5 90 yX1_dimOf ∈ TB := TB_in (List.mem_of_getElem? (i := 291) rfl) rfl
set_option maxRecDepth 20000 in
theorem lX5_93 : Cond.methodLink RX5 93 yX1_isBright ∈ TB := TB_in (List.mem_of_getElem? (i := 295) rfl) rfl
set_option maxRecDepth 20000 in
theorem lX5_96 : Cond.methodLink RX5 96 yX1_mostOfStar ∈ TB := TB_in (List.mem_of_getElem? (i := 304) rfl) rfl
set_option maxRecDepth 20000 in
theorem lX5_99 : Cond.methodLink RX5 99 yX5_isWithin ∈ TB := TB_in (List.mem_of_getElem? (i := 307) rfl) rfl
set_option maxRecDepth 20000 in
theorem lX5_102 : Cond.methodLink RX5 102 yX5_replaced ∈ TB := TB_in (List.mem_of_getElem? (i := 310) rfl) rfl
set_option maxRecDepth 20000 in
theorem lX5_106 : Cond.methodLink RX5 106 yX1_crewRow ∈ TB := TB_in (List.mem_of_getElem? (i := 317) rfl) rfl
set_option maxRecDepth 20000 in
theorem lX5_109 : Cond.methodLink RX5 109 yX1_mostOfCrew ∈ TB := TB_in (List.mem_of_getElem? (i := 321) rfl) rfl
set_option maxRecDepth 20000 in
theorem lX5_115 : Cond.methodLink RX5 115 yX5_stepsBetween ∈ TB := TB_in (List.mem_of_getElem? (i := 338) rfl) rfl
set_option maxRecDepth 20000 in
theorem lX5_123 : Cond.methodLink RX5 123 yX1_passNight ∈ TB := TB_in (List.mem_of_getElem? (i := 352) rfl) rfl
set_option maxRecDepth 20000 in
theorem lX5_126 : Cond.methodLink RX5 126 yX1_brightSet ∈ TB := TB_in (List.mem_of_getElem? (i := 368) rfl) rfl
set_option maxRecDepth 20000 in
theorem lX5_130 : Cond.methodLink RX5 130 yJ6_bitCount_0f7a4 ∈ TB := TB_in (List.mem_of_getElem? (i := 373) rfl) rfl
set_option maxRecDepth 20000 in
theorem lX5_135 : Cond.methodLink RX5 135 yX1_lifeTogether ∈ TB := TB_in (List.mem_of_getElem? (i := 383) rfl) rfl
set_option maxRecDepth 20000 in
theorem lX5_139 : Cond.methodLink RX5 139 yX1_worthOf ∈ TB := TB_in (List.mem_of_getElem? (i := 387) rfl) rfl
set_option maxRecDepth 20000 in
theorem lX5_148 : Cond.methodLink RX5 148 yX1_lifeBehind ∈ TB := TB_in (List.mem_of_getElem? (i := 399) rfl) rfl
set_option maxRecDepth 20000 in
theorem lX5_151 : Cond.methodLink RX5 151 yX1_nightsBright ∈ TB := TB_in (List.mem_of_getElem? (i := 407) rfl) rfl
set_option maxRecDepth 20000 in
theorem lX5_154 : Cond.methodLink RX5 154 yX5_copyLives ∈ TB := TB_in (List.mem_of_getElem? (i := 415) rfl) rfl
set_option maxRecDepth 20000 in
theorem lX5_157 : Cond.methodLink RX5 157 yX1_wearDown ∈ TB := TB_in (List.mem_of_getElem? (i := 422) rfl) rfl
set_option maxRecDepth 20000 in
theorem lX5_161 : Cond.methodLink RX5 161 yJ9_min_7cf53 ∈ TB := TB_in (List.mem_of_getElem? (i := 344) rfl) rfl
set_option maxRecDepth 20000 in
theorem lX5_166 : Cond.methodLink RX5 166 yX1_mendDark ∈ TB := TB_in (List.mem_of_getElem? (i := 439) rfl) rfl
set_option maxRecDepth 20000 in
theorem lX5_169 : Cond.methodLink RX5 169 yX5_isSetOfStars ∈ TB := TB_in (List.mem_of_getElem? (i := 447) rfl) rfl
set_option maxRecDepth 20000 in
theorem lX5_173 : Cond.methodLink RX5 173 yX4_standAt ∈ TB := TB_in (List.mem_of_getElem? (i := 451) rfl) rfl
set_option maxRecDepth 20000 in
theorem lX5_177 : Cond.methodLink RX5 177 yX4_stepsBy ∈ TB := TB_in (List.mem_of_getElem? (i := 459) rfl) rfl
set_option maxRecDepth 20000 in
theorem lX5_180 : Cond.methodLink RX5 180 yX5_bestSet ∈ TB := TB_in (List.mem_of_getElem? (i := 470) rfl) rfl
set_option maxRecDepth 20000 in
theorem lX5_184 : Cond.methodLink RX5 184 yX5_canShare ∈ TB := TB_in (List.mem_of_getElem? (i := 487) rfl) rfl
set_option maxRecDepth 20000 in
theorem lX5_188 : Cond.methodLink RX5 188 yX5_firstShare ∈ TB := TB_in (List.mem_of_getElem? (i := 491) rfl) rfl
set_option maxRecDepth 20000 in
theorem lX5_191 : Cond.methodLink RX5 191 yX5_longerWay ∈ TB := TB_in (List.mem_of_getElem? (i := 495) rfl) rfl
set_option maxRecDepth 20000 in
theorem lX5_197 : Cond.methodLink RX5 197 yX1_addSign ∈ TB := TB_in (List.mem_of_getElem? (i := 508) rfl) rfl
set_option maxRecDepth 20000 in
theorem lX5_203 : Cond.methodLink RX5 203 yX1_signsWith ∈ TB := TB_in (List.mem_of_getElem? (i := 520) rfl) rfl
set_option maxRecDepth 20000 in
theorem lX5_206 : Cond.methodLink RX5 206 yX1_nearestOf ∈ TB := TB_in (List.mem_of_getElem? (i := 536) rfl) rfl
set_option maxRecDepth 20000 in
theorem lX5_209 : Cond.methodLink RX5 209 yX5_lackOfSheet ∈ TB := TB_in (List.mem_of_getElem? (i := 550) rfl) rfl
set_option maxRecDepth 20000 in
theorem lX5_212 : Cond.methodLink RX5 212 yX5_isAsSheet ∈ TB := TB_in (List.mem_of_getElem? (i := 554) rfl) rfl
set_option maxRecDepth 20000 in
theorem lX5_216 : Cond.methodLink RX5 216 yX1_draw ∈ TB := TB_in (List.mem_of_getElem? (i := 567) rfl) rfl
set_option maxRecDepth 20000 in
theorem lX5_219 : Cond.methodLink RX5 219 yX5_power ∈ TB := TB_in (List.mem_of_getElem? (i := 576) rfl) rfl
set_option maxRecDepth 20000 in
theorem lX5_235 : Cond.methodLink RX5 235 yX2_append ∈ TB := TB_in (List.mem_of_getElem? (i := 587) rfl) rfl
set_option maxRecDepth 20000 in
theorem lX5_239 : Cond.methodLink RX5 239 yX1_become ∈ TB := TB_in (List.mem_of_getElem? (i := 599) rfl) rfl
set_option maxRecDepth 20000 in
theorem lX5_243 : Cond.methodLink RX5 243 yX3_readInto ∈ TB := TB_in (List.mem_of_getElem? (i := 604) rfl) rfl
set_option maxRecDepth 20000 in
theorem lX5_250 : Cond.methodLink RX5 250 yX5_isUnder ∈ TB := TB_in (List.mem_of_getElem? (i := 734) rfl) rfl
set_option maxRecDepth 20000 in
theorem lX5_253 : Cond.methodLink RX5 253 yX0_renew ∈ TB := TB_in (List.mem_of_getElem? (i := 744) rfl) rfl
set_option maxRecDepth 20000 in
theorem lX5_257 : Cond.methodLink RX5 257 yX0_put ∈ TB := TB_in (List.mem_of_getElem? (i := 753) rfl) rfl
set_option maxRecDepth 20000 in
theorem lX5_263 : Cond.methodLink RX5 263 yX0_hasRange ∈ TB := TB_in (List.mem_of_getElem? (i := 761) rfl) rfl
set_option maxRecDepth 20000 in
theorem lX5_269 : Cond.methodLink RX5 269 arraycopyName ∈ TB := TB_in (List.mem_of_getElem? (i := 419) rfl) rfl
set_option maxRecDepth 20000 in
theorem lX5_278 : Cond.methodLink RX5 278 yX1_spotsHeld ∈ TB := TB_in (List.mem_of_getElem? (i := 789) rfl) rfl
set_option maxRecDepth 20000 in
theorem lX5_282 : Cond.methodLink RX5 282 yJ9_abs_0f7a4 ∈ TB := TB_in (List.mem_of_getElem? (i := 341) rfl) rfl
set_option maxRecDepth 20000 in
theorem lX5_285 : Cond.methodLink RX5 285 yX5_kindOver ∈ TB := TB_in (List.mem_of_getElem? (i := 737) rfl) rfl
set_option maxRecDepth 20000 in
theorem lX5_288 : Cond.methodLink RX5 288 yJ9_max_7cf53 ∈ TB := TB_in (List.mem_of_getElem? (i := 499) rfl) rfl
set_option maxRecDepth 20000 in
theorem lX5_291 : Cond.methodLink RX5 291 yX1_lifeNext ∈ TB := TB_in (List.mem_of_getElem? (i := 558) rfl) rfl
set_option maxRecDepth 20000 in
theorem lX0_3 : Cond.methodLink RX0 3 objectInit ∈ TB := TB_in (List.mem_of_getElem? (i := 218) rfl) rfl
set_option maxRecDepth 20000 in
theorem lX0_22 : Cond.methodLink RX0 22 yJ7_fill_53178 ∈ TB := TB_in (List.mem_of_getElem? (i := 748) rfl) rfl
set_option maxRecDepth 20000 in
theorem lX1_3 : Cond.methodLink RX1 3 objectInit ∈ TB := TB_in (List.mem_of_getElem? (i := 87) rfl) rfl
set_option maxRecDepth 20000 in
theorem lX1_52 : Cond.methodLink RX1 52 yJ7_fill_53178 ∈ TB := TB_in (List.mem_of_getElem? (i := 88) rfl) rfl
set_option maxRecDepth 20000 in
theorem lX1_58 : Cond.methodLink RX1 58 arraycopyName ∈ TB := TB_in (List.mem_of_getElem? (i := 603) rfl) rfl
set_option maxRecDepth 20000 in
theorem lX1_64 : Cond.methodLink RX1 64 yX1_dimOf ∈ TB := TB_in (List.mem_of_getElem? (i := 299) rfl) rfl
set_option maxRecDepth 20000 in
theorem lX1_68 : Cond.methodLink RX1 68 yX1_wearOf ∈ TB := TB_in (List.mem_of_getElem? (i := 364) rfl) rfl
set_option maxRecDepth 20000 in
theorem lX1_72 : Cond.methodLink RX1 72 yJ9_max_7cf53 ∈ TB := TB_in (List.mem_of_getElem? (i := 365) rfl) rfl
set_option maxRecDepth 20000 in
theorem lX1_78 : Cond.methodLink RX1 78 yX1_lifeNext ∈ TB := TB_in (List.mem_of_getElem? (i := 360) rfl) rfl
set_option maxRecDepth 20000 in
theorem lX1_81 : Cond.methodLink RX1 81 yX1_isBright ∈ TB := TB_in (List.mem_of_getElem? (i := 372) rfl) rfl
set_option maxRecDepth 20000 in
theorem lX1_85 : Cond.methodLink RX1 85 yX1_wearDown ∈ TB := TB_in (List.mem_of_getElem? (i := 356) rfl) rfl
set_option maxRecDepth 20000 in
theorem lX2_3 : Cond.methodLink RX2 3 objectInit ∈ TB := TB_in (List.mem_of_getElem? (i := 163) rfl) rfl
set_option maxRecDepth 20000 in
theorem lX2_31 : Cond.methodLink RX2 31 yX2_advance ∈ TB := TB_in (List.mem_of_getElem? (i := 612) rfl) rfl
set_option maxRecDepth 20000 in
theorem lX2_35 : Cond.methodLink RX2 35 yJ0_length_8abf5 ∈ TB := TB_in (List.mem_of_getElem? (i := 626) rfl) rfl
set_option maxRecDepth 20000 in
theorem lX2_40 : Cond.methodLink RX2 40 yJ0_charAt_5068e ∈ TB := TB_in (List.mem_of_getElem? (i := 636) rfl) rfl
set_option maxRecDepth 20000 in
theorem lX3_3 : Cond.methodLink RX3 3 objectInit ∈ TB := TB_in (List.mem_of_getElem? (i := 157) rfl) rfl
set_option maxRecDepth 20000 in
theorem lX3_18 : Cond.methodLink RX3 18 yX2_rewind ∈ TB := TB_in (List.mem_of_getElem? (i := 608) rfl) rfl
set_option maxRecDepth 20000 in
theorem lX3_21 : Cond.methodLink RX3 21 yX3_readItem ∈ TB := TB_in (List.mem_of_getElem? (i := 617) rfl) rfl
set_option maxRecDepth 20000 in
theorem lX3_29 : Cond.methodLink RX3 29 yX2_advance ∈ TB := TB_in (List.mem_of_getElem? (i := 678) rfl) rfl
set_option maxRecDepth 20000 in
theorem lX3_37 : Cond.methodLink RX3 37 yX2_isWord ∈ TB := TB_in (List.mem_of_getElem? (i := 622) rfl) rfl
set_option maxRecDepth 20000 in
theorem lX3_41 : Cond.methodLink RX3 41 yX3_readCrew ∈ TB := TB_in (List.mem_of_getElem? (i := 674) rfl) rfl
set_option maxRecDepth 20000 in
theorem lX3_46 : Cond.methodLink RX3 46 yX3_readSign ∈ TB := TB_in (List.mem_of_getElem? (i := 690) rfl) rfl
set_option maxRecDepth 20000 in
theorem lX3_49 : Cond.methodLink RX3 49 yX3_kindNamed ∈ TB := TB_in (List.mem_of_getElem? (i := 695) rfl) rfl
set_option maxRecDepth 20000 in
theorem lX3_53 : Cond.methodLink RX3 53 yX3_readStar ∈ TB := TB_in (List.mem_of_getElem? (i := 706) rfl) rfl
set_option maxRecDepth 20000 in
theorem lX3_57 : Cond.methodLink RX3 57 yX3_settingNamed ∈ TB := TB_in (List.mem_of_getElem? (i := 713) rfl) rfl
set_option maxRecDepth 20000 in
theorem lX3_60 : Cond.methodLink RX3 60 yX3_readSetting ∈ TB := TB_in (List.mem_of_getElem? (i := 721) rfl) rfl
set_option maxRecDepth 20000 in
theorem lX3_92 : Cond.methodLink RX3 92 yX3_numberBehind ∈ TB := TB_in (List.mem_of_getElem? (i := 684) rfl) rfl
set_option maxRecDepth 20000 in
theorem lX3_100 : Cond.methodLink RX3 100 yX1_addStar ∈ TB := TB_in (List.mem_of_getElem? (i := 712) rfl) rfl
set_option maxRecDepth 20000 in
theorem lX3_104 : Cond.methodLink RX3 104 yX3_number ∈ TB := TB_in (List.mem_of_getElem? (i := 679) rfl) rfl
set_option maxRecDepth 20000 in
theorem lX3_120 : Cond.methodLink RX3 120 yX1_addSign ∈ TB := TB_in (List.mem_of_getElem? (i := 694) rfl) rfl
set_option maxRecDepth 20000 in
theorem lX4_3 : Cond.methodLink RX4 3 objectInit ∈ TB := TB_in (List.mem_of_getElem? (i := 200) rfl) rfl
set_option maxRecDepth 20000 in
theorem lX4_34 : Cond.methodLink RX4 34 yX4_insert ∈ TB := TB_in (List.mem_of_getElem? (i := 455) rfl) rfl
set_option maxRecDepth 20000 in
theorem lX4_39 : Cond.methodLink RX4 39 yJ9_min_7cf53 ∈ TB := TB_in (List.mem_of_getElem? (i := 464) rfl) rfl
set_option maxRecDepth 20000 in
theorem lX4_45 : Cond.methodLink RX4 45 yJ6_bitCount_0f7a4 ∈ TB := TB_in (List.mem_of_getElem? (i := 465) rfl) rfl
set_option maxRecDepth 20000 in
theorem lL_9 : Cond.methodLink RL 9 yX5_init ∈ TB := TB_in (List.mem_of_getElem? (i := 76) rfl) rfl
set_option maxRecDepth 20000 in
theorem lL_12 : Cond.methodLink RL 12 yX6_init ∈ TB := TB_in (List.mem_of_getElem? (i := 799) rfl) rfl
set_option maxRecDepth 20000 in
theorem lL_13 : Cond.methodLink RL 13 yX5_star ∈ TB := TB_in (List.mem_of_getElem? (i := 263) rfl) rfl
set_option maxRecDepth 20000 in
theorem lL_17 : Cond.methodLink RL 17 yX6_star ∈ TB := TB_in (List.mem_of_getElem? (i := 865) rfl) rfl
set_option maxRecDepth 20000 in
theorem lL_18 : Cond.methodLink RL 18 yX5_of ∈ TB := TB_in (List.mem_of_getElem? (i := 279) rfl) rfl
set_option maxRecDepth 20000 in
theorem lL_21 : Cond.methodLink RL 21 yX6_of ∈ TB := TB_in (List.mem_of_getElem? (i := 888) rfl) rfl
set_option maxRecDepth 20000 in
theorem lL_22 : Cond.methodLink RL 22 yX5_change ∈ TB := TB_in (List.mem_of_getElem? (i := 300) rfl) rfl
set_option maxRecDepth 20000 in
theorem lL_26 : Cond.methodLink RL 26 yX6_change ∈ TB := TB_in (List.mem_of_getElem? (i := 912) rfl) rfl
set_option maxRecDepth 20000 in
theorem lL_27 : Cond.methodLink RL 27 yX5_crew ∈ TB := TB_in (List.mem_of_getElem? (i := 313) rfl) rfl
set_option maxRecDepth 20000 in
theorem lL_30 : Cond.methodLink RL 30 yX6_crew ∈ TB := TB_in (List.mem_of_getElem? (i := 916) rfl) rfl
set_option maxRecDepth 20000 in
theorem lL_31 : Cond.methodLink RL 31 yX5_crewOf ∈ TB := TB_in (List.mem_of_getElem? (i := 324) rfl) rfl
set_option maxRecDepth 20000 in
theorem lL_34 : Cond.methodLink RL 34 yX6_crewOf ∈ TB := TB_in (List.mem_of_getElem? (i := 923) rfl) rfl
set_option maxRecDepth 20000 in
theorem lL_35 : Cond.methodLink RL 35 yX5_set ∈ TB := TB_in (List.mem_of_getElem? (i := 328) rfl) rfl
set_option maxRecDepth 20000 in
theorem lL_38 : Cond.methodLink RL 38 yX6_set ∈ TB := TB_in (List.mem_of_getElem? (i := 927) rfl) rfl
set_option maxRecDepth 20000 in
theorem lL_39 : Cond.methodLink RL 39 yX5_apart ∈ TB := TB_in (List.mem_of_getElem? (i := 334) rfl) rfl
set_option maxRecDepth 20000 in
theorem lL_42 : Cond.methodLink RL 42 yX6_apart ∈ TB := TB_in (List.mem_of_getElem? (i := 934) rfl) rfl
set_option maxRecDepth 20000 in
theorem lL_43 : Cond.methodLink RL 43 yX5_go ∈ TB := TB_in (List.mem_of_getElem? (i := 347) rfl) rfl
set_option maxRecDepth 20000 in
theorem lL_47 : Cond.methodLink RL 47 yX6_go ∈ TB := TB_in (List.mem_of_getElem? (i := 944) rfl) rfl
set_option maxRecDepth 20000 in
theorem lL_48 : Cond.methodLink RL 48 yX5_now ∈ TB := TB_in (List.mem_of_getElem? (i := 379) rfl) rfl
set_option maxRecDepth 20000 in
theorem lL_51 : Cond.methodLink RL 51 yX6_now ∈ TB := TB_in (List.mem_of_getElem? (i := 967) rfl) rfl
set_option maxRecDepth 20000 in
theorem lL_52 : Cond.methodLink RL 52 yX5_mends ∈ TB := TB_in (List.mem_of_getElem? (i := 391) rfl) rfl
set_option maxRecDepth 20000 in
theorem lL_55 : Cond.methodLink RL 55 yX6_mends ∈ TB := TB_in (List.mem_of_getElem? (i := 982) rfl) rfl
set_option maxRecDepth 20000 in
theorem lL_56 : Cond.methodLink RL 56 yX5_ahead ∈ TB := TB_in (List.mem_of_getElem? (i := 395) rfl) rfl
set_option maxRecDepth 20000 in
theorem lL_59 : Cond.methodLink RL 59 yX6_ahead ∈ TB := TB_in (List.mem_of_getElem? (i := 990) rfl) rfl
set_option maxRecDepth 20000 in
theorem lL_60 : Cond.methodLink RL 60 yX5_lasts ∈ TB := TB_in (List.mem_of_getElem? (i := 403) rfl) rfl
set_option maxRecDepth 20000 in
theorem lL_63 : Cond.methodLink RL 63 yX6_lasts ∈ TB := TB_in (List.mem_of_getElem? (i := 1002) rfl) rfl
set_option maxRecDepth 20000 in
theorem lL_64 : Cond.methodLink RL 64 yX5_shine ∈ TB := TB_in (List.mem_of_getElem? (i := 411) rfl) rfl
set_option maxRecDepth 20000 in
theorem lL_67 : Cond.methodLink RL 67 yX6_shine ∈ TB := TB_in (List.mem_of_getElem? (i := 1010) rfl) rfl
set_option maxRecDepth 20000 in
theorem lL_68 : Cond.methodLink RL 68 yX5_dark ∈ TB := TB_in (List.mem_of_getElem? (i := 423) rfl) rfl
set_option maxRecDepth 20000 in
theorem lL_71 : Cond.methodLink RL 71 yX6_dark ∈ TB := TB_in (List.mem_of_getElem? (i := 1014) rfl) rfl
set_option maxRecDepth 20000 in
theorem lL_72 : Cond.methodLink RL 72 yX5_kindFor ∈ TB := TB_in (List.mem_of_getElem? (i := 427) rfl) rfl
set_option maxRecDepth 20000 in
theorem lL_75 : Cond.methodLink RL 75 yX6_kindFor ∈ TB := TB_in (List.mem_of_getElem? (i := 1018) rfl) rfl
set_option maxRecDepth 20000 in
theorem lL_76 : Cond.methodLink RL 76 yX5_dustFor ∈ TB := TB_in (List.mem_of_getElem? (i := 431) rfl) rfl
set_option maxRecDepth 20000 in
theorem lL_79 : Cond.methodLink RL 79 yX6_dustFor ∈ TB := TB_in (List.mem_of_getElem? (i := 1022) rfl) rfl
set_option maxRecDepth 20000 in
theorem lL_80 : Cond.methodLink RL 80 yX5_uses ∈ TB := TB_in (List.mem_of_getElem? (i := 435) rfl) rfl
set_option maxRecDepth 20000 in
theorem lL_83 : Cond.methodLink RL 83 yX6_uses ∈ TB := TB_in (List.mem_of_getElem? (i := 1026) rfl) rfl
set_option maxRecDepth 20000 in
theorem lL_84 : Cond.methodLink RL 84 yX5_round ∈ TB := TB_in (List.mem_of_getElem? (i := 443) rfl) rfl
set_option maxRecDepth 20000 in
theorem lL_87 : Cond.methodLink RL 87 yX6_round ∈ TB := TB_in (List.mem_of_getElem? (i := 1030) rfl) rfl
set_option maxRecDepth 20000 in
theorem lL_88 : Cond.methodLink RL 88 yX5_best ∈ TB := TB_in (List.mem_of_getElem? (i := 466) rfl) rfl
set_option maxRecDepth 20000 in
theorem lL_91 : Cond.methodLink RL 91 yX6_best ∈ TB := TB_in (List.mem_of_getElem? (i := 1046) rfl) rfl
set_option maxRecDepth 20000 in
theorem lL_92 : Cond.methodLink RL 92 yX5_bestWorth ∈ TB := TB_in (List.mem_of_getElem? (i := 474) rfl) rfl
set_option maxRecDepth 20000 in
theorem lL_95 : Cond.methodLink RL 95 yX6_bestWorth ∈ TB := TB_in (List.mem_of_getElem? (i := 1058) rfl) rfl
set_option maxRecDepth 20000 in
theorem lL_96 : Cond.methodLink RL 96 yX5_from ∈ TB := TB_in (List.mem_of_getElem? (i := 478) rfl) rfl
set_option maxRecDepth 20000 in
theorem lL_99 : Cond.methodLink RL 99 yX6_from ∈ TB := TB_in (List.mem_of_getElem? (i := 1062) rfl) rfl
set_option maxRecDepth 20000 in
theorem lL_100 : Cond.methodLink RL 100 yX5_share ∈ TB := TB_in (List.mem_of_getElem? (i := 483) rfl) rfl
set_option maxRecDepth 20000 in
theorem lL_103 : Cond.methodLink RL 103 yX6_share ∈ TB := TB_in (List.mem_of_getElem? (i := 1066) rfl) rfl
set_option maxRecDepth 20000 in
theorem lL_104 : Cond.methodLink RL 104 yX5_longer ∈ TB := TB_in (List.mem_of_getElem? (i := 500) rfl) rfl
set_option maxRecDepth 20000 in
theorem lL_107 : Cond.methodLink RL 107 yX6_longer ∈ TB := TB_in (List.mem_of_getElem? (i := 1082) rfl) rfl
set_option maxRecDepth 20000 in
theorem lL_108 : Cond.methodLink RL 108 yX5_sign ∈ TB := TB_in (List.mem_of_getElem? (i := 504) rfl) rfl
set_option maxRecDepth 20000 in
theorem lL_111 : Cond.methodLink RL 111 yX6_sign ∈ TB := TB_in (List.mem_of_getElem? (i := 1086) rfl) rfl
set_option maxRecDepth 20000 in
theorem lL_112 : Cond.methodLink RL 112 yX5_signOf ∈ TB := TB_in (List.mem_of_getElem? (i := 512) rfl) rfl
set_option maxRecDepth 20000 in
theorem lL_115 : Cond.methodLink RL 115 yX6_signOf ∈ TB := TB_in (List.mem_of_getElem? (i := 1094) rfl) rfl
set_option maxRecDepth 20000 in
theorem lL_116 : Cond.methodLink RL 116 yX5_may ∈ TB := TB_in (List.mem_of_getElem? (i := 516) rfl) rfl
set_option maxRecDepth 20000 in
theorem lL_119 : Cond.methodLink RL 119 yX6_may ∈ TB := TB_in (List.mem_of_getElem? (i := 1102) rfl) rfl
set_option maxRecDepth 20000 in
theorem lL_120 : Cond.methodLink RL 120 yX5_tells ∈ TB := TB_in (List.mem_of_getElem? (i := 524) rfl) rfl
set_option maxRecDepth 20000 in
theorem lL_123 : Cond.methodLink RL 123 yX6_tells ∈ TB := TB_in (List.mem_of_getElem? (i := 1110) rfl) rfl
set_option maxRecDepth 20000 in
theorem lL_124 : Cond.methodLink RL 124 yX5_told ∈ TB := TB_in (List.mem_of_getElem? (i := 528) rfl) rfl
set_option maxRecDepth 20000 in
theorem lL_128 : Cond.methodLink RL 128 yX6_told ∈ TB := TB_in (List.mem_of_getElem? (i := 1114) rfl) rfl
set_option maxRecDepth 20000 in
theorem lL_129 : Cond.methodLink RL 129 yX5_steers ∈ TB := TB_in (List.mem_of_getElem? (i := 532) rfl) rfl
set_option maxRecDepth 20000 in
theorem lL_132 : Cond.methodLink RL 132 yX6_steers ∈ TB := TB_in (List.mem_of_getElem? (i := 1118) rfl) rfl
set_option maxRecDepth 20000 in
theorem lL_133 : Cond.methodLink RL 133 yX5_sees ∈ TB := TB_in (List.mem_of_getElem? (i := 542) rfl) rfl
set_option maxRecDepth 20000 in
theorem lL_136 : Cond.methodLink RL 136 yX6_sees ∈ TB := TB_in (List.mem_of_getElem? (i := 1126) rfl) rfl
set_option maxRecDepth 20000 in
theorem lL_137 : Cond.methodLink RL 137 yX5_which ∈ TB := TB_in (List.mem_of_getElem? (i := 546) rfl) rfl
set_option maxRecDepth 20000 in
theorem lL_140 : Cond.methodLink RL 140 yX6_which ∈ TB := TB_in (List.mem_of_getElem? (i := 1130) rfl) rfl
set_option maxRecDepth 20000 in
theorem lL_141 : Cond.methodLink RL 141 yX5_kinds ∈ TB := TB_in (List.mem_of_getElem? (i := 559) rfl) rfl
set_option maxRecDepth 20000 in
theorem lL_144 : Cond.methodLink RL 144 yX6_kinds ∈ TB := TB_in (List.mem_of_getElem? (i := 1149) rfl) rfl
set_option maxRecDepth 20000 in
theorem lL_145 : Cond.methodLink RL 145 yX5_drops ∈ TB := TB_in (List.mem_of_getElem? (i := 563) rfl) rfl
set_option maxRecDepth 20000 in
theorem lL_148 : Cond.methodLink RL 148 yX6_drops ∈ TB := TB_in (List.mem_of_getElem? (i := 1153) rfl) rfl
set_option maxRecDepth 20000 in
theorem lL_149 : Cond.methodLink RL 149 yX5_odds ∈ TB := TB_in (List.mem_of_getElem? (i := 572) rfl) rfl
set_option maxRecDepth 20000 in
theorem lL_153 : Cond.methodLink RL 153 yX6_odds ∈ TB := TB_in (List.mem_of_getElem? (i := 1162) rfl) rfl
set_option maxRecDepth 20000 in
theorem lL_154 : Cond.methodLink RL 154 yX5_seed ∈ TB := TB_in (List.mem_of_getElem? (i := 579) rfl) rfl
set_option maxRecDepth 20000 in
theorem lL_157 : Cond.methodLink RL 157 yX6_seed ∈ TB := TB_in (List.mem_of_getElem? (i := 1167) rfl) rfl
set_option maxRecDepth 20000 in
theorem lL_158 : Cond.methodLink RL 158 yX5_feed ∈ TB := TB_in (List.mem_of_getElem? (i := 583) rfl) rfl
set_option maxRecDepth 20000 in
theorem lL_161 : Cond.methodLink RL 161 yX6_feed ∈ TB := TB_in (List.mem_of_getElem? (i := 1171) rfl) rfl
set_option maxRecDepth 20000 in
theorem lL_162 : Cond.methodLink RL 162 yX5_wipe ∈ TB := TB_in (List.mem_of_getElem? (i := 591) rfl) rfl
set_option maxRecDepth 20000 in
theorem lL_165 : Cond.methodLink RL 165 yX6_wipe ∈ TB := TB_in (List.mem_of_getElem? (i := 1175) rfl) rfl
set_option maxRecDepth 20000 in
theorem lL_166 : Cond.methodLink RL 166 yX5_text ∈ TB := TB_in (List.mem_of_getElem? (i := 595) rfl) rfl
set_option maxRecDepth 20000 in
theorem lL_169 : Cond.methodLink RL 169 yX6_text ∈ TB := TB_in (List.mem_of_getElem? (i := 1179) rfl) rfl
set_option maxRecDepth 20000 in
theorem lL_170 : Cond.methodLink RL 170 yX5_hold ∈ TB := TB_in (List.mem_of_getElem? (i := 726) rfl) rfl
set_option maxRecDepth 20000 in
theorem lL_173 : Cond.methodLink RL 173 yX6_hold ∈ TB := TB_in (List.mem_of_getElem? (i := 1219) rfl) rfl
set_option maxRecDepth 20000 in
theorem lL_174 : Cond.methodLink RL 174 yX5_as ∈ TB := TB_in (List.mem_of_getElem? (i := 730) rfl) rfl
set_option maxRecDepth 20000 in
theorem lL_177 : Cond.methodLink RL 177 yX6_as ∈ TB := TB_in (List.mem_of_getElem? (i := 1226) rfl) rfl
set_option maxRecDepth 20000 in
theorem lL_178 : Cond.methodLink RL 178 yX5_sheet ∈ TB := TB_in (List.mem_of_getElem? (i := 740) rfl) rfl
set_option maxRecDepth 20000 in
theorem lL_181 : Cond.methodLink RL 181 yX6_sheet ∈ TB := TB_in (List.mem_of_getElem? (i := 1233) rfl) rfl
set_option maxRecDepth 20000 in
theorem lL_182 : Cond.methodLink RL 182 yX5_write ∈ TB := TB_in (List.mem_of_getElem? (i := 749) rfl) rfl
set_option maxRecDepth 20000 in
theorem lL_185 : Cond.methodLink RL 185 yX6_write ∈ TB := TB_in (List.mem_of_getElem? (i := 1237) rfl) rfl
set_option maxRecDepth 20000 in
theorem lL_186 : Cond.methodLink RL 186 yX5_copy ∈ TB := TB_in (List.mem_of_getElem? (i := 757) rfl) rfl
set_option maxRecDepth 20000 in
theorem lL_190 : Cond.methodLink RL 190 yX6_copy ∈ TB := TB_in (List.mem_of_getElem? (i := 1241) rfl) rfl
set_option maxRecDepth 20000 in
theorem lL_191 : Cond.methodLink RL 191 yX5_load ∈ TB := TB_in (List.mem_of_getElem? (i := 765) rfl) rfl
set_option maxRecDepth 20000 in
theorem lL_194 : Cond.methodLink RL 194 yX6_load ∈ TB := TB_in (List.mem_of_getElem? (i := 1245) rfl) rfl
set_option maxRecDepth 20000 in
theorem lL_195 : Cond.methodLink RL 195 yX5_judge ∈ TB := TB_in (List.mem_of_getElem? (i := 769) rfl) rfl
set_option maxRecDepth 20000 in
theorem lL_198 : Cond.methodLink RL 198 yX6_judge ∈ TB := TB_in (List.mem_of_getElem? (i := 1249) rfl) rfl
set_option maxRecDepth 20000 in
theorem lL_199 : Cond.methodLink RL 199 yX5_image ∈ TB := TB_in (List.mem_of_getElem? (i := 773) rfl) rfl
set_option maxRecDepth 20000 in
theorem lL_202 : Cond.methodLink RL 202 yX6_image ∈ TB := TB_in (List.mem_of_getElem? (i := 1253) rfl) rfl
set_option maxRecDepth 20000 in
theorem lL_203 : Cond.methodLink RL 203 yX5_undo ∈ TB := TB_in (List.mem_of_getElem? (i := 777) rfl) rfl
set_option maxRecDepth 20000 in
theorem lL_206 : Cond.methodLink RL 206 yX6_undo ∈ TB := TB_in (List.mem_of_getElem? (i := 1257) rfl) rfl
set_option maxRecDepth 20000 in
theorem lL_207 : Cond.methodLink RL 207 yX5_tear ∈ TB := TB_in (List.mem_of_getElem? (i := 781) rfl) rfl
set_option maxRecDepth 20000 in
theorem lL_210 : Cond.methodLink RL 210 yX6_tear ∈ TB := TB_in (List.mem_of_getElem? (i := 1261) rfl) rfl
set_option maxRecDepth 20000 in
theorem lL_211 : Cond.methodLink RL 211 yX5_count ∈ TB := TB_in (List.mem_of_getElem? (i := 785) rfl) rfl
set_option maxRecDepth 20000 in
theorem lL_214 : Cond.methodLink RL 214 yX6_count ∈ TB := TB_in (List.mem_of_getElem? (i := 1265) rfl) rfl
set_option maxRecDepth 20000 in
theorem lL_215 : Cond.methodLink RL 215 yX5_status ∈ TB := TB_in (List.mem_of_getElem? (i := 793) rfl) rfl
set_option maxRecDepth 20000 in
theorem lL_218 : Cond.methodLink RL 218 yX6_status ∈ TB := TB_in (List.mem_of_getElem? (i := 1269) rfl) rfl
set_option maxRecDepth 20000 in
theorem lX6_1 : Cond.methodLink RX6 1 objectInit ∈ TB := TB_in (List.mem_of_getElem? (i := 802) rfl) rfl
set_option maxRecDepth 20000 in
theorem lX6_54 : Cond.methodLink RX6 54 yX6_in1 ∈ TB := TB_in (List.mem_of_getElem? (i := 869) rfl) rfl
set_option maxRecDepth 20000 in
theorem lX6_58 : Cond.methodLink RX6 58 yX6_get ∈ TB := TB_in (List.mem_of_getElem? (i := 896) rfl) rfl
set_option maxRecDepth 20000 in
theorem lX6_62 : Cond.methodLink RX6 62 yX6_dimOf ∈ TB := TB_in (List.mem_of_getElem? (i := 904) rfl) rfl
set_option maxRecDepth 20000 in
theorem lX6_66 : Cond.methodLink RX6 66 yX6_shines ∈ TB := TB_in (List.mem_of_getElem? (i := 908) rfl) rfl
set_option maxRecDepth 20000 in
theorem lX6_70 : Cond.methodLink RX6 70 yX6_isIn ∈ TB := TB_in (List.mem_of_getElem? (i := 979) rfl) rfl
set_option maxRecDepth 20000 in
theorem lX6_74 : Cond.methodLink RX6 74 yX6_wearOf ∈ TB := TB_in (List.mem_of_getElem? (i := 900) rfl) rfl
set_option maxRecDepth 20000 in
theorem lX6_77 : Cond.methodLink RX6 77 yX6_greater ∈ TB := TB_in (List.mem_of_getElem? (i := 957) rfl) rfl
set_option maxRecDepth 20000 in
theorem lX6_80 : Cond.methodLink RX6 80 yX6_puts ∈ TB := TB_in (List.mem_of_getElem? (i := 884) rfl) rfl
set_option maxRecDepth 20000 in
theorem lX6_85 : Cond.methodLink RX6 85 yX6_less ∈ TB := TB_in (List.mem_of_getElem? (i := 941) rfl) rfl
set_option maxRecDepth 20000 in
theorem lX6_88 : Cond.methodLink RX6 88 yX6_night ∈ TB := TB_in (List.mem_of_getElem? (i := 953) rfl) rfl
set_option maxRecDepth 20000 in
theorem lX6_91 : Cond.methodLink RX6 91 yX6_isPlace ∈ TB := TB_in (List.mem_of_getElem? (i := 872) rfl) rfl
set_option maxRecDepth 20000 in
theorem lX6_94 : Cond.methodLink RX6 94 yX6_no ∈ TB := TB_in (List.mem_of_getElem? (i := 875) rfl) rfl
set_option maxRecDepth 20000 in
theorem lX6_97 : Cond.methodLink RX6 97 yX6_addsStar ∈ TB := TB_in (List.mem_of_getElem? (i := 880) rfl) rfl
set_option maxRecDepth 20000 in
theorem lX6_101 : Cond.methodLink RX6 101 yX6_isStar ∈ TB := TB_in (List.mem_of_getElem? (i := 892) rfl) rfl
set_option maxRecDepth 20000 in
theorem lX6_104 : Cond.methodLink RX6 104 yX6_isCrew ∈ TB := TB_in (List.mem_of_getElem? (i := 920) rfl) rfl
set_option maxRecDepth 20000 in
theorem lX6_107 : Cond.methodLink RX6 107 yX6_greatest ∈ TB := TB_in (List.mem_of_getElem? (i := 931) rfl) rfl
set_option maxRecDepth 20000 in
theorem lX6_110 : Cond.methodLink RX6 110 yX6_apartOf ∈ TB := TB_in (List.mem_of_getElem? (i := 938) rfl) rfl
set_option maxRecDepth 20000 in
theorem lX6_113 : Cond.methodLink RX6 113 yX6_nights ∈ TB := TB_in (List.mem_of_getElem? (i := 949) rfl) rfl
set_option maxRecDepth 20000 in
theorem lX6_117 : Cond.methodLink RX6 117 yX6_shining ∈ TB := TB_in (List.mem_of_getElem? (i := 960) rfl) rfl
set_option maxRecDepth 20000 in
theorem lX6_121 : Cond.methodLink RX6 121 yX6_bits ∈ TB := TB_in (List.mem_of_getElem? (i := 964) rfl) rfl
set_option maxRecDepth 20000 in
theorem lX6_124 : Cond.methodLink RX6 124 yX6_lives ∈ TB := TB_in (List.mem_of_getElem? (i := 971) rfl) rfl
set_option maxRecDepth 20000 in
theorem lX6_127 : Cond.methodLink RX6 127 yX6_worthOf ∈ TB := TB_in (List.mem_of_getElem? (i := 975) rfl) rfl
set_option maxRecDepth 20000 in
theorem lX6_130 : Cond.methodLink RX6 130 yX6_at ∈ TB := TB_in (List.mem_of_getElem? (i := 986) rfl) rfl
set_option maxRecDepth 20000 in
theorem lX6_133 : Cond.methodLink RX6 133 yX6_setsAside ∈ TB := TB_in (List.mem_of_getElem? (i := 994) rfl) rfl
set_option maxRecDepth 20000 in
theorem lX6_136 : Cond.methodLink RX6 136 yX6_laysBack ∈ TB := TB_in (List.mem_of_getElem? (i := 998) rfl) rfl
set_option maxRecDepth 20000 in
theorem lX6_139 : Cond.methodLink RX6 139 yX6_lastsNow ∈ TB := TB_in (List.mem_of_getElem? (i := 1006) rfl) rfl
set_option maxRecDepth 20000 in
theorem lX6_142 : Cond.methodLink RX6 142 yX6_walk ∈ TB := TB_in (List.mem_of_getElem? (i := 1042) rfl) rfl
set_option maxRecDepth 20000 in
theorem lX6_145 : Cond.methodLink RX6 145 yX6_isSet ∈ TB := TB_in (List.mem_of_getElem? (i := 1034) rfl) rfl
set_option maxRecDepth 20000 in
theorem lX6_148 : Cond.methodLink RX6 148 yX6_roundOf ∈ TB := TB_in (List.mem_of_getElem? (i := 1038) rfl) rfl
set_option maxRecDepth 20000 in
theorem lX6_151 : Cond.methodLink RX6 151 yX6_stepsOf ∈ TB := TB_in (List.mem_of_getElem? (i := 1054) rfl) rfl
set_option maxRecDepth 20000 in
theorem lX6_154 : Cond.methodLink RX6 154 yX6_bestOf ∈ TB := TB_in (List.mem_of_getElem? (i := 1050) rfl) rfl
set_option maxRecDepth 20000 in
theorem lX6_157 : Cond.methodLink RX6 157 yX6_longerOf ∈ TB := TB_in (List.mem_of_getElem? (i := 1078) rfl) rfl
set_option maxRecDepth 20000 in
theorem lX6_161 : Cond.methodLink RX6 161 yX6_canShare ∈ TB := TB_in (List.mem_of_getElem? (i := 1070) rfl) rfl
set_option maxRecDepth 20000 in
theorem lX6_164 : Cond.methodLink RX6 164 yX6_bestShare ∈ TB := TB_in (List.mem_of_getElem? (i := 1074) rfl) rfl
set_option maxRecDepth 20000 in
theorem lX6_168 : Cond.methodLink RX6 168 yX6_addsSign ∈ TB := TB_in (List.mem_of_getElem? (i := 1090) rfl) rfl
set_option maxRecDepth 20000 in
theorem lX6_171 : Cond.methodLink RX6 171 yX6_isSign ∈ TB := TB_in (List.mem_of_getElem? (i := 1098) rfl) rfl
set_option maxRecDepth 20000 in
theorem lX6_174 : Cond.methodLink RX6 174 yX6_mayBe ∈ TB := TB_in (List.mem_of_getElem? (i := 1106) rfl) rfl
set_option maxRecDepth 20000 in
theorem lX6_177 : Cond.methodLink RX6 177 yX6_nearest ∈ TB := TB_in (List.mem_of_getElem? (i := 1122) rfl) rfl
set_option maxRecDepth 20000 in
theorem lX6_180 : Cond.methodLink RX6 180 yX6_isSheet ∈ TB := TB_in (List.mem_of_getElem? (i := 1138) rfl) rfl
set_option maxRecDepth 20000 in
theorem lX6_183 : Cond.methodLink RX6 183 yX6_toldAt ∈ TB := TB_in (List.mem_of_getElem? (i := 1145) rfl) rfl
set_option maxRecDepth 20000 in
theorem lX6_186 : Cond.methodLink RX6 186 yX6_wrongSheet ∈ TB := TB_in (List.mem_of_getElem? (i := 1134) rfl) rfl
set_option maxRecDepth 20000 in
theorem lX6_189 : Cond.methodLink RX6 189 yX6_dimsSo ∈ TB := TB_in (List.mem_of_getElem? (i := 1141) rfl) rfl
set_option maxRecDepth 20000 in
theorem lX6_193 : Cond.methodLink RX6 193 yX6_draw ∈ TB := TB_in (List.mem_of_getElem? (i := 1157) rfl) rfl
set_option maxRecDepth 20000 in
theorem lX6_215 : Cond.methodLink RX6 215 yX6_isLetter ∈ TB := TB_in (List.mem_of_getElem? (i := 1187) rfl) rfl
set_option maxRecDepth 20000 in
theorem lX6_224 : Cond.methodLink RX6 224 yX6_isDigit ∈ TB := TB_in (List.mem_of_getElem? (i := 1193) rfl) rfl
set_option maxRecDepth 20000 in
theorem lX6_233 : Cond.methodLink RX6 233 yX6_nextToken ∈ TB := TB_in (List.mem_of_getElem? (i := 1183) rfl) rfl
set_option maxRecDepth 20000 in
theorem lX6_236 : Cond.methodLink RX6 236 yX6_wordOf ∈ TB := TB_in (List.mem_of_getElem? (i := 1203) rfl) rfl
set_option maxRecDepth 20000 in
theorem lX6_240 : Cond.methodLink RX6 240 yX6_takesNumber ∈ TB := TB_in (List.mem_of_getElem? (i := 1211) rfl) rfl
set_option maxRecDepth 20000 in
theorem lX6_243 : Cond.methodLink RX6 243 yX6_readsStar ∈ TB := TB_in (List.mem_of_getElem? (i := 1207) rfl) rfl
set_option maxRecDepth 20000 in
theorem lX6_246 : Cond.methodLink RX6 246 yX6_readsCrew ∈ TB := TB_in (List.mem_of_getElem? (i := 1215) rfl) rfl
set_option maxRecDepth 20000 in
theorem lX6_250 : Cond.methodLink RX6 250 yX6_readsItem ∈ TB := TB_in (List.mem_of_getElem? (i := 1199) rfl) rfl
set_option maxRecDepth 20000 in
theorem lX6_253 : Cond.methodLink RX6 253 yX6_isSpot ∈ TB := TB_in (List.mem_of_getElem? (i := 1223) rfl) rfl
set_option maxRecDepth 20000 in
theorem lX6_256 : Cond.methodLink RX6 256 yX6_above ∈ TB := TB_in (List.mem_of_getElem? (i := 1230) rfl) rfl
set_option maxRecDepth 20000 in
theorem lJ0_335 : Cond.methodLink RJ0 335 yJ0_coder_7d493 ∈ TB := TB_in (List.mem_of_getElem? (i := 630) rfl) rfl
set_option maxRecDepth 20000 in
theorem lJ0_492 : Cond.methodLink RJ0 492 yJ0_isLatin1_aae02 ∈ TB := TB_in (List.mem_of_getElem? (i := 640) rfl) rfl
set_option maxRecDepth 20000 in
theorem lJ0_495 : Cond.methodLink RJ0 495 yJ1_charAt_3b067 ∈ TB := TB_in (List.mem_of_getElem? (i := 644) rfl) rfl
set_option maxRecDepth 20000 in
theorem lJ0_498 : Cond.methodLink RJ0 498 yJ2_charAt_3b067 ∈ TB := TB_in (List.mem_of_getElem? (i := 655) rfl) rfl
set_option maxRecDepth 20000 in
theorem lJ0_1059 : Cond.methodLink RJ0 1059 yJ3_checkIndex_8e157 ∈ TB := TB_in (List.mem_of_getElem? (i := 652) rfl) rfl
set_option maxRecDepth 20000 in
theorem lJ1_9 : Cond.methodLink RJ1 9 yJ0_checkIndex_df160 ∈ TB := TB_in (List.mem_of_getElem? (i := 647) rfl) rfl
set_option maxRecDepth 20000 in
theorem lJ2_48 : Cond.methodLink RJ2 48 yJ2_length_9d52b ∈ TB := TB_in (List.mem_of_getElem? (i := 661) rfl) rfl
set_option maxRecDepth 20000 in
theorem lJ2_67 : Cond.methodLink RJ2 67 yJ2_checkIndex_2214a ∈ TB := TB_in (List.mem_of_getElem? (i := 658) rfl) rfl
set_option maxRecDepth 20000 in
theorem lJ2_71 : Cond.methodLink RJ2 71 yJ2_getChar_3b067 ∈ TB := TB_in (List.mem_of_getElem? (i := 665) rfl) rfl
set_option maxRecDepth 20000 in
theorem lJ2_414 : Cond.methodLink RJ2 414 yJ0_checkIndex_df160 ∈ TB := TB_in (List.mem_of_getElem? (i := 664) rfl) rfl
set_option maxRecDepth 20000 in
theorem oX0_init : Cond.code yX0_init cX0_init 1 none ∈ TB := TB_in (List.mem_of_getElem? (i := 217) rfl) rfl
set_option maxRecDepth 20000 in
theorem iX0_init : Cond.instanceMethod yX0_init ∈ TB := TB_in (List.mem_of_getElem? (i := 216) rfl) rfl
set_option maxRecDepth 20000 in
theorem oX0_renew : Cond.code yX0_renew cX0_renew 3 none ∈ TB := TB_in (List.mem_of_getElem? (i := 747) rfl) rfl
set_option maxRecDepth 20000 in
theorem iX0_renew : Cond.instanceMethod yX0_renew ∈ TB := TB_in (List.mem_of_getElem? (i := 745) rfl) rfl
set_option maxRecDepth 20000 in
theorem vX0_renew : Cond.selects RX0 yX0_renew yX0_renew ∈ TB := TB_in (List.mem_of_getElem? (i := 746) rfl) rfl
set_option maxRecDepth 20000 in
theorem oX0_put : Cond.code yX0_put cX0_put 3 none ∈ TB := TB_in (List.mem_of_getElem? (i := 756) rfl) rfl
set_option maxRecDepth 20000 in
theorem iX0_put : Cond.instanceMethod yX0_put ∈ TB := TB_in (List.mem_of_getElem? (i := 754) rfl) rfl
set_option maxRecDepth 20000 in
theorem vX0_put : Cond.selects RX0 yX0_put yX0_put ∈ TB := TB_in (List.mem_of_getElem? (i := 755) rfl) rfl
set_option maxRecDepth 20000 in
theorem oX0_hasRange : Cond.code yX0_hasRange cX0_hasRange 3 (some .boolean) ∈ TB := TB_in (List.mem_of_getElem? (i := 764) rfl) rfl
set_option maxRecDepth 20000 in
theorem iX0_hasRange : Cond.instanceMethod yX0_hasRange ∈ TB := TB_in (List.mem_of_getElem? (i := 762) rfl) rfl
set_option maxRecDepth 20000 in
theorem vX0_hasRange : Cond.selects RX0 yX0_hasRange yX0_hasRange ∈ TB := TB_in (List.mem_of_getElem? (i := 763) rfl) rfl
set_option maxRecDepth 20000 in
theorem oX1_init : Cond.code yX1_init cX1_init 1 none ∈ TB := TB_in (List.mem_of_getElem? (i := 86) rfl) rfl
set_option maxRecDepth 20000 in
theorem iX1_init : Cond.instanceMethod yX1_init ∈ TB := TB_in (List.mem_of_getElem? (i := 85) rfl) rfl
set_option maxRecDepth 20000 in
theorem oX1_become : Cond.code yX1_become cX1_become 2 none ∈ TB := TB_in (List.mem_of_getElem? (i := 602) rfl) rfl
set_option maxRecDepth 20000 in
theorem iX1_become : Cond.instanceMethod yX1_become ∈ TB := TB_in (List.mem_of_getElem? (i := 600) rfl) rfl
set_option maxRecDepth 20000 in
theorem vX1_become : Cond.selects RX1 yX1_become yX1_become ∈ TB := TB_in (List.mem_of_getElem? (i := 601) rfl) rfl
set_option maxRecDepth 20000 in
theorem oX1_starRow : Cond.code yX1_starRow cX1_starRow 2 (some (.array .int)) ∈ TB := TB_in (List.mem_of_getElem? (i := 286) rfl) rfl
set_option maxRecDepth 20000 in
theorem iX1_starRow : Cond.instanceMethod yX1_starRow ∈ TB := TB_in (List.mem_of_getElem? (i := 284) rfl) rfl
set_option maxRecDepth 20000 in
theorem vX1_starRow : Cond.selects RX1 yX1_starRow yX1_starRow ∈ TB := TB_in (List.mem_of_getElem? (i := 285) rfl) rfl
set_option maxRecDepth 20000 in
theorem oX1_mostOfStar : Cond.code yX1_mostOfStar cX1_mostOfStar 1 (some .int) ∈ TB := TB_in (List.mem_of_getElem? (i := 306) rfl) rfl
set_option maxRecDepth 20000 in
theorem sX1_mostOfStar : Cond.static yX1_mostOfStar ∈ TB := TB_in (List.mem_of_getElem? (i := 305) rfl) rfl
set_option maxRecDepth 20000 in
theorem oX1_crewRow : Cond.code yX1_crewRow cX1_crewRow 2 (some (.array .int)) ∈ TB := TB_in (List.mem_of_getElem? (i := 320) rfl) rfl
set_option maxRecDepth 20000 in
theorem iX1_crewRow : Cond.instanceMethod yX1_crewRow ∈ TB := TB_in (List.mem_of_getElem? (i := 318) rfl) rfl
set_option maxRecDepth 20000 in
theorem vX1_crewRow : Cond.selects RX1 yX1_crewRow yX1_crewRow ∈ TB := TB_in (List.mem_of_getElem? (i := 319) rfl) rfl
set_option maxRecDepth 20000 in
theorem oX1_mostOfCrew : Cond.code yX1_mostOfCrew cX1_mostOfCrew 1 (some .int) ∈ TB := TB_in (List.mem_of_getElem? (i := 323) rfl) rfl
set_option maxRecDepth 20000 in
theorem sX1_mostOfCrew : Cond.static yX1_mostOfCrew ∈ TB := TB_in (List.mem_of_getElem? (i := 322) rfl) rfl
set_option maxRecDepth 20000 in
theorem oX1_addStar : Cond.code yX1_addStar cX1_addStar 5 (some .int) ∈ TB := TB_in (List.mem_of_getElem? (i := 278) rfl) rfl
set_option maxRecDepth 20000 in
theorem iX1_addStar : Cond.instanceMethod yX1_addStar ∈ TB := TB_in (List.mem_of_getElem? (i := 276) rfl) rfl
set_option maxRecDepth 20000 in
theorem vX1_addStar : Cond.selects RX1 yX1_addStar yX1_addStar ∈ TB := TB_in (List.mem_of_getElem? (i := 277) rfl) rfl
set_option maxRecDepth 20000 in
theorem oX1_addSign : Cond.code yX1_addSign cX1_addSign 2 (some .int) ∈ TB := TB_in (List.mem_of_getElem? (i := 511) rfl) rfl
set_option maxRecDepth 20000 in
theorem iX1_addSign : Cond.instanceMethod yX1_addSign ∈ TB := TB_in (List.mem_of_getElem? (i := 509) rfl) rfl
set_option maxRecDepth 20000 in
theorem vX1_addSign : Cond.selects RX1 yX1_addSign yX1_addSign ∈ TB := TB_in (List.mem_of_getElem? (i := 510) rfl) rfl
set_option maxRecDepth 20000 in
theorem oX1_wearOf : Cond.code yX1_wearOf cX1_wearOf 6 (some .int) ∈ TB := TB_in (List.mem_of_getElem? (i := 290) rfl) rfl
set_option maxRecDepth 20000 in
theorem iX1_wearOf : Cond.instanceMethod yX1_wearOf ∈ TB := TB_in (List.mem_of_getElem? (i := 288) rfl) rfl
set_option maxRecDepth 20000 in
theorem vX1_wearOf : Cond.selects RX1 yX1_wearOf yX1_wearOf ∈ TB := TB_in (List.mem_of_getElem? (i := 289) rfl) rfl
set_option maxRecDepth 20000 in
theorem oX1_dimOf : Cond.code yX1_dimOf cX1_dimOf 3 (some .int) ∈ TB := TB_in (List.mem_of_getElem? (i := 294) rfl) rfl
set_option maxRecDepth 20000 in
theorem iX1_dimOf : Cond.instanceMethod yX1_dimOf ∈ TB := TB_in (List.mem_of_getElem? (i := 292) rfl) rfl
set_option maxRecDepth 20000 in
theorem vX1_dimOf : Cond.selects RX1 yX1_dimOf yX1_dimOf ∈ TB := TB_in (List.mem_of_getElem? (i := 293) rfl) rfl
set_option maxRecDepth 20000 in
theorem oX1_isBright : Cond.code yX1_isBright cX1_isBright 3 (some .boolean) ∈ TB := TB_in (List.mem_of_getElem? (i := 298) rfl) rfl
set_option maxRecDepth 20000 in
theorem iX1_isBright : Cond.instanceMethod yX1_isBright ∈ TB := TB_in (List.mem_of_getElem? (i := 296) rfl) rfl
set_option maxRecDepth 20000 in
theorem vX1_isBright : Cond.selects RX1 yX1_isBright yX1_isBright ∈ TB := TB_in (List.mem_of_getElem? (i := 297) rfl) rfl
set_option maxRecDepth 20000 in
theorem oX1_lifeNext : Cond.code yX1_lifeNext cX1_lifeNext 4 (some .int) ∈ TB := TB_in (List.mem_of_getElem? (i := 363) rfl) rfl
set_option maxRecDepth 20000 in
theorem iX1_lifeNext : Cond.instanceMethod yX1_lifeNext ∈ TB := TB_in (List.mem_of_getElem? (i := 361) rfl) rfl
set_option maxRecDepth 20000 in
theorem vX1_lifeNext : Cond.selects RX1 yX1_lifeNext yX1_lifeNext ∈ TB := TB_in (List.mem_of_getElem? (i := 362) rfl) rfl
set_option maxRecDepth 20000 in
theorem oX1_lifeBehind : Cond.code yX1_lifeBehind cX1_lifeBehind 6 (some .int) ∈ TB := TB_in (List.mem_of_getElem? (i := 402) rfl) rfl
set_option maxRecDepth 20000 in
theorem iX1_lifeBehind : Cond.instanceMethod yX1_lifeBehind ∈ TB := TB_in (List.mem_of_getElem? (i := 400) rfl) rfl
set_option maxRecDepth 20000 in
theorem vX1_lifeBehind : Cond.selects RX1 yX1_lifeBehind yX1_lifeBehind ∈ TB := TB_in (List.mem_of_getElem? (i := 401) rfl) rfl
set_option maxRecDepth 20000 in
theorem oX1_nightsBright : Cond.code yX1_nightsBright cX1_nightsBright 5 (some .int) ∈ TB := TB_in (List.mem_of_getElem? (i := 410) rfl) rfl
set_option maxRecDepth 20000 in
theorem iX1_nightsBright : Cond.instanceMethod yX1_nightsBright ∈ TB := TB_in (List.mem_of_getElem? (i := 408) rfl) rfl
set_option maxRecDepth 20000 in
theorem vX1_nightsBright : Cond.selects RX1 yX1_nightsBright yX1_nightsBright ∈ TB := TB_in (List.mem_of_getElem? (i := 409) rfl) rfl
set_option maxRecDepth 20000 in
theorem oX1_passNight : Cond.code yX1_passNight cX1_passNight 1 none ∈ TB := TB_in (List.mem_of_getElem? (i := 355) rfl) rfl
set_option maxRecDepth 20000 in
theorem iX1_passNight : Cond.instanceMethod yX1_passNight ∈ TB := TB_in (List.mem_of_getElem? (i := 353) rfl) rfl
set_option maxRecDepth 20000 in
theorem vX1_passNight : Cond.selects RX1 yX1_passNight yX1_passNight ∈ TB := TB_in (List.mem_of_getElem? (i := 354) rfl) rfl
set_option maxRecDepth 20000 in
theorem oX1_wearDown : Cond.code yX1_wearDown cX1_wearDown 3 none ∈ TB := TB_in (List.mem_of_getElem? (i := 359) rfl) rfl
set_option maxRecDepth 20000 in
theorem iX1_wearDown : Cond.instanceMethod yX1_wearDown ∈ TB := TB_in (List.mem_of_getElem? (i := 357) rfl) rfl
set_option maxRecDepth 20000 in
theorem vX1_wearDown : Cond.selects RX1 yX1_wearDown yX1_wearDown ∈ TB := TB_in (List.mem_of_getElem? (i := 358) rfl) rfl
set_option maxRecDepth 20000 in
theorem oX1_mendDark : Cond.code yX1_mendDark cX1_mendDark 4 (some .int) ∈ TB := TB_in (List.mem_of_getElem? (i := 442) rfl) rfl
set_option maxRecDepth 20000 in
theorem iX1_mendDark : Cond.instanceMethod yX1_mendDark ∈ TB := TB_in (List.mem_of_getElem? (i := 440) rfl) rfl
set_option maxRecDepth 20000 in
theorem vX1_mendDark : Cond.selects RX1 yX1_mendDark yX1_mendDark ∈ TB := TB_in (List.mem_of_getElem? (i := 441) rfl) rfl
set_option maxRecDepth 20000 in
theorem oX1_brightSet : Cond.code yX1_brightSet cX1_brightSet 4 (some .int) ∈ TB := TB_in (List.mem_of_getElem? (i := 371) rfl) rfl
set_option maxRecDepth 20000 in
theorem iX1_brightSet : Cond.instanceMethod yX1_brightSet ∈ TB := TB_in (List.mem_of_getElem? (i := 369) rfl) rfl
set_option maxRecDepth 20000 in
theorem vX1_brightSet : Cond.selects RX1 yX1_brightSet yX1_brightSet ∈ TB := TB_in (List.mem_of_getElem? (i := 370) rfl) rfl
set_option maxRecDepth 20000 in
theorem oX1_lifeTogether : Cond.code yX1_lifeTogether cX1_lifeTogether 3 (some .int) ∈ TB := TB_in (List.mem_of_getElem? (i := 386) rfl) rfl
set_option maxRecDepth 20000 in
theorem iX1_lifeTogether : Cond.instanceMethod yX1_lifeTogether ∈ TB := TB_in (List.mem_of_getElem? (i := 384) rfl) rfl
set_option maxRecDepth 20000 in
theorem vX1_lifeTogether : Cond.selects RX1 yX1_lifeTogether yX1_lifeTogether ∈ TB := TB_in (List.mem_of_getElem? (i := 385) rfl) rfl
set_option maxRecDepth 20000 in
theorem oX1_worthOf : Cond.code yX1_worthOf cX1_worthOf 4 (some .int) ∈ TB := TB_in (List.mem_of_getElem? (i := 390) rfl) rfl
set_option maxRecDepth 20000 in
theorem iX1_worthOf : Cond.instanceMethod yX1_worthOf ∈ TB := TB_in (List.mem_of_getElem? (i := 388) rfl) rfl
set_option maxRecDepth 20000 in
theorem vX1_worthOf : Cond.selects RX1 yX1_worthOf yX1_worthOf ∈ TB := TB_in (List.mem_of_getElem? (i := 389) rfl) rfl
set_option maxRecDepth 20000 in
theorem oX1_signsWith : Cond.code yX1_signsWith cX1_signsWith 4 (some .int) ∈ TB := TB_in (List.mem_of_getElem? (i := 523) rfl) rfl
set_option maxRecDepth 20000 in
theorem iX1_signsWith : Cond.instanceMethod yX1_signsWith ∈ TB := TB_in (List.mem_of_getElem? (i := 521) rfl) rfl
set_option maxRecDepth 20000 in
theorem vX1_signsWith : Cond.selects RX1 yX1_signsWith yX1_signsWith ∈ TB := TB_in (List.mem_of_getElem? (i := 522) rfl) rfl
set_option maxRecDepth 20000 in
theorem oX1_nearestOf : Cond.code yX1_nearestOf cX1_nearestOf 7 (some .int) ∈ TB := TB_in (List.mem_of_getElem? (i := 539) rfl) rfl
set_option maxRecDepth 20000 in
theorem iX1_nearestOf : Cond.instanceMethod yX1_nearestOf ∈ TB := TB_in (List.mem_of_getElem? (i := 537) rfl) rfl
set_option maxRecDepth 20000 in
theorem vX1_nearestOf : Cond.selects RX1 yX1_nearestOf yX1_nearestOf ∈ TB := TB_in (List.mem_of_getElem? (i := 538) rfl) rfl
set_option maxRecDepth 20000 in
theorem oX1_spotsHeld : Cond.code yX1_spotsHeld cX1_spotsHeld 3 (some .int) ∈ TB := TB_in (List.mem_of_getElem? (i := 792) rfl) rfl
set_option maxRecDepth 20000 in
theorem iX1_spotsHeld : Cond.instanceMethod yX1_spotsHeld ∈ TB := TB_in (List.mem_of_getElem? (i := 790) rfl) rfl
set_option maxRecDepth 20000 in
theorem vX1_spotsHeld : Cond.selects RX1 yX1_spotsHeld yX1_spotsHeld ∈ TB := TB_in (List.mem_of_getElem? (i := 791) rfl) rfl
set_option maxRecDepth 20000 in
theorem oX1_draw : Cond.code yX1_draw cX1_draw 1 (some .int) ∈ TB := TB_in (List.mem_of_getElem? (i := 570) rfl) rfl
set_option maxRecDepth 20000 in
theorem iX1_draw : Cond.instanceMethod yX1_draw ∈ TB := TB_in (List.mem_of_getElem? (i := 568) rfl) rfl
set_option maxRecDepth 20000 in
theorem vX1_draw : Cond.selects RX1 yX1_draw yX1_draw ∈ TB := TB_in (List.mem_of_getElem? (i := 569) rfl) rfl
set_option maxRecDepth 20000 in
theorem oX2_init : Cond.code yX2_init cX2_init 1 none ∈ TB := TB_in (List.mem_of_getElem? (i := 162) rfl) rfl
set_option maxRecDepth 20000 in
theorem iX2_init : Cond.instanceMethod yX2_init ∈ TB := TB_in (List.mem_of_getElem? (i := 161) rfl) rfl
set_option maxRecDepth 20000 in
theorem oX2_append : Cond.code yX2_append cX2_append 4 none ∈ TB := TB_in (List.mem_of_getElem? (i := 590) rfl) rfl
set_option maxRecDepth 20000 in
theorem iX2_append : Cond.instanceMethod yX2_append ∈ TB := TB_in (List.mem_of_getElem? (i := 588) rfl) rfl
set_option maxRecDepth 20000 in
theorem vX2_append : Cond.selects RX2 yX2_append yX2_append ∈ TB := TB_in (List.mem_of_getElem? (i := 589) rfl) rfl
set_option maxRecDepth 20000 in
theorem oX2_rewind : Cond.code yX2_rewind cX2_rewind 1 none ∈ TB := TB_in (List.mem_of_getElem? (i := 611) rfl) rfl
set_option maxRecDepth 20000 in
theorem iX2_rewind : Cond.instanceMethod yX2_rewind ∈ TB := TB_in (List.mem_of_getElem? (i := 609) rfl) rfl
set_option maxRecDepth 20000 in
theorem vX2_rewind : Cond.selects RX2 yX2_rewind yX2_rewind ∈ TB := TB_in (List.mem_of_getElem? (i := 610) rfl) rfl
set_option maxRecDepth 20000 in
theorem oX2_advance : Cond.code yX2_advance cX2_advance 1 none ∈ TB := TB_in (List.mem_of_getElem? (i := 615) rfl) rfl
set_option maxRecDepth 20000 in
theorem iX2_advance : Cond.instanceMethod yX2_advance ∈ TB := TB_in (List.mem_of_getElem? (i := 613) rfl) rfl
set_option maxRecDepth 20000 in
theorem vX2_advance : Cond.selects RX2 yX2_advance yX2_advance ∈ TB := TB_in (List.mem_of_getElem? (i := 614) rfl) rfl
set_option maxRecDepth 20000 in
theorem oX2_isWord : Cond.code yX2_isWord cX2_isWord 3 (some .boolean) ∈ TB := TB_in (List.mem_of_getElem? (i := 625) rfl) rfl
set_option maxRecDepth 20000 in
theorem iX2_isWord : Cond.instanceMethod yX2_isWord ∈ TB := TB_in (List.mem_of_getElem? (i := 623) rfl) rfl
set_option maxRecDepth 20000 in
theorem vX2_isWord : Cond.selects RX2 yX2_isWord yX2_isWord ∈ TB := TB_in (List.mem_of_getElem? (i := 624) rfl) rfl
set_option maxRecDepth 20000 in
theorem oX3_init : Cond.code yX3_init cX3_init 1 none ∈ TB := TB_in (List.mem_of_getElem? (i := 156) rfl) rfl
set_option maxRecDepth 20000 in
theorem iX3_init : Cond.instanceMethod yX3_init ∈ TB := TB_in (List.mem_of_getElem? (i := 155) rfl) rfl
set_option maxRecDepth 20000 in
theorem oX3_readInto : Cond.code yX3_readInto cX3_readInto 3 (some .int) ∈ TB := TB_in (List.mem_of_getElem? (i := 607) rfl) rfl
set_option maxRecDepth 20000 in
theorem iX3_readInto : Cond.instanceMethod yX3_readInto ∈ TB := TB_in (List.mem_of_getElem? (i := 605) rfl) rfl
set_option maxRecDepth 20000 in
theorem vX3_readInto : Cond.selects RX3 yX3_readInto yX3_readInto ∈ TB := TB_in (List.mem_of_getElem? (i := 606) rfl) rfl
set_option maxRecDepth 20000 in
theorem oX3_readItem : Cond.code yX3_readItem cX3_readItem 4 (some .boolean) ∈ TB := TB_in (List.mem_of_getElem? (i := 620) rfl) rfl
set_option maxRecDepth 20000 in
theorem iX3_readItem : Cond.instanceMethod yX3_readItem ∈ TB := TB_in (List.mem_of_getElem? (i := 619) rfl) rfl
set_option maxRecDepth 20000 in
theorem vX3_readItem : Cond.selects RX3 yX3_readItem yX3_readItem ∈ TB := TB_in (List.mem_of_getElem? (i := 10) rfl) rfl
set_option maxRecDepth 20000 in
theorem oX3_kindNamed : Cond.code yX3_kindNamed cX3_kindNamed 1 (some .int) ∈ TB := TB_in (List.mem_of_getElem? (i := 698) rfl) rfl
set_option maxRecDepth 20000 in
theorem iX3_kindNamed : Cond.instanceMethod yX3_kindNamed ∈ TB := TB_in (List.mem_of_getElem? (i := 697) rfl) rfl
set_option maxRecDepth 20000 in
theorem vX3_kindNamed : Cond.selects RX3 yX3_kindNamed yX3_kindNamed ∈ TB := TB_in (List.mem_of_getElem? (i := 15) rfl) rfl
set_option maxRecDepth 20000 in
theorem oX3_settingNamed : Cond.code yX3_settingNamed cX3_settingNamed 1 (some .int) ∈ TB := TB_in (List.mem_of_getElem? (i := 716) rfl) rfl
set_option maxRecDepth 20000 in
theorem iX3_settingNamed : Cond.instanceMethod yX3_settingNamed ∈ TB := TB_in (List.mem_of_getElem? (i := 715) rfl) rfl
set_option maxRecDepth 20000 in
theorem vX3_settingNamed : Cond.selects RX3 yX3_settingNamed yX3_settingNamed ∈ TB := TB_in (List.mem_of_getElem? (i := 17) rfl) rfl
set_option maxRecDepth 20000 in
theorem oX3_readStar : Cond.code yX3_readStar cX3_readStar 6 (some .boolean) ∈ TB := TB_in (List.mem_of_getElem? (i := 709) rfl) rfl
set_option maxRecDepth 20000 in
theorem iX3_readStar : Cond.instanceMethod yX3_readStar ∈ TB := TB_in (List.mem_of_getElem? (i := 708) rfl) rfl
set_option maxRecDepth 20000 in
theorem vX3_readStar : Cond.selects RX3 yX3_readStar yX3_readStar ∈ TB := TB_in (List.mem_of_getElem? (i := 16) rfl) rfl
set_option maxRecDepth 20000 in
theorem oX3_readCrew : Cond.code yX3_readCrew cX3_readCrew 5 (some .boolean) ∈ TB := TB_in (List.mem_of_getElem? (i := 677) rfl) rfl
set_option maxRecDepth 20000 in
theorem iX3_readCrew : Cond.instanceMethod yX3_readCrew ∈ TB := TB_in (List.mem_of_getElem? (i := 676) rfl) rfl
set_option maxRecDepth 20000 in
theorem vX3_readCrew : Cond.selects RX3 yX3_readCrew yX3_readCrew ∈ TB := TB_in (List.mem_of_getElem? (i := 11) rfl) rfl
set_option maxRecDepth 20000 in
theorem oX3_readSign : Cond.code yX3_readSign cX3_readSign 3 (some .boolean) ∈ TB := TB_in (List.mem_of_getElem? (i := 693) rfl) rfl
set_option maxRecDepth 20000 in
theorem iX3_readSign : Cond.instanceMethod yX3_readSign ∈ TB := TB_in (List.mem_of_getElem? (i := 692) rfl) rfl
set_option maxRecDepth 20000 in
theorem vX3_readSign : Cond.selects RX3 yX3_readSign yX3_readSign ∈ TB := TB_in (List.mem_of_getElem? (i := 14) rfl) rfl
set_option maxRecDepth 20000 in
theorem oX3_readSetting : Cond.code yX3_readSetting cX3_readSetting 4 (some .boolean) ∈ TB := TB_in (List.mem_of_getElem? (i := 724) rfl) rfl
set_option maxRecDepth 20000 in
theorem iX3_readSetting : Cond.instanceMethod yX3_readSetting ∈ TB := TB_in (List.mem_of_getElem? (i := 723) rfl) rfl
set_option maxRecDepth 20000 in
theorem vX3_readSetting : Cond.selects RX3 yX3_readSetting yX3_readSetting ∈ TB := TB_in (List.mem_of_getElem? (i := 18) rfl) rfl
set_option maxRecDepth 20000 in
theorem oX3_numberBehind : Cond.code yX3_numberBehind cX3_numberBehind 4 (some .int) ∈ TB := TB_in (List.mem_of_getElem? (i := 687) rfl) rfl
set_option maxRecDepth 20000 in
theorem iX3_numberBehind : Cond.instanceMethod yX3_numberBehind ∈ TB := TB_in (List.mem_of_getElem? (i := 686) rfl) rfl
set_option maxRecDepth 20000 in
theorem vX3_numberBehind : Cond.selects RX3 yX3_numberBehind yX3_numberBehind ∈ TB := TB_in (List.mem_of_getElem? (i := 13) rfl) rfl
set_option maxRecDepth 20000 in
theorem oX3_number : Cond.code yX3_number cX3_number 4 (some .int) ∈ TB := TB_in (List.mem_of_getElem? (i := 682) rfl) rfl
set_option maxRecDepth 20000 in
theorem iX3_number : Cond.instanceMethod yX3_number ∈ TB := TB_in (List.mem_of_getElem? (i := 681) rfl) rfl
set_option maxRecDepth 20000 in
theorem vX3_number : Cond.selects RX3 yX3_number yX3_number ∈ TB := TB_in (List.mem_of_getElem? (i := 12) rfl) rfl
set_option maxRecDepth 20000 in
theorem oX4_init : Cond.code yX4_init cX4_init 1 none ∈ TB := TB_in (List.mem_of_getElem? (i := 199) rfl) rfl
set_option maxRecDepth 20000 in
theorem iX4_init : Cond.instanceMethod yX4_init ∈ TB := TB_in (List.mem_of_getElem? (i := 198) rfl) rfl
set_option maxRecDepth 20000 in
theorem oX4_standAt : Cond.code yX4_standAt cX4_standAt 4 none ∈ TB := TB_in (List.mem_of_getElem? (i := 454) rfl) rfl
set_option maxRecDepth 20000 in
theorem iX4_standAt : Cond.instanceMethod yX4_standAt ∈ TB := TB_in (List.mem_of_getElem? (i := 452) rfl) rfl
set_option maxRecDepth 20000 in
theorem vX4_standAt : Cond.selects RX4 yX4_standAt yX4_standAt ∈ TB := TB_in (List.mem_of_getElem? (i := 453) rfl) rfl
set_option maxRecDepth 20000 in
theorem oX4_insert : Cond.code yX4_insert cX4_insert 5 none ∈ TB := TB_in (List.mem_of_getElem? (i := 458) rfl) rfl
set_option maxRecDepth 20000 in
theorem iX4_insert : Cond.instanceMethod yX4_insert ∈ TB := TB_in (List.mem_of_getElem? (i := 457) rfl) rfl
set_option maxRecDepth 20000 in
theorem vX4_insert : Cond.selects RX4 yX4_insert yX4_insert ∈ TB := TB_in (List.mem_of_getElem? (i := 3) rfl) rfl
set_option maxRecDepth 20000 in
theorem oX4_stepsBy : Cond.code yX4_stepsBy cX4_stepsBy 6 (some .int) ∈ TB := TB_in (List.mem_of_getElem? (i := 462) rfl) rfl
set_option maxRecDepth 20000 in
theorem iX4_stepsBy : Cond.instanceMethod yX4_stepsBy ∈ TB := TB_in (List.mem_of_getElem? (i := 460) rfl) rfl
set_option maxRecDepth 20000 in
theorem vX4_stepsBy : Cond.selects RX4 yX4_stepsBy yX4_stepsBy ∈ TB := TB_in (List.mem_of_getElem? (i := 461) rfl) rfl
set_option maxRecDepth 20000 in
theorem oX5_init : Cond.code yX5_init cX5_init 2 none ∈ TB := TB_in (List.mem_of_getElem? (i := 78) rfl) rfl
set_option maxRecDepth 20000 in
theorem iX5_init : Cond.instanceMethod yX5_init ∈ TB := TB_in (List.mem_of_getElem? (i := 77) rfl) rfl
set_option maxRecDepth 20000 in
theorem oX5_star : Cond.code yX5_star cX5_star 3 (some .int) ∈ TB := TB_in (List.mem_of_getElem? (i := 266) rfl) rfl
set_option maxRecDepth 20000 in
theorem iX5_star : Cond.instanceMethod yX5_star ∈ TB := TB_in (List.mem_of_getElem? (i := 264) rfl) rfl
set_option maxRecDepth 20000 in
theorem vX5_star : Cond.selects RX5 yX5_star yX5_star ∈ TB := TB_in (List.mem_of_getElem? (i := 265) rfl) rfl
set_option maxRecDepth 20000 in
theorem oX5_of : Cond.code yX5_of cX5_of 4 (some .int) ∈ TB := TB_in (List.mem_of_getElem? (i := 282) rfl) rfl
set_option maxRecDepth 20000 in
theorem iX5_of : Cond.instanceMethod yX5_of ∈ TB := TB_in (List.mem_of_getElem? (i := 280) rfl) rfl
set_option maxRecDepth 20000 in
theorem vX5_of : Cond.selects RX5 yX5_of yX5_of ∈ TB := TB_in (List.mem_of_getElem? (i := 281) rfl) rfl
set_option maxRecDepth 20000 in
theorem oX5_change : Cond.code yX5_change cX5_change 5 (some .int) ∈ TB := TB_in (List.mem_of_getElem? (i := 303) rfl) rfl
set_option maxRecDepth 20000 in
theorem iX5_change : Cond.instanceMethod yX5_change ∈ TB := TB_in (List.mem_of_getElem? (i := 301) rfl) rfl
set_option maxRecDepth 20000 in
theorem vX5_change : Cond.selects RX5 yX5_change yX5_change ∈ TB := TB_in (List.mem_of_getElem? (i := 302) rfl) rfl
set_option maxRecDepth 20000 in
theorem oX5_crew : Cond.code yX5_crew cX5_crew 5 (some .int) ∈ TB := TB_in (List.mem_of_getElem? (i := 316) rfl) rfl
set_option maxRecDepth 20000 in
theorem iX5_crew : Cond.instanceMethod yX5_crew ∈ TB := TB_in (List.mem_of_getElem? (i := 314) rfl) rfl
set_option maxRecDepth 20000 in
theorem vX5_crew : Cond.selects RX5 yX5_crew yX5_crew ∈ TB := TB_in (List.mem_of_getElem? (i := 315) rfl) rfl
set_option maxRecDepth 20000 in
theorem oX5_crewOf : Cond.code yX5_crewOf cX5_crewOf 4 (some .int) ∈ TB := TB_in (List.mem_of_getElem? (i := 327) rfl) rfl
set_option maxRecDepth 20000 in
theorem iX5_crewOf : Cond.instanceMethod yX5_crewOf ∈ TB := TB_in (List.mem_of_getElem? (i := 325) rfl) rfl
set_option maxRecDepth 20000 in
theorem vX5_crewOf : Cond.selects RX5 yX5_crewOf yX5_crewOf ∈ TB := TB_in (List.mem_of_getElem? (i := 326) rfl) rfl
set_option maxRecDepth 20000 in
theorem oX5_set : Cond.code yX5_set cX5_set 3 (some .int) ∈ TB := TB_in (List.mem_of_getElem? (i := 331) rfl) rfl
set_option maxRecDepth 20000 in
theorem iX5_set : Cond.instanceMethod yX5_set ∈ TB := TB_in (List.mem_of_getElem? (i := 329) rfl) rfl
set_option maxRecDepth 20000 in
theorem vX5_set : Cond.selects RX5 yX5_set yX5_set ∈ TB := TB_in (List.mem_of_getElem? (i := 330) rfl) rfl
set_option maxRecDepth 20000 in
theorem oX5_apart : Cond.code yX5_apart cX5_apart 3 (some .int) ∈ TB := TB_in (List.mem_of_getElem? (i := 337) rfl) rfl
set_option maxRecDepth 20000 in
theorem iX5_apart : Cond.instanceMethod yX5_apart ∈ TB := TB_in (List.mem_of_getElem? (i := 335) rfl) rfl
set_option maxRecDepth 20000 in
theorem vX5_apart : Cond.selects RX5 yX5_apart yX5_apart ∈ TB := TB_in (List.mem_of_getElem? (i := 336) rfl) rfl
set_option maxRecDepth 20000 in
theorem oX5_go : Cond.code yX5_go cX5_go 3 (some .int) ∈ TB := TB_in (List.mem_of_getElem? (i := 350) rfl) rfl
set_option maxRecDepth 20000 in
theorem iX5_go : Cond.instanceMethod yX5_go ∈ TB := TB_in (List.mem_of_getElem? (i := 348) rfl) rfl
set_option maxRecDepth 20000 in
theorem vX5_go : Cond.selects RX5 yX5_go yX5_go ∈ TB := TB_in (List.mem_of_getElem? (i := 349) rfl) rfl
set_option maxRecDepth 20000 in
theorem oX5_now : Cond.code yX5_now cX5_now 2 (some .int) ∈ TB := TB_in (List.mem_of_getElem? (i := 382) rfl) rfl
set_option maxRecDepth 20000 in
theorem iX5_now : Cond.instanceMethod yX5_now ∈ TB := TB_in (List.mem_of_getElem? (i := 380) rfl) rfl
set_option maxRecDepth 20000 in
theorem vX5_now : Cond.selects RX5 yX5_now yX5_now ∈ TB := TB_in (List.mem_of_getElem? (i := 381) rfl) rfl
set_option maxRecDepth 20000 in
theorem oX5_mends : Cond.code yX5_mends cX5_mends 4 (some .int) ∈ TB := TB_in (List.mem_of_getElem? (i := 394) rfl) rfl
set_option maxRecDepth 20000 in
theorem iX5_mends : Cond.instanceMethod yX5_mends ∈ TB := TB_in (List.mem_of_getElem? (i := 392) rfl) rfl
set_option maxRecDepth 20000 in
theorem vX5_mends : Cond.selects RX5 yX5_mends yX5_mends ∈ TB := TB_in (List.mem_of_getElem? (i := 393) rfl) rfl
set_option maxRecDepth 20000 in
theorem oX5_ahead : Cond.code yX5_ahead cX5_ahead 3 (some .int) ∈ TB := TB_in (List.mem_of_getElem? (i := 398) rfl) rfl
set_option maxRecDepth 20000 in
theorem iX5_ahead : Cond.instanceMethod yX5_ahead ∈ TB := TB_in (List.mem_of_getElem? (i := 396) rfl) rfl
set_option maxRecDepth 20000 in
theorem vX5_ahead : Cond.selects RX5 yX5_ahead yX5_ahead ∈ TB := TB_in (List.mem_of_getElem? (i := 397) rfl) rfl
set_option maxRecDepth 20000 in
theorem oX5_lasts : Cond.code yX5_lasts cX5_lasts 3 (some .int) ∈ TB := TB_in (List.mem_of_getElem? (i := 406) rfl) rfl
set_option maxRecDepth 20000 in
theorem iX5_lasts : Cond.instanceMethod yX5_lasts ∈ TB := TB_in (List.mem_of_getElem? (i := 404) rfl) rfl
set_option maxRecDepth 20000 in
theorem vX5_lasts : Cond.selects RX5 yX5_lasts yX5_lasts ∈ TB := TB_in (List.mem_of_getElem? (i := 405) rfl) rfl
set_option maxRecDepth 20000 in
theorem oX5_shine : Cond.code yX5_shine cX5_shine 3 (some .int) ∈ TB := TB_in (List.mem_of_getElem? (i := 414) rfl) rfl
set_option maxRecDepth 20000 in
theorem iX5_shine : Cond.instanceMethod yX5_shine ∈ TB := TB_in (List.mem_of_getElem? (i := 412) rfl) rfl
set_option maxRecDepth 20000 in
theorem vX5_shine : Cond.selects RX5 yX5_shine yX5_shine ∈ TB := TB_in (List.mem_of_getElem? (i := 413) rfl) rfl
set_option maxRecDepth 20000 in
theorem oX5_dark : Cond.code yX5_dark cX5_dark 3 (some .int) ∈ TB := TB_in (List.mem_of_getElem? (i := 426) rfl) rfl
set_option maxRecDepth 20000 in
theorem iX5_dark : Cond.instanceMethod yX5_dark ∈ TB := TB_in (List.mem_of_getElem? (i := 424) rfl) rfl
set_option maxRecDepth 20000 in
theorem vX5_dark : Cond.selects RX5 yX5_dark yX5_dark ∈ TB := TB_in (List.mem_of_getElem? (i := 425) rfl) rfl
set_option maxRecDepth 20000 in
theorem oX5_kindFor : Cond.code yX5_kindFor cX5_kindFor 6 (some .int) ∈ TB := TB_in (List.mem_of_getElem? (i := 430) rfl) rfl
set_option maxRecDepth 20000 in
theorem iX5_kindFor : Cond.instanceMethod yX5_kindFor ∈ TB := TB_in (List.mem_of_getElem? (i := 428) rfl) rfl
set_option maxRecDepth 20000 in
theorem vX5_kindFor : Cond.selects RX5 yX5_kindFor yX5_kindFor ∈ TB := TB_in (List.mem_of_getElem? (i := 429) rfl) rfl
set_option maxRecDepth 20000 in
theorem oX5_dustFor : Cond.code yX5_dustFor cX5_dustFor 4 (some .int) ∈ TB := TB_in (List.mem_of_getElem? (i := 434) rfl) rfl
set_option maxRecDepth 20000 in
theorem iX5_dustFor : Cond.instanceMethod yX5_dustFor ∈ TB := TB_in (List.mem_of_getElem? (i := 432) rfl) rfl
set_option maxRecDepth 20000 in
theorem vX5_dustFor : Cond.selects RX5 yX5_dustFor yX5_dustFor ∈ TB := TB_in (List.mem_of_getElem? (i := 433) rfl) rfl
set_option maxRecDepth 20000 in
theorem oX5_uses : Cond.code yX5_uses cX5_uses 4 (some .int) ∈ TB := TB_in (List.mem_of_getElem? (i := 438) rfl) rfl
set_option maxRecDepth 20000 in
theorem iX5_uses : Cond.instanceMethod yX5_uses ∈ TB := TB_in (List.mem_of_getElem? (i := 436) rfl) rfl
set_option maxRecDepth 20000 in
theorem vX5_uses : Cond.selects RX5 yX5_uses yX5_uses ∈ TB := TB_in (List.mem_of_getElem? (i := 437) rfl) rfl
set_option maxRecDepth 20000 in
theorem oX5_round : Cond.code yX5_round cX5_round 3 (some .int) ∈ TB := TB_in (List.mem_of_getElem? (i := 446) rfl) rfl
set_option maxRecDepth 20000 in
theorem iX5_round : Cond.instanceMethod yX5_round ∈ TB := TB_in (List.mem_of_getElem? (i := 444) rfl) rfl
set_option maxRecDepth 20000 in
theorem vX5_round : Cond.selects RX5 yX5_round yX5_round ∈ TB := TB_in (List.mem_of_getElem? (i := 445) rfl) rfl
set_option maxRecDepth 20000 in
theorem oX5_best : Cond.code yX5_best cX5_best 2 (some .int) ∈ TB := TB_in (List.mem_of_getElem? (i := 469) rfl) rfl
set_option maxRecDepth 20000 in
theorem iX5_best : Cond.instanceMethod yX5_best ∈ TB := TB_in (List.mem_of_getElem? (i := 467) rfl) rfl
set_option maxRecDepth 20000 in
theorem vX5_best : Cond.selects RX5 yX5_best yX5_best ∈ TB := TB_in (List.mem_of_getElem? (i := 468) rfl) rfl
set_option maxRecDepth 20000 in
theorem oX5_bestWorth : Cond.code yX5_bestWorth cX5_bestWorth 2 (some .int) ∈ TB := TB_in (List.mem_of_getElem? (i := 477) rfl) rfl
set_option maxRecDepth 20000 in
theorem iX5_bestWorth : Cond.instanceMethod yX5_bestWorth ∈ TB := TB_in (List.mem_of_getElem? (i := 475) rfl) rfl
set_option maxRecDepth 20000 in
theorem vX5_bestWorth : Cond.selects RX5 yX5_bestWorth yX5_bestWorth ∈ TB := TB_in (List.mem_of_getElem? (i := 476) rfl) rfl
set_option maxRecDepth 20000 in
theorem oX5_from : Cond.code yX5_from cX5_from 7 (some .int) ∈ TB := TB_in (List.mem_of_getElem? (i := 481) rfl) rfl
set_option maxRecDepth 20000 in
theorem iX5_from : Cond.instanceMethod yX5_from ∈ TB := TB_in (List.mem_of_getElem? (i := 479) rfl) rfl
set_option maxRecDepth 20000 in
theorem vX5_from : Cond.selects RX5 yX5_from yX5_from ∈ TB := TB_in (List.mem_of_getElem? (i := 480) rfl) rfl
set_option maxRecDepth 20000 in
theorem oX5_share : Cond.code yX5_share cX5_share 4 (some .int) ∈ TB := TB_in (List.mem_of_getElem? (i := 486) rfl) rfl
set_option maxRecDepth 20000 in
theorem iX5_share : Cond.instanceMethod yX5_share ∈ TB := TB_in (List.mem_of_getElem? (i := 484) rfl) rfl
set_option maxRecDepth 20000 in
theorem vX5_share : Cond.selects RX5 yX5_share yX5_share ∈ TB := TB_in (List.mem_of_getElem? (i := 485) rfl) rfl
set_option maxRecDepth 20000 in
theorem oX5_longer : Cond.code yX5_longer cX5_longer 4 (some .int) ∈ TB := TB_in (List.mem_of_getElem? (i := 503) rfl) rfl
set_option maxRecDepth 20000 in
theorem iX5_longer : Cond.instanceMethod yX5_longer ∈ TB := TB_in (List.mem_of_getElem? (i := 501) rfl) rfl
set_option maxRecDepth 20000 in
theorem vX5_longer : Cond.selects RX5 yX5_longer yX5_longer ∈ TB := TB_in (List.mem_of_getElem? (i := 502) rfl) rfl
set_option maxRecDepth 20000 in
theorem oX5_sign : Cond.code yX5_sign cX5_sign 2 (some .int) ∈ TB := TB_in (List.mem_of_getElem? (i := 507) rfl) rfl
set_option maxRecDepth 20000 in
theorem iX5_sign : Cond.instanceMethod yX5_sign ∈ TB := TB_in (List.mem_of_getElem? (i := 505) rfl) rfl
set_option maxRecDepth 20000 in
theorem vX5_sign : Cond.selects RX5 yX5_sign yX5_sign ∈ TB := TB_in (List.mem_of_getElem? (i := 506) rfl) rfl
set_option maxRecDepth 20000 in
theorem oX5_signOf : Cond.code yX5_signOf cX5_signOf 2 (some .int) ∈ TB := TB_in (List.mem_of_getElem? (i := 515) rfl) rfl
set_option maxRecDepth 20000 in
theorem iX5_signOf : Cond.instanceMethod yX5_signOf ∈ TB := TB_in (List.mem_of_getElem? (i := 513) rfl) rfl
set_option maxRecDepth 20000 in
theorem vX5_signOf : Cond.selects RX5 yX5_signOf yX5_signOf ∈ TB := TB_in (List.mem_of_getElem? (i := 514) rfl) rfl
set_option maxRecDepth 20000 in
theorem oX5_may : Cond.code yX5_may cX5_may 2 (some .int) ∈ TB := TB_in (List.mem_of_getElem? (i := 519) rfl) rfl
set_option maxRecDepth 20000 in
theorem iX5_may : Cond.instanceMethod yX5_may ∈ TB := TB_in (List.mem_of_getElem? (i := 517) rfl) rfl
set_option maxRecDepth 20000 in
theorem vX5_may : Cond.selects RX5 yX5_may yX5_may ∈ TB := TB_in (List.mem_of_getElem? (i := 518) rfl) rfl
set_option maxRecDepth 20000 in
theorem oX5_tells : Cond.code yX5_tells cX5_tells 7 (some .int) ∈ TB := TB_in (List.mem_of_getElem? (i := 527) rfl) rfl
set_option maxRecDepth 20000 in
theorem iX5_tells : Cond.instanceMethod yX5_tells ∈ TB := TB_in (List.mem_of_getElem? (i := 525) rfl) rfl
set_option maxRecDepth 20000 in
theorem vX5_tells : Cond.selects RX5 yX5_tells yX5_tells ∈ TB := TB_in (List.mem_of_getElem? (i := 526) rfl) rfl
set_option maxRecDepth 20000 in
theorem oX5_told : Cond.code yX5_told cX5_told 4 (some .int) ∈ TB := TB_in (List.mem_of_getElem? (i := 531) rfl) rfl
set_option maxRecDepth 20000 in
theorem iX5_told : Cond.instanceMethod yX5_told ∈ TB := TB_in (List.mem_of_getElem? (i := 529) rfl) rfl
set_option maxRecDepth 20000 in
theorem vX5_told : Cond.selects RX5 yX5_told yX5_told ∈ TB := TB_in (List.mem_of_getElem? (i := 530) rfl) rfl
set_option maxRecDepth 20000 in
theorem oX5_steers : Cond.code yX5_steers cX5_steers 3 (some .int) ∈ TB := TB_in (List.mem_of_getElem? (i := 535) rfl) rfl
set_option maxRecDepth 20000 in
theorem iX5_steers : Cond.instanceMethod yX5_steers ∈ TB := TB_in (List.mem_of_getElem? (i := 533) rfl) rfl
set_option maxRecDepth 20000 in
theorem vX5_steers : Cond.selects RX5 yX5_steers yX5_steers ∈ TB := TB_in (List.mem_of_getElem? (i := 534) rfl) rfl
set_option maxRecDepth 20000 in
theorem oX5_sees : Cond.code yX5_sees cX5_sees 5 (some .int) ∈ TB := TB_in (List.mem_of_getElem? (i := 545) rfl) rfl
set_option maxRecDepth 20000 in
theorem iX5_sees : Cond.instanceMethod yX5_sees ∈ TB := TB_in (List.mem_of_getElem? (i := 543) rfl) rfl
set_option maxRecDepth 20000 in
theorem vX5_sees : Cond.selects RX5 yX5_sees yX5_sees ∈ TB := TB_in (List.mem_of_getElem? (i := 544) rfl) rfl
set_option maxRecDepth 20000 in
theorem oX5_which : Cond.code yX5_which cX5_which 5 (some .int) ∈ TB := TB_in (List.mem_of_getElem? (i := 549) rfl) rfl
set_option maxRecDepth 20000 in
theorem iX5_which : Cond.instanceMethod yX5_which ∈ TB := TB_in (List.mem_of_getElem? (i := 547) rfl) rfl
set_option maxRecDepth 20000 in
theorem vX5_which : Cond.selects RX5 yX5_which yX5_which ∈ TB := TB_in (List.mem_of_getElem? (i := 548) rfl) rfl
set_option maxRecDepth 20000 in
theorem oX5_kinds : Cond.code yX5_kinds cX5_kinds 6 (some .int) ∈ TB := TB_in (List.mem_of_getElem? (i := 562) rfl) rfl
set_option maxRecDepth 20000 in
theorem iX5_kinds : Cond.instanceMethod yX5_kinds ∈ TB := TB_in (List.mem_of_getElem? (i := 560) rfl) rfl
set_option maxRecDepth 20000 in
theorem vX5_kinds : Cond.selects RX5 yX5_kinds yX5_kinds ∈ TB := TB_in (List.mem_of_getElem? (i := 561) rfl) rfl
set_option maxRecDepth 20000 in
theorem oX5_drops : Cond.code yX5_drops cX5_drops 5 (some .int) ∈ TB := TB_in (List.mem_of_getElem? (i := 566) rfl) rfl
set_option maxRecDepth 20000 in
theorem iX5_drops : Cond.instanceMethod yX5_drops ∈ TB := TB_in (List.mem_of_getElem? (i := 564) rfl) rfl
set_option maxRecDepth 20000 in
theorem vX5_drops : Cond.selects RX5 yX5_drops yX5_drops ∈ TB := TB_in (List.mem_of_getElem? (i := 565) rfl) rfl
set_option maxRecDepth 20000 in
theorem oX5_odds : Cond.code yX5_odds cX5_odds 6 (some .long) ∈ TB := TB_in (List.mem_of_getElem? (i := 575) rfl) rfl
set_option maxRecDepth 20000 in
theorem iX5_odds : Cond.instanceMethod yX5_odds ∈ TB := TB_in (List.mem_of_getElem? (i := 573) rfl) rfl
set_option maxRecDepth 20000 in
theorem vX5_odds : Cond.selects RX5 yX5_odds yX5_odds ∈ TB := TB_in (List.mem_of_getElem? (i := 574) rfl) rfl
set_option maxRecDepth 20000 in
theorem oX5_seed : Cond.code yX5_seed cX5_seed 3 (some .int) ∈ TB := TB_in (List.mem_of_getElem? (i := 582) rfl) rfl
set_option maxRecDepth 20000 in
theorem iX5_seed : Cond.instanceMethod yX5_seed ∈ TB := TB_in (List.mem_of_getElem? (i := 580) rfl) rfl
set_option maxRecDepth 20000 in
theorem vX5_seed : Cond.selects RX5 yX5_seed yX5_seed ∈ TB := TB_in (List.mem_of_getElem? (i := 581) rfl) rfl
set_option maxRecDepth 20000 in
theorem oX5_feed : Cond.code yX5_feed cX5_feed 3 (some .int) ∈ TB := TB_in (List.mem_of_getElem? (i := 586) rfl) rfl
set_option maxRecDepth 20000 in
theorem iX5_feed : Cond.instanceMethod yX5_feed ∈ TB := TB_in (List.mem_of_getElem? (i := 584) rfl) rfl
set_option maxRecDepth 20000 in
theorem vX5_feed : Cond.selects RX5 yX5_feed yX5_feed ∈ TB := TB_in (List.mem_of_getElem? (i := 585) rfl) rfl
set_option maxRecDepth 20000 in
theorem oX5_wipe : Cond.code yX5_wipe cX5_wipe 2 (some .int) ∈ TB := TB_in (List.mem_of_getElem? (i := 594) rfl) rfl
set_option maxRecDepth 20000 in
theorem iX5_wipe : Cond.instanceMethod yX5_wipe ∈ TB := TB_in (List.mem_of_getElem? (i := 592) rfl) rfl
set_option maxRecDepth 20000 in
theorem vX5_wipe : Cond.selects RX5 yX5_wipe yX5_wipe ∈ TB := TB_in (List.mem_of_getElem? (i := 593) rfl) rfl
set_option maxRecDepth 20000 in
theorem oX5_text : Cond.code yX5_text cX5_text 2 (some .int) ∈ TB := TB_in (List.mem_of_getElem? (i := 598) rfl) rfl
set_option maxRecDepth 20000 in
theorem iX5_text : Cond.instanceMethod yX5_text ∈ TB := TB_in (List.mem_of_getElem? (i := 596) rfl) rfl
set_option maxRecDepth 20000 in
theorem vX5_text : Cond.selects RX5 yX5_text yX5_text ∈ TB := TB_in (List.mem_of_getElem? (i := 597) rfl) rfl
set_option maxRecDepth 20000 in
theorem oX5_hold : Cond.code yX5_hold cX5_hold 3 (some .int) ∈ TB := TB_in (List.mem_of_getElem? (i := 729) rfl) rfl
set_option maxRecDepth 20000 in
theorem iX5_hold : Cond.instanceMethod yX5_hold ∈ TB := TB_in (List.mem_of_getElem? (i := 727) rfl) rfl
set_option maxRecDepth 20000 in
theorem vX5_hold : Cond.selects RX5 yX5_hold yX5_hold ∈ TB := TB_in (List.mem_of_getElem? (i := 728) rfl) rfl
set_option maxRecDepth 20000 in
theorem oX5_as : Cond.code yX5_as cX5_as 4 (some .int) ∈ TB := TB_in (List.mem_of_getElem? (i := 733) rfl) rfl
set_option maxRecDepth 20000 in
theorem iX5_as : Cond.instanceMethod yX5_as ∈ TB := TB_in (List.mem_of_getElem? (i := 731) rfl) rfl
set_option maxRecDepth 20000 in
theorem vX5_as : Cond.selects RX5 yX5_as yX5_as ∈ TB := TB_in (List.mem_of_getElem? (i := 732) rfl) rfl
set_option maxRecDepth 20000 in
theorem oX5_sheet : Cond.code yX5_sheet cX5_sheet 4 (some .int) ∈ TB := TB_in (List.mem_of_getElem? (i := 743) rfl) rfl
set_option maxRecDepth 20000 in
theorem iX5_sheet : Cond.instanceMethod yX5_sheet ∈ TB := TB_in (List.mem_of_getElem? (i := 741) rfl) rfl
set_option maxRecDepth 20000 in
theorem vX5_sheet : Cond.selects RX5 yX5_sheet yX5_sheet ∈ TB := TB_in (List.mem_of_getElem? (i := 742) rfl) rfl
set_option maxRecDepth 20000 in
theorem oX5_write : Cond.code yX5_write cX5_write 5 (some .int) ∈ TB := TB_in (List.mem_of_getElem? (i := 752) rfl) rfl
set_option maxRecDepth 20000 in
theorem iX5_write : Cond.instanceMethod yX5_write ∈ TB := TB_in (List.mem_of_getElem? (i := 750) rfl) rfl
set_option maxRecDepth 20000 in
theorem vX5_write : Cond.selects RX5 yX5_write yX5_write ∈ TB := TB_in (List.mem_of_getElem? (i := 751) rfl) rfl
set_option maxRecDepth 20000 in
theorem oX5_copy : Cond.code yX5_copy cX5_copy 8 (some .int) ∈ TB := TB_in (List.mem_of_getElem? (i := 760) rfl) rfl
set_option maxRecDepth 20000 in
theorem iX5_copy : Cond.instanceMethod yX5_copy ∈ TB := TB_in (List.mem_of_getElem? (i := 758) rfl) rfl
set_option maxRecDepth 20000 in
theorem vX5_copy : Cond.selects RX5 yX5_copy yX5_copy ∈ TB := TB_in (List.mem_of_getElem? (i := 759) rfl) rfl
set_option maxRecDepth 20000 in
theorem oX5_load : Cond.code yX5_load cX5_load 6 (some .int) ∈ TB := TB_in (List.mem_of_getElem? (i := 768) rfl) rfl
set_option maxRecDepth 20000 in
theorem iX5_load : Cond.instanceMethod yX5_load ∈ TB := TB_in (List.mem_of_getElem? (i := 766) rfl) rfl
set_option maxRecDepth 20000 in
theorem vX5_load : Cond.selects RX5 yX5_load yX5_load ∈ TB := TB_in (List.mem_of_getElem? (i := 767) rfl) rfl
set_option maxRecDepth 20000 in
theorem oX5_judge : Cond.code yX5_judge cX5_judge 9 (some .int) ∈ TB := TB_in (List.mem_of_getElem? (i := 772) rfl) rfl
set_option maxRecDepth 20000 in
theorem iX5_judge : Cond.instanceMethod yX5_judge ∈ TB := TB_in (List.mem_of_getElem? (i := 770) rfl) rfl
set_option maxRecDepth 20000 in
theorem vX5_judge : Cond.selects RX5 yX5_judge yX5_judge ∈ TB := TB_in (List.mem_of_getElem? (i := 771) rfl) rfl
set_option maxRecDepth 20000 in
theorem oX5_image : Cond.code yX5_image cX5_image 1 (some .int) ∈ TB := TB_in (List.mem_of_getElem? (i := 776) rfl) rfl
set_option maxRecDepth 20000 in
theorem iX5_image : Cond.instanceMethod yX5_image ∈ TB := TB_in (List.mem_of_getElem? (i := 774) rfl) rfl
set_option maxRecDepth 20000 in
theorem vX5_image : Cond.selects RX5 yX5_image yX5_image ∈ TB := TB_in (List.mem_of_getElem? (i := 775) rfl) rfl
set_option maxRecDepth 20000 in
theorem oX5_undo : Cond.code yX5_undo cX5_undo 1 (some .int) ∈ TB := TB_in (List.mem_of_getElem? (i := 780) rfl) rfl
set_option maxRecDepth 20000 in
theorem iX5_undo : Cond.instanceMethod yX5_undo ∈ TB := TB_in (List.mem_of_getElem? (i := 778) rfl) rfl
set_option maxRecDepth 20000 in
theorem vX5_undo : Cond.selects RX5 yX5_undo yX5_undo ∈ TB := TB_in (List.mem_of_getElem? (i := 779) rfl) rfl
set_option maxRecDepth 20000 in
theorem oX5_tear : Cond.code yX5_tear cX5_tear 2 (some .int) ∈ TB := TB_in (List.mem_of_getElem? (i := 784) rfl) rfl
set_option maxRecDepth 20000 in
theorem iX5_tear : Cond.instanceMethod yX5_tear ∈ TB := TB_in (List.mem_of_getElem? (i := 782) rfl) rfl
set_option maxRecDepth 20000 in
theorem vX5_tear : Cond.selects RX5 yX5_tear yX5_tear ∈ TB := TB_in (List.mem_of_getElem? (i := 783) rfl) rfl
set_option maxRecDepth 20000 in
theorem oX5_count : Cond.code yX5_count cX5_count 2 (some .int) ∈ TB := TB_in (List.mem_of_getElem? (i := 788) rfl) rfl
set_option maxRecDepth 20000 in
theorem iX5_count : Cond.instanceMethod yX5_count ∈ TB := TB_in (List.mem_of_getElem? (i := 786) rfl) rfl
set_option maxRecDepth 20000 in
theorem vX5_count : Cond.selects RX5 yX5_count yX5_count ∈ TB := TB_in (List.mem_of_getElem? (i := 787) rfl) rfl
set_option maxRecDepth 20000 in
theorem oX5_status : Cond.code yX5_status cX5_status 4 (some .int) ∈ TB := TB_in (List.mem_of_getElem? (i := 796) rfl) rfl
set_option maxRecDepth 20000 in
theorem iX5_status : Cond.instanceMethod yX5_status ∈ TB := TB_in (List.mem_of_getElem? (i := 794) rfl) rfl
set_option maxRecDepth 20000 in
theorem vX5_status : Cond.selects RX5 yX5_status yX5_status ∈ TB := TB_in (List.mem_of_getElem? (i := 795) rfl) rfl
set_option maxRecDepth 20000 in
theorem oX5_finding : Cond.code yX5_finding cX5_finding 2 (some .int) ∈ TB := TB_in (List.mem_of_getElem? (i := 273) rfl) rfl
set_option maxRecDepth 20000 in
theorem iX5_finding : Cond.instanceMethod yX5_finding ∈ TB := TB_in (List.mem_of_getElem? (i := 272) rfl) rfl
set_option maxRecDepth 20000 in
theorem vX5_finding : Cond.selects RX5 yX5_finding yX5_finding ∈ TB := TB_in (List.mem_of_getElem? (i := 0) rfl) rfl
set_option maxRecDepth 20000 in
theorem oX5_isBelow : Cond.code yX5_isBelow cX5_isBelow 2 (some .boolean) ∈ TB := TB_in (List.mem_of_getElem? (i := 269) rfl) rfl
set_option maxRecDepth 20000 in
theorem sX5_isBelow : Cond.static yX5_isBelow ∈ TB := TB_in (List.mem_of_getElem? (i := 268) rfl) rfl
set_option maxRecDepth 20000 in
theorem oX5_isWithin : Cond.code yX5_isWithin cX5_isWithin 2 (some .boolean) ∈ TB := TB_in (List.mem_of_getElem? (i := 309) rfl) rfl
set_option maxRecDepth 20000 in
theorem sX5_isWithin : Cond.static yX5_isWithin ∈ TB := TB_in (List.mem_of_getElem? (i := 308) rfl) rfl
set_option maxRecDepth 20000 in
theorem oX5_isSetOfStars : Cond.code yX5_isSetOfStars cX5_isSetOfStars 2 (some .boolean) ∈ TB := TB_in (List.mem_of_getElem? (i := 450) rfl) rfl
set_option maxRecDepth 20000 in
theorem iX5_isSetOfStars : Cond.instanceMethod yX5_isSetOfStars ∈ TB := TB_in (List.mem_of_getElem? (i := 449) rfl) rfl
set_option maxRecDepth 20000 in
theorem vX5_isSetOfStars : Cond.selects RX5 yX5_isSetOfStars yX5_isSetOfStars ∈ TB := TB_in (List.mem_of_getElem? (i := 2) rfl) rfl
set_option maxRecDepth 20000 in
theorem oX5_replaced : Cond.code yX5_replaced cX5_replaced 4 (some .int) ∈ TB := TB_in (List.mem_of_getElem? (i := 312) rfl) rfl
set_option maxRecDepth 20000 in
theorem sX5_replaced : Cond.static yX5_replaced ∈ TB := TB_in (List.mem_of_getElem? (i := 311) rfl) rfl
set_option maxRecDepth 20000 in
theorem oX5_stepsBetween : Cond.code yX5_stepsBetween cX5_stepsBetween 3 (some .int) ∈ TB := TB_in (List.mem_of_getElem? (i := 340) rfl) rfl
set_option maxRecDepth 20000 in
theorem sX5_stepsBetween : Cond.static yX5_stepsBetween ∈ TB := TB_in (List.mem_of_getElem? (i := 339) rfl) rfl
set_option maxRecDepth 20000 in
theorem oX5_power : Cond.code yX5_power cX5_power 5 (some .long) ∈ TB := TB_in (List.mem_of_getElem? (i := 578) rfl) rfl
set_option maxRecDepth 20000 in
theorem sX5_power : Cond.static yX5_power ∈ TB := TB_in (List.mem_of_getElem? (i := 577) rfl) rfl
set_option maxRecDepth 20000 in
theorem oX5_isUnder : Cond.code yX5_isUnder cX5_isUnder 4 (some .boolean) ∈ TB := TB_in (List.mem_of_getElem? (i := 736) rfl) rfl
set_option maxRecDepth 20000 in
theorem sX5_isUnder : Cond.static yX5_isUnder ∈ TB := TB_in (List.mem_of_getElem? (i := 735) rfl) rfl
set_option maxRecDepth 20000 in
theorem oX5_kindOver : Cond.code yX5_kindOver cX5_kindOver 1 (some .int) ∈ TB := TB_in (List.mem_of_getElem? (i := 739) rfl) rfl
set_option maxRecDepth 20000 in
theorem sX5_kindOver : Cond.static yX5_kindOver ∈ TB := TB_in (List.mem_of_getElem? (i := 738) rfl) rfl
set_option maxRecDepth 20000 in
theorem oX5_copyLives : Cond.code yX5_copyLives cX5_copyLives 1 none ∈ TB := TB_in (List.mem_of_getElem? (i := 418) rfl) rfl
set_option maxRecDepth 20000 in
theorem iX5_copyLives : Cond.instanceMethod yX5_copyLives ∈ TB := TB_in (List.mem_of_getElem? (i := 417) rfl) rfl
set_option maxRecDepth 20000 in
theorem vX5_copyLives : Cond.selects RX5 yX5_copyLives yX5_copyLives ∈ TB := TB_in (List.mem_of_getElem? (i := 1) rfl) rfl
set_option maxRecDepth 20000 in
theorem oX5_bestSet : Cond.code yX5_bestSet cX5_bestSet 6 (some .int) ∈ TB := TB_in (List.mem_of_getElem? (i := 473) rfl) rfl
set_option maxRecDepth 20000 in
theorem iX5_bestSet : Cond.instanceMethod yX5_bestSet ∈ TB := TB_in (List.mem_of_getElem? (i := 472) rfl) rfl
set_option maxRecDepth 20000 in
theorem vX5_bestSet : Cond.selects RX5 yX5_bestSet yX5_bestSet ∈ TB := TB_in (List.mem_of_getElem? (i := 4) rfl) rfl
set_option maxRecDepth 20000 in
theorem oX5_canShare : Cond.code yX5_canShare cX5_canShare 4 (some .boolean) ∈ TB := TB_in (List.mem_of_getElem? (i := 490) rfl) rfl
set_option maxRecDepth 20000 in
theorem iX5_canShare : Cond.instanceMethod yX5_canShare ∈ TB := TB_in (List.mem_of_getElem? (i := 489) rfl) rfl
set_option maxRecDepth 20000 in
theorem vX5_canShare : Cond.selects RX5 yX5_canShare yX5_canShare ∈ TB := TB_in (List.mem_of_getElem? (i := 5) rfl) rfl
set_option maxRecDepth 20000 in
theorem oX5_firstShare : Cond.code yX5_firstShare cX5_firstShare 8 (some .int) ∈ TB := TB_in (List.mem_of_getElem? (i := 494) rfl) rfl
set_option maxRecDepth 20000 in
theorem iX5_firstShare : Cond.instanceMethod yX5_firstShare ∈ TB := TB_in (List.mem_of_getElem? (i := 493) rfl) rfl
set_option maxRecDepth 20000 in
theorem vX5_firstShare : Cond.selects RX5 yX5_firstShare yX5_firstShare ∈ TB := TB_in (List.mem_of_getElem? (i := 6) rfl) rfl
set_option maxRecDepth 20000 in
theorem oX5_longerWay : Cond.code yX5_longerWay cX5_longerWay 3 (some .int) ∈ TB := TB_in (List.mem_of_getElem? (i := 498) rfl) rfl
set_option maxRecDepth 20000 in
theorem iX5_longerWay : Cond.instanceMethod yX5_longerWay ∈ TB := TB_in (List.mem_of_getElem? (i := 497) rfl) rfl
set_option maxRecDepth 20000 in
theorem vX5_longerWay : Cond.selects RX5 yX5_longerWay yX5_longerWay ∈ TB := TB_in (List.mem_of_getElem? (i := 7) rfl) rfl
set_option maxRecDepth 20000 in
theorem oX5_lackOfSheet : Cond.code yX5_lackOfSheet cX5_lackOfSheet 2 (some .int) ∈ TB := TB_in (List.mem_of_getElem? (i := 553) rfl) rfl
set_option maxRecDepth 20000 in
theorem iX5_lackOfSheet : Cond.instanceMethod yX5_lackOfSheet ∈ TB := TB_in (List.mem_of_getElem? (i := 552) rfl) rfl
set_option maxRecDepth 20000 in
theorem vX5_lackOfSheet : Cond.selects RX5 yX5_lackOfSheet yX5_lackOfSheet ∈ TB := TB_in (List.mem_of_getElem? (i := 8) rfl) rfl
set_option maxRecDepth 20000 in
theorem oX5_isAsSheet : Cond.code yX5_isAsSheet cX5_isAsSheet 7 (some .boolean) ∈ TB := TB_in (List.mem_of_getElem? (i := 557) rfl) rfl
set_option maxRecDepth 20000 in
theorem iX5_isAsSheet : Cond.instanceMethod yX5_isAsSheet ∈ TB := TB_in (List.mem_of_getElem? (i := 556) rfl) rfl
set_option maxRecDepth 20000 in
theorem vX5_isAsSheet : Cond.selects RX5 yX5_isAsSheet yX5_isAsSheet ∈ TB := TB_in (List.mem_of_getElem? (i := 9) rfl) rfl
set_option maxRecDepth 20000 in
theorem oX6_init : Cond.code yX6_init cX6_init 2 none ∈ TB := TB_in (List.mem_of_getElem? (i := 801) rfl) rfl
set_option maxRecDepth 20000 in
theorem iX6_init : Cond.instanceMethod yX6_init ∈ TB := TB_in (List.mem_of_getElem? (i := 800) rfl) rfl
set_option maxRecDepth 20000 in
theorem oX6_no : Cond.code yX6_no cX6_no 2 (some .int) ∈ TB := TB_in (List.mem_of_getElem? (i := 878) rfl) rfl
set_option maxRecDepth 20000 in
theorem iX6_no : Cond.instanceMethod yX6_no ∈ TB := TB_in (List.mem_of_getElem? (i := 877) rfl) rfl
set_option maxRecDepth 20000 in
theorem vX6_no : Cond.selects RX6 yX6_no yX6_no ∈ TB := TB_in (List.mem_of_getElem? (i := 19) rfl) rfl
set_option maxRecDepth 20000 in
theorem oX6_in1 : Cond.code yX6_in1 cX6_in1 3 (some .boolean) ∈ TB := TB_in (List.mem_of_getElem? (i := 871) rfl) rfl
set_option maxRecDepth 20000 in
theorem sX6_in1 : Cond.static yX6_in1 ∈ TB := TB_in (List.mem_of_getElem? (i := 870) rfl) rfl
set_option maxRecDepth 20000 in
theorem oX6_less : Cond.code yX6_less cX6_less 2 (some .int) ∈ TB := TB_in (List.mem_of_getElem? (i := 943) rfl) rfl
set_option maxRecDepth 20000 in
theorem sX6_less : Cond.static yX6_less ∈ TB := TB_in (List.mem_of_getElem? (i := 942) rfl) rfl
set_option maxRecDepth 20000 in
theorem oX6_greater : Cond.code yX6_greater cX6_greater 2 (some .int) ∈ TB := TB_in (List.mem_of_getElem? (i := 959) rfl) rfl
set_option maxRecDepth 20000 in
theorem sX6_greater : Cond.static yX6_greater ∈ TB := TB_in (List.mem_of_getElem? (i := 958) rfl) rfl
set_option maxRecDepth 20000 in
theorem oX6_bits : Cond.code yX6_bits cX6_bits 3 (some .int) ∈ TB := TB_in (List.mem_of_getElem? (i := 966) rfl) rfl
set_option maxRecDepth 20000 in
theorem sX6_bits : Cond.static yX6_bits ∈ TB := TB_in (List.mem_of_getElem? (i := 965) rfl) rfl
set_option maxRecDepth 20000 in
theorem oX6_isIn : Cond.code yX6_isIn cX6_isIn 2 (some .boolean) ∈ TB := TB_in (List.mem_of_getElem? (i := 981) rfl) rfl
set_option maxRecDepth 20000 in
theorem sX6_isIn : Cond.static yX6_isIn ∈ TB := TB_in (List.mem_of_getElem? (i := 980) rfl) rfl
set_option maxRecDepth 20000 in
theorem oX6_isPlace : Cond.code yX6_isPlace cX6_isPlace 1 (some .boolean) ∈ TB := TB_in (List.mem_of_getElem? (i := 874) rfl) rfl
set_option maxRecDepth 20000 in
theorem sX6_isPlace : Cond.static yX6_isPlace ∈ TB := TB_in (List.mem_of_getElem? (i := 873) rfl) rfl
set_option maxRecDepth 20000 in
theorem oX6_isCrew : Cond.code yX6_isCrew cX6_isCrew 1 (some .boolean) ∈ TB := TB_in (List.mem_of_getElem? (i := 922) rfl) rfl
set_option maxRecDepth 20000 in
theorem sX6_isCrew : Cond.static yX6_isCrew ∈ TB := TB_in (List.mem_of_getElem? (i := 921) rfl) rfl
set_option maxRecDepth 20000 in
theorem oX6_isStar : Cond.code yX6_isStar cX6_isStar 2 (some .boolean) ∈ TB := TB_in (List.mem_of_getElem? (i := 895) rfl) rfl
set_option maxRecDepth 20000 in
theorem iX6_isStar : Cond.instanceMethod yX6_isStar ∈ TB := TB_in (List.mem_of_getElem? (i := 894) rfl) rfl
set_option maxRecDepth 20000 in
theorem vX6_isStar : Cond.selects RX6 yX6_isStar yX6_isStar ∈ TB := TB_in (List.mem_of_getElem? (i := 22) rfl) rfl
set_option maxRecDepth 20000 in
theorem oX6_isSet : Cond.code yX6_isSet cX6_isSet 2 (some .boolean) ∈ TB := TB_in (List.mem_of_getElem? (i := 1037) rfl) rfl
set_option maxRecDepth 20000 in
theorem iX6_isSet : Cond.instanceMethod yX6_isSet ∈ TB := TB_in (List.mem_of_getElem? (i := 1036) rfl) rfl
set_option maxRecDepth 20000 in
theorem vX6_isSet : Cond.selects RX6 yX6_isSet yX6_isSet ∈ TB := TB_in (List.mem_of_getElem? (i := 36) rfl) rfl
set_option maxRecDepth 20000 in
theorem oX6_get : Cond.code yX6_get cX6_get 3 (some .int) ∈ TB := TB_in (List.mem_of_getElem? (i := 899) rfl) rfl
set_option maxRecDepth 20000 in
theorem iX6_get : Cond.instanceMethod yX6_get ∈ TB := TB_in (List.mem_of_getElem? (i := 898) rfl) rfl
set_option maxRecDepth 20000 in
theorem vX6_get : Cond.selects RX6 yX6_get yX6_get ∈ TB := TB_in (List.mem_of_getElem? (i := 23) rfl) rfl
set_option maxRecDepth 20000 in
theorem oX6_puts : Cond.code yX6_puts cX6_puts 4 none ∈ TB := TB_in (List.mem_of_getElem? (i := 887) rfl) rfl
set_option maxRecDepth 20000 in
theorem iX6_puts : Cond.instanceMethod yX6_puts ∈ TB := TB_in (List.mem_of_getElem? (i := 886) rfl) rfl
set_option maxRecDepth 20000 in
theorem vX6_puts : Cond.selects RX6 yX6_puts yX6_puts ∈ TB := TB_in (List.mem_of_getElem? (i := 21) rfl) rfl
set_option maxRecDepth 20000 in
theorem oX6_at : Cond.code yX6_at cX6_at 2 (some .int) ∈ TB := TB_in (List.mem_of_getElem? (i := 989) rfl) rfl
set_option maxRecDepth 20000 in
theorem iX6_at : Cond.instanceMethod yX6_at ∈ TB := TB_in (List.mem_of_getElem? (i := 988) rfl) rfl
set_option maxRecDepth 20000 in
theorem vX6_at : Cond.selects RX6 yX6_at yX6_at ∈ TB := TB_in (List.mem_of_getElem? (i := 32) rfl) rfl
set_option maxRecDepth 20000 in
theorem oX6_stepsOf : Cond.code yX6_stepsOf cX6_stepsOf 2 (some .int) ∈ TB := TB_in (List.mem_of_getElem? (i := 1057) rfl) rfl
set_option maxRecDepth 20000 in
theorem iX6_stepsOf : Cond.instanceMethod yX6_stepsOf ∈ TB := TB_in (List.mem_of_getElem? (i := 1056) rfl) rfl
set_option maxRecDepth 20000 in
theorem vX6_stepsOf : Cond.selects RX6 yX6_stepsOf yX6_stepsOf ∈ TB := TB_in (List.mem_of_getElem? (i := 40) rfl) rfl
set_option maxRecDepth 20000 in
theorem oX6_setsAside : Cond.code yX6_setsAside cX6_setsAside 2 none ∈ TB := TB_in (List.mem_of_getElem? (i := 997) rfl) rfl
set_option maxRecDepth 20000 in
theorem iX6_setsAside : Cond.instanceMethod yX6_setsAside ∈ TB := TB_in (List.mem_of_getElem? (i := 996) rfl) rfl
set_option maxRecDepth 20000 in
theorem vX6_setsAside : Cond.selects RX6 yX6_setsAside yX6_setsAside ∈ TB := TB_in (List.mem_of_getElem? (i := 33) rfl) rfl
set_option maxRecDepth 20000 in
theorem oX6_laysBack : Cond.code yX6_laysBack cX6_laysBack 2 none ∈ TB := TB_in (List.mem_of_getElem? (i := 1001) rfl) rfl
set_option maxRecDepth 20000 in
theorem iX6_laysBack : Cond.instanceMethod yX6_laysBack ∈ TB := TB_in (List.mem_of_getElem? (i := 1000) rfl) rfl
set_option maxRecDepth 20000 in
theorem vX6_laysBack : Cond.selects RX6 yX6_laysBack yX6_laysBack ∈ TB := TB_in (List.mem_of_getElem? (i := 34) rfl) rfl
set_option maxRecDepth 20000 in
theorem oX6_wearOf : Cond.code yX6_wearOf cX6_wearOf 4 (some .int) ∈ TB := TB_in (List.mem_of_getElem? (i := 903) rfl) rfl
set_option maxRecDepth 20000 in
theorem iX6_wearOf : Cond.instanceMethod yX6_wearOf ∈ TB := TB_in (List.mem_of_getElem? (i := 902) rfl) rfl
set_option maxRecDepth 20000 in
theorem vX6_wearOf : Cond.selects RX6 yX6_wearOf yX6_wearOf ∈ TB := TB_in (List.mem_of_getElem? (i := 24) rfl) rfl
set_option maxRecDepth 20000 in
theorem oX6_dimOf : Cond.code yX6_dimOf cX6_dimOf 2 (some .int) ∈ TB := TB_in (List.mem_of_getElem? (i := 907) rfl) rfl
set_option maxRecDepth 20000 in
theorem iX6_dimOf : Cond.instanceMethod yX6_dimOf ∈ TB := TB_in (List.mem_of_getElem? (i := 906) rfl) rfl
set_option maxRecDepth 20000 in
theorem vX6_dimOf : Cond.selects RX6 yX6_dimOf yX6_dimOf ∈ TB := TB_in (List.mem_of_getElem? (i := 25) rfl) rfl
set_option maxRecDepth 20000 in
theorem oX6_shines : Cond.code yX6_shines cX6_shines 2 (some .boolean) ∈ TB := TB_in (List.mem_of_getElem? (i := 911) rfl) rfl
set_option maxRecDepth 20000 in
theorem iX6_shines : Cond.instanceMethod yX6_shines ∈ TB := TB_in (List.mem_of_getElem? (i := 910) rfl) rfl
set_option maxRecDepth 20000 in
theorem vX6_shines : Cond.selects RX6 yX6_shines yX6_shines ∈ TB := TB_in (List.mem_of_getElem? (i := 26) rfl) rfl
set_option maxRecDepth 20000 in
theorem oX6_shining : Cond.code yX6_shining cX6_shining 3 (some .int) ∈ TB := TB_in (List.mem_of_getElem? (i := 963) rfl) rfl
set_option maxRecDepth 20000 in
theorem iX6_shining : Cond.instanceMethod yX6_shining ∈ TB := TB_in (List.mem_of_getElem? (i := 962) rfl) rfl
set_option maxRecDepth 20000 in
theorem vX6_shining : Cond.selects RX6 yX6_shining yX6_shining ∈ TB := TB_in (List.mem_of_getElem? (i := 29) rfl) rfl
set_option maxRecDepth 20000 in
theorem oX6_lives : Cond.code yX6_lives cX6_lives 3 (some .int) ∈ TB := TB_in (List.mem_of_getElem? (i := 974) rfl) rfl
set_option maxRecDepth 20000 in
theorem iX6_lives : Cond.instanceMethod yX6_lives ∈ TB := TB_in (List.mem_of_getElem? (i := 973) rfl) rfl
set_option maxRecDepth 20000 in
theorem vX6_lives : Cond.selects RX6 yX6_lives yX6_lives ∈ TB := TB_in (List.mem_of_getElem? (i := 30) rfl) rfl
set_option maxRecDepth 20000 in
theorem oX6_worthOf : Cond.code yX6_worthOf cX6_worthOf 4 (some .int) ∈ TB := TB_in (List.mem_of_getElem? (i := 978) rfl) rfl
set_option maxRecDepth 20000 in
theorem iX6_worthOf : Cond.instanceMethod yX6_worthOf ∈ TB := TB_in (List.mem_of_getElem? (i := 977) rfl) rfl
set_option maxRecDepth 20000 in
theorem vX6_worthOf : Cond.selects RX6 yX6_worthOf yX6_worthOf ∈ TB := TB_in (List.mem_of_getElem? (i := 31) rfl) rfl
set_option maxRecDepth 20000 in
theorem oX6_night : Cond.code yX6_night cX6_night 2 none ∈ TB := TB_in (List.mem_of_getElem? (i := 956) rfl) rfl
set_option maxRecDepth 20000 in
theorem iX6_night : Cond.instanceMethod yX6_night ∈ TB := TB_in (List.mem_of_getElem? (i := 955) rfl) rfl
set_option maxRecDepth 20000 in
theorem vX6_night : Cond.selects RX6 yX6_night yX6_night ∈ TB := TB_in (List.mem_of_getElem? (i := 28) rfl) rfl
set_option maxRecDepth 20000 in
theorem oX6_nights : Cond.code yX6_nights cX6_nights 3 none ∈ TB := TB_in (List.mem_of_getElem? (i := 952) rfl) rfl
set_option maxRecDepth 20000 in
theorem iX6_nights : Cond.instanceMethod yX6_nights ∈ TB := TB_in (List.mem_of_getElem? (i := 951) rfl) rfl
set_option maxRecDepth 20000 in
theorem vX6_nights : Cond.selects RX6 yX6_nights yX6_nights ∈ TB := TB_in (List.mem_of_getElem? (i := 27) rfl) rfl
set_option maxRecDepth 20000 in
theorem oX6_addsStar : Cond.code yX6_addsStar cX6_addsStar 4 none ∈ TB := TB_in (List.mem_of_getElem? (i := 883) rfl) rfl
set_option maxRecDepth 20000 in
theorem iX6_addsStar : Cond.instanceMethod yX6_addsStar ∈ TB := TB_in (List.mem_of_getElem? (i := 882) rfl) rfl
set_option maxRecDepth 20000 in
theorem vX6_addsStar : Cond.selects RX6 yX6_addsStar yX6_addsStar ∈ TB := TB_in (List.mem_of_getElem? (i := 20) rfl) rfl
set_option maxRecDepth 20000 in
theorem oX6_star : Cond.code yX6_star cX6_star 3 (some .int) ∈ TB := TB_in (List.mem_of_getElem? (i := 868) rfl) rfl
set_option maxRecDepth 20000 in
theorem iX6_star : Cond.instanceMethod yX6_star ∈ TB := TB_in (List.mem_of_getElem? (i := 866) rfl) rfl
set_option maxRecDepth 20000 in
theorem vX6_star : Cond.selects RX6 yX6_star yX6_star ∈ TB := TB_in (List.mem_of_getElem? (i := 867) rfl) rfl
set_option maxRecDepth 20000 in
theorem oX6_of : Cond.code yX6_of cX6_of 3 (some .int) ∈ TB := TB_in (List.mem_of_getElem? (i := 891) rfl) rfl
set_option maxRecDepth 20000 in
theorem iX6_of : Cond.instanceMethod yX6_of ∈ TB := TB_in (List.mem_of_getElem? (i := 889) rfl) rfl
set_option maxRecDepth 20000 in
theorem vX6_of : Cond.selects RX6 yX6_of yX6_of ∈ TB := TB_in (List.mem_of_getElem? (i := 890) rfl) rfl
set_option maxRecDepth 20000 in
theorem oX6_change : Cond.code yX6_change cX6_change 5 (some .int) ∈ TB := TB_in (List.mem_of_getElem? (i := 915) rfl) rfl
set_option maxRecDepth 20000 in
theorem iX6_change : Cond.instanceMethod yX6_change ∈ TB := TB_in (List.mem_of_getElem? (i := 913) rfl) rfl
set_option maxRecDepth 20000 in
theorem vX6_change : Cond.selects RX6 yX6_change yX6_change ∈ TB := TB_in (List.mem_of_getElem? (i := 914) rfl) rfl
set_option maxRecDepth 20000 in
theorem oX6_crew : Cond.code yX6_crew cX6_crew 5 (some .int) ∈ TB := TB_in (List.mem_of_getElem? (i := 919) rfl) rfl
set_option maxRecDepth 20000 in
theorem iX6_crew : Cond.instanceMethod yX6_crew ∈ TB := TB_in (List.mem_of_getElem? (i := 917) rfl) rfl
set_option maxRecDepth 20000 in
theorem vX6_crew : Cond.selects RX6 yX6_crew yX6_crew ∈ TB := TB_in (List.mem_of_getElem? (i := 918) rfl) rfl
set_option maxRecDepth 20000 in
theorem oX6_crewOf : Cond.code yX6_crewOf cX6_crewOf 3 (some .int) ∈ TB := TB_in (List.mem_of_getElem? (i := 926) rfl) rfl
set_option maxRecDepth 20000 in
theorem iX6_crewOf : Cond.instanceMethod yX6_crewOf ∈ TB := TB_in (List.mem_of_getElem? (i := 924) rfl) rfl
set_option maxRecDepth 20000 in
theorem vX6_crewOf : Cond.selects RX6 yX6_crewOf yX6_crewOf ∈ TB := TB_in (List.mem_of_getElem? (i := 925) rfl) rfl
set_option maxRecDepth 20000 in
theorem oX6_greatest : Cond.code yX6_greatest cX6_greatest 1 (some .int) ∈ TB := TB_in (List.mem_of_getElem? (i := 933) rfl) rfl
set_option maxRecDepth 20000 in
theorem sX6_greatest : Cond.static yX6_greatest ∈ TB := TB_in (List.mem_of_getElem? (i := 932) rfl) rfl
set_option maxRecDepth 20000 in
theorem oX6_set : Cond.code yX6_set cX6_set 4 (some .int) ∈ TB := TB_in (List.mem_of_getElem? (i := 930) rfl) rfl
set_option maxRecDepth 20000 in
theorem iX6_set : Cond.instanceMethod yX6_set ∈ TB := TB_in (List.mem_of_getElem? (i := 928) rfl) rfl
set_option maxRecDepth 20000 in
theorem vX6_set : Cond.selects RX6 yX6_set yX6_set ∈ TB := TB_in (List.mem_of_getElem? (i := 929) rfl) rfl
set_option maxRecDepth 20000 in
theorem oX6_apartOf : Cond.code yX6_apartOf cX6_apartOf 3 (some .int) ∈ TB := TB_in (List.mem_of_getElem? (i := 940) rfl) rfl
set_option maxRecDepth 20000 in
theorem sX6_apartOf : Cond.static yX6_apartOf ∈ TB := TB_in (List.mem_of_getElem? (i := 939) rfl) rfl
set_option maxRecDepth 20000 in
theorem oX6_apart : Cond.code yX6_apart cX6_apart 3 (some .int) ∈ TB := TB_in (List.mem_of_getElem? (i := 937) rfl) rfl
set_option maxRecDepth 20000 in
theorem iX6_apart : Cond.instanceMethod yX6_apart ∈ TB := TB_in (List.mem_of_getElem? (i := 935) rfl) rfl
set_option maxRecDepth 20000 in
theorem vX6_apart : Cond.selects RX6 yX6_apart yX6_apart ∈ TB := TB_in (List.mem_of_getElem? (i := 936) rfl) rfl
set_option maxRecDepth 20000 in
theorem oX6_go : Cond.code yX6_go cX6_go 2 (some .int) ∈ TB := TB_in (List.mem_of_getElem? (i := 947) rfl) rfl
set_option maxRecDepth 20000 in
theorem iX6_go : Cond.instanceMethod yX6_go ∈ TB := TB_in (List.mem_of_getElem? (i := 945) rfl) rfl
set_option maxRecDepth 20000 in
theorem vX6_go : Cond.selects RX6 yX6_go yX6_go ∈ TB := TB_in (List.mem_of_getElem? (i := 946) rfl) rfl
set_option maxRecDepth 20000 in
theorem oX6_now : Cond.code yX6_now cX6_now 2 (some .int) ∈ TB := TB_in (List.mem_of_getElem? (i := 970) rfl) rfl
set_option maxRecDepth 20000 in
theorem iX6_now : Cond.instanceMethod yX6_now ∈ TB := TB_in (List.mem_of_getElem? (i := 968) rfl) rfl
set_option maxRecDepth 20000 in
theorem vX6_now : Cond.selects RX6 yX6_now yX6_now ∈ TB := TB_in (List.mem_of_getElem? (i := 969) rfl) rfl
set_option maxRecDepth 20000 in
theorem oX6_mends : Cond.code yX6_mends cX6_mends 4 (some .int) ∈ TB := TB_in (List.mem_of_getElem? (i := 985) rfl) rfl
set_option maxRecDepth 20000 in
theorem iX6_mends : Cond.instanceMethod yX6_mends ∈ TB := TB_in (List.mem_of_getElem? (i := 983) rfl) rfl
set_option maxRecDepth 20000 in
theorem vX6_mends : Cond.selects RX6 yX6_mends yX6_mends ∈ TB := TB_in (List.mem_of_getElem? (i := 984) rfl) rfl
set_option maxRecDepth 20000 in
theorem oX6_ahead : Cond.code yX6_ahead cX6_ahead 4 (some .int) ∈ TB := TB_in (List.mem_of_getElem? (i := 993) rfl) rfl
set_option maxRecDepth 20000 in
theorem iX6_ahead : Cond.instanceMethod yX6_ahead ∈ TB := TB_in (List.mem_of_getElem? (i := 991) rfl) rfl
set_option maxRecDepth 20000 in
theorem vX6_ahead : Cond.selects RX6 yX6_ahead yX6_ahead ∈ TB := TB_in (List.mem_of_getElem? (i := 992) rfl) rfl
set_option maxRecDepth 20000 in
theorem oX6_lastsNow : Cond.code yX6_lastsNow cX6_lastsNow 3 (some .int) ∈ TB := TB_in (List.mem_of_getElem? (i := 1009) rfl) rfl
set_option maxRecDepth 20000 in
theorem iX6_lastsNow : Cond.instanceMethod yX6_lastsNow ∈ TB := TB_in (List.mem_of_getElem? (i := 1008) rfl) rfl
set_option maxRecDepth 20000 in
theorem vX6_lastsNow : Cond.selects RX6 yX6_lastsNow yX6_lastsNow ∈ TB := TB_in (List.mem_of_getElem? (i := 35) rfl) rfl
set_option maxRecDepth 20000 in
theorem oX6_lasts : Cond.code yX6_lasts cX6_lasts 3 (some .int) ∈ TB := TB_in (List.mem_of_getElem? (i := 1005) rfl) rfl
set_option maxRecDepth 20000 in
theorem iX6_lasts : Cond.instanceMethod yX6_lasts ∈ TB := TB_in (List.mem_of_getElem? (i := 1003) rfl) rfl
set_option maxRecDepth 20000 in
theorem vX6_lasts : Cond.selects RX6 yX6_lasts yX6_lasts ∈ TB := TB_in (List.mem_of_getElem? (i := 1004) rfl) rfl
set_option maxRecDepth 20000 in
theorem oX6_shine : Cond.code yX6_shine cX6_shine 3 (some .int) ∈ TB := TB_in (List.mem_of_getElem? (i := 1013) rfl) rfl
set_option maxRecDepth 20000 in
theorem iX6_shine : Cond.instanceMethod yX6_shine ∈ TB := TB_in (List.mem_of_getElem? (i := 1011) rfl) rfl
set_option maxRecDepth 20000 in
theorem vX6_shine : Cond.selects RX6 yX6_shine yX6_shine ∈ TB := TB_in (List.mem_of_getElem? (i := 1012) rfl) rfl
set_option maxRecDepth 20000 in
theorem oX6_dark : Cond.code yX6_dark cX6_dark 3 (some .int) ∈ TB := TB_in (List.mem_of_getElem? (i := 1017) rfl) rfl
set_option maxRecDepth 20000 in
theorem iX6_dark : Cond.instanceMethod yX6_dark ∈ TB := TB_in (List.mem_of_getElem? (i := 1015) rfl) rfl
set_option maxRecDepth 20000 in
theorem vX6_dark : Cond.selects RX6 yX6_dark yX6_dark ∈ TB := TB_in (List.mem_of_getElem? (i := 1016) rfl) rfl
set_option maxRecDepth 20000 in
theorem oX6_kindFor : Cond.code yX6_kindFor cX6_kindFor 7 (some .int) ∈ TB := TB_in (List.mem_of_getElem? (i := 1021) rfl) rfl
set_option maxRecDepth 20000 in
theorem iX6_kindFor : Cond.instanceMethod yX6_kindFor ∈ TB := TB_in (List.mem_of_getElem? (i := 1019) rfl) rfl
set_option maxRecDepth 20000 in
theorem vX6_kindFor : Cond.selects RX6 yX6_kindFor yX6_kindFor ∈ TB := TB_in (List.mem_of_getElem? (i := 1020) rfl) rfl
set_option maxRecDepth 20000 in
theorem oX6_dustFor : Cond.code yX6_dustFor cX6_dustFor 5 (some .int) ∈ TB := TB_in (List.mem_of_getElem? (i := 1025) rfl) rfl
set_option maxRecDepth 20000 in
theorem iX6_dustFor : Cond.instanceMethod yX6_dustFor ∈ TB := TB_in (List.mem_of_getElem? (i := 1023) rfl) rfl
set_option maxRecDepth 20000 in
theorem vX6_dustFor : Cond.selects RX6 yX6_dustFor yX6_dustFor ∈ TB := TB_in (List.mem_of_getElem? (i := 1024) rfl) rfl
set_option maxRecDepth 20000 in
theorem oX6_uses : Cond.code yX6_uses cX6_uses 5 (some .int) ∈ TB := TB_in (List.mem_of_getElem? (i := 1029) rfl) rfl
set_option maxRecDepth 20000 in
theorem iX6_uses : Cond.instanceMethod yX6_uses ∈ TB := TB_in (List.mem_of_getElem? (i := 1027) rfl) rfl
set_option maxRecDepth 20000 in
theorem vX6_uses : Cond.selects RX6 yX6_uses yX6_uses ∈ TB := TB_in (List.mem_of_getElem? (i := 1028) rfl) rfl
set_option maxRecDepth 20000 in
theorem oX6_walk : Cond.code yX6_walk cX6_walk 9 (some .int) ∈ TB := TB_in (List.mem_of_getElem? (i := 1045) rfl) rfl
set_option maxRecDepth 20000 in
theorem iX6_walk : Cond.instanceMethod yX6_walk ∈ TB := TB_in (List.mem_of_getElem? (i := 1044) rfl) rfl
set_option maxRecDepth 20000 in
theorem vX6_walk : Cond.selects RX6 yX6_walk yX6_walk ∈ TB := TB_in (List.mem_of_getElem? (i := 38) rfl) rfl
set_option maxRecDepth 20000 in
theorem oX6_roundOf : Cond.code yX6_roundOf cX6_roundOf 3 (some .int) ∈ TB := TB_in (List.mem_of_getElem? (i := 1041) rfl) rfl
set_option maxRecDepth 20000 in
theorem iX6_roundOf : Cond.instanceMethod yX6_roundOf ∈ TB := TB_in (List.mem_of_getElem? (i := 1040) rfl) rfl
set_option maxRecDepth 20000 in
theorem vX6_roundOf : Cond.selects RX6 yX6_roundOf yX6_roundOf ∈ TB := TB_in (List.mem_of_getElem? (i := 37) rfl) rfl
set_option maxRecDepth 20000 in
theorem oX6_round : Cond.code yX6_round cX6_round 3 (some .int) ∈ TB := TB_in (List.mem_of_getElem? (i := 1033) rfl) rfl
set_option maxRecDepth 20000 in
theorem iX6_round : Cond.instanceMethod yX6_round ∈ TB := TB_in (List.mem_of_getElem? (i := 1031) rfl) rfl
set_option maxRecDepth 20000 in
theorem vX6_round : Cond.selects RX6 yX6_round yX6_round ∈ TB := TB_in (List.mem_of_getElem? (i := 1032) rfl) rfl
set_option maxRecDepth 20000 in
theorem oX6_bestOf : Cond.code yX6_bestOf cX6_bestOf 5 (some .int) ∈ TB := TB_in (List.mem_of_getElem? (i := 1053) rfl) rfl
set_option maxRecDepth 20000 in
theorem iX6_bestOf : Cond.instanceMethod yX6_bestOf ∈ TB := TB_in (List.mem_of_getElem? (i := 1052) rfl) rfl
set_option maxRecDepth 20000 in
theorem vX6_bestOf : Cond.selects RX6 yX6_bestOf yX6_bestOf ∈ TB := TB_in (List.mem_of_getElem? (i := 39) rfl) rfl
set_option maxRecDepth 20000 in
theorem oX6_best : Cond.code yX6_best cX6_best 2 (some .int) ∈ TB := TB_in (List.mem_of_getElem? (i := 1049) rfl) rfl
set_option maxRecDepth 20000 in
theorem iX6_best : Cond.instanceMethod yX6_best ∈ TB := TB_in (List.mem_of_getElem? (i := 1047) rfl) rfl
set_option maxRecDepth 20000 in
theorem vX6_best : Cond.selects RX6 yX6_best yX6_best ∈ TB := TB_in (List.mem_of_getElem? (i := 1048) rfl) rfl
set_option maxRecDepth 20000 in
theorem oX6_bestWorth : Cond.code yX6_bestWorth cX6_bestWorth 2 (some .int) ∈ TB := TB_in (List.mem_of_getElem? (i := 1061) rfl) rfl
set_option maxRecDepth 20000 in
theorem iX6_bestWorth : Cond.instanceMethod yX6_bestWorth ∈ TB := TB_in (List.mem_of_getElem? (i := 1059) rfl) rfl
set_option maxRecDepth 20000 in
theorem vX6_bestWorth : Cond.selects RX6 yX6_bestWorth yX6_bestWorth ∈ TB := TB_in (List.mem_of_getElem? (i := 1060) rfl) rfl
set_option maxRecDepth 20000 in
theorem oX6_from : Cond.code yX6_from cX6_from 5 (some .int) ∈ TB := TB_in (List.mem_of_getElem? (i := 1065) rfl) rfl
set_option maxRecDepth 20000 in
theorem iX6_from : Cond.instanceMethod yX6_from ∈ TB := TB_in (List.mem_of_getElem? (i := 1063) rfl) rfl
set_option maxRecDepth 20000 in
theorem vX6_from : Cond.selects RX6 yX6_from yX6_from ∈ TB := TB_in (List.mem_of_getElem? (i := 1064) rfl) rfl
set_option maxRecDepth 20000 in
theorem oX6_longerOf : Cond.code yX6_longerOf cX6_longerOf 5 (some .int) ∈ TB := TB_in (List.mem_of_getElem? (i := 1081) rfl) rfl
set_option maxRecDepth 20000 in
theorem iX6_longerOf : Cond.instanceMethod yX6_longerOf ∈ TB := TB_in (List.mem_of_getElem? (i := 1080) rfl) rfl
set_option maxRecDepth 20000 in
theorem vX6_longerOf : Cond.selects RX6 yX6_longerOf yX6_longerOf ∈ TB := TB_in (List.mem_of_getElem? (i := 43) rfl) rfl
set_option maxRecDepth 20000 in
theorem oX6_bestShare : Cond.code yX6_bestShare cX6_bestShare 9 (some .int) ∈ TB := TB_in (List.mem_of_getElem? (i := 1077) rfl) rfl
set_option maxRecDepth 20000 in
theorem iX6_bestShare : Cond.instanceMethod yX6_bestShare ∈ TB := TB_in (List.mem_of_getElem? (i := 1076) rfl) rfl
set_option maxRecDepth 20000 in
theorem vX6_bestShare : Cond.selects RX6 yX6_bestShare yX6_bestShare ∈ TB := TB_in (List.mem_of_getElem? (i := 42) rfl) rfl
set_option maxRecDepth 20000 in
theorem oX6_canShare : Cond.code yX6_canShare cX6_canShare 4 (some .boolean) ∈ TB := TB_in (List.mem_of_getElem? (i := 1073) rfl) rfl
set_option maxRecDepth 20000 in
theorem iX6_canShare : Cond.instanceMethod yX6_canShare ∈ TB := TB_in (List.mem_of_getElem? (i := 1072) rfl) rfl
set_option maxRecDepth 20000 in
theorem vX6_canShare : Cond.selects RX6 yX6_canShare yX6_canShare ∈ TB := TB_in (List.mem_of_getElem? (i := 41) rfl) rfl
set_option maxRecDepth 20000 in
theorem oX6_share : Cond.code yX6_share cX6_share 4 (some .int) ∈ TB := TB_in (List.mem_of_getElem? (i := 1069) rfl) rfl
set_option maxRecDepth 20000 in
theorem iX6_share : Cond.instanceMethod yX6_share ∈ TB := TB_in (List.mem_of_getElem? (i := 1067) rfl) rfl
set_option maxRecDepth 20000 in
theorem vX6_share : Cond.selects RX6 yX6_share yX6_share ∈ TB := TB_in (List.mem_of_getElem? (i := 1068) rfl) rfl
set_option maxRecDepth 20000 in
theorem oX6_longer : Cond.code yX6_longer cX6_longer 5 (some .int) ∈ TB := TB_in (List.mem_of_getElem? (i := 1085) rfl) rfl
set_option maxRecDepth 20000 in
theorem iX6_longer : Cond.instanceMethod yX6_longer ∈ TB := TB_in (List.mem_of_getElem? (i := 1083) rfl) rfl
set_option maxRecDepth 20000 in
theorem vX6_longer : Cond.selects RX6 yX6_longer yX6_longer ∈ TB := TB_in (List.mem_of_getElem? (i := 1084) rfl) rfl
set_option maxRecDepth 20000 in
theorem oX6_addsSign : Cond.code yX6_addsSign cX6_addsSign 2 none ∈ TB := TB_in (List.mem_of_getElem? (i := 1093) rfl) rfl
set_option maxRecDepth 20000 in
theorem iX6_addsSign : Cond.instanceMethod yX6_addsSign ∈ TB := TB_in (List.mem_of_getElem? (i := 1092) rfl) rfl
set_option maxRecDepth 20000 in
theorem vX6_addsSign : Cond.selects RX6 yX6_addsSign yX6_addsSign ∈ TB := TB_in (List.mem_of_getElem? (i := 44) rfl) rfl
set_option maxRecDepth 20000 in
theorem oX6_sign : Cond.code yX6_sign cX6_sign 2 (some .int) ∈ TB := TB_in (List.mem_of_getElem? (i := 1089) rfl) rfl
set_option maxRecDepth 20000 in
theorem iX6_sign : Cond.instanceMethod yX6_sign ∈ TB := TB_in (List.mem_of_getElem? (i := 1087) rfl) rfl
set_option maxRecDepth 20000 in
theorem vX6_sign : Cond.selects RX6 yX6_sign yX6_sign ∈ TB := TB_in (List.mem_of_getElem? (i := 1088) rfl) rfl
set_option maxRecDepth 20000 in
theorem oX6_isSign : Cond.code yX6_isSign cX6_isSign 2 (some .boolean) ∈ TB := TB_in (List.mem_of_getElem? (i := 1101) rfl) rfl
set_option maxRecDepth 20000 in
theorem iX6_isSign : Cond.instanceMethod yX6_isSign ∈ TB := TB_in (List.mem_of_getElem? (i := 1100) rfl) rfl
set_option maxRecDepth 20000 in
theorem vX6_isSign : Cond.selects RX6 yX6_isSign yX6_isSign ∈ TB := TB_in (List.mem_of_getElem? (i := 45) rfl) rfl
set_option maxRecDepth 20000 in
theorem oX6_signOf : Cond.code yX6_signOf cX6_signOf 2 (some .int) ∈ TB := TB_in (List.mem_of_getElem? (i := 1097) rfl) rfl
set_option maxRecDepth 20000 in
theorem iX6_signOf : Cond.instanceMethod yX6_signOf ∈ TB := TB_in (List.mem_of_getElem? (i := 1095) rfl) rfl
set_option maxRecDepth 20000 in
theorem vX6_signOf : Cond.selects RX6 yX6_signOf yX6_signOf ∈ TB := TB_in (List.mem_of_getElem? (i := 1096) rfl) rfl
set_option maxRecDepth 20000 in
theorem oX6_mayBe : Cond.code yX6_mayBe cX6_mayBe 4 (some .int) ∈ TB := TB_in (List.mem_of_getElem? (i := 1109) rfl) rfl
set_option maxRecDepth 20000 in
theorem iX6_mayBe : Cond.instanceMethod yX6_mayBe ∈ TB := TB_in (List.mem_of_getElem? (i := 1108) rfl) rfl
set_option maxRecDepth 20000 in
theorem vX6_mayBe : Cond.selects RX6 yX6_mayBe yX6_mayBe ∈ TB := TB_in (List.mem_of_getElem? (i := 46) rfl) rfl
set_option maxRecDepth 20000 in
theorem oX6_may : Cond.code yX6_may cX6_may 2 (some .int) ∈ TB := TB_in (List.mem_of_getElem? (i := 1105) rfl) rfl
set_option maxRecDepth 20000 in
theorem iX6_may : Cond.instanceMethod yX6_may ∈ TB := TB_in (List.mem_of_getElem? (i := 1103) rfl) rfl
set_option maxRecDepth 20000 in
theorem vX6_may : Cond.selects RX6 yX6_may yX6_may ∈ TB := TB_in (List.mem_of_getElem? (i := 1104) rfl) rfl
set_option maxRecDepth 20000 in
theorem oX6_tells : Cond.code yX6_tells cX6_tells 5 (some .int) ∈ TB := TB_in (List.mem_of_getElem? (i := 1113) rfl) rfl
set_option maxRecDepth 20000 in
theorem iX6_tells : Cond.instanceMethod yX6_tells ∈ TB := TB_in (List.mem_of_getElem? (i := 1111) rfl) rfl
set_option maxRecDepth 20000 in
theorem vX6_tells : Cond.selects RX6 yX6_tells yX6_tells ∈ TB := TB_in (List.mem_of_getElem? (i := 1112) rfl) rfl
set_option maxRecDepth 20000 in
theorem oX6_told : Cond.code yX6_told cX6_told 4 (some .int) ∈ TB := TB_in (List.mem_of_getElem? (i := 1117) rfl) rfl
set_option maxRecDepth 20000 in
theorem iX6_told : Cond.instanceMethod yX6_told ∈ TB := TB_in (List.mem_of_getElem? (i := 1115) rfl) rfl
set_option maxRecDepth 20000 in
theorem vX6_told : Cond.selects RX6 yX6_told yX6_told ∈ TB := TB_in (List.mem_of_getElem? (i := 1116) rfl) rfl
set_option maxRecDepth 20000 in
theorem oX6_nearest : Cond.code yX6_nearest cX6_nearest 5 (some .int) ∈ TB := TB_in (List.mem_of_getElem? (i := 1125) rfl) rfl
set_option maxRecDepth 20000 in
theorem iX6_nearest : Cond.instanceMethod yX6_nearest ∈ TB := TB_in (List.mem_of_getElem? (i := 1124) rfl) rfl
set_option maxRecDepth 20000 in
theorem vX6_nearest : Cond.selects RX6 yX6_nearest yX6_nearest ∈ TB := TB_in (List.mem_of_getElem? (i := 47) rfl) rfl
set_option maxRecDepth 20000 in
theorem oX6_steers : Cond.code yX6_steers cX6_steers 3 (some .int) ∈ TB := TB_in (List.mem_of_getElem? (i := 1121) rfl) rfl
set_option maxRecDepth 20000 in
theorem iX6_steers : Cond.instanceMethod yX6_steers ∈ TB := TB_in (List.mem_of_getElem? (i := 1119) rfl) rfl
set_option maxRecDepth 20000 in
theorem vX6_steers : Cond.selects RX6 yX6_steers yX6_steers ∈ TB := TB_in (List.mem_of_getElem? (i := 1120) rfl) rfl
set_option maxRecDepth 20000 in
theorem oX6_sees : Cond.code yX6_sees cX6_sees 4 (some .int) ∈ TB := TB_in (List.mem_of_getElem? (i := 1129) rfl) rfl
set_option maxRecDepth 20000 in
theorem iX6_sees : Cond.instanceMethod yX6_sees ∈ TB := TB_in (List.mem_of_getElem? (i := 1127) rfl) rfl
set_option maxRecDepth 20000 in
theorem vX6_sees : Cond.selects RX6 yX6_sees yX6_sees ∈ TB := TB_in (List.mem_of_getElem? (i := 1128) rfl) rfl
set_option maxRecDepth 20000 in
theorem oX6_isSheet : Cond.code yX6_isSheet cX6_isSheet 1 (some .boolean) ∈ TB := TB_in (List.mem_of_getElem? (i := 1140) rfl) rfl
set_option maxRecDepth 20000 in
theorem sX6_isSheet : Cond.static yX6_isSheet ∈ TB := TB_in (List.mem_of_getElem? (i := 1139) rfl) rfl
set_option maxRecDepth 20000 in
theorem oX6_wrongSheet : Cond.code yX6_wrongSheet cX6_wrongSheet 2 (some .int) ∈ TB := TB_in (List.mem_of_getElem? (i := 1137) rfl) rfl
set_option maxRecDepth 20000 in
theorem iX6_wrongSheet : Cond.instanceMethod yX6_wrongSheet ∈ TB := TB_in (List.mem_of_getElem? (i := 1136) rfl) rfl
set_option maxRecDepth 20000 in
theorem vX6_wrongSheet : Cond.selects RX6 yX6_wrongSheet yX6_wrongSheet ∈ TB := TB_in (List.mem_of_getElem? (i := 48) rfl) rfl
set_option maxRecDepth 20000 in
theorem oX6_toldAt : Cond.code yX6_toldAt cX6_toldAt 3 (some .int) ∈ TB := TB_in (List.mem_of_getElem? (i := 1148) rfl) rfl
set_option maxRecDepth 20000 in
theorem iX6_toldAt : Cond.instanceMethod yX6_toldAt ∈ TB := TB_in (List.mem_of_getElem? (i := 1147) rfl) rfl
set_option maxRecDepth 20000 in
theorem vX6_toldAt : Cond.selects RX6 yX6_toldAt yX6_toldAt ∈ TB := TB_in (List.mem_of_getElem? (i := 50) rfl) rfl
set_option maxRecDepth 20000 in
theorem oX6_dimsSo : Cond.code yX6_dimsSo cX6_dimsSo 5 (some .boolean) ∈ TB := TB_in (List.mem_of_getElem? (i := 1144) rfl) rfl
set_option maxRecDepth 20000 in
theorem iX6_dimsSo : Cond.instanceMethod yX6_dimsSo ∈ TB := TB_in (List.mem_of_getElem? (i := 1143) rfl) rfl
set_option maxRecDepth 20000 in
theorem vX6_dimsSo : Cond.selects RX6 yX6_dimsSo yX6_dimsSo ∈ TB := TB_in (List.mem_of_getElem? (i := 49) rfl) rfl
set_option maxRecDepth 20000 in
theorem oX6_which : Cond.code yX6_which cX6_which 5 (some .int) ∈ TB := TB_in (List.mem_of_getElem? (i := 1133) rfl) rfl
set_option maxRecDepth 20000 in
theorem iX6_which : Cond.instanceMethod yX6_which ∈ TB := TB_in (List.mem_of_getElem? (i := 1131) rfl) rfl
set_option maxRecDepth 20000 in
theorem vX6_which : Cond.selects RX6 yX6_which yX6_which ∈ TB := TB_in (List.mem_of_getElem? (i := 1132) rfl) rfl
set_option maxRecDepth 20000 in
theorem oX6_kinds : Cond.code yX6_kinds cX6_kinds 7 (some .int) ∈ TB := TB_in (List.mem_of_getElem? (i := 1152) rfl) rfl
set_option maxRecDepth 20000 in
theorem iX6_kinds : Cond.instanceMethod yX6_kinds ∈ TB := TB_in (List.mem_of_getElem? (i := 1150) rfl) rfl
set_option maxRecDepth 20000 in
theorem vX6_kinds : Cond.selects RX6 yX6_kinds yX6_kinds ∈ TB := TB_in (List.mem_of_getElem? (i := 1151) rfl) rfl
set_option maxRecDepth 20000 in
theorem oX6_draw : Cond.code yX6_draw cX6_draw 1 (some .int) ∈ TB := TB_in (List.mem_of_getElem? (i := 1160) rfl) rfl
set_option maxRecDepth 20000 in
theorem iX6_draw : Cond.instanceMethod yX6_draw ∈ TB := TB_in (List.mem_of_getElem? (i := 1159) rfl) rfl
set_option maxRecDepth 20000 in
theorem vX6_draw : Cond.selects RX6 yX6_draw yX6_draw ∈ TB := TB_in (List.mem_of_getElem? (i := 51) rfl) rfl
set_option maxRecDepth 20000 in
theorem oX6_drops : Cond.code yX6_drops cX6_drops 5 (some .int) ∈ TB := TB_in (List.mem_of_getElem? (i := 1156) rfl) rfl
set_option maxRecDepth 20000 in
theorem iX6_drops : Cond.instanceMethod yX6_drops ∈ TB := TB_in (List.mem_of_getElem? (i := 1154) rfl) rfl
set_option maxRecDepth 20000 in
theorem vX6_drops : Cond.selects RX6 yX6_drops yX6_drops ∈ TB := TB_in (List.mem_of_getElem? (i := 1155) rfl) rfl
set_option maxRecDepth 20000 in
theorem oX6_odds : Cond.code yX6_odds cX6_odds 13 (some .long) ∈ TB := TB_in (List.mem_of_getElem? (i := 1165) rfl) rfl
set_option maxRecDepth 20000 in
theorem iX6_odds : Cond.instanceMethod yX6_odds ∈ TB := TB_in (List.mem_of_getElem? (i := 1163) rfl) rfl
set_option maxRecDepth 20000 in
theorem vX6_odds : Cond.selects RX6 yX6_odds yX6_odds ∈ TB := TB_in (List.mem_of_getElem? (i := 1164) rfl) rfl
set_option maxRecDepth 20000 in
theorem oX6_seed : Cond.code yX6_seed cX6_seed 3 (some .int) ∈ TB := TB_in (List.mem_of_getElem? (i := 1170) rfl) rfl
set_option maxRecDepth 20000 in
theorem iX6_seed : Cond.instanceMethod yX6_seed ∈ TB := TB_in (List.mem_of_getElem? (i := 1168) rfl) rfl
set_option maxRecDepth 20000 in
theorem vX6_seed : Cond.selects RX6 yX6_seed yX6_seed ∈ TB := TB_in (List.mem_of_getElem? (i := 1169) rfl) rfl
set_option maxRecDepth 20000 in
theorem oX6_feed : Cond.code yX6_feed cX6_feed 4 (some .int) ∈ TB := TB_in (List.mem_of_getElem? (i := 1174) rfl) rfl
set_option maxRecDepth 20000 in
theorem iX6_feed : Cond.instanceMethod yX6_feed ∈ TB := TB_in (List.mem_of_getElem? (i := 1172) rfl) rfl
set_option maxRecDepth 20000 in
theorem vX6_feed : Cond.selects RX6 yX6_feed yX6_feed ∈ TB := TB_in (List.mem_of_getElem? (i := 1173) rfl) rfl
set_option maxRecDepth 20000 in
theorem oX6_wipe : Cond.code yX6_wipe cX6_wipe 2 (some .int) ∈ TB := TB_in (List.mem_of_getElem? (i := 1178) rfl) rfl
set_option maxRecDepth 20000 in
theorem iX6_wipe : Cond.instanceMethod yX6_wipe ∈ TB := TB_in (List.mem_of_getElem? (i := 1176) rfl) rfl
set_option maxRecDepth 20000 in
theorem vX6_wipe : Cond.selects RX6 yX6_wipe yX6_wipe ∈ TB := TB_in (List.mem_of_getElem? (i := 1177) rfl) rfl
set_option maxRecDepth 20000 in
theorem oX6_isLetter : Cond.code yX6_isLetter cX6_isLetter 1 (some .boolean) ∈ TB := TB_in (List.mem_of_getElem? (i := 1189) rfl) rfl
set_option maxRecDepth 20000 in
theorem sX6_isLetter : Cond.static yX6_isLetter ∈ TB := TB_in (List.mem_of_getElem? (i := 1188) rfl) rfl
set_option maxRecDepth 20000 in
theorem oX6_isDigit : Cond.code yX6_isDigit cX6_isDigit 1 (some .boolean) ∈ TB := TB_in (List.mem_of_getElem? (i := 1195) rfl) rfl
set_option maxRecDepth 20000 in
theorem sX6_isDigit : Cond.static yX6_isDigit ∈ TB := TB_in (List.mem_of_getElem? (i := 1194) rfl) rfl
set_option maxRecDepth 20000 in
theorem oX6_nextToken : Cond.code yX6_nextToken cX6_nextToken 1 none ∈ TB := TB_in (List.mem_of_getElem? (i := 1186) rfl) rfl
set_option maxRecDepth 20000 in
theorem iX6_nextToken : Cond.instanceMethod yX6_nextToken ∈ TB := TB_in (List.mem_of_getElem? (i := 1185) rfl) rfl
set_option maxRecDepth 20000 in
theorem vX6_nextToken : Cond.selects RX6 yX6_nextToken yX6_nextToken ∈ TB := TB_in (List.mem_of_getElem? (i := 52) rfl) rfl
set_option maxRecDepth 20000 in
theorem oX6_wordOf : Cond.code yX6_wordOf cX6_wordOf 7 (some .int) ∈ TB := TB_in (List.mem_of_getElem? (i := 1206) rfl) rfl
set_option maxRecDepth 20000 in
theorem iX6_wordOf : Cond.instanceMethod yX6_wordOf ∈ TB := TB_in (List.mem_of_getElem? (i := 1205) rfl) rfl
set_option maxRecDepth 20000 in
theorem vX6_wordOf : Cond.selects RX6 yX6_wordOf yX6_wordOf ∈ TB := TB_in (List.mem_of_getElem? (i := 54) rfl) rfl
set_option maxRecDepth 20000 in
theorem oX6_takesNumber : Cond.code yX6_takesNumber cX6_takesNumber 4 (some .int) ∈ TB := TB_in (List.mem_of_getElem? (i := 1214) rfl) rfl
set_option maxRecDepth 20000 in
theorem iX6_takesNumber : Cond.instanceMethod yX6_takesNumber ∈ TB := TB_in (List.mem_of_getElem? (i := 1213) rfl) rfl
set_option maxRecDepth 20000 in
theorem vX6_takesNumber : Cond.selects RX6 yX6_takesNumber yX6_takesNumber ∈ TB := TB_in (List.mem_of_getElem? (i := 56) rfl) rfl
set_option maxRecDepth 20000 in
theorem oX6_readsStar : Cond.code yX6_readsStar cX6_readsStar 5 (some .boolean) ∈ TB := TB_in (List.mem_of_getElem? (i := 1210) rfl) rfl
set_option maxRecDepth 20000 in
theorem iX6_readsStar : Cond.instanceMethod yX6_readsStar ∈ TB := TB_in (List.mem_of_getElem? (i := 1209) rfl) rfl
set_option maxRecDepth 20000 in
theorem vX6_readsStar : Cond.selects RX6 yX6_readsStar yX6_readsStar ∈ TB := TB_in (List.mem_of_getElem? (i := 55) rfl) rfl
set_option maxRecDepth 20000 in
theorem oX6_readsCrew : Cond.code yX6_readsCrew cX6_readsCrew 4 (some .boolean) ∈ TB := TB_in (List.mem_of_getElem? (i := 1218) rfl) rfl
set_option maxRecDepth 20000 in
theorem iX6_readsCrew : Cond.instanceMethod yX6_readsCrew ∈ TB := TB_in (List.mem_of_getElem? (i := 1217) rfl) rfl
set_option maxRecDepth 20000 in
theorem vX6_readsCrew : Cond.selects RX6 yX6_readsCrew yX6_readsCrew ∈ TB := TB_in (List.mem_of_getElem? (i := 57) rfl) rfl
set_option maxRecDepth 20000 in
theorem oX6_readsItem : Cond.code yX6_readsItem cX6_readsItem 4 (some .boolean) ∈ TB := TB_in (List.mem_of_getElem? (i := 1202) rfl) rfl
set_option maxRecDepth 20000 in
theorem iX6_readsItem : Cond.instanceMethod yX6_readsItem ∈ TB := TB_in (List.mem_of_getElem? (i := 1201) rfl) rfl
set_option maxRecDepth 20000 in
theorem vX6_readsItem : Cond.selects RX6 yX6_readsItem yX6_readsItem ∈ TB := TB_in (List.mem_of_getElem? (i := 53) rfl) rfl
set_option maxRecDepth 20000 in
theorem oX6_text : Cond.code yX6_text cX6_text 3 (some .int) ∈ TB := TB_in (List.mem_of_getElem? (i := 1182) rfl) rfl
set_option maxRecDepth 20000 in
theorem iX6_text : Cond.instanceMethod yX6_text ∈ TB := TB_in (List.mem_of_getElem? (i := 1180) rfl) rfl
set_option maxRecDepth 20000 in
theorem vX6_text : Cond.selects RX6 yX6_text yX6_text ∈ TB := TB_in (List.mem_of_getElem? (i := 1181) rfl) rfl
set_option maxRecDepth 20000 in
theorem oX6_isSpot : Cond.code yX6_isSpot cX6_isSpot 1 (some .boolean) ∈ TB := TB_in (List.mem_of_getElem? (i := 1225) rfl) rfl
set_option maxRecDepth 20000 in
theorem sX6_isSpot : Cond.static yX6_isSpot ∈ TB := TB_in (List.mem_of_getElem? (i := 1224) rfl) rfl
set_option maxRecDepth 20000 in
theorem oX6_hold : Cond.code yX6_hold cX6_hold 3 (some .int) ∈ TB := TB_in (List.mem_of_getElem? (i := 1222) rfl) rfl
set_option maxRecDepth 20000 in
theorem iX6_hold : Cond.instanceMethod yX6_hold ∈ TB := TB_in (List.mem_of_getElem? (i := 1220) rfl) rfl
set_option maxRecDepth 20000 in
theorem vX6_hold : Cond.selects RX6 yX6_hold yX6_hold ∈ TB := TB_in (List.mem_of_getElem? (i := 1221) rfl) rfl
set_option maxRecDepth 20000 in
theorem oX6_above : Cond.code yX6_above cX6_above 1 (some .int) ∈ TB := TB_in (List.mem_of_getElem? (i := 1232) rfl) rfl
set_option maxRecDepth 20000 in
theorem sX6_above : Cond.static yX6_above ∈ TB := TB_in (List.mem_of_getElem? (i := 1231) rfl) rfl
set_option maxRecDepth 20000 in
theorem oX6_as : Cond.code yX6_as cX6_as 5 (some .int) ∈ TB := TB_in (List.mem_of_getElem? (i := 1229) rfl) rfl
set_option maxRecDepth 20000 in
theorem iX6_as : Cond.instanceMethod yX6_as ∈ TB := TB_in (List.mem_of_getElem? (i := 1227) rfl) rfl
set_option maxRecDepth 20000 in
theorem vX6_as : Cond.selects RX6 yX6_as yX6_as ∈ TB := TB_in (List.mem_of_getElem? (i := 1228) rfl) rfl
set_option maxRecDepth 20000 in
theorem oX6_sheet : Cond.code yX6_sheet cX6_sheet 5 (some .int) ∈ TB := TB_in (List.mem_of_getElem? (i := 1236) rfl) rfl
set_option maxRecDepth 20000 in
theorem iX6_sheet : Cond.instanceMethod yX6_sheet ∈ TB := TB_in (List.mem_of_getElem? (i := 1234) rfl) rfl
set_option maxRecDepth 20000 in
theorem vX6_sheet : Cond.selects RX6 yX6_sheet yX6_sheet ∈ TB := TB_in (List.mem_of_getElem? (i := 1235) rfl) rfl
set_option maxRecDepth 20000 in
theorem oX6_write : Cond.code yX6_write cX6_write 5 (some .int) ∈ TB := TB_in (List.mem_of_getElem? (i := 1240) rfl) rfl
set_option maxRecDepth 20000 in
theorem iX6_write : Cond.instanceMethod yX6_write ∈ TB := TB_in (List.mem_of_getElem? (i := 1238) rfl) rfl
set_option maxRecDepth 20000 in
theorem vX6_write : Cond.selects RX6 yX6_write yX6_write ∈ TB := TB_in (List.mem_of_getElem? (i := 1239) rfl) rfl
set_option maxRecDepth 20000 in
theorem oX6_copy : Cond.code yX6_copy cX6_copy 7 (some .int) ∈ TB := TB_in (List.mem_of_getElem? (i := 1244) rfl) rfl
set_option maxRecDepth 20000 in
theorem iX6_copy : Cond.instanceMethod yX6_copy ∈ TB := TB_in (List.mem_of_getElem? (i := 1242) rfl) rfl
set_option maxRecDepth 20000 in
theorem vX6_copy : Cond.selects RX6 yX6_copy yX6_copy ∈ TB := TB_in (List.mem_of_getElem? (i := 1243) rfl) rfl
set_option maxRecDepth 20000 in
theorem oX6_load : Cond.code yX6_load cX6_load 4 (some .int) ∈ TB := TB_in (List.mem_of_getElem? (i := 1248) rfl) rfl
set_option maxRecDepth 20000 in
theorem iX6_load : Cond.instanceMethod yX6_load ∈ TB := TB_in (List.mem_of_getElem? (i := 1246) rfl) rfl
set_option maxRecDepth 20000 in
theorem vX6_load : Cond.selects RX6 yX6_load yX6_load ∈ TB := TB_in (List.mem_of_getElem? (i := 1247) rfl) rfl
set_option maxRecDepth 20000 in
theorem oX6_judge : Cond.code yX6_judge cX6_judge 9 (some .int) ∈ TB := TB_in (List.mem_of_getElem? (i := 1252) rfl) rfl
set_option maxRecDepth 20000 in
theorem iX6_judge : Cond.instanceMethod yX6_judge ∈ TB := TB_in (List.mem_of_getElem? (i := 1250) rfl) rfl
set_option maxRecDepth 20000 in
theorem vX6_judge : Cond.selects RX6 yX6_judge yX6_judge ∈ TB := TB_in (List.mem_of_getElem? (i := 1251) rfl) rfl
set_option maxRecDepth 20000 in
theorem oX6_image : Cond.code yX6_image cX6_image 2 (some .int) ∈ TB := TB_in (List.mem_of_getElem? (i := 1256) rfl) rfl
set_option maxRecDepth 20000 in
theorem iX6_image : Cond.instanceMethod yX6_image ∈ TB := TB_in (List.mem_of_getElem? (i := 1254) rfl) rfl
set_option maxRecDepth 20000 in
theorem vX6_image : Cond.selects RX6 yX6_image yX6_image ∈ TB := TB_in (List.mem_of_getElem? (i := 1255) rfl) rfl
set_option maxRecDepth 20000 in
theorem oX6_undo : Cond.code yX6_undo cX6_undo 2 (some .int) ∈ TB := TB_in (List.mem_of_getElem? (i := 1260) rfl) rfl
set_option maxRecDepth 20000 in
theorem iX6_undo : Cond.instanceMethod yX6_undo ∈ TB := TB_in (List.mem_of_getElem? (i := 1258) rfl) rfl
set_option maxRecDepth 20000 in
theorem vX6_undo : Cond.selects RX6 yX6_undo yX6_undo ∈ TB := TB_in (List.mem_of_getElem? (i := 1259) rfl) rfl
set_option maxRecDepth 20000 in
theorem oX6_tear : Cond.code yX6_tear cX6_tear 2 (some .int) ∈ TB := TB_in (List.mem_of_getElem? (i := 1264) rfl) rfl
set_option maxRecDepth 20000 in
theorem iX6_tear : Cond.instanceMethod yX6_tear ∈ TB := TB_in (List.mem_of_getElem? (i := 1262) rfl) rfl
set_option maxRecDepth 20000 in
theorem vX6_tear : Cond.selects RX6 yX6_tear yX6_tear ∈ TB := TB_in (List.mem_of_getElem? (i := 1263) rfl) rfl
set_option maxRecDepth 20000 in
theorem oX6_count : Cond.code yX6_count cX6_count 4 (some .int) ∈ TB := TB_in (List.mem_of_getElem? (i := 1268) rfl) rfl
set_option maxRecDepth 20000 in
theorem iX6_count : Cond.instanceMethod yX6_count ∈ TB := TB_in (List.mem_of_getElem? (i := 1266) rfl) rfl
set_option maxRecDepth 20000 in
theorem vX6_count : Cond.selects RX6 yX6_count yX6_count ∈ TB := TB_in (List.mem_of_getElem? (i := 1267) rfl) rfl
set_option maxRecDepth 20000 in
theorem oX6_status : Cond.code yX6_status cX6_status 4 (some .int) ∈ TB := TB_in (List.mem_of_getElem? (i := 1272) rfl) rfl
set_option maxRecDepth 20000 in
theorem iX6_status : Cond.instanceMethod yX6_status ∈ TB := TB_in (List.mem_of_getElem? (i := 1270) rfl) rfl
set_option maxRecDepth 20000 in
theorem vX6_status : Cond.selects RX6 yX6_status yX6_status ∈ TB := TB_in (List.mem_of_getElem? (i := 1271) rfl) rfl
set_option maxRecDepth 20000 in
theorem oJ6_bitCount_0f7a4 : Cond.code yJ6_bitCount_0f7a4 cJ6_bitCount_0f7a4 1 (some .int) ∈ TB := TB_in (List.mem_of_getElem? (i := 375) rfl) rfl
set_option maxRecDepth 20000 in
theorem sJ6_bitCount_0f7a4 : Cond.static yJ6_bitCount_0f7a4 ∈ TB := TB_in (List.mem_of_getElem? (i := 374) rfl) rfl
set_option maxRecDepth 20000 in
theorem oJ9_abs_0f7a4 : Cond.code yJ9_abs_0f7a4 cJ9_abs_0f7a4 1 (some .int) ∈ TB := TB_in (List.mem_of_getElem? (i := 343) rfl) rfl
set_option maxRecDepth 20000 in
theorem sJ9_abs_0f7a4 : Cond.static yJ9_abs_0f7a4 ∈ TB := TB_in (List.mem_of_getElem? (i := 342) rfl) rfl
set_option maxRecDepth 20000 in
theorem oJ9_max_7cf53 : Cond.code yJ9_max_7cf53 cJ9_max_7cf53 2 (some .int) ∈ TB := TB_in (List.mem_of_getElem? (i := 367) rfl) rfl
set_option maxRecDepth 20000 in
theorem sJ9_max_7cf53 : Cond.static yJ9_max_7cf53 ∈ TB := TB_in (List.mem_of_getElem? (i := 366) rfl) rfl
set_option maxRecDepth 20000 in
theorem oJ9_min_7cf53 : Cond.code yJ9_min_7cf53 cJ9_min_7cf53 2 (some .int) ∈ TB := TB_in (List.mem_of_getElem? (i := 346) rfl) rfl
set_option maxRecDepth 20000 in
theorem sJ9_min_7cf53 : Cond.static yJ9_min_7cf53 ∈ TB := TB_in (List.mem_of_getElem? (i := 345) rfl) rfl
set_option maxRecDepth 20000 in
theorem oJ0_length_8abf5 : Cond.code yJ0_length_8abf5 cJ0_length_8abf5 1 (some .int) ∈ TB := TB_in (List.mem_of_getElem? (i := 629) rfl) rfl
set_option maxRecDepth 20000 in
theorem iJ0_length_8abf5 : Cond.instanceMethod yJ0_length_8abf5 ∈ TB := TB_in (List.mem_of_getElem? (i := 627) rfl) rfl
set_option maxRecDepth 20000 in
theorem vJ0_length_8abf5 : Cond.selects RJ0 yJ0_length_8abf5 yJ0_length_8abf5 ∈ TB := TB_in (List.mem_of_getElem? (i := 628) rfl) rfl
set_option maxRecDepth 20000 in
theorem oJ0_charAt_5068e : Cond.code yJ0_charAt_5068e cJ0_charAt_5068e 2 (some .char) ∈ TB := TB_in (List.mem_of_getElem? (i := 639) rfl) rfl
set_option maxRecDepth 20000 in
theorem iJ0_charAt_5068e : Cond.instanceMethod yJ0_charAt_5068e ∈ TB := TB_in (List.mem_of_getElem? (i := 637) rfl) rfl
set_option maxRecDepth 20000 in
theorem vJ0_charAt_5068e : Cond.selects RJ0 yJ0_charAt_5068e yJ0_charAt_5068e ∈ TB := TB_in (List.mem_of_getElem? (i := 638) rfl) rfl
set_option maxRecDepth 20000 in
theorem oJ0_coder_7d493 : Cond.code yJ0_coder_7d493 cJ0_coder_7d493 1 (some .byte) ∈ TB := TB_in (List.mem_of_getElem? (i := 633) rfl) rfl
set_option maxRecDepth 20000 in
theorem iJ0_coder_7d493 : Cond.instanceMethod yJ0_coder_7d493 ∈ TB := TB_in (List.mem_of_getElem? (i := 631) rfl) rfl
set_option maxRecDepth 20000 in
theorem vJ0_coder_7d493 : Cond.selects RJ0 yJ0_coder_7d493 yJ0_coder_7d493 ∈ TB := TB_in (List.mem_of_getElem? (i := 632) rfl) rfl
set_option maxRecDepth 20000 in
theorem oJ0_isLatin1_aae02 : Cond.code yJ0_isLatin1_aae02 cJ0_isLatin1_aae02 1 (some .boolean) ∈ TB := TB_in (List.mem_of_getElem? (i := 643) rfl) rfl
set_option maxRecDepth 20000 in
theorem iJ0_isLatin1_aae02 : Cond.instanceMethod yJ0_isLatin1_aae02 ∈ TB := TB_in (List.mem_of_getElem? (i := 641) rfl) rfl
set_option maxRecDepth 20000 in
theorem vJ0_isLatin1_aae02 : Cond.selects RJ0 yJ0_isLatin1_aae02 yJ0_isLatin1_aae02 ∈ TB := TB_in (List.mem_of_getElem? (i := 642) rfl) rfl
set_option maxRecDepth 20000 in
theorem oJ0_checkIndex_df160 : Cond.code yJ0_checkIndex_df160 cJ0_checkIndex_df160 2 none ∈ TB := TB_in (List.mem_of_getElem? (i := 649) rfl) rfl
set_option maxRecDepth 20000 in
theorem sJ0_checkIndex_df160 : Cond.static yJ0_checkIndex_df160 ∈ TB := TB_in (List.mem_of_getElem? (i := 648) rfl) rfl
set_option maxRecDepth 20000 in
theorem oJ1_charAt_3b067 : Cond.code yJ1_charAt_3b067 cJ1_charAt_3b067 2 (some .char) ∈ TB := TB_in (List.mem_of_getElem? (i := 646) rfl) rfl
set_option maxRecDepth 20000 in
theorem sJ1_charAt_3b067 : Cond.static yJ1_charAt_3b067 ∈ TB := TB_in (List.mem_of_getElem? (i := 645) rfl) rfl
set_option maxRecDepth 20000 in
theorem oJ2_getChar_3b067 : Cond.code yJ2_getChar_3b067 cJ2_getChar_3b067 2 (some .char) ∈ TB := TB_in (List.mem_of_getElem? (i := 667) rfl) rfl
set_option maxRecDepth 20000 in
theorem sJ2_getChar_3b067 : Cond.static yJ2_getChar_3b067 ∈ TB := TB_in (List.mem_of_getElem? (i := 666) rfl) rfl
set_option maxRecDepth 20000 in
theorem oJ2_length_9d52b : Cond.code yJ2_length_9d52b cJ2_length_9d52b 1 (some .int) ∈ TB := TB_in (List.mem_of_getElem? (i := 663) rfl) rfl
set_option maxRecDepth 20000 in
theorem sJ2_length_9d52b : Cond.static yJ2_length_9d52b ∈ TB := TB_in (List.mem_of_getElem? (i := 662) rfl) rfl
set_option maxRecDepth 20000 in
theorem oJ2_charAt_3b067 : Cond.code yJ2_charAt_3b067 cJ2_charAt_3b067 2 (some .char) ∈ TB := TB_in (List.mem_of_getElem? (i := 657) rfl) rfl
set_option maxRecDepth 20000 in
theorem sJ2_charAt_3b067 : Cond.static yJ2_charAt_3b067 ∈ TB := TB_in (List.mem_of_getElem? (i := 656) rfl) rfl
set_option maxRecDepth 20000 in
theorem oJ2_checkIndex_2214a : Cond.code yJ2_checkIndex_2214a cJ2_checkIndex_2214a 2 none ∈ TB := TB_in (List.mem_of_getElem? (i := 660) rfl) rfl
set_option maxRecDepth 20000 in
theorem sJ2_checkIndex_2214a : Cond.static yJ2_checkIndex_2214a ∈ TB := TB_in (List.mem_of_getElem? (i := 659) rfl) rfl
set_option maxRecDepth 20000 in
theorem oJ7_fill_53178 : Cond.code yJ7_fill_53178 cJ7_fill_53178 4 none ∈ TB := TB_in (List.mem_of_getElem? (i := 90) rfl) rfl
set_option maxRecDepth 20000 in
theorem sJ7_fill_53178 : Cond.static yJ7_fill_53178 ∈ TB := TB_in (List.mem_of_getElem? (i := 89) rfl) rfl
set_option maxRecDepth 20000 in
theorem oJ3_checkIndex_8e157 : Cond.code yJ3_checkIndex_8e157 cJ3_checkIndex_8e157 3 (some .int) ∈ TB := TB_in (List.mem_of_getElem? (i := 654) rfl) rfl
set_option maxRecDepth 20000 in
theorem sJ3_checkIndex_8e157 : Cond.static yJ3_checkIndex_8e157 ∈ TB := TB_in (List.mem_of_getElem? (i := 653) rfl) rfl
set_option maxRecDepth 20000 in
theorem nL : Cond.initialized RL ∈ TB := TB_in (List.mem_of_getElem? (i := 58) rfl) rfl
set_option maxRecDepth 20000 in
theorem nX5 : Cond.initialized RX5 ∈ TB := TB_in (List.mem_of_getElem? (i := 59) rfl) rfl
set_option maxRecDepth 20000 in
theorem nX1 : Cond.initialized RX1 ∈ TB := TB_in (List.mem_of_getElem? (i := 60) rfl) rfl
set_option maxRecDepth 20000 in
theorem nJ7 : Cond.initialized RJ7 ∈ TB := TB_in (List.mem_of_getElem? (i := 61) rfl) rfl
set_option maxRecDepth 20000 in
theorem nX3 : Cond.initialized RX3 ∈ TB := TB_in (List.mem_of_getElem? (i := 62) rfl) rfl
set_option maxRecDepth 20000 in
theorem nX2 : Cond.initialized RX2 ∈ TB := TB_in (List.mem_of_getElem? (i := 63) rfl) rfl
set_option maxRecDepth 20000 in
theorem nX4 : Cond.initialized RX4 ∈ TB := TB_in (List.mem_of_getElem? (i := 64) rfl) rfl
set_option maxRecDepth 20000 in
theorem nX0 : Cond.initialized RX0 ∈ TB := TB_in (List.mem_of_getElem? (i := 65) rfl) rfl
set_option maxRecDepth 20000 in
theorem nX6 : Cond.initialized RX6 ∈ TB := TB_in (List.mem_of_getElem? (i := 66) rfl) rfl
set_option maxRecDepth 20000 in
theorem nJ9 : Cond.initialized RJ9 ∈ TB := TB_in (List.mem_of_getElem? (i := 67) rfl) rfl
set_option maxRecDepth 20000 in
theorem nJ6 : Cond.initialized RJ6 ∈ TB := TB_in (List.mem_of_getElem? (i := 68) rfl) rfl
set_option maxRecDepth 20000 in
theorem nJ10 : Cond.initialized RJ10 ∈ TB := TB_in (List.mem_of_getElem? (i := 69) rfl) rfl
set_option maxRecDepth 20000 in
theorem nJ0 : Cond.initialized RJ0 ∈ TB := TB_in (List.mem_of_getElem? (i := 70) rfl) rfl
set_option maxRecDepth 20000 in
theorem nJ1 : Cond.initialized RJ1 ∈ TB := TB_in (List.mem_of_getElem? (i := 71) rfl) rfl
set_option maxRecDepth 20000 in
theorem nJ3 : Cond.initialized RJ3 ∈ TB := TB_in (List.mem_of_getElem? (i := 72) rfl) rfl
set_option maxRecDepth 20000 in
theorem nJ2 : Cond.initialized RJ2 ∈ TB := TB_in (List.mem_of_getElem? (i := 73) rfl) rfl
set_option maxRecDepth 20000 in
theorem cL_7 : Cond.classLink RL 7 RX5 ∈ TB := TB_in (List.mem_of_getElem? (i := 74) rfl) rfl
set_option maxRecDepth 20000 in
theorem qX5 : Cond.instantiable RX5 10 ∈ TB := TB_in (List.mem_of_getElem? (i := 75) rfl) rfl
set_option maxRecDepth 20000 in
theorem cX5_7 : Cond.classLink RX5 7 RX1 ∈ TB := TB_in (List.mem_of_getElem? (i := 82) rfl) rfl
set_option maxRecDepth 20000 in
theorem qX1 : Cond.instantiable RX1 13 ∈ TB := TB_in (List.mem_of_getElem? (i := 83) rfl) rfl
set_option maxRecDepth 20000 in
theorem a_int : Cond.arrayClass .int ∈ TB := TB_in (List.mem_of_getElem? (i := 151) rfl) rfl
set_option maxRecDepth 20000 in
theorem cX5_26 : Cond.classLink RX5 26 RX3 ∈ TB := TB_in (List.mem_of_getElem? (i := 152) rfl) rfl
set_option maxRecDepth 20000 in
theorem qX3 : Cond.instantiable RX3 1 ∈ TB := TB_in (List.mem_of_getElem? (i := 153) rfl) rfl
set_option maxRecDepth 20000 in
theorem cX3_9 : Cond.classLink RX3 9 RX2 ∈ TB := TB_in (List.mem_of_getElem? (i := 158) rfl) rfl
set_option maxRecDepth 20000 in
theorem qX2 : Cond.instantiable RX2 6 ∈ TB := TB_in (List.mem_of_getElem? (i := 159) rfl) rfl
set_option maxRecDepth 20000 in
theorem a_byte : Cond.arrayClass .byte ∈ TB := TB_in (List.mem_of_getElem? (i := 187) rfl) rfl
set_option maxRecDepth 20000 in
theorem cX5_33 : Cond.classLink RX5 33 RX0 ∈ TB := TB_in (List.mem_of_getElem? (i := 193) rfl) rfl
set_option maxRecDepth 20000 in
theorem cX5_39 : Cond.classLink RX5 39 RX4 ∈ TB := TB_in (List.mem_of_getElem? (i := 195) rfl) rfl
set_option maxRecDepth 20000 in
theorem qX4 : Cond.instantiable RX4 4 ∈ TB := TB_in (List.mem_of_getElem? (i := 196) rfl) rfl
set_option maxRecDepth 20000 in
theorem qX0 : Cond.instantiable RX0 3 ∈ TB := TB_in (List.mem_of_getElem? (i := 214) rfl) rfl
set_option maxRecDepth 20000 in
theorem kX5_281 : Cond.constant RX5 281 (-1000001) ∈ TB := TB_in (List.mem_of_getElem? (i := 274) rfl) rfl
set_option maxRecDepth 20000 in
theorem kX5_122 : Cond.constant RX5 122 (99999) ∈ TB := TB_in (List.mem_of_getElem? (i := 351) rfl) rfl
set_option maxRecDepth 20000 in
theorem kJ6_265 : Cond.constant RJ6 265 (1431655765) ∈ TB := TB_in (List.mem_of_getElem? (i := 376) rfl) rfl
set_option maxRecDepth 20000 in
theorem kJ6_266 : Cond.constant RJ6 266 (858993459) ∈ TB := TB_in (List.mem_of_getElem? (i := 377) rfl) rfl
set_option maxRecDepth 20000 in
theorem kJ6_267 : Cond.constant RJ6 267 (252645135) ∈ TB := TB_in (List.mem_of_getElem? (i := 378) rfl) rfl
set_option maxRecDepth 20000 in
theorem kX4_38 : Cond.constant RX4 38 (1000000) ∈ TB := TB_in (List.mem_of_getElem? (i := 463) rfl) rfl
set_option maxRecDepth 20000 in
theorem kX5_183 : Cond.constant RX5 183 (1000000) ∈ TB := TB_in (List.mem_of_getElem? (i := 482) rfl) rfl
set_option maxRecDepth 20000 in
theorem kX1_89 : Cond.constant RX1 89 (1000000) ∈ TB := TB_in (List.mem_of_getElem? (i := 540) rfl) rfl
set_option maxRecDepth 20000 in
theorem kX1_93 : Cond.constant RX1 93 (1103515245) ∈ TB := TB_in (List.mem_of_getElem? (i := 571) rfl) rfl
set_option maxRecDepth 20000 in
theorem kX2_34 : Cond.constant RX2 34 (100000) ∈ TB := TB_in (List.mem_of_getElem? (i := 616) rfl) rfl
set_option maxRecDepth 20000 in
theorem cL_10 : Cond.classLink RL 10 RX6 ∈ TB := TB_in (List.mem_of_getElem? (i := 797) rfl) rfl
set_option maxRecDepth 20000 in
theorem qX6 : Cond.instantiable RX6 20 ∈ TB := TB_in (List.mem_of_getElem? (i := 798) rfl) rfl
set_option maxRecDepth 20000 in
theorem a_char : Cond.arrayClass .char ∈ TB := TB_in (List.mem_of_getElem? (i := 864) rfl) rfl
set_option maxRecDepth 20000 in
theorem kX6_53 : Cond.constant RX6 53 (-1000001) ∈ TB := TB_in (List.mem_of_getElem? (i := 879) rfl) rfl
set_option maxRecDepth 20000 in
theorem kX6_84 : Cond.constant RX6 84 (99999) ∈ TB := TB_in (List.mem_of_getElem? (i := 948) rfl) rfl
set_option maxRecDepth 20000 in
theorem kX6_192 : Cond.constant RX6 192 (1103515245) ∈ TB := TB_in (List.mem_of_getElem? (i := 1161) rfl) rfl
set_option maxRecDepth 20000 in
theorem kX6_196 : Cond.constantLong RX6 196 (16) ∈ TB := TB_in (List.mem_of_getElem? (i := 1166) rfl) rfl
set_option maxRecDepth 20000 in
theorem kX6_218 : Cond.constantLong RX6 218 (9999999999999) ∈ TB := TB_in (List.mem_of_getElem? (i := 1190) rfl) rfl
set_option maxRecDepth 20000 in
theorem kX6_220 : Cond.constantLong RX6 220 (27) ∈ TB := TB_in (List.mem_of_getElem? (i := 1191) rfl) rfl
set_option maxRecDepth 20000 in
theorem kX6_222 : Cond.constantLong RX6 222 (96) ∈ TB := TB_in (List.mem_of_getElem? (i := 1192) rfl) rfl
set_option maxRecDepth 20000 in
theorem kX6_227 : Cond.constantLong RX6 227 (99999) ∈ TB := TB_in (List.mem_of_getElem? (i := 1196) rfl) rfl
set_option maxRecDepth 20000 in
theorem kX6_229 : Cond.constantLong RX6 229 (10) ∈ TB := TB_in (List.mem_of_getElem? (i := 1197) rfl) rfl
set_option maxRecDepth 20000 in
theorem kX6_231 : Cond.constantLong RX6 231 (48) ∈ TB := TB_in (List.mem_of_getElem? (i := 1198) rfl) rfl
set_option maxRecDepth 20000 in
theorem iObj : Cond.instanceMethod objectInit ∈ TB := TB_in (List.mem_of_getElem? (i := 80) rfl) rfl
set_option maxRecDepth 20000 in
theorem oObj : Cond.code objectInit ⟨#[0xb1]⟩ 1 none ∈ TB := TB_in (List.mem_of_getElem? (i := 81) rfl) rfl
set_option maxRecDepth 20000 in
theorem nAc : Cond.native arraycopyName ∈ TB := TB_in (List.mem_of_getElem? (i := 421) rfl) rfl
set_option maxRecDepth 20000 in
theorem sAc : Cond.static arraycopyName ∈ TB := TB_in (List.mem_of_getElem? (i := 420) rfl) rfl
theorem yX0_0 : u_lay RX0 TX0 0 ∈ TB := TB_in (List.mem_of_getElem? (i := 225) (by decide +kernel)) (by decide +kernel)
theorem yX0_1 : u_lay RX0 TX0 1 ∈ TB := TB_in (List.mem_of_getElem? (i := 227) (by decide +kernel)) (by decide +kernel)
theorem yX0_2 : u_lay RX0 TX0 2 ∈ TB := TB_in (List.mem_of_getElem? (i := 229) (by decide +kernel)) (by decide +kernel)
theorem inX0 : ∀ w ∈ u_ws RX0 TX0 3, w ∈ TB := by
  intro w hw
  obtain ⟨k, hk, rfl⟩ := List.mem_map.mp hw
  have hk := List.mem_range.mp hk
  match k, hk with
  | 0, _ => exact yX0_0
  | 1, _ => exact yX0_1
  | 2, _ => exact yX0_2
  | k + 3, hk => omega
theorem yX1_0 : u_lay RX1 TX1 0 ∈ TB := TB_in (List.mem_of_getElem? (i := 124) (by decide +kernel)) (by decide +kernel)
theorem yX1_1 : u_lay RX1 TX1 1 ∈ TB := TB_in (List.mem_of_getElem? (i := 126) (by decide +kernel)) (by decide +kernel)
theorem yX1_2 : u_lay RX1 TX1 2 ∈ TB := TB_in (List.mem_of_getElem? (i := 128) (by decide +kernel)) (by decide +kernel)
theorem yX1_3 : u_lay RX1 TX1 3 ∈ TB := TB_in (List.mem_of_getElem? (i := 130) (by decide +kernel)) (by decide +kernel)
theorem yX1_4 : u_lay RX1 TX1 4 ∈ TB := TB_in (List.mem_of_getElem? (i := 132) (by decide +kernel)) (by decide +kernel)
theorem yX1_5 : u_lay RX1 TX1 5 ∈ TB := TB_in (List.mem_of_getElem? (i := 134) (by decide +kernel)) (by decide +kernel)
theorem yX1_6 : u_lay RX1 TX1 6 ∈ TB := TB_in (List.mem_of_getElem? (i := 136) (by decide +kernel)) (by decide +kernel)
theorem yX1_7 : u_lay RX1 TX1 7 ∈ TB := TB_in (List.mem_of_getElem? (i := 138) (by decide +kernel)) (by decide +kernel)
theorem yX1_8 : u_lay RX1 TX1 8 ∈ TB := TB_in (List.mem_of_getElem? (i := 140) (by decide +kernel)) (by decide +kernel)
theorem yX1_9 : u_lay RX1 TX1 9 ∈ TB := TB_in (List.mem_of_getElem? (i := 142) (by decide +kernel)) (by decide +kernel)
theorem yX1_10 : u_lay RX1 TX1 10 ∈ TB := TB_in (List.mem_of_getElem? (i := 144) (by decide +kernel)) (by decide +kernel)
theorem yX1_11 : u_lay RX1 TX1 11 ∈ TB := TB_in (List.mem_of_getElem? (i := 146) (by decide +kernel)) (by decide +kernel)
theorem yX1_12 : u_lay RX1 TX1 12 ∈ TB := TB_in (List.mem_of_getElem? (i := 148) (by decide +kernel)) (by decide +kernel)
theorem inX1 : ∀ w ∈ u_ws RX1 TX1 13, w ∈ TB := by
  intro w hw
  obtain ⟨k, hk, rfl⟩ := List.mem_map.mp hw
  have hk := List.mem_range.mp hk
  match k, hk with
  | 0, _ => exact yX1_0
  | 1, _ => exact yX1_1
  | 2, _ => exact yX1_2
  | 3, _ => exact yX1_3
  | 4, _ => exact yX1_4
  | 5, _ => exact yX1_5
  | 6, _ => exact yX1_6
  | 7, _ => exact yX1_7
  | 8, _ => exact yX1_8
  | 9, _ => exact yX1_9
  | 10, _ => exact yX1_10
  | 11, _ => exact yX1_11
  | 12, _ => exact yX1_12
  | k + 13, hk => omega
theorem yX2_0 : u_lay RX2 TX2 0 ∈ TB := TB_in (List.mem_of_getElem? (i := 174) (by decide +kernel)) (by decide +kernel)
theorem yX2_1 : u_lay RX2 TX2 1 ∈ TB := TB_in (List.mem_of_getElem? (i := 176) (by decide +kernel)) (by decide +kernel)
theorem yX2_2 : u_lay RX2 TX2 2 ∈ TB := TB_in (List.mem_of_getElem? (i := 178) (by decide +kernel)) (by decide +kernel)
theorem yX2_3 : u_lay RX2 TX2 3 ∈ TB := TB_in (List.mem_of_getElem? (i := 180) (by decide +kernel)) (by decide +kernel)
theorem yX2_4 : u_lay RX2 TX2 4 ∈ TB := TB_in (List.mem_of_getElem? (i := 182) (by decide +kernel)) (by decide +kernel)
theorem yX2_5 : u_lay RX2 TX2 5 ∈ TB := TB_in (List.mem_of_getElem? (i := 184) (by decide +kernel)) (by decide +kernel)
theorem inX2 : ∀ w ∈ u_ws RX2 TX2 6, w ∈ TB := by
  intro w hw
  obtain ⟨k, hk, rfl⟩ := List.mem_map.mp hw
  have hk := List.mem_range.mp hk
  match k, hk with
  | 0, _ => exact yX2_0
  | 1, _ => exact yX2_1
  | 2, _ => exact yX2_2
  | 3, _ => exact yX2_3
  | 4, _ => exact yX2_4
  | 5, _ => exact yX2_5
  | k + 6, hk => omega
theorem yX3_0 : u_lay RX3 TX3 0 ∈ TB := TB_in (List.mem_of_getElem? (i := 190) (by decide +kernel)) (by decide +kernel)
theorem inX3 : ∀ w ∈ u_ws RX3 TX3 1, w ∈ TB := by
  intro w hw
  obtain ⟨k, hk, rfl⟩ := List.mem_map.mp hw
  have hk := List.mem_range.mp hk
  match k, hk with
  | 0, _ => exact yX3_0
  | k + 1, hk => omega
theorem yX4_0 : u_lay RX4 TX4 0 ∈ TB := TB_in (List.mem_of_getElem? (i := 205) (by decide +kernel)) (by decide +kernel)
theorem yX4_1 : u_lay RX4 TX4 1 ∈ TB := TB_in (List.mem_of_getElem? (i := 207) (by decide +kernel)) (by decide +kernel)
theorem yX4_2 : u_lay RX4 TX4 2 ∈ TB := TB_in (List.mem_of_getElem? (i := 209) (by decide +kernel)) (by decide +kernel)
theorem yX4_3 : u_lay RX4 TX4 3 ∈ TB := TB_in (List.mem_of_getElem? (i := 211) (by decide +kernel)) (by decide +kernel)
theorem inX4 : ∀ w ∈ u_ws RX4 TX4 4, w ∈ TB := by
  intro w hw
  obtain ⟨k, hk, rfl⟩ := List.mem_map.mp hw
  have hk := List.mem_range.mp hk
  match k, hk with
  | 0, _ => exact yX4_0
  | 1, _ => exact yX4_1
  | 2, _ => exact yX4_2
  | 3, _ => exact yX4_3
  | k + 4, hk => omega
theorem yX5_0 : u_lay RX5 TX5 0 ∈ TB := TB_in (List.mem_of_getElem? (i := 242) (by decide +kernel)) (by decide +kernel)
theorem yX5_1 : u_lay RX5 TX5 1 ∈ TB := TB_in (List.mem_of_getElem? (i := 244) (by decide +kernel)) (by decide +kernel)
theorem yX5_2 : u_lay RX5 TX5 2 ∈ TB := TB_in (List.mem_of_getElem? (i := 246) (by decide +kernel)) (by decide +kernel)
theorem yX5_3 : u_lay RX5 TX5 3 ∈ TB := TB_in (List.mem_of_getElem? (i := 248) (by decide +kernel)) (by decide +kernel)
theorem yX5_4 : u_lay RX5 TX5 4 ∈ TB := TB_in (List.mem_of_getElem? (i := 250) (by decide +kernel)) (by decide +kernel)
theorem yX5_5 : u_lay RX5 TX5 5 ∈ TB := TB_in (List.mem_of_getElem? (i := 252) (by decide +kernel)) (by decide +kernel)
theorem yX5_6 : u_lay RX5 TX5 6 ∈ TB := TB_in (List.mem_of_getElem? (i := 254) (by decide +kernel)) (by decide +kernel)
theorem yX5_7 : u_lay RX5 TX5 7 ∈ TB := TB_in (List.mem_of_getElem? (i := 256) (by decide +kernel)) (by decide +kernel)
theorem yX5_8 : u_lay RX5 TX5 8 ∈ TB := TB_in (List.mem_of_getElem? (i := 258) (by decide +kernel)) (by decide +kernel)
theorem yX5_9 : u_lay RX5 TX5 9 ∈ TB := TB_in (List.mem_of_getElem? (i := 260) (by decide +kernel)) (by decide +kernel)
theorem inX5 : ∀ w ∈ u_ws RX5 TX5 10, w ∈ TB := by
  intro w hw
  obtain ⟨k, hk, rfl⟩ := List.mem_map.mp hw
  have hk := List.mem_range.mp hk
  match k, hk with
  | 0, _ => exact yX5_0
  | 1, _ => exact yX5_1
  | 2, _ => exact yX5_2
  | 3, _ => exact yX5_3
  | 4, _ => exact yX5_4
  | 5, _ => exact yX5_5
  | 6, _ => exact yX5_6
  | 7, _ => exact yX5_7
  | 8, _ => exact yX5_8
  | 9, _ => exact yX5_9
  | k + 10, hk => omega
theorem yX6_0 : u_lay RX6 TX6 0 ∈ TB := TB_in (List.mem_of_getElem? (i := 823) (by decide +kernel)) (by decide +kernel)
theorem yX6_1 : u_lay RX6 TX6 1 ∈ TB := TB_in (List.mem_of_getElem? (i := 825) (by decide +kernel)) (by decide +kernel)
theorem yX6_2 : u_lay RX6 TX6 2 ∈ TB := TB_in (List.mem_of_getElem? (i := 827) (by decide +kernel)) (by decide +kernel)
theorem yX6_3 : u_lay RX6 TX6 3 ∈ TB := TB_in (List.mem_of_getElem? (i := 829) (by decide +kernel)) (by decide +kernel)
theorem yX6_4 : u_lay RX6 TX6 4 ∈ TB := TB_in (List.mem_of_getElem? (i := 831) (by decide +kernel)) (by decide +kernel)
theorem yX6_5 : u_lay RX6 TX6 5 ∈ TB := TB_in (List.mem_of_getElem? (i := 833) (by decide +kernel)) (by decide +kernel)
theorem yX6_6 : u_lay RX6 TX6 6 ∈ TB := TB_in (List.mem_of_getElem? (i := 835) (by decide +kernel)) (by decide +kernel)
theorem yX6_7 : u_lay RX6 TX6 7 ∈ TB := TB_in (List.mem_of_getElem? (i := 837) (by decide +kernel)) (by decide +kernel)
theorem yX6_8 : u_lay RX6 TX6 8 ∈ TB := TB_in (List.mem_of_getElem? (i := 839) (by decide +kernel)) (by decide +kernel)
theorem yX6_9 : u_lay RX6 TX6 9 ∈ TB := TB_in (List.mem_of_getElem? (i := 841) (by decide +kernel)) (by decide +kernel)
theorem yX6_10 : u_lay RX6 TX6 10 ∈ TB := TB_in (List.mem_of_getElem? (i := 843) (by decide +kernel)) (by decide +kernel)
theorem yX6_11 : u_lay RX6 TX6 11 ∈ TB := TB_in (List.mem_of_getElem? (i := 845) (by decide +kernel)) (by decide +kernel)
theorem yX6_12 : u_lay RX6 TX6 12 ∈ TB := TB_in (List.mem_of_getElem? (i := 847) (by decide +kernel)) (by decide +kernel)
theorem yX6_13 : u_lay RX6 TX6 13 ∈ TB := TB_in (List.mem_of_getElem? (i := 849) (by decide +kernel)) (by decide +kernel)
theorem yX6_14 : u_lay RX6 TX6 14 ∈ TB := TB_in (List.mem_of_getElem? (i := 851) (by decide +kernel)) (by decide +kernel)
theorem yX6_15 : u_lay RX6 TX6 15 ∈ TB := TB_in (List.mem_of_getElem? (i := 853) (by decide +kernel)) (by decide +kernel)
theorem yX6_16 : u_lay RX6 TX6 16 ∈ TB := TB_in (List.mem_of_getElem? (i := 855) (by decide +kernel)) (by decide +kernel)
theorem yX6_17 : u_lay RX6 TX6 17 ∈ TB := TB_in (List.mem_of_getElem? (i := 857) (by decide +kernel)) (by decide +kernel)
theorem yX6_18 : u_lay RX6 TX6 18 ∈ TB := TB_in (List.mem_of_getElem? (i := 859) (by decide +kernel)) (by decide +kernel)
theorem yX6_19 : u_lay RX6 TX6 19 ∈ TB := TB_in (List.mem_of_getElem? (i := 861) (by decide +kernel)) (by decide +kernel)
theorem inX6 : ∀ w ∈ u_ws RX6 TX6 20, w ∈ TB := by
  intro w hw
  obtain ⟨k, hk, rfl⟩ := List.mem_map.mp hw
  have hk := List.mem_range.mp hk
  match k, hk with
  | 0, _ => exact yX6_0
  | 1, _ => exact yX6_1
  | 2, _ => exact yX6_2
  | 3, _ => exact yX6_3
  | 4, _ => exact yX6_4
  | 5, _ => exact yX6_5
  | 6, _ => exact yX6_6
  | 7, _ => exact yX6_7
  | 8, _ => exact yX6_8
  | 9, _ => exact yX6_9
  | 10, _ => exact yX6_10
  | 11, _ => exact yX6_11
  | 12, _ => exact yX6_12
  | 13, _ => exact yX6_13
  | 14, _ => exact yX6_14
  | 15, _ => exact yX6_15
  | 16, _ => exact yX6_16
  | 17, _ => exact yX6_17
  | 18, _ => exact yX6_18
  | 19, _ => exact yX6_19
  | k + 20, hk => omega
