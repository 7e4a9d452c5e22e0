theorem mz_L : Cond.initialized RL ∈ gw := gw_mem (List.mem_of_getElem? (i := 56) (by decide +kernel)) rfl
theorem mz_X5 : Cond.initialized RX5 ∈ gw := gw_mem (List.mem_of_getElem? (i := 57) (by decide +kernel)) rfl
theorem mz_X3 : Cond.initialized RX3 ∈ gw := gw_mem (List.mem_of_getElem? (i := 58) (by decide +kernel)) rfl
theorem mz_J7 : Cond.initialized RJ7 ∈ gw := gw_mem (List.mem_of_getElem? (i := 59) (by decide +kernel)) rfl
theorem mz_X2 : Cond.initialized RX2 ∈ gw := gw_mem (List.mem_of_getElem? (i := 60) (by decide +kernel)) rfl
theorem mz_X4 : Cond.initialized RX4 ∈ gw := gw_mem (List.mem_of_getElem? (i := 61) (by decide +kernel)) rfl
theorem mz_X1 : Cond.initialized RX1 ∈ gw := gw_mem (List.mem_of_getElem? (i := 62) (by decide +kernel)) rfl
theorem mz_X0 : Cond.initialized RX0 ∈ gw := gw_mem (List.mem_of_getElem? (i := 63) (by decide +kernel)) rfl
theorem mz_X6 : Cond.initialized RX6 ∈ gw := gw_mem (List.mem_of_getElem? (i := 64) (by decide +kernel)) rfl
theorem mz_J10 : Cond.initialized RJ10 ∈ gw := gw_mem (List.mem_of_getElem? (i := 65) (by decide +kernel)) rfl
theorem mz_J9 : Cond.initialized RJ9 ∈ gw := gw_mem (List.mem_of_getElem? (i := 66) (by decide +kernel)) rfl
theorem mz_J6 : Cond.initialized RJ6 ∈ gw := gw_mem (List.mem_of_getElem? (i := 67) (by decide +kernel)) rfl
theorem mm_L_9 : Cond.methodLink RL 9 yX5_init ∈ gw := gw_mem (List.mem_of_getElem? (i := 70) (by decide +kernel)) rfl
theorem mi_X5_init : Cond.instanceMethod yX5_init ∈ gw := gw_mem (List.mem_of_getElem? (i := 71) (by decide +kernel)) rfl
theorem mc_X5_init : Cond.code yX5_init cX5_init 2 (none) ∈ gw := gw_mem (List.mem_of_getElem? (i := 72) (by decide +kernel)) rfl
theorem mm_X5_1 : Cond.methodLink RX5 1 objectInit ∈ gw := gw_mem (List.mem_of_getElem? (i := 73) (by decide +kernel)) rfl
theorem mi_J_objectInit : Cond.instanceMethod objectInit ∈ gw := gw_mem (List.mem_of_getElem? (i := 74) (by decide +kernel)) rfl
theorem mc_J_objectInit : Cond.code objectInit ⟨#[0xb1]⟩ 1 (none) ∈ gw := gw_mem (List.mem_of_getElem? (i := 75) (by decide +kernel)) rfl
theorem mm_X5_11 : Cond.methodLink RX5 11 yX3_init ∈ gw := gw_mem (List.mem_of_getElem? (i := 78) (by decide +kernel)) rfl
theorem mi_X3_init : Cond.instanceMethod yX3_init ∈ gw := gw_mem (List.mem_of_getElem? (i := 79) (by decide +kernel)) rfl
theorem mc_X3_init : Cond.code yX3_init cX3_init 3 (none) ∈ gw := gw_mem (List.mem_of_getElem? (i := 80) (by decide +kernel)) rfl
theorem mm_X3_3 : Cond.methodLink RX3 3 objectInit ∈ gw := gw_mem (List.mem_of_getElem? (i := 81) (by decide +kernel)) rfl
theorem mm_X3_24 : Cond.methodLink RX3 24 yJ7_fill_53178 ∈ gw := gw_mem (List.mem_of_getElem? (i := 84) (by decide +kernel)) rfl
theorem mt_J7_fill_53178 : Cond.static yJ7_fill_53178 ∈ gw := gw_mem (List.mem_of_getElem? (i := 85) (by decide +kernel)) rfl
theorem mc_J7_fill_53178 : Cond.code yJ7_fill_53178 cJ7_fill_53178 4 (none) ∈ gw := gw_mem (List.mem_of_getElem? (i := 86) (by decide +kernel)) rfl
theorem mf_X3_9 : Cond.fieldLink RX3 9 "WheelWeeks$Shelf" "most" "I" ∈ gw := gw_mem (List.mem_of_getElem? (i := 87) (by decide +kernel)) rfl
theorem mf_X5_284 : Cond.fieldLink RX5 284 "WheelWeeks$Shelf" "most" "I" ∈ gw := gw_mem (List.mem_of_getElem? (i := 88) (by decide +kernel)) rfl
theorem mf_X3_17 : Cond.fieldLink RX3 17 "WheelWeeks$Shelf" "places" "[[I" ∈ gw := gw_mem (List.mem_of_getElem? (i := 89) (by decide +kernel)) rfl
theorem mf_X3_20 : Cond.fieldLink RX3 20 "WheelWeeks$Shelf" "sizes" "[I" ∈ gw := gw_mem (List.mem_of_getElem? (i := 90) (by decide +kernel)) rfl
theorem mm_X5_23 : Cond.methodLinkNest RX5 23 yX2_init "WheelWeeks" ∈ lw_tbl := List.mem_of_getElem? (i := 101) (by decide +kernel)
theorem mi_X2_init : Cond.instanceMethod yX2_init ∈ gw := gw_mem (List.mem_of_getElem? (i := 102) (by decide +kernel)) rfl
theorem mc_X2_init : Cond.code yX2_init cX2_init 1 (none) ∈ gw := gw_mem (List.mem_of_getElem? (i := 103) (by decide +kernel)) rfl
theorem mm_X2_3 : Cond.methodLink RX2 3 objectInit ∈ gw := gw_mem (List.mem_of_getElem? (i := 104) (by decide +kernel)) rfl
theorem mm_X2_11 : Cond.methodLinkNest RX2 11 yX4_init "WheelWeeks" ∈ lw_tbl := List.mem_of_getElem? (i := 107) (by decide +kernel)
theorem mi_X4_init : Cond.instanceMethod yX4_init ∈ gw := gw_mem (List.mem_of_getElem? (i := 108) (by decide +kernel)) rfl
theorem mc_X4_init : Cond.code yX4_init cX4_init 1 (none) ∈ gw := gw_mem (List.mem_of_getElem? (i := 109) (by decide +kernel)) rfl
theorem mm_X4_3 : Cond.methodLink RX4 3 objectInit ∈ gw := gw_mem (List.mem_of_getElem? (i := 110) (by decide +kernel)) rfl
theorem mf_X4_9 : Cond.fieldLink RX4 9 "WheelWeeks$Wheel" "depths" "[I" ∈ gw := gw_mem (List.mem_of_getElem? (i := 111) (by decide +kernel)) rfl
theorem mf_X2_52 : Cond.fieldLink RX2 52 "WheelWeeks$Wheel" "depths" "[I" ∈ gw := gw_mem (List.mem_of_getElem? (i := 112) (by decide +kernel)) rfl
theorem mf_X4_15 : Cond.fieldLink RX4 15 "WheelWeeks$Wheel" "kind" "[I" ∈ gw := gw_mem (List.mem_of_getElem? (i := 113) (by decide +kernel)) rfl
theorem mf_X2_64 : Cond.fieldLink RX2 64 "WheelWeeks$Wheel" "kind" "[I" ∈ gw := gw_mem (List.mem_of_getElem? (i := 114) (by decide +kernel)) rfl
theorem mf_X0_87 : Cond.fieldLink RX0 87 "WheelWeeks$Wheel" "kind" "[I" ∈ gw := gw_mem (List.mem_of_getElem? (i := 115) (by decide +kernel)) rfl
theorem mf_X5_142 : Cond.fieldLink RX5 142 "WheelWeeks$Wheel" "kind" "[I" ∈ gw := gw_mem (List.mem_of_getElem? (i := 116) (by decide +kernel)) rfl
theorem mf_X4_18 : Cond.fieldLink RX4 18 "WheelWeeks$Wheel" "length" "[I" ∈ gw := gw_mem (List.mem_of_getElem? (i := 117) (by decide +kernel)) rfl
theorem mf_X2_67 : Cond.fieldLink RX2 67 "WheelWeeks$Wheel" "length" "[I" ∈ gw := gw_mem (List.mem_of_getElem? (i := 118) (by decide +kernel)) rfl
theorem mf_X4_21 : Cond.fieldLink RX4 21 "WheelWeeks$Wheel" "strong" "[I" ∈ gw := gw_mem (List.mem_of_getElem? (i := 119) (by decide +kernel)) rfl
theorem mf_X2_70 : Cond.fieldLink RX2 70 "WheelWeeks$Wheel" "strong" "[I" ∈ gw := gw_mem (List.mem_of_getElem? (i := 120) (by decide +kernel)) rfl
theorem mf_X0_83 : Cond.fieldLink RX0 83 "WheelWeeks$Wheel" "strong" "[I" ∈ gw := gw_mem (List.mem_of_getElem? (i := 121) (by decide +kernel)) rfl
theorem mf_X5_152 : Cond.fieldLink RX5 152 "WheelWeeks$Wheel" "strong" "[I" ∈ gw := gw_mem (List.mem_of_getElem? (i := 122) (by decide +kernel)) rfl
theorem mf_X4_24 : Cond.fieldLink RX4 24 "WheelWeeks$Wheel" "wear" "[I" ∈ gw := gw_mem (List.mem_of_getElem? (i := 123) (by decide +kernel)) rfl
theorem mf_X0_99 : Cond.fieldLink RX0 99 "WheelWeeks$Wheel" "wear" "[I" ∈ gw := gw_mem (List.mem_of_getElem? (i := 124) (by decide +kernel)) rfl
theorem mf_X2_35 : Cond.fieldLink RX2 35 "WheelWeeks$Wheel" "spokes" "I" ∈ gw := gw_mem (List.mem_of_getElem? (i := 125) (by decide +kernel)) rfl
theorem mf_X4_33 : Cond.fieldLink RX4 33 "WheelWeeks$Wheel" "spokes" "I" ∈ gw := gw_mem (List.mem_of_getElem? (i := 126) (by decide +kernel)) rfl
theorem mf_X0_47 : Cond.fieldLink RX0 47 "WheelWeeks$Wheel" "spokes" "I" ∈ gw := gw_mem (List.mem_of_getElem? (i := 127) (by decide +kernel)) rfl
theorem mf_X5_131 : Cond.fieldLink RX5 131 "WheelWeeks$Wheel" "spokes" "I" ∈ gw := gw_mem (List.mem_of_getElem? (i := 128) (by decide +kernel)) rfl
theorem mf_X4_37 : Cond.fieldLink RX4 37 "WheelWeeks$Wheel" "gateRut" "I" ∈ gw := gw_mem (List.mem_of_getElem? (i := 129) (by decide +kernel)) rfl
theorem mf_X2_58 : Cond.fieldLink RX2 58 "WheelWeeks$Wheel" "gateRut" "I" ∈ gw := gw_mem (List.mem_of_getElem? (i := 130) (by decide +kernel)) rfl
theorem mf_X5_320 : Cond.fieldLink RX5 320 "WheelWeeks$Wheel" "gateRut" "I" ∈ gw := gw_mem (List.mem_of_getElem? (i := 131) (by decide +kernel)) rfl
theorem mf_X4_40 : Cond.fieldLink RX4 40 "WheelWeeks$Wheel" "stand" "I" ∈ gw := gw_mem (List.mem_of_getElem? (i := 132) (by decide +kernel)) rfl
theorem mf_X0_66 : Cond.fieldLink RX0 66 "WheelWeeks$Wheel" "stand" "I" ∈ gw := gw_mem (List.mem_of_getElem? (i := 133) (by decide +kernel)) rfl
theorem mf_X5_317 : Cond.fieldLink RX5 317 "WheelWeeks$Wheel" "stand" "I" ∈ gw := gw_mem (List.mem_of_getElem? (i := 134) (by decide +kernel)) rfl
theorem mf_X0_33 : Cond.fieldLink RX0 33 "WheelWeeks$Wheel" "rut" "I" ∈ gw := gw_mem (List.mem_of_getElem? (i := 135) (by decide +kernel)) rfl
theorem mf_X4_43 : Cond.fieldLink RX4 43 "WheelWeeks$Wheel" "rut" "I" ∈ gw := gw_mem (List.mem_of_getElem? (i := 136) (by decide +kernel)) rfl
theorem mf_X5_254 : Cond.fieldLink RX5 254 "WheelWeeks$Wheel" "rut" "I" ∈ gw := gw_mem (List.mem_of_getElem? (i := 137) (by decide +kernel)) rfl
theorem mf_X4_46 : Cond.fieldLink RX4 46 "WheelWeeks$Wheel" "there" "I" ∈ gw := gw_mem (List.mem_of_getElem? (i := 138) (by decide +kernel)) rfl
theorem mf_X0_76 : Cond.fieldLink RX0 76 "WheelWeeks$Wheel" "there" "I" ∈ gw := gw_mem (List.mem_of_getElem? (i := 139) (by decide +kernel)) rfl
theorem mf_X5_228 : Cond.fieldLink RX5 228 "WheelWeeks$Wheel" "there" "I" ∈ gw := gw_mem (List.mem_of_getElem? (i := 140) (by decide +kernel)) rfl
theorem mf_X4_49 : Cond.fieldLink RX4 49 "WheelWeeks$Wheel" "dry" "Z" ∈ gw := gw_mem (List.mem_of_getElem? (i := 141) (by decide +kernel)) rfl
theorem mf_X0_102 : Cond.fieldLink RX0 102 "WheelWeeks$Wheel" "dry" "Z" ∈ gw := gw_mem (List.mem_of_getElem? (i := 142) (by decide +kernel)) rfl
theorem mf_X5_155 : Cond.fieldLink RX5 155 "WheelWeeks$Wheel" "dry" "Z" ∈ gw := gw_mem (List.mem_of_getElem? (i := 143) (by decide +kernel)) rfl
theorem mf_X2_12 : Cond.fieldLink RX2 12 "WheelWeeks$Reader" "draft" "LWheelWeeks$Wheel;" ∈ gw := gw_mem (List.mem_of_getElem? (i := 167) (by decide +kernel)) rfl
theorem mf_X5_125 : Cond.fieldLink RX5 125 "WheelWeeks$Reader" "draft" "LWheelWeeks$Wheel;" ∈ gw := gw_mem (List.mem_of_getElem? (i := 168) (by decide +kernel)) rfl
theorem mf_X2_18 : Cond.fieldLink RX2 18 "WheelWeeks$Reader" "signs" "[I" ∈ gw := gw_mem (List.mem_of_getElem? (i := 169) (by decide +kernel)) rfl
theorem mf_X2_28 : Cond.fieldLink RX2 28 "WheelWeeks$Reader" "size" "I" ∈ gw := gw_mem (List.mem_of_getElem? (i := 170) (by decide +kernel)) rfl
theorem mf_X2_32 : Cond.fieldLink RX2 32 "WheelWeeks$Reader" "place" "I" ∈ gw := gw_mem (List.mem_of_getElem? (i := 171) (by decide +kernel)) rfl
theorem mm_X5_30 : Cond.methodLinkNest RX5 30 yX1_init "WheelWeeks" ∈ lw_tbl := List.mem_of_getElem? (i := 183) (by decide +kernel)
theorem mi_X1_init : Cond.instanceMethod yX1_init ∈ gw := gw_mem (List.mem_of_getElem? (i := 184) (by decide +kernel)) rfl
theorem mc_X1_init : Cond.code yX1_init cX1_init 1 (none) ∈ gw := gw_mem (List.mem_of_getElem? (i := 185) (by decide +kernel)) rfl
theorem mm_X1_3 : Cond.methodLink RX1 3 objectInit ∈ gw := gw_mem (List.mem_of_getElem? (i := 186) (by decide +kernel)) rfl
theorem mm_X1_11 : Cond.methodLinkNest RX1 11 yX4_init "WheelWeeks" ∈ lw_tbl := List.mem_of_getElem? (i := 188) (by decide +kernel)
theorem mf_X1_12 : Cond.fieldLink RX1 12 "WheelWeeks$Cart" "wheel" "LWheelWeeks$Wheel;" ∈ gw := gw_mem (List.mem_of_getElem? (i := 189) (by decide +kernel)) rfl
theorem mf_X5_45 : Cond.fieldLink RX5 45 "WheelWeeks$Cart" "wheel" "LWheelWeeks$Wheel;" ∈ gw := gw_mem (List.mem_of_getElem? (i := 190) (by decide +kernel)) rfl
theorem mf_X1_18 : Cond.fieldLink RX1 18 "WheelWeeks$Cart" "deeds" "[I" ∈ gw := gw_mem (List.mem_of_getElem? (i := 191) (by decide +kernel)) rfl
theorem mf_X1_22 : Cond.fieldLink RX1 22 "WheelWeeks$Cart" "doneTo" "[I" ∈ gw := gw_mem (List.mem_of_getElem? (i := 192) (by decide +kernel)) rfl
theorem mf_X5_39 : Cond.fieldLink RX5 39 "WheelWeeks$Cart" "done" "I" ∈ gw := gw_mem (List.mem_of_getElem? (i := 193) (by decide +kernel)) rfl
theorem mf_X1_32 : Cond.fieldLink RX1 32 "WheelWeeks$Cart" "done" "I" ∈ gw := gw_mem (List.mem_of_getElem? (i := 194) (by decide +kernel)) rfl
theorem mm_X5_49 : Cond.methodLink RX5 49 yX0_init ∈ gw := gw_mem (List.mem_of_getElem? (i := 207) (by decide +kernel)) rfl
theorem mi_X0_init : Cond.instanceMethod yX0_init ∈ gw := gw_mem (List.mem_of_getElem? (i := 208) (by decide +kernel)) rfl
theorem mc_X0_init : Cond.code yX0_init cX0_init 2 (none) ∈ gw := gw_mem (List.mem_of_getElem? (i := 209) (by decide +kernel)) rfl
theorem mm_X0_3 : Cond.methodLink RX0 3 objectInit ∈ gw := gw_mem (List.mem_of_getElem? (i := 210) (by decide +kernel)) rfl
theorem mm_X0_17 : Cond.methodLinkNest RX0 17 yX4_init "WheelWeeks" ∈ lw_tbl := List.mem_of_getElem? (i := 212) (by decide +kernel)
theorem mf_X0_29 : Cond.fieldLink RX0 29 "WheelWeeks$Aside" "found" "I" ∈ gw := gw_mem (List.mem_of_getElem? (i := 213) (by decide +kernel)) rfl
theorem mf_X5_287 : Cond.fieldLink RX5 287 "WheelWeeks$Aside" "found" "I" ∈ gw := gw_mem (List.mem_of_getElem? (i := 214) (by decide +kernel)) rfl
theorem mf_X0_9 : Cond.fieldLink RX0 9 "WheelWeeks$Aside" "now" "LWheelWeeks$Wheel;" ∈ gw := gw_mem (List.mem_of_getElem? (i := 215) (by decide +kernel)) rfl
theorem mf_X0_18 : Cond.fieldLink RX0 18 "WheelWeeks$Aside" "trial" "LWheelWeeks$Wheel;" ∈ gw := gw_mem (List.mem_of_getElem? (i := 216) (by decide +kernel)) rfl
theorem mf_X5_14 : Cond.fieldLink RX5 14 "WheelWeeks" "rows" "LWheelWeeks$Shelf;" ∈ gw := gw_mem (List.mem_of_getElem? (i := 224) (by decide +kernel)) rfl
theorem mf_X5_18 : Cond.fieldLink RX5 18 "WheelWeeks" "texts" "LWheelWeeks$Shelf;" ∈ gw := gw_mem (List.mem_of_getElem? (i := 225) (by decide +kernel)) rfl
theorem mf_X5_24 : Cond.fieldLink RX5 24 "WheelWeeks" "reader" "LWheelWeeks$Reader;" ∈ gw := gw_mem (List.mem_of_getElem? (i := 226) (by decide +kernel)) rfl
theorem mf_X5_31 : Cond.fieldLink RX5 31 "WheelWeeks" "cart" "LWheelWeeks$Cart;" ∈ gw := gw_mem (List.mem_of_getElem? (i := 227) (by decide +kernel)) rfl
theorem mf_X5_35 : Cond.fieldLink RX5 35 "WheelWeeks" "kept" "[LWheelWeeks$Cart;" ∈ gw := gw_mem (List.mem_of_getElem? (i := 228) (by decide +kernel)) rfl
theorem mf_X5_52 : Cond.fieldLink RX5 52 "WheelWeeks" "aside" "LWheelWeeks$Aside;" ∈ gw := gw_mem (List.mem_of_getElem? (i := 229) (by decide +kernel)) rfl
theorem mf_X5_56 : Cond.fieldLink RX5 56 "WheelWeeks" "tallies" "[I" ∈ gw := gw_mem (List.mem_of_getElem? (i := 230) (by decide +kernel)) rfl
theorem mf_X5_266 : Cond.fieldLink RX5 266 "WheelWeeks" "findingLast" "I" ∈ gw := gw_mem (List.mem_of_getElem? (i := 231) (by decide +kernel)) rfl
theorem mf_X5_257 : Cond.fieldLink RX5 257 "WheelWeeks" "askedLast" "I" ∈ gw := gw_mem (List.mem_of_getElem? (i := 232) (by decide +kernel)) rfl
theorem mf_X5_260 : Cond.fieldLink RX5 260 "WheelWeeks" "upperLast" "J" ∈ gw := gw_mem (List.mem_of_getElem? (i := 233) (by decide +kernel)) rfl
theorem mf_X5_60 : Cond.fieldLink RX5 60 "WheelWeeks" "lowerLast" "J" ∈ gw := gw_mem (List.mem_of_getElem? (i := 234) (by decide +kernel)) rfl
theorem mm_L_13 : Cond.methodLink RL 13 yX5_row ∈ gw := gw_mem (List.mem_of_getElem? (i := 258) (by decide +kernel)) rfl
theorem mi_X5_row : Cond.instanceMethod yX5_row ∈ gw := gw_mem (List.mem_of_getElem? (i := 259) (by decide +kernel)) rfl
theorem ms_X5_row : Cond.selects RX5 yX5_row yX5_row ∈ gw := gw_mem (List.mem_of_getElem? (i := 260) (by decide +kernel)) rfl
theorem mc_X5_row : Cond.code yX5_row cX5_row 3 (some .int) ∈ gw := gw_mem (List.mem_of_getElem? (i := 261) (by decide +kernel)) rfl
theorem mm_X5_64 : Cond.methodLink RX5 64 yX5_makeAnew ∈ gw := gw_mem (List.mem_of_getElem? (i := 262) (by decide +kernel)) rfl
theorem mi_X5_makeAnew : Cond.instanceMethod yX5_makeAnew ∈ gw := gw_mem (List.mem_of_getElem? (i := 264) (by decide +kernel)) rfl
theorem mc_X5_makeAnew : Cond.code yX5_makeAnew cX5_makeAnew 5 (some .int) ∈ gw := gw_mem (List.mem_of_getElem? (i := 265) (by decide +kernel)) rfl
theorem mm_X5_92 : Cond.methodLink RX5 92 yX3_isNumber ∈ gw := gw_mem (List.mem_of_getElem? (i := 266) (by decide +kernel)) rfl
theorem mi_X3_isNumber : Cond.instanceMethod yX3_isNumber ∈ gw := gw_mem (List.mem_of_getElem? (i := 267) (by decide +kernel)) rfl
theorem ms_X3_isNumber : Cond.selects RX3 yX3_isNumber yX3_isNumber ∈ gw := gw_mem (List.mem_of_getElem? (i := 268) (by decide +kernel)) rfl
theorem mc_X3_isNumber : Cond.code yX3_isNumber cX3_isNumber 2 (some .boolean) ∈ gw := gw_mem (List.mem_of_getElem? (i := 269) (by decide +kernel)) rfl
theorem mm_X5_96 : Cond.methodLink RX5 96 yX5_refuse ∈ gw := gw_mem (List.mem_of_getElem? (i := 270) (by decide +kernel)) rfl
theorem mi_X5_refuse : Cond.instanceMethod yX5_refuse ∈ gw := gw_mem (List.mem_of_getElem? (i := 272) (by decide +kernel)) rfl
theorem mc_X5_refuse : Cond.code yX5_refuse cX5_refuse 2 (some .int) ∈ gw := gw_mem (List.mem_of_getElem? (i := 273) (by decide +kernel)) rfl
theorem mm_X5_193 : Cond.methodLink RX5 193 yX3_makeOne ∈ gw := gw_mem (List.mem_of_getElem? (i := 274) (by decide +kernel)) rfl
theorem mi_X3_makeOne : Cond.instanceMethod yX3_makeOne ∈ gw := gw_mem (List.mem_of_getElem? (i := 275) (by decide +kernel)) rfl
theorem ms_X3_makeOne : Cond.selects RX3 yX3_makeOne yX3_makeOne ∈ gw := gw_mem (List.mem_of_getElem? (i := 276) (by decide +kernel)) rfl
theorem mc_X3_makeOne : Cond.code yX3_makeOne cX3_makeOne 4 (none) ∈ gw := gw_mem (List.mem_of_getElem? (i := 277) (by decide +kernel)) rfl
theorem mm_L_18 : Cond.methodLink RL 18 yX5_lay ∈ gw := gw_mem (List.mem_of_getElem? (i := 278) (by decide +kernel)) rfl
theorem mi_X5_lay : Cond.instanceMethod yX5_lay ∈ gw := gw_mem (List.mem_of_getElem? (i := 279) (by decide +kernel)) rfl
theorem ms_X5_lay : Cond.selects RX5 yX5_lay yX5_lay ∈ gw := gw_mem (List.mem_of_getElem? (i := 280) (by decide +kernel)) rfl
theorem mc_X5_lay : Cond.code yX5_lay cX5_lay 5 (some .int) ∈ gw := gw_mem (List.mem_of_getElem? (i := 281) (by decide +kernel)) rfl
theorem mm_X5_68 : Cond.methodLink RX5 68 yX5_refusePlace ∈ gw := gw_mem (List.mem_of_getElem? (i := 282) (by decide +kernel)) rfl
theorem mi_X5_refusePlace : Cond.instanceMethod yX5_refusePlace ∈ gw := gw_mem (List.mem_of_getElem? (i := 284) (by decide +kernel)) rfl
theorem mc_X5_refusePlace : Cond.code yX5_refusePlace cX5_refusePlace 5 (some .int) ∈ gw := gw_mem (List.mem_of_getElem? (i := 285) (by decide +kernel)) rfl
theorem mm_X5_84 : Cond.methodLink RX5 84 yX5_refuseMissing ∈ gw := gw_mem (List.mem_of_getElem? (i := 286) (by decide +kernel)) rfl
theorem mi_X5_refuseMissing : Cond.instanceMethod yX5_refuseMissing ∈ gw := gw_mem (List.mem_of_getElem? (i := 288) (by decide +kernel)) rfl
theorem mc_X5_refuseMissing : Cond.code yX5_refuseMissing cX5_refuseMissing 3 (some .int) ∈ gw := gw_mem (List.mem_of_getElem? (i := 289) (by decide +kernel)) rfl
theorem mm_X5_99 : Cond.methodLink RX5 99 yX3_isMissing ∈ gw := gw_mem (List.mem_of_getElem? (i := 290) (by decide +kernel)) rfl
theorem mi_X3_isMissing : Cond.instanceMethod yX3_isMissing ∈ gw := gw_mem (List.mem_of_getElem? (i := 291) (by decide +kernel)) rfl
theorem ms_X3_isMissing : Cond.selects RX3 yX3_isMissing yX3_isMissing ∈ gw := gw_mem (List.mem_of_getElem? (i := 292) (by decide +kernel)) rfl
theorem mc_X3_isMissing : Cond.code yX3_isMissing cX3_isMissing 2 (some .boolean) ∈ gw := gw_mem (List.mem_of_getElem? (i := 293) (by decide +kernel)) rfl
theorem mm_X5_278 : Cond.methodLink RX5 278 yX3_isPlace ∈ gw := gw_mem (List.mem_of_getElem? (i := 294) (by decide +kernel)) rfl
theorem mi_X3_isPlace : Cond.instanceMethod yX3_isPlace ∈ gw := gw_mem (List.mem_of_getElem? (i := 295) (by decide +kernel)) rfl
theorem ms_X3_isPlace : Cond.selects RX3 yX3_isPlace yX3_isPlace ∈ gw := gw_mem (List.mem_of_getElem? (i := 296) (by decide +kernel)) rfl
theorem mc_X3_isPlace : Cond.code yX3_isPlace cX3_isPlace 3 (some .boolean) ∈ gw := gw_mem (List.mem_of_getElem? (i := 297) (by decide +kernel)) rfl
theorem mm_X5_72 : Cond.methodLink RX5 72 yX3_set ∈ gw := gw_mem (List.mem_of_getElem? (i := 298) (by decide +kernel)) rfl
theorem mi_X3_set : Cond.instanceMethod yX3_set ∈ gw := gw_mem (List.mem_of_getElem? (i := 299) (by decide +kernel)) rfl
theorem ms_X3_set : Cond.selects RX3 yX3_set yX3_set ∈ gw := gw_mem (List.mem_of_getElem? (i := 300) (by decide +kernel)) rfl
theorem mc_X3_set : Cond.code yX3_set cX3_set 5 (some .int) ∈ gw := gw_mem (List.mem_of_getElem? (i := 301) (by decide +kernel)) rfl
theorem mm_X5_76 : Cond.methodLink RX5 76 yX5_tell ∈ gw := gw_mem (List.mem_of_getElem? (i := 302) (by decide +kernel)) rfl
theorem mi_X5_tell : Cond.instanceMethod yX5_tell ∈ gw := gw_mem (List.mem_of_getElem? (i := 304) (by decide +kernel)) rfl
theorem mc_X5_tell : Cond.code yX5_tell cX5_tell 2 (some .int) ∈ gw := gw_mem (List.mem_of_getElem? (i := 305) (by decide +kernel)) rfl
theorem mm_L_23 : Cond.methodLink RL 23 yX5_at ∈ gw := gw_mem (List.mem_of_getElem? (i := 306) (by decide +kernel)) rfl
theorem mi_X5_at : Cond.instanceMethod yX5_at ∈ gw := gw_mem (List.mem_of_getElem? (i := 307) (by decide +kernel)) rfl
theorem ms_X5_at : Cond.selects RX5 yX5_at yX5_at ∈ gw := gw_mem (List.mem_of_getElem? (i := 308) (by decide +kernel)) rfl
theorem mc_X5_at : Cond.code yX5_at cX5_at 4 (some .int) ∈ gw := gw_mem (List.mem_of_getElem? (i := 309) (by decide +kernel)) rfl
theorem mm_X5_80 : Cond.methodLink RX5 80 yX3_get ∈ gw := gw_mem (List.mem_of_getElem? (i := 310) (by decide +kernel)) rfl
theorem mi_X3_get : Cond.instanceMethod yX3_get ∈ gw := gw_mem (List.mem_of_getElem? (i := 311) (by decide +kernel)) rfl
theorem ms_X3_get : Cond.selects RX3 yX3_get yX3_get ∈ gw := gw_mem (List.mem_of_getElem? (i := 312) (by decide +kernel)) rfl
theorem mc_X3_get : Cond.code yX3_get cX3_get 3 (some .int) ∈ gw := gw_mem (List.mem_of_getElem? (i := 313) (by decide +kernel)) rfl
theorem mm_L_27 : Cond.methodLink RL 27 yX5_tear ∈ gw := gw_mem (List.mem_of_getElem? (i := 314) (by decide +kernel)) rfl
theorem mi_X5_tear : Cond.instanceMethod yX5_tear ∈ gw := gw_mem (List.mem_of_getElem? (i := 315) (by decide +kernel)) rfl
theorem ms_X5_tear : Cond.selects RX5 yX5_tear yX5_tear ∈ gw := gw_mem (List.mem_of_getElem? (i := 316) (by decide +kernel)) rfl
theorem mc_X5_tear : Cond.code yX5_tear cX5_tear 3 (some .int) ∈ gw := gw_mem (List.mem_of_getElem? (i := 317) (by decide +kernel)) rfl
theorem mm_X5_88 : Cond.methodLink RX5 88 yX3_drop ∈ gw := gw_mem (List.mem_of_getElem? (i := 318) (by decide +kernel)) rfl
theorem mi_X3_drop : Cond.instanceMethod yX3_drop ∈ gw := gw_mem (List.mem_of_getElem? (i := 319) (by decide +kernel)) rfl
theorem ms_X3_drop : Cond.selects RX3 yX3_drop yX3_drop ∈ gw := gw_mem (List.mem_of_getElem? (i := 320) (by decide +kernel)) rfl
theorem mc_X3_drop : Cond.code yX3_drop cX3_drop 2 (none) ∈ gw := gw_mem (List.mem_of_getElem? (i := 321) (by decide +kernel)) rfl
theorem mm_L_32 : Cond.methodLink RL 32 yX5_copy ∈ gw := gw_mem (List.mem_of_getElem? (i := 322) (by decide +kernel)) rfl
theorem mi_X5_copy : Cond.instanceMethod yX5_copy ∈ gw := gw_mem (List.mem_of_getElem? (i := 323) (by decide +kernel)) rfl
theorem ms_X5_copy : Cond.selects RX5 yX5_copy yX5_copy ∈ gw := gw_mem (List.mem_of_getElem? (i := 324) (by decide +kernel)) rfl
theorem mc_X5_copy : Cond.code yX5_copy cX5_copy 6 (some .int) ∈ gw := gw_mem (List.mem_of_getElem? (i := 325) (by decide +kernel)) rfl
theorem mm_X5_102 : Cond.methodLink RX5 102 yX3_hasPart ∈ gw := gw_mem (List.mem_of_getElem? (i := 326) (by decide +kernel)) rfl
theorem mi_X3_hasPart : Cond.instanceMethod yX3_hasPart ∈ gw := gw_mem (List.mem_of_getElem? (i := 327) (by decide +kernel)) rfl
theorem ms_X3_hasPart : Cond.selects RX3 yX3_hasPart yX3_hasPart ∈ gw := gw_mem (List.mem_of_getElem? (i := 328) (by decide +kernel)) rfl
theorem mc_X3_hasPart : Cond.code yX3_hasPart cX3_hasPart 4 (some .boolean) ∈ gw := gw_mem (List.mem_of_getElem? (i := 329) (by decide +kernel)) rfl
theorem mm_X5_106 : Cond.methodLink RX5 106 yX3_move ∈ gw := gw_mem (List.mem_of_getElem? (i := 330) (by decide +kernel)) rfl
theorem mi_X3_move : Cond.instanceMethod yX3_move ∈ gw := gw_mem (List.mem_of_getElem? (i := 331) (by decide +kernel)) rfl
theorem ms_X3_move : Cond.selects RX3 yX3_move yX3_move ∈ gw := gw_mem (List.mem_of_getElem? (i := 332) (by decide +kernel)) rfl
theorem mc_X3_move : Cond.code yX3_move cX3_move 6 (none) ∈ gw := gw_mem (List.mem_of_getElem? (i := 333) (by decide +kernel)) rfl
theorem mm_X3_30 : Cond.methodLink RX3 30 arraycopyName ∈ gw := gw_mem (List.mem_of_getElem? (i := 334) (by decide +kernel)) rfl
theorem mt_J_arraycopy : Cond.static arraycopyName ∈ gw := gw_mem (List.mem_of_getElem? (i := 335) (by decide +kernel)) rfl
theorem mm_L_37 : Cond.methodLink RL 37 yX5_mean ∈ gw := gw_mem (List.mem_of_getElem? (i := 337) (by decide +kernel)) rfl
theorem mi_X5_mean : Cond.instanceMethod yX5_mean ∈ gw := gw_mem (List.mem_of_getElem? (i := 338) (by decide +kernel)) rfl
theorem ms_X5_mean : Cond.selects RX5 yX5_mean yX5_mean ∈ gw := gw_mem (List.mem_of_getElem? (i := 339) (by decide +kernel)) rfl
theorem mc_X5_mean : Cond.code yX5_mean cX5_mean 4 (some .int) ∈ gw := gw_mem (List.mem_of_getElem? (i := 340) (by decide +kernel)) rfl
theorem mm_X5_110 : Cond.methodLink RX5 110 yX3_sizeOf ∈ gw := gw_mem (List.mem_of_getElem? (i := 341) (by decide +kernel)) rfl
theorem mi_X3_sizeOf : Cond.instanceMethod yX3_sizeOf ∈ gw := gw_mem (List.mem_of_getElem? (i := 342) (by decide +kernel)) rfl
theorem ms_X3_sizeOf : Cond.selects RX3 yX3_sizeOf yX3_sizeOf ∈ gw := gw_mem (List.mem_of_getElem? (i := 343) (by decide +kernel)) rfl
theorem mc_X3_sizeOf : Cond.code yX3_sizeOf cX3_sizeOf 2 (some .int) ∈ gw := gw_mem (List.mem_of_getElem? (i := 344) (by decide +kernel)) rfl
theorem mm_X5_113 : Cond.methodLink RX5 113 yX3_sum ∈ gw := gw_mem (List.mem_of_getElem? (i := 345) (by decide +kernel)) rfl
theorem mi_X3_sum : Cond.instanceMethod yX3_sum ∈ gw := gw_mem (List.mem_of_getElem? (i := 346) (by decide +kernel)) rfl
theorem ms_X3_sum : Cond.selects RX3 yX3_sum yX3_sum ∈ gw := gw_mem (List.mem_of_getElem? (i := 347) (by decide +kernel)) rfl
theorem mc_X3_sum : Cond.code yX3_sum cX3_sum 5 (some .long) ∈ gw := gw_mem (List.mem_of_getElem? (i := 348) (by decide +kernel)) rfl
theorem mm_L_41 : Cond.methodLink RL 41 yX5_text ∈ gw := gw_mem (List.mem_of_getElem? (i := 349) (by decide +kernel)) rfl
theorem mi_X5_text : Cond.instanceMethod yX5_text ∈ gw := gw_mem (List.mem_of_getElem? (i := 350) (by decide +kernel)) rfl
theorem ms_X5_text : Cond.selects RX5 yX5_text yX5_text ∈ gw := gw_mem (List.mem_of_getElem? (i := 351) (by decide +kernel)) rfl
theorem mc_X5_text : Cond.code yX5_text cX5_text 3 (some .int) ∈ gw := gw_mem (List.mem_of_getElem? (i := 352) (by decide +kernel)) rfl
theorem mm_L_45 : Cond.methodLink RL 45 yX5_put ∈ gw := gw_mem (List.mem_of_getElem? (i := 353) (by decide +kernel)) rfl
theorem mi_X5_put : Cond.instanceMethod yX5_put ∈ gw := gw_mem (List.mem_of_getElem? (i := 354) (by decide +kernel)) rfl
theorem ms_X5_put : Cond.selects RX5 yX5_put yX5_put ∈ gw := gw_mem (List.mem_of_getElem? (i := 355) (by decide +kernel)) rfl
theorem mc_X5_put : Cond.code yX5_put cX5_put 5 (some .int) ∈ gw := gw_mem (List.mem_of_getElem? (i := 356) (by decide +kernel)) rfl
theorem mm_L_49 : Cond.methodLink RL 49 yX5_fault ∈ gw := gw_mem (List.mem_of_getElem? (i := 357) (by decide +kernel)) rfl
theorem mi_X5_fault : Cond.instanceMethod yX5_fault ∈ gw := gw_mem (List.mem_of_getElem? (i := 358) (by decide +kernel)) rfl
theorem ms_X5_fault : Cond.selects RX5 yX5_fault yX5_fault ∈ gw := gw_mem (List.mem_of_getElem? (i := 359) (by decide +kernel)) rfl
theorem mc_X5_fault : Cond.code yX5_fault cX5_fault 3 (some .int) ∈ gw := gw_mem (List.mem_of_getElem? (i := 360) (by decide +kernel)) rfl
theorem mm_X5_117 : Cond.methodLink RX5 117 yX3_placesOf ∈ gw := gw_mem (List.mem_of_getElem? (i := 361) (by decide +kernel)) rfl
theorem mi_X3_placesOf : Cond.instanceMethod yX3_placesOf ∈ gw := gw_mem (List.mem_of_getElem? (i := 362) (by decide +kernel)) rfl
theorem ms_X3_placesOf : Cond.selects RX3 yX3_placesOf yX3_placesOf ∈ gw := gw_mem (List.mem_of_getElem? (i := 363) (by decide +kernel)) rfl
theorem mc_X3_placesOf : Cond.code yX3_placesOf cX3_placesOf 2 (some (.array .int)) ∈ gw := gw_mem (List.mem_of_getElem? (i := 364) (by decide +kernel)) rfl
theorem mm_X5_121 : Cond.methodLink RX5 121 yX2_read ∈ gw := gw_mem (List.mem_of_getElem? (i := 365) (by decide +kernel)) rfl
theorem mi_X2_read : Cond.instanceMethod yX2_read ∈ gw := gw_mem (List.mem_of_getElem? (i := 366) (by decide +kernel)) rfl
theorem ms_X2_read : Cond.selects RX2 yX2_read yX2_read ∈ gw := gw_mem (List.mem_of_getElem? (i := 367) (by decide +kernel)) rfl
theorem mc_X2_read : Cond.code yX2_read cX2_read 4 (some .int) ∈ gw := gw_mem (List.mem_of_getElem? (i := 368) (by decide +kernel)) rfl
theorem mm_X2_22 : Cond.methodLink RX2 22 arraycopyName ∈ gw := gw_mem (List.mem_of_getElem? (i := 369) (by decide +kernel)) rfl
theorem mm_X2_38 : Cond.methodLink RX2 38 yX2_skipBlanks ∈ gw := gw_mem (List.mem_of_getElem? (i := 370) (by decide +kernel)) rfl
theorem mi_X2_skipBlanks : Cond.instanceMethod yX2_skipBlanks ∈ gw := gw_mem (List.mem_of_getElem? (i := 372) (by decide +kernel)) rfl
theorem mc_X2_skipBlanks : Cond.code yX2_skipBlanks cX2_skipBlanks 1 (none) ∈ gw := gw_mem (List.mem_of_getElem? (i := 373) (by decide +kernel)) rfl
theorem mm_X2_41 : Cond.methodLink RX2 41 yX2_readRoad ∈ gw := gw_mem (List.mem_of_getElem? (i := 374) (by decide +kernel)) rfl
theorem mi_X2_readRoad : Cond.instanceMethod yX2_readRoad ∈ gw := gw_mem (List.mem_of_getElem? (i := 376) (by decide +kernel)) rfl
theorem mc_X2_readRoad : Cond.code yX2_readRoad cX2_readRoad 3 (some .boolean) ∈ gw := gw_mem (List.mem_of_getElem? (i := 377) (by decide +kernel)) rfl
theorem mm_X2_48 : Cond.methodLink RX2 48 yX2_readFigure ∈ gw := gw_mem (List.mem_of_getElem? (i := 378) (by decide +kernel)) rfl
theorem mi_X2_readFigure : Cond.instanceMethod yX2_readFigure ∈ gw := gw_mem (List.mem_of_getElem? (i := 380) (by decide +kernel)) rfl
theorem mc_X2_readFigure : Cond.code yX2_readFigure cX2_readFigure 3 (some .int) ∈ gw := gw_mem (List.mem_of_getElem? (i := 381) (by decide +kernel)) rfl
theorem mm_X2_55 : Cond.methodLink RX2 55 yX2_readGate ∈ gw := gw_mem (List.mem_of_getElem? (i := 382) (by decide +kernel)) rfl
theorem mi_X2_readGate : Cond.instanceMethod yX2_readGate ∈ gw := gw_mem (List.mem_of_getElem? (i := 384) (by decide +kernel)) rfl
theorem mc_X2_readGate : Cond.code yX2_readGate cX2_readGate 4 (some .boolean) ∈ gw := gw_mem (List.mem_of_getElem? (i := 385) (by decide +kernel)) rfl
theorem mm_X2_45 : Cond.methodLink RX2 45 yX2_readSpoke ∈ gw := gw_mem (List.mem_of_getElem? (i := 386) (by decide +kernel)) rfl
theorem mi_X2_readSpoke : Cond.instanceMethod yX2_readSpoke ∈ gw := gw_mem (List.mem_of_getElem? (i := 388) (by decide +kernel)) rfl
theorem mc_X2_readSpoke : Cond.code yX2_readSpoke cX2_readSpoke 5 (some .boolean) ∈ gw := gw_mem (List.mem_of_getElem? (i := 389) (by decide +kernel)) rfl
theorem mm_X2_61 : Cond.methodLink RX2 61 yX2_kindOf ∈ gw := gw_mem (List.mem_of_getElem? (i := 390) (by decide +kernel)) rfl
theorem mt_X2_kindOf : Cond.static yX2_kindOf ∈ gw := gw_mem (List.mem_of_getElem? (i := 391) (by decide +kernel)) rfl
theorem mc_X2_kindOf : Cond.code yX2_kindOf cX2_kindOf 2 (some .int) ∈ gw := gw_mem (List.mem_of_getElem? (i := 392) (by decide +kernel)) rfl
theorem mf_X2_73 : Cond.fieldLinkNest RX2 73 "WheelWeeks" "LETTERS" "[I" "WheelWeeks" ∈ lw_tbl := List.mem_of_getElem? (i := 393) (by decide +kernel)
theorem mm_L_53 : Cond.methodLink RL 53 yX5_wheel ∈ gw := gw_mem (List.mem_of_getElem? (i := 395) (by decide +kernel)) rfl
theorem mi_X5_wheel : Cond.instanceMethod yX5_wheel ∈ gw := gw_mem (List.mem_of_getElem? (i := 396) (by decide +kernel)) rfl
theorem ms_X5_wheel : Cond.selects RX5 yX5_wheel yX5_wheel ∈ gw := gw_mem (List.mem_of_getElem? (i := 397) (by decide +kernel)) rfl
theorem mc_X5_wheel : Cond.code yX5_wheel cX5_wheel 4 (some .int) ∈ gw := gw_mem (List.mem_of_getElem? (i := 398) (by decide +kernel)) rfl
theorem mm_X5_128 : Cond.methodLink RX5 128 yX1_begin ∈ gw := gw_mem (List.mem_of_getElem? (i := 399) (by decide +kernel)) rfl
theorem mi_X1_begin : Cond.instanceMethod yX1_begin ∈ gw := gw_mem (List.mem_of_getElem? (i := 400) (by decide +kernel)) rfl
theorem ms_X1_begin : Cond.selects RX1 yX1_begin yX1_begin ∈ gw := gw_mem (List.mem_of_getElem? (i := 401) (by decide +kernel)) rfl
theorem mc_X1_begin : Cond.code yX1_begin cX1_begin 2 (none) ∈ gw := gw_mem (List.mem_of_getElem? (i := 402) (by decide +kernel)) rfl
theorem mm_X1_25 : Cond.methodLink RX1 25 yX4_take ∈ gw := gw_mem (List.mem_of_getElem? (i := 403) (by decide +kernel)) rfl
theorem mi_X4_take : Cond.instanceMethod yX4_take ∈ gw := gw_mem (List.mem_of_getElem? (i := 404) (by decide +kernel)) rfl
theorem ms_X4_take : Cond.selects RX4 yX4_take yX4_take ∈ gw := gw_mem (List.mem_of_getElem? (i := 405) (by decide +kernel)) rfl
theorem mc_X4_take : Cond.code yX4_take cX4_take 2 (none) ∈ gw := gw_mem (List.mem_of_getElem? (i := 406) (by decide +kernel)) rfl
theorem mm_X4_27 : Cond.methodLink RX4 27 arraycopyName ∈ gw := gw_mem (List.mem_of_getElem? (i := 407) (by decide +kernel)) rfl
theorem mm_X1_29 : Cond.methodLink RX1 29 yX4_start ∈ gw := gw_mem (List.mem_of_getElem? (i := 408) (by decide +kernel)) rfl
theorem mi_X4_start : Cond.instanceMethod yX4_start ∈ gw := gw_mem (List.mem_of_getElem? (i := 409) (by decide +kernel)) rfl
theorem ms_X4_start : Cond.selects RX4 yX4_start yX4_start ∈ gw := gw_mem (List.mem_of_getElem? (i := 410) (by decide +kernel)) rfl
theorem mc_X4_start : Cond.code yX4_start cX4_start 1 (none) ∈ gw := gw_mem (List.mem_of_getElem? (i := 411) (by decide +kernel)) rfl
theorem mm_X4_53 : Cond.methodLink RX4 53 yJ7_fill_53178 ∈ gw := gw_mem (List.mem_of_getElem? (i := 412) (by decide +kernel)) rfl
theorem mm_L_57 : Cond.methodLink RL 57 yX5_spoke ∈ gw := gw_mem (List.mem_of_getElem? (i := 413) (by decide +kernel)) rfl
theorem mi_X5_spoke : Cond.instanceMethod yX5_spoke ∈ gw := gw_mem (List.mem_of_getElem? (i := 414) (by decide +kernel)) rfl
theorem ms_X5_spoke : Cond.selects RX5 yX5_spoke yX5_spoke ∈ gw := gw_mem (List.mem_of_getElem? (i := 415) (by decide +kernel)) rfl
theorem mc_X5_spoke : Cond.code yX5_spoke cX5_spoke 3 (some .int) ∈ gw := gw_mem (List.mem_of_getElem? (i := 416) (by decide +kernel)) rfl
theorem mm_X5_136 : Cond.methodLink RX5 136 yX4_isSpoke ∈ gw := gw_mem (List.mem_of_getElem? (i := 417) (by decide +kernel)) rfl
theorem mi_X4_isSpoke : Cond.instanceMethod yX4_isSpoke ∈ gw := gw_mem (List.mem_of_getElem? (i := 418) (by decide +kernel)) rfl
theorem ms_X4_isSpoke : Cond.selects RX4 yX4_isSpoke yX4_isSpoke ∈ gw := gw_mem (List.mem_of_getElem? (i := 419) (by decide +kernel)) rfl
theorem mc_X4_isSpoke : Cond.code yX4_isSpoke cX4_isSpoke 2 (some .boolean) ∈ gw := gw_mem (List.mem_of_getElem? (i := 420) (by decide +kernel)) rfl
theorem mm_X5_139 : Cond.methodLink RX5 139 yX4_facet ∈ gw := gw_mem (List.mem_of_getElem? (i := 421) (by decide +kernel)) rfl
theorem mi_X4_facet : Cond.instanceMethod yX4_facet ∈ gw := gw_mem (List.mem_of_getElem? (i := 422) (by decide +kernel)) rfl
theorem ms_X4_facet : Cond.selects RX4 yX4_facet yX4_facet ∈ gw := gw_mem (List.mem_of_getElem? (i := 423) (by decide +kernel)) rfl
theorem mc_X4_facet : Cond.code yX4_facet cX4_facet 3 (some .int) ∈ gw := gw_mem (List.mem_of_getElem? (i := 424) (by decide +kernel)) rfl
theorem mm_X4_70 : Cond.methodLink RX4 70 yX4_isThere ∈ gw := gw_mem (List.mem_of_getElem? (i := 425) (by decide +kernel)) rfl
theorem mi_X4_isThere : Cond.instanceMethod yX4_isThere ∈ gw := gw_mem (List.mem_of_getElem? (i := 426) (by decide +kernel)) rfl
theorem ms_X4_isThere : Cond.selects RX4 yX4_isThere yX4_isThere ∈ gw := gw_mem (List.mem_of_getElem? (i := 427) (by decide +kernel)) rfl
theorem mc_X4_isThere : Cond.code yX4_isThere cX4_isThere 2 (some .boolean) ∈ gw := gw_mem (List.mem_of_getElem? (i := 428) (by decide +kernel)) rfl
theorem mm_X4_74 : Cond.methodLink RX4 74 yX4_bearingAs ∈ gw := gw_mem (List.mem_of_getElem? (i := 429) (by decide +kernel)) rfl
theorem mi_X4_bearingAs : Cond.instanceMethod yX4_bearingAs ∈ gw := gw_mem (List.mem_of_getElem? (i := 430) (by decide +kernel)) rfl
theorem ms_X4_bearingAs : Cond.selects RX4 yX4_bearingAs yX4_bearingAs ∈ gw := gw_mem (List.mem_of_getElem? (i := 431) (by decide +kernel)) rfl
theorem mc_X4_bearingAs : Cond.code yX4_bearingAs cX4_bearingAs 3 (some .int) ∈ gw := gw_mem (List.mem_of_getElem? (i := 432) (by decide +kernel)) rfl
theorem mm_X4_63 : Cond.methodLink RX4 63 yX4_depth ∈ gw := gw_mem (List.mem_of_getElem? (i := 433) (by decide +kernel)) rfl
theorem mi_X4_depth : Cond.instanceMethod yX4_depth ∈ gw := gw_mem (List.mem_of_getElem? (i := 434) (by decide +kernel)) rfl
theorem ms_X4_depth : Cond.selects RX4 yX4_depth yX4_depth ∈ gw := gw_mem (List.mem_of_getElem? (i := 435) (by decide +kernel)) rfl
theorem mc_X4_depth : Cond.code yX4_depth cX4_depth 1 (some .int) ∈ gw := gw_mem (List.mem_of_getElem? (i := 436) (by decide +kernel)) rfl
theorem mm_X4_66 : Cond.methodLinkNest RX4 66 yX5_bearing "WheelWeeks" ∈ lw_tbl := List.mem_of_getElem? (i := 437) (by decide +kernel)
theorem mt_X5_bearing : Cond.static yX5_bearing ∈ gw := gw_mem (List.mem_of_getElem? (i := 438) (by decide +kernel)) rfl
theorem mc_X5_bearing : Cond.code yX5_bearing cX5_bearing 6 (some .int) ∈ gw := gw_mem (List.mem_of_getElem? (i := 439) (by decide +kernel)) rfl
theorem mm_X5_338 : Cond.methodLink RX5 338 yX5_feltWear ∈ gw := gw_mem (List.mem_of_getElem? (i := 440) (by decide +kernel)) rfl
theorem mt_X5_feltWear : Cond.static yX5_feltWear ∈ gw := gw_mem (List.mem_of_getElem? (i := 441) (by decide +kernel)) rfl
theorem mc_X5_feltWear : Cond.code yX5_feltWear cX5_feltWear 3 (some .int) ∈ gw := gw_mem (List.mem_of_getElem? (i := 442) (by decide +kernel)) rfl
theorem mm_X5_310 : Cond.methodLink RX5 310 yJ9_max_7cf53 ∈ gw := gw_mem (List.mem_of_getElem? (i := 443) (by decide +kernel)) rfl
theorem mt_J9_max_7cf53 : Cond.static yJ9_max_7cf53 ∈ gw := gw_mem (List.mem_of_getElem? (i := 444) (by decide +kernel)) rfl
theorem mc_J9_max_7cf53 : Cond.code yJ9_max_7cf53 cJ9_max_7cf53 2 (some .int) ∈ gw := gw_mem (List.mem_of_getElem? (i := 445) (by decide +kernel)) rfl
theorem mm_L_61 : Cond.methodLink RL 61 yX5_mark ∈ gw := gw_mem (List.mem_of_getElem? (i := 446) (by decide +kernel)) rfl
theorem mi_X5_mark : Cond.instanceMethod yX5_mark ∈ gw := gw_mem (List.mem_of_getElem? (i := 447) (by decide +kernel)) rfl
theorem ms_X5_mark : Cond.selects RX5 yX5_mark yX5_mark ∈ gw := gw_mem (List.mem_of_getElem? (i := 448) (by decide +kernel)) rfl
theorem mc_X5_mark : Cond.code yX5_mark cX5_mark 3 (some .int) ∈ gw := gw_mem (List.mem_of_getElem? (i := 449) (by decide +kernel)) rfl
theorem mm_X5_145 : Cond.methodLink RX5 145 yX5_isOfKind ∈ gw := gw_mem (List.mem_of_getElem? (i := 450) (by decide +kernel)) rfl
theorem mt_X5_isOfKind : Cond.static yX5_isOfKind ∈ gw := gw_mem (List.mem_of_getElem? (i := 451) (by decide +kernel)) rfl
theorem mc_X5_isOfKind : Cond.code yX5_isOfKind cX5_isOfKind 2 (some .boolean) ∈ gw := gw_mem (List.mem_of_getElem? (i := 452) (by decide +kernel)) rfl
theorem mf_X5_335 : Cond.fieldLink RX5 335 "WheelWeeks" "PARENTS" "[I" ∈ gw := gw_mem (List.mem_of_getElem? (i := 453) (by decide +kernel)) rfl
theorem mm_X5_149 : Cond.methodLink RX5 149 yX4_differs ∈ gw := gw_mem (List.mem_of_getElem? (i := 455) (by decide +kernel)) rfl
theorem mi_X4_differs : Cond.instanceMethod yX4_differs ∈ gw := gw_mem (List.mem_of_getElem? (i := 456) (by decide +kernel)) rfl
theorem ms_X4_differs : Cond.selects RX4 yX4_differs yX4_differs ∈ gw := gw_mem (List.mem_of_getElem? (i := 457) (by decide +kernel)) rfl
theorem mc_X4_differs : Cond.code yX4_differs cX4_differs 4 (some .int) ∈ gw := gw_mem (List.mem_of_getElem? (i := 458) (by decide +kernel)) rfl
theorem mm_L_65 : Cond.methodLink RL 65 yX5_bears ∈ gw := gw_mem (List.mem_of_getElem? (i := 459) (by decide +kernel)) rfl
theorem mi_X5_bears : Cond.instanceMethod yX5_bears ∈ gw := gw_mem (List.mem_of_getElem? (i := 460) (by decide +kernel)) rfl
theorem ms_X5_bears : Cond.selects RX5 yX5_bears yX5_bears ∈ gw := gw_mem (List.mem_of_getElem? (i := 461) (by decide +kernel)) rfl
theorem mc_X5_bears : Cond.code yX5_bears cX5_bears 4 (some .int) ∈ gw := gw_mem (List.mem_of_getElem? (i := 462) (by decide +kernel)) rfl
theorem mm_X5_159 : Cond.methodLink RX5 159 yX5_bearing ∈ gw := gw_mem (List.mem_of_getElem? (i := 463) (by decide +kernel)) rfl
theorem mm_L_69 : Cond.methodLink RL 69 yX5_step ∈ gw := gw_mem (List.mem_of_getElem? (i := 464) (by decide +kernel)) rfl
theorem mi_X5_step : Cond.instanceMethod yX5_step ∈ gw := gw_mem (List.mem_of_getElem? (i := 465) (by decide +kernel)) rfl
theorem ms_X5_step : Cond.selects RX5 yX5_step yX5_step ∈ gw := gw_mem (List.mem_of_getElem? (i := 466) (by decide +kernel)) rfl
theorem mc_X5_step : Cond.code yX5_step cX5_step 1 (some .int) ∈ gw := gw_mem (List.mem_of_getElem? (i := 467) (by decide +kernel)) rfl
theorem mm_X5_163 : Cond.methodLink RX5 163 yX4_isEmpty ∈ gw := gw_mem (List.mem_of_getElem? (i := 468) (by decide +kernel)) rfl
theorem mi_X4_isEmpty : Cond.instanceMethod yX4_isEmpty ∈ gw := gw_mem (List.mem_of_getElem? (i := 469) (by decide +kernel)) rfl
theorem ms_X4_isEmpty : Cond.selects RX4 yX4_isEmpty yX4_isEmpty ∈ gw := gw_mem (List.mem_of_getElem? (i := 470) (by decide +kernel)) rfl
theorem mc_X4_isEmpty : Cond.code yX4_isEmpty cX4_isEmpty 1 (some .boolean) ∈ gw := gw_mem (List.mem_of_getElem? (i := 471) (by decide +kernel)) rfl
theorem mm_X5_167 : Cond.methodLink RX5 167 yX4_isOver ∈ gw := gw_mem (List.mem_of_getElem? (i := 472) (by decide +kernel)) rfl
theorem mi_X4_isOver : Cond.instanceMethod yX4_isOver ∈ gw := gw_mem (List.mem_of_getElem? (i := 473) (by decide +kernel)) rfl
theorem ms_X4_isOver : Cond.selects RX4 yX4_isOver yX4_isOver ∈ gw := gw_mem (List.mem_of_getElem? (i := 474) (by decide +kernel)) rfl
theorem mc_X4_isOver : Cond.code yX4_isOver cX4_isOver 3 (some .boolean) ∈ gw := gw_mem (List.mem_of_getElem? (i := 475) (by decide +kernel)) rfl
theorem mm_X4_59 : Cond.methodLink RX4 59 yX4_goneOnes ∈ gw := gw_mem (List.mem_of_getElem? (i := 476) (by decide +kernel)) rfl
theorem mi_X4_goneOnes : Cond.instanceMethod yX4_goneOnes ∈ gw := gw_mem (List.mem_of_getElem? (i := 477) (by decide +kernel)) rfl
theorem ms_X4_goneOnes : Cond.selects RX4 yX4_goneOnes yX4_goneOnes ∈ gw := gw_mem (List.mem_of_getElem? (i := 478) (by decide +kernel)) rfl
theorem mc_X4_goneOnes : Cond.code yX4_goneOnes cX4_goneOnes 1 (some .int) ∈ gw := gw_mem (List.mem_of_getElem? (i := 479) (by decide +kernel)) rfl
theorem mm_X5_170 : Cond.methodLink RX5 170 yX5_doDeed ∈ gw := gw_mem (List.mem_of_getElem? (i := 480) (by decide +kernel)) rfl
theorem mi_X5_doDeed : Cond.instanceMethod yX5_doDeed ∈ gw := gw_mem (List.mem_of_getElem? (i := 482) (by decide +kernel)) rfl
theorem mc_X5_doDeed : Cond.code yX5_doDeed cX5_doDeed 3 (some .int) ∈ gw := gw_mem (List.mem_of_getElem? (i := 483) (by decide +kernel)) rfl
theorem mm_X5_305 : Cond.methodLink RX5 305 yX1_add ∈ gw := gw_mem (List.mem_of_getElem? (i := 484) (by decide +kernel)) rfl
theorem mi_X1_add : Cond.instanceMethod yX1_add ∈ gw := gw_mem (List.mem_of_getElem? (i := 485) (by decide +kernel)) rfl
theorem ms_X1_add : Cond.selects RX1 yX1_add yX1_add ∈ gw := gw_mem (List.mem_of_getElem? (i := 486) (by decide +kernel)) rfl
theorem mc_X1_add : Cond.code yX1_add cX1_add 3 (some .int) ∈ gw := gw_mem (List.mem_of_getElem? (i := 487) (by decide +kernel)) rfl
theorem mm_X1_42 : Cond.methodLink RX1 42 yX4_act ∈ gw := gw_mem (List.mem_of_getElem? (i := 488) (by decide +kernel)) rfl
theorem mi_X4_act : Cond.instanceMethod yX4_act ∈ gw := gw_mem (List.mem_of_getElem? (i := 489) (by decide +kernel)) rfl
theorem ms_X4_act : Cond.selects RX4 yX4_act yX4_act ∈ gw := gw_mem (List.mem_of_getElem? (i := 490) (by decide +kernel)) rfl
theorem mc_X4_act : Cond.code yX4_act cX4_act 3 (some .int) ∈ gw := gw_mem (List.mem_of_getElem? (i := 491) (by decide +kernel)) rfl
theorem mm_X4_82 : Cond.methodLink RX4 82 yX4_roll ∈ gw := gw_mem (List.mem_of_getElem? (i := 492) (by decide +kernel)) rfl
theorem mi_X4_roll : Cond.instanceMethod yX4_roll ∈ gw := gw_mem (List.mem_of_getElem? (i := 493) (by decide +kernel)) rfl
theorem ms_X4_roll : Cond.selects RX4 yX4_roll yX4_roll ∈ gw := gw_mem (List.mem_of_getElem? (i := 494) (by decide +kernel)) rfl
theorem mc_X4_roll : Cond.code yX4_roll cX4_roll 4 (some .boolean) ∈ gw := gw_mem (List.mem_of_getElem? (i := 495) (by decide +kernel)) rfl
theorem mm_X4_99 : Cond.methodLink RX4 99 yJ9_min_7cf53 ∈ gw := gw_mem (List.mem_of_getElem? (i := 496) (by decide +kernel)) rfl
theorem mt_J9_min_7cf53 : Cond.static yJ9_min_7cf53 ∈ gw := gw_mem (List.mem_of_getElem? (i := 497) (by decide +kernel)) rfl
theorem mc_J9_min_7cf53 : Cond.code yJ9_min_7cf53 cJ9_min_7cf53 2 (some .int) ∈ gw := gw_mem (List.mem_of_getElem? (i := 498) (by decide +kernel)) rfl
theorem mm_X4_86 : Cond.methodLink RX4 86 yX4_soakAll ∈ gw := gw_mem (List.mem_of_getElem? (i := 499) (by decide +kernel)) rfl
theorem mi_X4_soakAll : Cond.instanceMethod yX4_soakAll ∈ gw := gw_mem (List.mem_of_getElem? (i := 501) (by decide +kernel)) rfl
theorem mc_X4_soakAll : Cond.code yX4_soakAll cX4_soakAll 3 (some .int) ∈ gw := gw_mem (List.mem_of_getElem? (i := 502) (by decide +kernel)) rfl
theorem mm_X4_89 : Cond.methodLink RX4 89 yX4_turnWeather ∈ gw := gw_mem (List.mem_of_getElem? (i := 503) (by decide +kernel)) rfl
theorem mi_X4_turnWeather : Cond.instanceMethod yX4_turnWeather ∈ gw := gw_mem (List.mem_of_getElem? (i := 505) (by decide +kernel)) rfl
theorem mc_X4_turnWeather : Cond.code yX4_turnWeather cX4_turnWeather 1 (some .int) ∈ gw := gw_mem (List.mem_of_getElem? (i := 506) (by decide +kernel)) rfl
theorem mm_X4_92 : Cond.methodLink RX4 92 yX4_knockOut ∈ gw := gw_mem (List.mem_of_getElem? (i := 507) (by decide +kernel)) rfl
theorem mi_X4_knockOut : Cond.instanceMethod yX4_knockOut ∈ gw := gw_mem (List.mem_of_getElem? (i := 509) (by decide +kernel)) rfl
theorem mc_X4_knockOut : Cond.code yX4_knockOut cX4_knockOut 2 (some .int) ∈ gw := gw_mem (List.mem_of_getElem? (i := 510) (by decide +kernel)) rfl
theorem mm_X4_96 : Cond.methodLink RX4 96 yX4_putIn ∈ gw := gw_mem (List.mem_of_getElem? (i := 511) (by decide +kernel)) rfl
theorem mi_X4_putIn : Cond.instanceMethod yX4_putIn ∈ gw := gw_mem (List.mem_of_getElem? (i := 513) (by decide +kernel)) rfl
theorem mc_X4_putIn : Cond.code yX4_putIn cX4_putIn 3 (some .int) ∈ gw := gw_mem (List.mem_of_getElem? (i := 514) (by decide +kernel)) rfl
theorem mm_L_74 : Cond.methodLink RL 74 yX5_soak ∈ gw := gw_mem (List.mem_of_getElem? (i := 515) (by decide +kernel)) rfl
theorem mi_X5_soak : Cond.instanceMethod yX5_soak ∈ gw := gw_mem (List.mem_of_getElem? (i := 516) (by decide +kernel)) rfl
theorem ms_X5_soak : Cond.selects RX5 yX5_soak yX5_soak ∈ gw := gw_mem (List.mem_of_getElem? (i := 517) (by decide +kernel)) rfl
theorem mc_X5_soak : Cond.code yX5_soak cX5_soak 1 (some .int) ∈ gw := gw_mem (List.mem_of_getElem? (i := 518) (by decide +kernel)) rfl
theorem mm_L_78 : Cond.methodLink RL 78 yX5_weather ∈ gw := gw_mem (List.mem_of_getElem? (i := 519) (by decide +kernel)) rfl
theorem mi_X5_weather : Cond.instanceMethod yX5_weather ∈ gw := gw_mem (List.mem_of_getElem? (i := 520) (by decide +kernel)) rfl
theorem ms_X5_weather : Cond.selects RX5 yX5_weather yX5_weather ∈ gw := gw_mem (List.mem_of_getElem? (i := 521) (by decide +kernel)) rfl
theorem mc_X5_weather : Cond.code yX5_weather cX5_weather 1 (some .int) ∈ gw := gw_mem (List.mem_of_getElem? (i := 522) (by decide +kernel)) rfl
theorem mm_L_82 : Cond.methodLink RL 82 yX5_knock ∈ gw := gw_mem (List.mem_of_getElem? (i := 523) (by decide +kernel)) rfl
theorem mi_X5_knock : Cond.instanceMethod yX5_knock ∈ gw := gw_mem (List.mem_of_getElem? (i := 524) (by decide +kernel)) rfl
theorem ms_X5_knock : Cond.selects RX5 yX5_knock yX5_knock ∈ gw := gw_mem (List.mem_of_getElem? (i := 525) (by decide +kernel)) rfl
theorem mc_X5_knock : Cond.code yX5_knock cX5_knock 2 (some .int) ∈ gw := gw_mem (List.mem_of_getElem? (i := 526) (by decide +kernel)) rfl
theorem mm_X5_173 : Cond.methodLink RX5 173 yX4_isThere ∈ gw := gw_mem (List.mem_of_getElem? (i := 527) (by decide +kernel)) rfl
theorem mm_L_86 : Cond.methodLink RL 86 yX5_mend ∈ gw := gw_mem (List.mem_of_getElem? (i := 528) (by decide +kernel)) rfl
theorem mi_X5_mend : Cond.instanceMethod yX5_mend ∈ gw := gw_mem (List.mem_of_getElem? (i := 529) (by decide +kernel)) rfl
theorem ms_X5_mend : Cond.selects RX5 yX5_mend yX5_mend ∈ gw := gw_mem (List.mem_of_getElem? (i := 530) (by decide +kernel)) rfl
theorem mc_X5_mend : Cond.code yX5_mend cX5_mend 2 (some .int) ∈ gw := gw_mem (List.mem_of_getElem? (i := 531) (by decide +kernel)) rfl
theorem mm_L_90 : Cond.methodLink RL 90 yX5_undo ∈ gw := gw_mem (List.mem_of_getElem? (i := 532) (by decide +kernel)) rfl
theorem mi_X5_undo : Cond.instanceMethod yX5_undo ∈ gw := gw_mem (List.mem_of_getElem? (i := 533) (by decide +kernel)) rfl
theorem ms_X5_undo : Cond.selects RX5 yX5_undo yX5_undo ∈ gw := gw_mem (List.mem_of_getElem? (i := 534) (by decide +kernel)) rfl
theorem mc_X5_undo : Cond.code yX5_undo cX5_undo 3 (some .int) ∈ gw := gw_mem (List.mem_of_getElem? (i := 535) (by decide +kernel)) rfl
theorem mm_X5_176 : Cond.methodLink RX5 176 yX1_goBack ∈ gw := gw_mem (List.mem_of_getElem? (i := 536) (by decide +kernel)) rfl
theorem mi_X1_goBack : Cond.instanceMethod yX1_goBack ∈ gw := gw_mem (List.mem_of_getElem? (i := 537) (by decide +kernel)) rfl
theorem ms_X1_goBack : Cond.selects RX1 yX1_goBack yX1_goBack ∈ gw := gw_mem (List.mem_of_getElem? (i := 538) (by decide +kernel)) rfl
theorem mc_X1_goBack : Cond.code yX1_goBack cX1_goBack 3 (none) ∈ gw := gw_mem (List.mem_of_getElem? (i := 539) (by decide +kernel)) rfl
theorem mm_L_94 : Cond.methodLink RL 94 yX5_keep ∈ gw := gw_mem (List.mem_of_getElem? (i := 540) (by decide +kernel)) rfl
theorem mi_X5_keep : Cond.instanceMethod yX5_keep ∈ gw := gw_mem (List.mem_of_getElem? (i := 541) (by decide +kernel)) rfl
theorem ms_X5_keep : Cond.selects RX5 yX5_keep yX5_keep ∈ gw := gw_mem (List.mem_of_getElem? (i := 542) (by decide +kernel)) rfl
theorem mc_X5_keep : Cond.code yX5_keep cX5_keep 2 (some .int) ∈ gw := gw_mem (List.mem_of_getElem? (i := 543) (by decide +kernel)) rfl
theorem mm_X5_179 : Cond.methodLink RX5 179 yX1_take ∈ gw := gw_mem (List.mem_of_getElem? (i := 544) (by decide +kernel)) rfl
theorem mi_X1_take : Cond.instanceMethod yX1_take ∈ gw := gw_mem (List.mem_of_getElem? (i := 545) (by decide +kernel)) rfl
theorem ms_X1_take : Cond.selects RX1 yX1_take yX1_take ∈ gw := gw_mem (List.mem_of_getElem? (i := 546) (by decide +kernel)) rfl
theorem mc_X1_take : Cond.code yX1_take cX1_take 2 (none) ∈ gw := gw_mem (List.mem_of_getElem? (i := 547) (by decide +kernel)) rfl
theorem mm_X1_36 : Cond.methodLink RX1 36 arraycopyName ∈ gw := gw_mem (List.mem_of_getElem? (i := 548) (by decide +kernel)) rfl
theorem mm_L_98 : Cond.methodLink RL 98 yX5_on ∈ gw := gw_mem (List.mem_of_getElem? (i := 549) (by decide +kernel)) rfl
theorem mi_X5_on : Cond.instanceMethod yX5_on ∈ gw := gw_mem (List.mem_of_getElem? (i := 550) (by decide +kernel)) rfl
theorem ms_X5_on : Cond.selects RX5 yX5_on yX5_on ∈ gw := gw_mem (List.mem_of_getElem? (i := 551) (by decide +kernel)) rfl
theorem mc_X5_on : Cond.code yX5_on cX5_on 2 (some .int) ∈ gw := gw_mem (List.mem_of_getElem? (i := 552) (by decide +kernel)) rfl
theorem mm_L_102 : Cond.methodLink RL 102 yX5_goes ∈ gw := gw_mem (List.mem_of_getElem? (i := 553) (by decide +kernel)) rfl
theorem mi_X5_goes : Cond.instanceMethod yX5_goes ∈ gw := gw_mem (List.mem_of_getElem? (i := 554) (by decide +kernel)) rfl
theorem ms_X5_goes : Cond.selects RX5 yX5_goes yX5_goes ∈ gw := gw_mem (List.mem_of_getElem? (i := 555) (by decide +kernel)) rfl
theorem mc_X5_goes : Cond.code yX5_goes cX5_goes 2 (some .int) ∈ gw := gw_mem (List.mem_of_getElem? (i := 556) (by decide +kernel)) rfl
theorem mm_X5_183 : Cond.methodLink RX5 183 yX0_rutBehind ∈ gw := gw_mem (List.mem_of_getElem? (i := 557) (by decide +kernel)) rfl
theorem mi_X0_rutBehind : Cond.instanceMethod yX0_rutBehind ∈ gw := gw_mem (List.mem_of_getElem? (i := 558) (by decide +kernel)) rfl
theorem ms_X0_rutBehind : Cond.selects RX0 yX0_rutBehind yX0_rutBehind ∈ gw := gw_mem (List.mem_of_getElem? (i := 559) (by decide +kernel)) rfl
theorem mc_X0_rutBehind : Cond.code yX0_rutBehind cX0_rutBehind 2 (some .int) ∈ gw := gw_mem (List.mem_of_getElem? (i := 560) (by decide +kernel)) rfl
theorem mm_X0_21 : Cond.methodLink RX0 21 yX4_take ∈ gw := gw_mem (List.mem_of_getElem? (i := 561) (by decide +kernel)) rfl
theorem mm_X0_25 : Cond.methodLink RX0 25 yX4_rollFar ∈ gw := gw_mem (List.mem_of_getElem? (i := 562) (by decide +kernel)) rfl
theorem mi_X4_rollFar : Cond.instanceMethod yX4_rollFar ∈ gw := gw_mem (List.mem_of_getElem? (i := 563) (by decide +kernel)) rfl
theorem ms_X4_rollFar : Cond.selects RX4 yX4_rollFar yX4_rollFar ∈ gw := gw_mem (List.mem_of_getElem? (i := 564) (by decide +kernel)) rfl
theorem mc_X4_rollFar : Cond.code yX4_rollFar cX4_rollFar 4 (some .int) ∈ gw := gw_mem (List.mem_of_getElem? (i := 565) (by decide +kernel)) rfl
theorem mm_X4_108 : Cond.methodLink RX4 108 yX4_isOver ∈ gw := gw_mem (List.mem_of_getElem? (i := 566) (by decide +kernel)) rfl
theorem mm_X5_186 : Cond.methodLink RX5 186 yX5_tellBeside ∈ gw := gw_mem (List.mem_of_getElem? (i := 567) (by decide +kernel)) rfl
theorem mi_X5_tellBeside : Cond.instanceMethod yX5_tellBeside ∈ gw := gw_mem (List.mem_of_getElem? (i := 569) (by decide +kernel)) rfl
theorem mc_X5_tellBeside : Cond.code yX5_tellBeside cX5_tellBeside 2 (some .int) ∈ gw := gw_mem (List.mem_of_getElem? (i := 570) (by decide +kernel)) rfl
theorem mm_L_106 : Cond.methodLink RL 106 yX5_over ∈ gw := gw_mem (List.mem_of_getElem? (i := 571) (by decide +kernel)) rfl
theorem mi_X5_over : Cond.instanceMethod yX5_over ∈ gw := gw_mem (List.mem_of_getElem? (i := 572) (by decide +kernel)) rfl
theorem ms_X5_over : Cond.selects RX5 yX5_over yX5_over ∈ gw := gw_mem (List.mem_of_getElem? (i := 573) (by decide +kernel)) rfl
theorem mc_X5_over : Cond.code yX5_over cX5_over 1 (some .int) ∈ gw := gw_mem (List.mem_of_getElem? (i := 574) (by decide +kernel)) rfl
theorem mm_X5_189 : Cond.methodLink RX5 189 yX0_rutOver ∈ gw := gw_mem (List.mem_of_getElem? (i := 575) (by decide +kernel)) rfl
theorem mi_X0_rutOver : Cond.instanceMethod yX0_rutOver ∈ gw := gw_mem (List.mem_of_getElem? (i := 576) (by decide +kernel)) rfl
theorem ms_X0_rutOver : Cond.selects RX0 yX0_rutOver yX0_rutOver ∈ gw := gw_mem (List.mem_of_getElem? (i := 577) (by decide +kernel)) rfl
theorem mc_X0_rutOver : Cond.code yX0_rutOver cX0_rutOver 1 (some .int) ∈ gw := gw_mem (List.mem_of_getElem? (i := 578) (by decide +kernel)) rfl
theorem mm_X0_36 : Cond.methodLink RX0 36 yX4_isOver ∈ gw := gw_mem (List.mem_of_getElem? (i := 579) (by decide +kernel)) rfl
theorem mm_X0_40 : Cond.methodLink RX0 40 yX4_goneOnes ∈ gw := gw_mem (List.mem_of_getElem? (i := 580) (by decide +kernel)) rfl
theorem mm_L_110 : Cond.methodLink RL 110 yX5_limps ∈ gw := gw_mem (List.mem_of_getElem? (i := 581) (by decide +kernel)) rfl
theorem mi_X5_limps : Cond.instanceMethod yX5_limps ∈ gw := gw_mem (List.mem_of_getElem? (i := 582) (by decide +kernel)) rfl
theorem ms_X5_limps : Cond.selects RX5 yX5_limps yX5_limps ∈ gw := gw_mem (List.mem_of_getElem? (i := 583) (by decide +kernel)) rfl
theorem mc_X5_limps : Cond.code yX5_limps cX5_limps 3 (some .int) ∈ gw := gw_mem (List.mem_of_getElem? (i := 584) (by decide +kernel)) rfl
theorem mm_X5_197 : Cond.methodLink RX5 197 yX0_writeLimps ∈ gw := gw_mem (List.mem_of_getElem? (i := 585) (by decide +kernel)) rfl
theorem mi_X0_writeLimps : Cond.instanceMethod yX0_writeLimps ∈ gw := gw_mem (List.mem_of_getElem? (i := 586) (by decide +kernel)) rfl
theorem ms_X0_writeLimps : Cond.selects RX0 yX0_writeLimps yX0_writeLimps ∈ gw := gw_mem (List.mem_of_getElem? (i := 587) (by decide +kernel)) rfl
theorem mc_X0_writeLimps : Cond.code yX0_writeLimps cX0_writeLimps 5 (some .int) ∈ gw := gw_mem (List.mem_of_getElem? (i := 588) (by decide +kernel)) rfl
theorem mm_X0_44 : Cond.methodLink RX0 44 yX4_roll ∈ gw := gw_mem (List.mem_of_getElem? (i := 589) (by decide +kernel)) rfl
theorem mm_L_114 : Cond.methodLink RL 114 yX5_gate ∈ gw := gw_mem (List.mem_of_getElem? (i := 590) (by decide +kernel)) rfl
theorem mi_X5_gate : Cond.instanceMethod yX5_gate ∈ gw := gw_mem (List.mem_of_getElem? (i := 591) (by decide +kernel)) rfl
theorem ms_X5_gate : Cond.selects RX5 yX5_gate yX5_gate ∈ gw := gw_mem (List.mem_of_getElem? (i := 592) (by decide +kernel)) rfl
theorem mc_X5_gate : Cond.code yX5_gate cX5_gate 1 (some .int) ∈ gw := gw_mem (List.mem_of_getElem? (i := 593) (by decide +kernel)) rfl
theorem mm_X5_200 : Cond.methodLink RX5 200 yX0_fewestToGate ∈ gw := gw_mem (List.mem_of_getElem? (i := 594) (by decide +kernel)) rfl
theorem mi_X0_fewestToGate : Cond.instanceMethod yX0_fewestToGate ∈ gw := gw_mem (List.mem_of_getElem? (i := 595) (by decide +kernel)) rfl
theorem ms_X0_fewestToGate : Cond.selects RX0 yX0_fewestToGate yX0_fewestToGate ∈ gw := gw_mem (List.mem_of_getElem? (i := 596) (by decide +kernel)) rfl
theorem mc_X0_fewestToGate : Cond.code yX0_fewestToGate cX0_fewestToGate 4 (some .int) ∈ gw := gw_mem (List.mem_of_getElem? (i := 597) (by decide +kernel)) rfl
theorem mm_X0_50 : Cond.methodLink RX0 50 yJ6_bitCount_0f7a4 ∈ gw := gw_mem (List.mem_of_getElem? (i := 598) (by decide +kernel)) rfl
theorem mt_J6_bitCount_0f7a4 : Cond.static yJ6_bitCount_0f7a4 ∈ gw := gw_mem (List.mem_of_getElem? (i := 599) (by decide +kernel)) rfl
theorem mc_J6_bitCount_0f7a4 : Cond.code yJ6_bitCount_0f7a4 cJ6_bitCount_0f7a4 1 (some .int) ∈ gw := gw_mem (List.mem_of_getElem? (i := 600) (by decide +kernel)) rfl
theorem mk_J6_265 : Cond.constant RJ6 265 (1431655765) ∈ gw := gw_mem (List.mem_of_getElem? (i := 601) (by decide +kernel)) rfl
theorem mk_J6_266 : Cond.constant RJ6 266 (858993459) ∈ gw := gw_mem (List.mem_of_getElem? (i := 602) (by decide +kernel)) rfl
theorem mk_J6_267 : Cond.constant RJ6 267 (252645135) ∈ gw := gw_mem (List.mem_of_getElem? (i := 603) (by decide +kernel)) rfl
theorem mm_X0_55 : Cond.methodLink RX0 55 yX0_reachesGateWith ∈ gw := gw_mem (List.mem_of_getElem? (i := 604) (by decide +kernel)) rfl
theorem mi_X0_reachesGateWith : Cond.instanceMethod yX0_reachesGateWith ∈ gw := gw_mem (List.mem_of_getElem? (i := 606) (by decide +kernel)) rfl
theorem mc_X0_reachesGateWith : Cond.code yX0_reachesGateWith cX0_reachesGateWith 2 (some .boolean) ∈ gw := gw_mem (List.mem_of_getElem? (i := 607) (by decide +kernel)) rfl
theorem mm_X0_59 : Cond.methodLink RX0 59 yX4_putInAll ∈ gw := gw_mem (List.mem_of_getElem? (i := 608) (by decide +kernel)) rfl
theorem mi_X4_putInAll : Cond.instanceMethod yX4_putInAll ∈ gw := gw_mem (List.mem_of_getElem? (i := 609) (by decide +kernel)) rfl
theorem ms_X4_putInAll : Cond.selects RX4 yX4_putInAll yX4_putInAll ∈ gw := gw_mem (List.mem_of_getElem? (i := 610) (by decide +kernel)) rfl
theorem mc_X4_putInAll : Cond.code yX4_putInAll cX4_putInAll 3 (none) ∈ gw := gw_mem (List.mem_of_getElem? (i := 611) (by decide +kernel)) rfl
theorem mm_X0_63 : Cond.methodLink RX0 63 yX4_reachesGate ∈ gw := gw_mem (List.mem_of_getElem? (i := 612) (by decide +kernel)) rfl
theorem mi_X4_reachesGate : Cond.instanceMethod yX4_reachesGate ∈ gw := gw_mem (List.mem_of_getElem? (i := 613) (by decide +kernel)) rfl
theorem ms_X4_reachesGate : Cond.selects RX4 yX4_reachesGate yX4_reachesGate ∈ gw := gw_mem (List.mem_of_getElem? (i := 614) (by decide +kernel)) rfl
theorem mc_X4_reachesGate : Cond.code yX4_reachesGate cX4_reachesGate 2 (some .boolean) ∈ gw := gw_mem (List.mem_of_getElem? (i := 615) (by decide +kernel)) rfl
theorem mm_L_118 : Cond.methodLink RL 118 yX5_turned ∈ gw := gw_mem (List.mem_of_getElem? (i := 616) (by decide +kernel)) rfl
theorem mi_X5_turned : Cond.instanceMethod yX5_turned ∈ gw := gw_mem (List.mem_of_getElem? (i := 617) (by decide +kernel)) rfl
theorem ms_X5_turned : Cond.selects RX5 yX5_turned yX5_turned ∈ gw := gw_mem (List.mem_of_getElem? (i := 618) (by decide +kernel)) rfl
theorem mc_X5_turned : Cond.code yX5_turned cX5_turned 1 (some .int) ∈ gw := gw_mem (List.mem_of_getElem? (i := 619) (by decide +kernel)) rfl
theorem mm_X5_203 : Cond.methodLink RX5 203 yX0_bestStand ∈ gw := gw_mem (List.mem_of_getElem? (i := 620) (by decide +kernel)) rfl
theorem mi_X0_bestStand : Cond.instanceMethod yX0_bestStand ∈ gw := gw_mem (List.mem_of_getElem? (i := 621) (by decide +kernel)) rfl
theorem ms_X0_bestStand : Cond.selects RX0 yX0_bestStand yX0_bestStand ∈ gw := gw_mem (List.mem_of_getElem? (i := 622) (by decide +kernel)) rfl
theorem mc_X0_bestStand : Cond.code yX0_bestStand cX0_bestStand 4 (some .int) ∈ gw := gw_mem (List.mem_of_getElem? (i := 623) (by decide +kernel)) rfl
theorem mm_X0_69 : Cond.methodLink RX0 69 yX4_limpsIn ∈ gw := gw_mem (List.mem_of_getElem? (i := 624) (by decide +kernel)) rfl
theorem mi_X4_limpsIn : Cond.instanceMethod yX4_limpsIn ∈ gw := gw_mem (List.mem_of_getElem? (i := 625) (by decide +kernel)) rfl
theorem ms_X4_limpsIn : Cond.selects RX4 yX4_limpsIn yX4_limpsIn ∈ gw := gw_mem (List.mem_of_getElem? (i := 626) (by decide +kernel)) rfl
theorem mc_X4_limpsIn : Cond.code yX4_limpsIn cX4_limpsIn 4 (some .int) ∈ gw := gw_mem (List.mem_of_getElem? (i := 627) (by decide +kernel)) rfl
theorem mm_L_122 : Cond.methodLink RL 122 yX5_change ∈ gw := gw_mem (List.mem_of_getElem? (i := 628) (by decide +kernel)) rfl
theorem mi_X5_change : Cond.instanceMethod yX5_change ∈ gw := gw_mem (List.mem_of_getElem? (i := 629) (by decide +kernel)) rfl
theorem ms_X5_change : Cond.selects RX5 yX5_change yX5_change ∈ gw := gw_mem (List.mem_of_getElem? (i := 630) (by decide +kernel)) rfl
theorem mc_X5_change : Cond.code yX5_change cX5_change 1 (some .int) ∈ gw := gw_mem (List.mem_of_getElem? (i := 631) (by decide +kernel)) rfl
theorem mm_X5_206 : Cond.methodLink RX5 206 yX0_bestChange ∈ gw := gw_mem (List.mem_of_getElem? (i := 632) (by decide +kernel)) rfl
theorem mi_X0_bestChange : Cond.instanceMethod yX0_bestChange ∈ gw := gw_mem (List.mem_of_getElem? (i := 633) (by decide +kernel)) rfl
theorem ms_X0_bestChange : Cond.selects RX0 yX0_bestChange yX0_bestChange ∈ gw := gw_mem (List.mem_of_getElem? (i := 634) (by decide +kernel)) rfl
theorem mc_X0_bestChange : Cond.code yX0_bestChange cX0_bestChange 5 (some .int) ∈ gw := gw_mem (List.mem_of_getElem? (i := 635) (by decide +kernel)) rfl
theorem mm_X0_72 : Cond.methodLink RX0 72 yX4_changeRound ∈ gw := gw_mem (List.mem_of_getElem? (i := 636) (by decide +kernel)) rfl
theorem mi_X4_changeRound : Cond.instanceMethod yX4_changeRound ∈ gw := gw_mem (List.mem_of_getElem? (i := 637) (by decide +kernel)) rfl
theorem ms_X4_changeRound : Cond.selects RX4 yX4_changeRound yX4_changeRound ∈ gw := gw_mem (List.mem_of_getElem? (i := 638) (by decide +kernel)) rfl
theorem mc_X4_changeRound : Cond.code yX4_changeRound cX4_changeRound 3 (none) ∈ gw := gw_mem (List.mem_of_getElem? (i := 639) (by decide +kernel)) rfl
theorem mm_X4_104 : Cond.methodLink RX4 104 yX4_swap ∈ gw := gw_mem (List.mem_of_getElem? (i := 640) (by decide +kernel)) rfl
theorem mt_X4_swap : Cond.static yX4_swap ∈ gw := gw_mem (List.mem_of_getElem? (i := 641) (by decide +kernel)) rfl
theorem mc_X4_swap : Cond.code yX4_swap cX4_swap 4 (none) ∈ gw := gw_mem (List.mem_of_getElem? (i := 642) (by decide +kernel)) rfl
theorem mm_L_126 : Cond.methodLink RL 126 yX5_gone ∈ gw := gw_mem (List.mem_of_getElem? (i := 643) (by decide +kernel)) rfl
theorem mi_X5_gone : Cond.instanceMethod yX5_gone ∈ gw := gw_mem (List.mem_of_getElem? (i := 644) (by decide +kernel)) rfl
theorem ms_X5_gone : Cond.selects RX5 yX5_gone yX5_gone ∈ gw := gw_mem (List.mem_of_getElem? (i := 645) (by decide +kernel)) rfl
theorem mc_X5_gone : Cond.code yX5_gone cX5_gone 3 (some .int) ∈ gw := gw_mem (List.mem_of_getElem? (i := 646) (by decide +kernel)) rfl
theorem mm_X5_209 : Cond.methodLink RX5 209 yX5_refuseLimps ∈ gw := gw_mem (List.mem_of_getElem? (i := 647) (by decide +kernel)) rfl
theorem mi_X5_refuseLimps : Cond.instanceMethod yX5_refuseLimps ∈ gw := gw_mem (List.mem_of_getElem? (i := 649) (by decide +kernel)) rfl
theorem mc_X5_refuseLimps : Cond.code yX5_refuseLimps cX5_refuseLimps 2 (some .int) ∈ gw := gw_mem (List.mem_of_getElem? (i := 650) (by decide +kernel)) rfl
theorem mm_X5_281 : Cond.methodLink RX5 281 yX3_holdsBits ∈ gw := gw_mem (List.mem_of_getElem? (i := 651) (by decide +kernel)) rfl
theorem mi_X3_holdsBits : Cond.instanceMethod yX3_holdsBits ∈ gw := gw_mem (List.mem_of_getElem? (i := 652) (by decide +kernel)) rfl
theorem ms_X3_holdsBits : Cond.selects RX3 yX3_holdsBits yX3_holdsBits ∈ gw := gw_mem (List.mem_of_getElem? (i := 653) (by decide +kernel)) rfl
theorem mc_X3_holdsBits : Cond.code yX3_holdsBits cX3_holdsBits 3 (some .boolean) ∈ gw := gw_mem (List.mem_of_getElem? (i := 654) (by decide +kernel)) rfl
theorem mm_X5_212 : Cond.methodLink RX5 212 yX0_goneSets ∈ gw := gw_mem (List.mem_of_getElem? (i := 655) (by decide +kernel)) rfl
theorem mi_X0_goneSets : Cond.instanceMethod yX0_goneSets ∈ gw := gw_mem (List.mem_of_getElem? (i := 656) (by decide +kernel)) rfl
theorem ms_X0_goneSets : Cond.selects RX0 yX0_goneSets yX0_goneSets ∈ gw := gw_mem (List.mem_of_getElem? (i := 657) (by decide +kernel)) rfl
theorem mc_X0_goneSets : Cond.code yX0_goneSets cX0_goneSets 6 (some .int) ∈ gw := gw_mem (List.mem_of_getElem? (i := 658) (by decide +kernel)) rfl
theorem mm_X0_79 : Cond.methodLink RX0 79 yX4_limpsAs ∈ gw := gw_mem (List.mem_of_getElem? (i := 659) (by decide +kernel)) rfl
theorem mi_X4_limpsAs : Cond.instanceMethod yX4_limpsAs ∈ gw := gw_mem (List.mem_of_getElem? (i := 660) (by decide +kernel)) rfl
theorem ms_X4_limpsAs : Cond.selects RX4 yX4_limpsAs yX4_limpsAs ∈ gw := gw_mem (List.mem_of_getElem? (i := 661) (by decide +kernel)) rfl
theorem mc_X4_limpsAs : Cond.code yX4_limpsAs cX4_limpsAs 5 (some .boolean) ∈ gw := gw_mem (List.mem_of_getElem? (i := 662) (by decide +kernel)) rfl
theorem mm_L_130 : Cond.methodLink RL 130 yX5_strengths ∈ gw := gw_mem (List.mem_of_getElem? (i := 663) (by decide +kernel)) rfl
theorem mi_X5_strengths : Cond.instanceMethod yX5_strengths ∈ gw := gw_mem (List.mem_of_getElem? (i := 664) (by decide +kernel)) rfl
theorem ms_X5_strengths : Cond.selects RX5 yX5_strengths yX5_strengths ∈ gw := gw_mem (List.mem_of_getElem? (i := 665) (by decide +kernel)) rfl
theorem mc_X5_strengths : Cond.code yX5_strengths cX5_strengths 4 (some .int) ∈ gw := gw_mem (List.mem_of_getElem? (i := 666) (by decide +kernel)) rfl
theorem mm_X5_215 : Cond.methodLink RX5 215 yX5_refuseGuess ∈ gw := gw_mem (List.mem_of_getElem? (i := 667) (by decide +kernel)) rfl
theorem mi_X5_refuseGuess : Cond.instanceMethod yX5_refuseGuess ∈ gw := gw_mem (List.mem_of_getElem? (i := 669) (by decide +kernel)) rfl
theorem mc_X5_refuseGuess : Cond.code yX5_refuseGuess cX5_refuseGuess 3 (some .int) ∈ gw := gw_mem (List.mem_of_getElem? (i := 670) (by decide +kernel)) rfl
theorem mm_X5_218 : Cond.methodLink RX5 218 yX0_likelyStrengths ∈ gw := gw_mem (List.mem_of_getElem? (i := 671) (by decide +kernel)) rfl
theorem mi_X0_likelyStrengths : Cond.instanceMethod yX0_likelyStrengths ∈ gw := gw_mem (List.mem_of_getElem? (i := 672) (by decide +kernel)) rfl
theorem ms_X0_likelyStrengths : Cond.selects RX0 yX0_likelyStrengths yX0_likelyStrengths ∈ gw := gw_mem (List.mem_of_getElem? (i := 673) (by decide +kernel)) rfl
theorem mc_X0_likelyStrengths : Cond.code yX0_likelyStrengths cX0_likelyStrengths 6 (some .int) ∈ gw := gw_mem (List.mem_of_getElem? (i := 674) (by decide +kernel)) rfl
theorem mm_L_134 : Cond.methodLink RL 134 yX5_kinds ∈ gw := gw_mem (List.mem_of_getElem? (i := 675) (by decide +kernel)) rfl
theorem mi_X5_kinds : Cond.instanceMethod yX5_kinds ∈ gw := gw_mem (List.mem_of_getElem? (i := 676) (by decide +kernel)) rfl
theorem ms_X5_kinds : Cond.selects RX5 yX5_kinds yX5_kinds ∈ gw := gw_mem (List.mem_of_getElem? (i := 677) (by decide +kernel)) rfl
theorem mc_X5_kinds : Cond.code yX5_kinds cX5_kinds 4 (some .int) ∈ gw := gw_mem (List.mem_of_getElem? (i := 678) (by decide +kernel)) rfl
theorem mm_X5_222 : Cond.methodLink RX5 222 yX0_likelyKinds ∈ gw := gw_mem (List.mem_of_getElem? (i := 679) (by decide +kernel)) rfl
theorem mi_X0_likelyKinds : Cond.instanceMethod yX0_likelyKinds ∈ gw := gw_mem (List.mem_of_getElem? (i := 680) (by decide +kernel)) rfl
theorem ms_X0_likelyKinds : Cond.selects RX0 yX0_likelyKinds yX0_likelyKinds ∈ gw := gw_mem (List.mem_of_getElem? (i := 681) (by decide +kernel)) rfl
theorem mc_X0_likelyKinds : Cond.code yX0_likelyKinds cX0_likelyKinds 6 (some .int) ∈ gw := gw_mem (List.mem_of_getElem? (i := 682) (by decide +kernel)) rfl
theorem mm_L_138 : Cond.methodLink RL 138 yX5_look ∈ gw := gw_mem (List.mem_of_getElem? (i := 683) (by decide +kernel)) rfl
theorem mi_X5_look : Cond.instanceMethod yX5_look ∈ gw := gw_mem (List.mem_of_getElem? (i := 684) (by decide +kernel)) rfl
theorem ms_X5_look : Cond.selects RX5 yX5_look yX5_look ∈ gw := gw_mem (List.mem_of_getElem? (i := 685) (by decide +kernel)) rfl
theorem mc_X5_look : Cond.code yX5_look cX5_look 2 (some .int) ∈ gw := gw_mem (List.mem_of_getElem? (i := 686) (by decide +kernel)) rfl
theorem mm_X5_225 : Cond.methodLink RX5 225 yX0_bestDepth ∈ gw := gw_mem (List.mem_of_getElem? (i := 687) (by decide +kernel)) rfl
theorem mi_X0_bestDepth : Cond.instanceMethod yX0_bestDepth ∈ gw := gw_mem (List.mem_of_getElem? (i := 688) (by decide +kernel)) rfl
theorem ms_X0_bestDepth : Cond.selects RX0 yX0_bestDepth yX0_bestDepth ∈ gw := gw_mem (List.mem_of_getElem? (i := 689) (by decide +kernel)) rfl
theorem mc_X0_bestDepth : Cond.code yX0_bestDepth cX0_bestDepth 6 (some .int) ∈ gw := gw_mem (List.mem_of_getElem? (i := 690) (by decide +kernel)) rfl
theorem mm_X0_90 : Cond.methodLink RX0 90 yX0_kindsBearing ∈ gw := gw_mem (List.mem_of_getElem? (i := 691) (by decide +kernel)) rfl
theorem mi_X0_kindsBearing : Cond.instanceMethod yX0_kindsBearing ∈ gw := gw_mem (List.mem_of_getElem? (i := 693) (by decide +kernel)) rfl
theorem mc_X0_kindsBearing : Cond.code yX0_kindsBearing cX0_kindsBearing 5 (some .int) ∈ gw := gw_mem (List.mem_of_getElem? (i := 694) (by decide +kernel)) rfl
theorem mm_X0_106 : Cond.methodLinkNest RX0 106 yX5_bearing "WheelWeeks" ∈ lw_tbl := List.mem_of_getElem? (i := 695) (by decide +kernel)
theorem mm_X0_94 : Cond.methodLink RX0 94 yJ9_max_7cf53 ∈ gw := gw_mem (List.mem_of_getElem? (i := 696) (by decide +kernel)) rfl
theorem mm_L_142 : Cond.methodLink RL 142 yX5_duel ∈ gw := gw_mem (List.mem_of_getElem? (i := 697) (by decide +kernel)) rfl
theorem mi_X5_duel : Cond.instanceMethod yX5_duel ∈ gw := gw_mem (List.mem_of_getElem? (i := 698) (by decide +kernel)) rfl
theorem ms_X5_duel : Cond.selects RX5 yX5_duel yX5_duel ∈ gw := gw_mem (List.mem_of_getElem? (i := 699) (by decide +kernel)) rfl
theorem mc_X5_duel : Cond.code yX5_duel cX5_duel 2 (some .int) ∈ gw := gw_mem (List.mem_of_getElem? (i := 700) (by decide +kernel)) rfl
theorem mm_X5_231 : Cond.methodLinkNest RX5 231 yX0_fight "WheelWeeks" ∈ lw_tbl := List.mem_of_getElem? (i := 701) (by decide +kernel)
theorem mi_X0_fight : Cond.instanceMethod yX0_fight ∈ gw := gw_mem (List.mem_of_getElem? (i := 703) (by decide +kernel)) rfl
theorem mc_X0_fight : Cond.code yX0_fight cX0_fight 13 (some .int) ∈ gw := gw_mem (List.mem_of_getElem? (i := 704) (by decide +kernel)) rfl
theorem mm_X0_110 : Cond.methodLink RX0 110 yX0_limpsWith ∈ gw := gw_mem (List.mem_of_getElem? (i := 705) (by decide +kernel)) rfl
theorem mi_X0_limpsWith : Cond.instanceMethod yX0_limpsWith ∈ gw := gw_mem (List.mem_of_getElem? (i := 707) (by decide +kernel)) rfl
theorem mc_X0_limpsWith : Cond.code yX0_limpsWith cX0_limpsWith 3 (some .int) ∈ gw := gw_mem (List.mem_of_getElem? (i := 708) (by decide +kernel)) rfl
theorem mm_X0_113 : Cond.methodLink RX0 113 yX0_fight ∈ gw := gw_mem (List.mem_of_getElem? (i := 709) (by decide +kernel)) rfl
theorem mm_X0_117 : Cond.methodLink RX0 117 yJ9_min_7cf53 ∈ gw := gw_mem (List.mem_of_getElem? (i := 710) (by decide +kernel)) rfl
theorem mm_L_146 : Cond.methodLink RL 146 yX5_odds ∈ gw := gw_mem (List.mem_of_getElem? (i := 711) (by decide +kernel)) rfl
theorem mi_X5_odds : Cond.instanceMethod yX5_odds ∈ gw := gw_mem (List.mem_of_getElem? (i := 712) (by decide +kernel)) rfl
theorem ms_X5_odds : Cond.selects RX5 yX5_odds yX5_odds ∈ gw := gw_mem (List.mem_of_getElem? (i := 713) (by decide +kernel)) rfl
theorem mc_X5_odds : Cond.code yX5_odds cX5_odds 3 (some .int) ∈ gw := gw_mem (List.mem_of_getElem? (i := 714) (by decide +kernel)) rfl
theorem mm_X5_235 : Cond.methodLink RX5 235 yX0_waysUpTo ∈ gw := gw_mem (List.mem_of_getElem? (i := 715) (by decide +kernel)) rfl
theorem mi_X0_waysUpTo : Cond.instanceMethod yX0_waysUpTo ∈ gw := gw_mem (List.mem_of_getElem? (i := 716) (by decide +kernel)) rfl
theorem ms_X0_waysUpTo : Cond.selects RX0 yX0_waysUpTo yX0_waysUpTo ∈ gw := gw_mem (List.mem_of_getElem? (i := 717) (by decide +kernel)) rfl
theorem mc_X0_waysUpTo : Cond.code yX0_waysUpTo cX0_waysUpTo 8 (some .long) ∈ gw := gw_mem (List.mem_of_getElem? (i := 718) (by decide +kernel)) rfl
theorem mm_X0_120 : Cond.methodLink RX0 120 yX0_waysToLose ∈ gw := gw_mem (List.mem_of_getElem? (i := 719) (by decide +kernel)) rfl
theorem mi_X0_waysToLose : Cond.instanceMethod yX0_waysToLose ∈ gw := gw_mem (List.mem_of_getElem? (i := 721) (by decide +kernel)) rfl
theorem mc_X0_waysToLose : Cond.code yX0_waysToLose cX0_waysToLose 5 (some .long) ∈ gw := gw_mem (List.mem_of_getElem? (i := 722) (by decide +kernel)) rfl
theorem mm_X0_124 : Cond.methodLinkNest RX0 124 yX5_power "WheelWeeks" ∈ lw_tbl := List.mem_of_getElem? (i := 723) (by decide +kernel)
theorem mt_X5_power : Cond.static yX5_power ∈ gw := gw_mem (List.mem_of_getElem? (i := 724) (by decide +kernel)) rfl
theorem mc_X5_power : Cond.code yX5_power cX5_power 6 (some .long) ∈ gw := gw_mem (List.mem_of_getElem? (i := 725) (by decide +kernel)) rfl
theorem mm_X5_239 : Cond.methodLink RX5 239 yX5_tellShare ∈ gw := gw_mem (List.mem_of_getElem? (i := 726) (by decide +kernel)) rfl
theorem mi_X5_tellShare : Cond.instanceMethod yX5_tellShare ∈ gw := gw_mem (List.mem_of_getElem? (i := 728) (by decide +kernel)) rfl
theorem mc_X5_tellShare : Cond.code yX5_tellShare cX5_tellShare 7 (some .int) ∈ gw := gw_mem (List.mem_of_getElem? (i := 729) (by decide +kernel)) rfl
theorem mk_X5_290 : Cond.constantLong RX5 290 (12) ∈ gw := gw_mem (List.mem_of_getElem? (i := 730) (by decide +kernel)) rfl
theorem mm_X5_292 : Cond.methodLink RX5 292 yJ6_bitCount_0f7a4 ∈ gw := gw_mem (List.mem_of_getElem? (i := 731) (by decide +kernel)) rfl
theorem mm_X5_297 : Cond.methodLink RX5 297 yX5_power ∈ gw := gw_mem (List.mem_of_getElem? (i := 732) (by decide +kernel)) rfl
theorem mm_X5_301 : Cond.methodLink RX5 301 yX5_commonDivisor ∈ gw := gw_mem (List.mem_of_getElem? (i := 733) (by decide +kernel)) rfl
theorem mt_X5_commonDivisor : Cond.static yX5_commonDivisor ∈ gw := gw_mem (List.mem_of_getElem? (i := 734) (by decide +kernel)) rfl
theorem mc_X5_commonDivisor : Cond.code yX5_commonDivisor cX5_commonDivisor 11 (some .long) ∈ gw := gw_mem (List.mem_of_getElem? (i := 735) (by decide +kernel)) rfl
theorem mm_L_150 : Cond.methodLink RL 150 yX5_mid ∈ gw := gw_mem (List.mem_of_getElem? (i := 736) (by decide +kernel)) rfl
theorem mi_X5_mid : Cond.instanceMethod yX5_mid ∈ gw := gw_mem (List.mem_of_getElem? (i := 737) (by decide +kernel)) rfl
theorem ms_X5_mid : Cond.selects RX5 yX5_mid yX5_mid ∈ gw := gw_mem (List.mem_of_getElem? (i := 738) (by decide +kernel)) rfl
theorem mc_X5_mid : Cond.code yX5_mid cX5_mid 2 (some .int) ∈ gw := gw_mem (List.mem_of_getElem? (i := 739) (by decide +kernel)) rfl
theorem mm_X5_243 : Cond.methodLink RX5 243 yX0_limpsOverWays ∈ gw := gw_mem (List.mem_of_getElem? (i := 740) (by decide +kernel)) rfl
theorem mi_X0_limpsOverWays : Cond.instanceMethod yX0_limpsOverWays ∈ gw := gw_mem (List.mem_of_getElem? (i := 741) (by decide +kernel)) rfl
theorem ms_X0_limpsOverWays : Cond.selects RX0 yX0_limpsOverWays yX0_limpsOverWays ∈ gw := gw_mem (List.mem_of_getElem? (i := 742) (by decide +kernel)) rfl
theorem mc_X0_limpsOverWays : Cond.code yX0_limpsOverWays cX0_limpsOverWays 7 (some .long) ∈ gw := gw_mem (List.mem_of_getElem? (i := 743) (by decide +kernel)) rfl
theorem mm_L_154 : Cond.methodLink RL 154 yX5_lots ∈ gw := gw_mem (List.mem_of_getElem? (i := 744) (by decide +kernel)) rfl
theorem mi_X5_lots : Cond.instanceMethod yX5_lots ∈ gw := gw_mem (List.mem_of_getElem? (i := 745) (by decide +kernel)) rfl
theorem ms_X5_lots : Cond.selects RX5 yX5_lots yX5_lots ∈ gw := gw_mem (List.mem_of_getElem? (i := 746) (by decide +kernel)) rfl
theorem mc_X5_lots : Cond.code yX5_lots cX5_lots 6 (some .int) ∈ gw := gw_mem (List.mem_of_getElem? (i := 747) (by decide +kernel)) rfl
theorem mk_X5_246 : Cond.constantLong RX5 246 (2147483647) ∈ gw := gw_mem (List.mem_of_getElem? (i := 748) (by decide +kernel)) rfl
theorem mk_X5_248 : Cond.constantLong RX5 248 (48271) ∈ gw := gw_mem (List.mem_of_getElem? (i := 749) (by decide +kernel)) rfl
theorem mm_X5_250 : Cond.methodLink RX5 250 yX5_doLot ∈ gw := gw_mem (List.mem_of_getElem? (i := 750) (by decide +kernel)) rfl
theorem mi_X5_doLot : Cond.instanceMethod yX5_doLot ∈ gw := gw_mem (List.mem_of_getElem? (i := 752) (by decide +kernel)) rfl
theorem mc_X5_doLot : Cond.code yX5_doLot cX5_doLot 5 (none) ∈ gw := gw_mem (List.mem_of_getElem? (i := 753) (by decide +kernel)) rfl
theorem mk_X5_308 : Cond.constantLong RX5 308 (6) ∈ gw := gw_mem (List.mem_of_getElem? (i := 754) (by decide +kernel)) rfl
theorem mk_X5_315 : Cond.constantLong RX5 315 (8) ∈ gw := gw_mem (List.mem_of_getElem? (i := 755) (by decide +kernel)) rfl
theorem mm_L_158 : Cond.methodLink RL 158 yX5_asked ∈ gw := gw_mem (List.mem_of_getElem? (i := 756) (by decide +kernel)) rfl
theorem mi_X5_asked : Cond.instanceMethod yX5_asked ∈ gw := gw_mem (List.mem_of_getElem? (i := 757) (by decide +kernel)) rfl
theorem ms_X5_asked : Cond.selects RX5 yX5_asked yX5_asked ∈ gw := gw_mem (List.mem_of_getElem? (i := 758) (by decide +kernel)) rfl
theorem mc_X5_asked : Cond.code yX5_asked cX5_asked 1 (some .int) ∈ gw := gw_mem (List.mem_of_getElem? (i := 759) (by decide +kernel)) rfl
theorem mm_L_162 : Cond.methodLink RL 162 yX5_upper ∈ gw := gw_mem (List.mem_of_getElem? (i := 760) (by decide +kernel)) rfl
theorem mi_X5_upper : Cond.instanceMethod yX5_upper ∈ gw := gw_mem (List.mem_of_getElem? (i := 761) (by decide +kernel)) rfl
theorem ms_X5_upper : Cond.selects RX5 yX5_upper yX5_upper ∈ gw := gw_mem (List.mem_of_getElem? (i := 762) (by decide +kernel)) rfl
theorem mc_X5_upper : Cond.code yX5_upper cX5_upper 1 (some .long) ∈ gw := gw_mem (List.mem_of_getElem? (i := 763) (by decide +kernel)) rfl
theorem mm_L_167 : Cond.methodLink RL 167 yX5_lower ∈ gw := gw_mem (List.mem_of_getElem? (i := 764) (by decide +kernel)) rfl
theorem mi_X5_lower : Cond.instanceMethod yX5_lower ∈ gw := gw_mem (List.mem_of_getElem? (i := 765) (by decide +kernel)) rfl
theorem ms_X5_lower : Cond.selects RX5 yX5_lower yX5_lower ∈ gw := gw_mem (List.mem_of_getElem? (i := 766) (by decide +kernel)) rfl
theorem mc_X5_lower : Cond.code yX5_lower cX5_lower 1 (some .long) ∈ gw := gw_mem (List.mem_of_getElem? (i := 767) (by decide +kernel)) rfl
theorem mm_L_171 : Cond.methodLink RL 171 yX5_count ∈ gw := gw_mem (List.mem_of_getElem? (i := 768) (by decide +kernel)) rfl
theorem mi_X5_count : Cond.instanceMethod yX5_count ∈ gw := gw_mem (List.mem_of_getElem? (i := 769) (by decide +kernel)) rfl
theorem ms_X5_count : Cond.selects RX5 yX5_count yX5_count ∈ gw := gw_mem (List.mem_of_getElem? (i := 770) (by decide +kernel)) rfl
theorem mc_X5_count : Cond.code yX5_count cX5_count 2 (some .int) ∈ gw := gw_mem (List.mem_of_getElem? (i := 771) (by decide +kernel)) rfl
theorem mm_X5_263 : Cond.methodLink RX5 263 yX5_counted ∈ gw := gw_mem (List.mem_of_getElem? (i := 772) (by decide +kernel)) rfl
theorem mi_X5_counted : Cond.instanceMethod yX5_counted ∈ gw := gw_mem (List.mem_of_getElem? (i := 774) (by decide +kernel)) rfl
theorem mc_X5_counted : Cond.code yX5_counted cX5_counted 3 (some .int) ∈ gw := gw_mem (List.mem_of_getElem? (i := 775) (by decide +kernel)) rfl
theorem mm_X5_323 : Cond.methodLink RX5 323 yX3_howMany ∈ gw := gw_mem (List.mem_of_getElem? (i := 776) (by decide +kernel)) rfl
theorem mi_X3_howMany : Cond.instanceMethod yX3_howMany ∈ gw := gw_mem (List.mem_of_getElem? (i := 777) (by decide +kernel)) rfl
theorem ms_X3_howMany : Cond.selects RX3 yX3_howMany yX3_howMany ∈ gw := gw_mem (List.mem_of_getElem? (i := 778) (by decide +kernel)) rfl
theorem mc_X3_howMany : Cond.code yX3_howMany cX3_howMany 3 (some .int) ∈ gw := gw_mem (List.mem_of_getElem? (i := 779) (by decide +kernel)) rfl
theorem mm_X5_326 : Cond.methodLink RX5 326 yX5_keptOnes ∈ gw := gw_mem (List.mem_of_getElem? (i := 780) (by decide +kernel)) rfl
theorem mi_X5_keptOnes : Cond.instanceMethod yX5_keptOnes ∈ gw := gw_mem (List.mem_of_getElem? (i := 782) (by decide +kernel)) rfl
theorem mc_X5_keptOnes : Cond.code yX5_keptOnes cX5_keptOnes 3 (some .int) ∈ gw := gw_mem (List.mem_of_getElem? (i := 783) (by decide +kernel)) rfl
theorem mm_X5_329 : Cond.methodLink RX5 329 yX4_lengthThere ∈ gw := gw_mem (List.mem_of_getElem? (i := 784) (by decide +kernel)) rfl
theorem mi_X4_lengthThere : Cond.instanceMethod yX4_lengthThere ∈ gw := gw_mem (List.mem_of_getElem? (i := 785) (by decide +kernel)) rfl
theorem ms_X4_lengthThere : Cond.selects RX4 yX4_lengthThere yX4_lengthThere ∈ gw := gw_mem (List.mem_of_getElem? (i := 786) (by decide +kernel)) rfl
theorem mc_X4_lengthThere : Cond.code yX4_lengthThere cX4_lengthThere 3 (some .int) ∈ gw := gw_mem (List.mem_of_getElem? (i := 787) (by decide +kernel)) rfl
theorem mm_X5_332 : Cond.methodLink RX5 332 yX4_ironOnes ∈ gw := gw_mem (List.mem_of_getElem? (i := 788) (by decide +kernel)) rfl
theorem mi_X4_ironOnes : Cond.instanceMethod yX4_ironOnes ∈ gw := gw_mem (List.mem_of_getElem? (i := 789) (by decide +kernel)) rfl
theorem ms_X4_ironOnes : Cond.selects RX4 yX4_ironOnes yX4_ironOnes ∈ gw := gw_mem (List.mem_of_getElem? (i := 790) (by decide +kernel)) rfl
theorem mc_X4_ironOnes : Cond.code yX4_ironOnes cX4_ironOnes 3 (some .int) ∈ gw := gw_mem (List.mem_of_getElem? (i := 791) (by decide +kernel)) rfl
theorem mm_X4_78 : Cond.methodLinkNest RX4 78 yX5_isOfKind "WheelWeeks" ∈ lw_tbl := List.mem_of_getElem? (i := 792) (by decide +kernel)
theorem mm_L_175 : Cond.methodLink RL 175 yX5_finding ∈ gw := gw_mem (List.mem_of_getElem? (i := 793) (by decide +kernel)) rfl
theorem mi_X5_finding : Cond.instanceMethod yX5_finding ∈ gw := gw_mem (List.mem_of_getElem? (i := 794) (by decide +kernel)) rfl
theorem ms_X5_finding : Cond.selects RX5 yX5_finding yX5_finding ∈ gw := gw_mem (List.mem_of_getElem? (i := 795) (by decide +kernel)) rfl
theorem mc_X5_finding : Cond.code yX5_finding cX5_finding 1 (some .int) ∈ gw := gw_mem (List.mem_of_getElem? (i := 796) (by decide +kernel)) rfl
theorem mm_L_179 : Cond.methodLink RL 179 yX5_findings ∈ gw := gw_mem (List.mem_of_getElem? (i := 797) (by decide +kernel)) rfl
theorem mi_X5_findings : Cond.instanceMethod yX5_findings ∈ gw := gw_mem (List.mem_of_getElem? (i := 798) (by decide +kernel)) rfl
theorem ms_X5_findings : Cond.selects RX5 yX5_findings yX5_findings ∈ gw := gw_mem (List.mem_of_getElem? (i := 799) (by decide +kernel)) rfl
theorem mc_X5_findings : Cond.code yX5_findings cX5_findings 2 (some .int) ∈ gw := gw_mem (List.mem_of_getElem? (i := 800) (by decide +kernel)) rfl
theorem mm_L_183 : Cond.methodLink RL 183 yX5_digest ∈ gw := gw_mem (List.mem_of_getElem? (i := 801) (by decide +kernel)) rfl
theorem mi_X5_digest : Cond.instanceMethod yX5_digest ∈ gw := gw_mem (List.mem_of_getElem? (i := 802) (by decide +kernel)) rfl
theorem ms_X5_digest : Cond.selects RX5 yX5_digest yX5_digest ∈ gw := gw_mem (List.mem_of_getElem? (i := 803) (by decide +kernel)) rfl
theorem mc_X5_digest : Cond.code yX5_digest cX5_digest 4 (some .long) ∈ gw := gw_mem (List.mem_of_getElem? (i := 804) (by decide +kernel)) rfl
theorem mk_X5_269 : Cond.constantLong RX5 269 (17) ∈ gw := gw_mem (List.mem_of_getElem? (i := 805) (by decide +kernel)) rfl
theorem mk_X5_271 : Cond.constantLong RX5 271 (31) ∈ gw := gw_mem (List.mem_of_getElem? (i := 806) (by decide +kernel)) rfl
theorem mm_X5_273 : Cond.methodLink RX5 273 yX4_mix ∈ gw := gw_mem (List.mem_of_getElem? (i := 807) (by decide +kernel)) rfl
theorem mi_X4_mix : Cond.instanceMethod yX4_mix ∈ gw := gw_mem (List.mem_of_getElem? (i := 808) (by decide +kernel)) rfl
theorem ms_X4_mix : Cond.selects RX4 yX4_mix yX4_mix ∈ gw := gw_mem (List.mem_of_getElem? (i := 809) (by decide +kernel)) rfl
theorem mc_X4_mix : Cond.code yX4_mix cX4_mix 7 (some .long) ∈ gw := gw_mem (List.mem_of_getElem? (i := 810) (by decide +kernel)) rfl
theorem mk_X4_111 : Cond.constantLong RX4 111 (31) ∈ gw := gw_mem (List.mem_of_getElem? (i := 811) (by decide +kernel)) rfl
theorem mm_X4_113 : Cond.methodLink RX4 113 yX4_facet ∈ gw := gw_mem (List.mem_of_getElem? (i := 812) (by decide +kernel)) rfl
theorem mm_X5_277 : Cond.methodLink RX5 277 yX3_mix ∈ gw := gw_mem (List.mem_of_getElem? (i := 813) (by decide +kernel)) rfl
theorem mi_X3_mix : Cond.instanceMethod yX3_mix ∈ gw := gw_mem (List.mem_of_getElem? (i := 814) (by decide +kernel)) rfl
theorem ms_X3_mix : Cond.selects RX3 yX3_mix yX3_mix ∈ gw := gw_mem (List.mem_of_getElem? (i := 815) (by decide +kernel)) rfl
theorem mc_X3_mix : Cond.code yX3_mix cX3_mix 7 (some .long) ∈ gw := gw_mem (List.mem_of_getElem? (i := 816) (by decide +kernel)) rfl
theorem mk_X3_36 : Cond.constantLong RX3 36 (31) ∈ gw := gw_mem (List.mem_of_getElem? (i := 817) (by decide +kernel)) rfl
theorem mm_L_12 : Cond.methodLink RL 12 yX6_init ∈ gw := gw_mem (List.mem_of_getElem? (i := 820) (by decide +kernel)) rfl
theorem mi_X6_init : Cond.instanceMethod yX6_init ∈ gw := gw_mem (List.mem_of_getElem? (i := 821) (by decide +kernel)) rfl
theorem mc_X6_init : Cond.code yX6_init cX6_init 2 (none) ∈ gw := gw_mem (List.mem_of_getElem? (i := 822) (by decide +kernel)) rfl
theorem mm_X6_1 : Cond.methodLink RX6 1 objectInit ∈ gw := gw_mem (List.mem_of_getElem? (i := 823) (by decide +kernel)) rfl
theorem mf_X6_83 : Cond.fieldLink RX6 83 "WheelWeeksModel" "told" "I" ∈ gw := gw_mem (List.mem_of_getElem? (i := 824) (by decide +kernel)) rfl
theorem mf_X6_86 : Cond.fieldLink RX6 86 "WheelWeeksModel" "above" "J" ∈ gw := gw_mem (List.mem_of_getElem? (i := 825) (by decide +kernel)) rfl
theorem mf_X6_7 : Cond.fieldLink RX6 7 "WheelWeeksModel" "below" "J" ∈ gw := gw_mem (List.mem_of_getElem? (i := 826) (by decide +kernel)) rfl
theorem mf_X6_79 : Cond.fieldLink RX6 79 "WheelWeeksModel" "latest" "I" ∈ gw := gw_mem (List.mem_of_getElem? (i := 827) (by decide +kernel)) rfl
theorem mf_X6_13 : Cond.fieldLink RX6 13 "WheelWeeksModel" "came" "[I" ∈ gw := gw_mem (List.mem_of_getElem? (i := 828) (by decide +kernel)) rfl
theorem mf_X6_17 : Cond.fieldLink RX6 17 "WheelWeeksModel" "sizes" "[I" ∈ gw := gw_mem (List.mem_of_getElem? (i := 829) (by decide +kernel)) rfl
theorem mf_X6_20 : Cond.fieldLink RX6 20 "WheelWeeksModel" "rows" "[I" ∈ gw := gw_mem (List.mem_of_getElem? (i := 830) (by decide +kernel)) rfl
theorem mf_X6_23 : Cond.fieldLink RX6 23 "WheelWeeksModel" "copied" "[I" ∈ gw := gw_mem (List.mem_of_getElem? (i := 831) (by decide +kernel)) rfl
theorem mf_X6_26 : Cond.fieldLink RX6 26 "WheelWeeksModel" "textSizes" "[I" ∈ gw := gw_mem (List.mem_of_getElem? (i := 832) (by decide +kernel)) rfl
theorem mf_X6_29 : Cond.fieldLink RX6 29 "WheelWeeksModel" "bytes" "[B" ∈ gw := gw_mem (List.mem_of_getElem? (i := 833) (by decide +kernel)) rfl
theorem mf_X6_111 : Cond.fieldLink RX6 111 "WheelWeeksModel" "readAt" "I" ∈ gw := gw_mem (List.mem_of_getElem? (i := 834) (by decide +kernel)) rfl
theorem mf_X6_130 : Cond.fieldLink RX6 130 "WheelWeeksModel" "readMany" "I" ∈ gw := gw_mem (List.mem_of_getElem? (i := 835) (by decide +kernel)) rfl
theorem mf_X6_120 : Cond.fieldLink RX6 120 "WheelWeeksModel" "readGate" "I" ∈ gw := gw_mem (List.mem_of_getElem? (i := 836) (by decide +kernel)) rfl
theorem mf_X6_123 : Cond.fieldLink RX6 123 "WheelWeeksModel" "isBegun" "Z" ∈ gw := gw_mem (List.mem_of_getElem? (i := 837) (by decide +kernel)) rfl
theorem mf_X6_33 : Cond.fieldLink RX6 33 "WheelWeeksModel" "readRut" "[I" ∈ gw := gw_mem (List.mem_of_getElem? (i := 838) (by decide +kernel)) rfl
theorem mf_X6_36 : Cond.fieldLink RX6 36 "WheelWeeksModel" "readKind" "[I" ∈ gw := gw_mem (List.mem_of_getElem? (i := 839) (by decide +kernel)) rfl
theorem mf_X6_39 : Cond.fieldLink RX6 39 "WheelWeeksModel" "readLong" "[I" ∈ gw := gw_mem (List.mem_of_getElem? (i := 840) (by decide +kernel)) rfl
theorem mf_X6_42 : Cond.fieldLink RX6 42 "WheelWeeksModel" "readStrong" "[I" ∈ gw := gw_mem (List.mem_of_getElem? (i := 841) (by decide +kernel)) rfl
theorem mf_X6_142 : Cond.fieldLink RX6 142 "WheelWeeksModel" "n" "I" ∈ gw := gw_mem (List.mem_of_getElem? (i := 842) (by decide +kernel)) rfl
theorem mf_X6_145 : Cond.fieldLink RX6 145 "WheelWeeksModel" "gateAt" "I" ∈ gw := gw_mem (List.mem_of_getElem? (i := 843) (by decide +kernel)) rfl
theorem mf_X6_45 : Cond.fieldLink RX6 45 "WheelWeeksModel" "ruts" "[I" ∈ gw := gw_mem (List.mem_of_getElem? (i := 844) (by decide +kernel)) rfl
theorem mf_X6_48 : Cond.fieldLink RX6 48 "WheelWeeksModel" "kinds" "[I" ∈ gw := gw_mem (List.mem_of_getElem? (i := 845) (by decide +kernel)) rfl
theorem mf_X6_51 : Cond.fieldLink RX6 51 "WheelWeeksModel" "longs" "[I" ∈ gw := gw_mem (List.mem_of_getElem? (i := 846) (by decide +kernel)) rfl
theorem mf_X6_54 : Cond.fieldLink RX6 54 "WheelWeeksModel" "strongs" "[I" ∈ gw := gw_mem (List.mem_of_getElem? (i := 847) (by decide +kernel)) rfl
theorem mf_X6_57 : Cond.fieldLink RX6 57 "WheelWeeksModel" "now" "[I" ∈ gw := gw_mem (List.mem_of_getElem? (i := 848) (by decide +kernel)) rfl
theorem mf_X6_60 : Cond.fieldLink RX6 60 "WheelWeeksModel" "tried" "[I" ∈ gw := gw_mem (List.mem_of_getElem? (i := 849) (by decide +kernel)) rfl
theorem mf_X6_148 : Cond.fieldLink RX6 148 "WheelWeeksModel" "deedMany" "I" ∈ gw := gw_mem (List.mem_of_getElem? (i := 850) (by decide +kernel)) rfl
theorem mf_X6_63 : Cond.fieldLink RX6 63 "WheelWeeksModel" "log" "[I" ∈ gw := gw_mem (List.mem_of_getElem? (i := 851) (by decide +kernel)) rfl
theorem mf_X6_66 : Cond.fieldLink RX6 66 "WheelWeeksModel" "keptMany" "[I" ∈ gw := gw_mem (List.mem_of_getElem? (i := 852) (by decide +kernel)) rfl
theorem mf_X6_69 : Cond.fieldLink RX6 69 "WheelWeeksModel" "kept" "[I" ∈ gw := gw_mem (List.mem_of_getElem? (i := 853) (by decide +kernel)) rfl
theorem mf_X6_72 : Cond.fieldLink RX6 72 "WheelWeeksModel" "outcomes" "[I" ∈ gw := gw_mem (List.mem_of_getElem? (i := 854) (by decide +kernel)) rfl
theorem mf_X6_75 : Cond.fieldLink RX6 75 "WheelWeeksModel" "parts" "[J" ∈ gw := gw_mem (List.mem_of_getElem? (i := 855) (by decide +kernel)) rfl
theorem mf_X6_241 : Cond.fieldLink RX6 241 "WheelWeeksModel" "whole" "J" ∈ gw := gw_mem (List.mem_of_getElem? (i := 856) (by decide +kernel)) rfl
theorem mf_X6_268 : Cond.fieldLink RX6 268 "WheelWeeksModel" "h" "J" ∈ gw := gw_mem (List.mem_of_getElem? (i := 857) (by decide +kernel)) rfl
theorem mm_L_161 : Cond.methodLink RL 161 yX6_asked ∈ gw := gw_mem (List.mem_of_getElem? (i := 929) (by decide +kernel)) rfl
theorem mi_X6_asked : Cond.instanceMethod yX6_asked ∈ gw := gw_mem (List.mem_of_getElem? (i := 930) (by decide +kernel)) rfl
theorem ms_X6_asked : Cond.selects RX6 yX6_asked yX6_asked ∈ gw := gw_mem (List.mem_of_getElem? (i := 931) (by decide +kernel)) rfl
theorem mc_X6_asked : Cond.code yX6_asked cX6_asked 1 (some .int) ∈ gw := gw_mem (List.mem_of_getElem? (i := 932) (by decide +kernel)) rfl
theorem mm_L_166 : Cond.methodLink RL 166 yX6_upper ∈ gw := gw_mem (List.mem_of_getElem? (i := 933) (by decide +kernel)) rfl
theorem mi_X6_upper : Cond.instanceMethod yX6_upper ∈ gw := gw_mem (List.mem_of_getElem? (i := 934) (by decide +kernel)) rfl
theorem ms_X6_upper : Cond.selects RX6 yX6_upper yX6_upper ∈ gw := gw_mem (List.mem_of_getElem? (i := 935) (by decide +kernel)) rfl
theorem mc_X6_upper : Cond.code yX6_upper cX6_upper 1 (some .long) ∈ gw := gw_mem (List.mem_of_getElem? (i := 936) (by decide +kernel)) rfl
theorem mm_L_170 : Cond.methodLink RL 170 yX6_lower ∈ gw := gw_mem (List.mem_of_getElem? (i := 937) (by decide +kernel)) rfl
theorem mi_X6_lower : Cond.instanceMethod yX6_lower ∈ gw := gw_mem (List.mem_of_getElem? (i := 938) (by decide +kernel)) rfl
theorem ms_X6_lower : Cond.selects RX6 yX6_lower yX6_lower ∈ gw := gw_mem (List.mem_of_getElem? (i := 939) (by decide +kernel)) rfl
theorem mc_X6_lower : Cond.code yX6_lower cX6_lower 1 (some .long) ∈ gw := gw_mem (List.mem_of_getElem? (i := 940) (by decide +kernel)) rfl
theorem mm_L_178 : Cond.methodLink RL 178 yX6_finding ∈ gw := gw_mem (List.mem_of_getElem? (i := 941) (by decide +kernel)) rfl
theorem mi_X6_finding : Cond.instanceMethod yX6_finding ∈ gw := gw_mem (List.mem_of_getElem? (i := 942) (by decide +kernel)) rfl
theorem ms_X6_finding : Cond.selects RX6 yX6_finding yX6_finding ∈ gw := gw_mem (List.mem_of_getElem? (i := 943) (by decide +kernel)) rfl
theorem mc_X6_finding : Cond.code yX6_finding cX6_finding 1 (some .int) ∈ gw := gw_mem (List.mem_of_getElem? (i := 944) (by decide +kernel)) rfl
theorem mm_L_182 : Cond.methodLink RL 182 yX6_findings ∈ gw := gw_mem (List.mem_of_getElem? (i := 945) (by decide +kernel)) rfl
theorem mi_X6_findings : Cond.instanceMethod yX6_findings ∈ gw := gw_mem (List.mem_of_getElem? (i := 946) (by decide +kernel)) rfl
theorem ms_X6_findings : Cond.selects RX6 yX6_findings yX6_findings ∈ gw := gw_mem (List.mem_of_getElem? (i := 947) (by decide +kernel)) rfl
theorem mc_X6_findings : Cond.code yX6_findings cX6_findings 2 (some .int) ∈ gw := gw_mem (List.mem_of_getElem? (i := 948) (by decide +kernel)) rfl
theorem mm_X6_89 : Cond.methodLink RX6 89 yX6_in ∈ gw := gw_mem (List.mem_of_getElem? (i := 949) (by decide +kernel)) rfl
theorem mt_X6_in : Cond.static yX6_in ∈ gw := gw_mem (List.mem_of_getElem? (i := 950) (by decide +kernel)) rfl
theorem mc_X6_in : Cond.code yX6_in cX6_in 3 (some .boolean) ∈ gw := gw_mem (List.mem_of_getElem? (i := 951) (by decide +kernel)) rfl
theorem mm_L_17 : Cond.methodLink RL 17 yX6_row ∈ gw := gw_mem (List.mem_of_getElem? (i := 952) (by decide +kernel)) rfl
theorem mi_X6_row : Cond.instanceMethod yX6_row ∈ gw := gw_mem (List.mem_of_getElem? (i := 953) (by decide +kernel)) rfl
theorem ms_X6_row : Cond.selects RX6 yX6_row yX6_row ∈ gw := gw_mem (List.mem_of_getElem? (i := 954) (by decide +kernel)) rfl
theorem mc_X6_row : Cond.code yX6_row cX6_row 4 (some .int) ∈ gw := gw_mem (List.mem_of_getElem? (i := 955) (by decide +kernel)) rfl
theorem mm_X6_93 : Cond.methodLink RX6 93 yX6_isRow ∈ gw := gw_mem (List.mem_of_getElem? (i := 956) (by decide +kernel)) rfl
theorem mt_X6_isRow : Cond.static yX6_isRow ∈ gw := gw_mem (List.mem_of_getElem? (i := 957) (by decide +kernel)) rfl
theorem mc_X6_isRow : Cond.code yX6_isRow cX6_isRow 1 (some .boolean) ∈ gw := gw_mem (List.mem_of_getElem? (i := 958) (by decide +kernel)) rfl
theorem mm_X6_97 : Cond.methodLink RX6 97 yX6_meets ∈ gw := gw_mem (List.mem_of_getElem? (i := 959) (by decide +kernel)) rfl
theorem mi_X6_meets : Cond.instanceMethod yX6_meets ∈ gw := gw_mem (List.mem_of_getElem? (i := 961) (by decide +kernel)) rfl
theorem mc_X6_meets : Cond.code yX6_meets cX6_meets 2 (some .int) ∈ gw := gw_mem (List.mem_of_getElem? (i := 962) (by decide +kernel)) rfl
theorem mm_L_22 : Cond.methodLink RL 22 yX6_lay ∈ gw := gw_mem (List.mem_of_getElem? (i := 963) (by decide +kernel)) rfl
theorem mi_X6_lay : Cond.instanceMethod yX6_lay ∈ gw := gw_mem (List.mem_of_getElem? (i := 964) (by decide +kernel)) rfl
theorem ms_X6_lay : Cond.selects RX6 yX6_lay yX6_lay ∈ gw := gw_mem (List.mem_of_getElem? (i := 965) (by decide +kernel)) rfl
theorem mc_X6_lay : Cond.code yX6_lay cX6_lay 5 (some .int) ∈ gw := gw_mem (List.mem_of_getElem? (i := 966) (by decide +kernel)) rfl
theorem mm_X6_101 : Cond.methodLink RX6 101 yX6_rowAt ∈ gw := gw_mem (List.mem_of_getElem? (i := 967) (by decide +kernel)) rfl
theorem mi_X6_rowAt : Cond.instanceMethod yX6_rowAt ∈ gw := gw_mem (List.mem_of_getElem? (i := 969) (by decide +kernel)) rfl
theorem mc_X6_rowAt : Cond.code yX6_rowAt cX6_rowAt 3 (some .int) ∈ gw := gw_mem (List.mem_of_getElem? (i := 970) (by decide +kernel)) rfl
theorem mm_X6_105 : Cond.methodLink RX6 105 yX6_tells ∈ gw := gw_mem (List.mem_of_getElem? (i := 971) (by decide +kernel)) rfl
theorem mi_X6_tells : Cond.instanceMethod yX6_tells ∈ gw := gw_mem (List.mem_of_getElem? (i := 973) (by decide +kernel)) rfl
theorem mc_X6_tells : Cond.code yX6_tells cX6_tells 3 (some .int) ∈ gw := gw_mem (List.mem_of_getElem? (i := 974) (by decide +kernel)) rfl
theorem mm_L_26 : Cond.methodLink RL 26 yX6_at ∈ gw := gw_mem (List.mem_of_getElem? (i := 975) (by decide +kernel)) rfl
theorem mi_X6_at : Cond.instanceMethod yX6_at ∈ gw := gw_mem (List.mem_of_getElem? (i := 976) (by decide +kernel)) rfl
theorem ms_X6_at : Cond.selects RX6 yX6_at yX6_at ∈ gw := gw_mem (List.mem_of_getElem? (i := 977) (by decide +kernel)) rfl
theorem mc_X6_at : Cond.code yX6_at cX6_at 3 (some .int) ∈ gw := gw_mem (List.mem_of_getElem? (i := 978) (by decide +kernel)) rfl
theorem mm_L_31 : Cond.methodLink RL 31 yX6_tear ∈ gw := gw_mem (List.mem_of_getElem? (i := 979) (by decide +kernel)) rfl
theorem mi_X6_tear : Cond.instanceMethod yX6_tear ∈ gw := gw_mem (List.mem_of_getElem? (i := 980) (by decide +kernel)) rfl
theorem ms_X6_tear : Cond.selects RX6 yX6_tear yX6_tear ∈ gw := gw_mem (List.mem_of_getElem? (i := 981) (by decide +kernel)) rfl
theorem mc_X6_tear : Cond.code yX6_tear cX6_tear 2 (some .int) ∈ gw := gw_mem (List.mem_of_getElem? (i := 982) (by decide +kernel)) rfl
theorem mm_L_36 : Cond.methodLink RL 36 yX6_copy ∈ gw := gw_mem (List.mem_of_getElem? (i := 983) (by decide +kernel)) rfl
theorem mi_X6_copy : Cond.instanceMethod yX6_copy ∈ gw := gw_mem (List.mem_of_getElem? (i := 984) (by decide +kernel)) rfl
theorem ms_X6_copy : Cond.selects RX6 yX6_copy yX6_copy ∈ gw := gw_mem (List.mem_of_getElem? (i := 985) (by decide +kernel)) rfl
theorem mc_X6_copy : Cond.code yX6_copy cX6_copy 7 (some .int) ∈ gw := gw_mem (List.mem_of_getElem? (i := 986) (by decide +kernel)) rfl
theorem mm_L_40 : Cond.methodLink RL 40 yX6_mean ∈ gw := gw_mem (List.mem_of_getElem? (i := 987) (by decide +kernel)) rfl
theorem mi_X6_mean : Cond.instanceMethod yX6_mean ∈ gw := gw_mem (List.mem_of_getElem? (i := 988) (by decide +kernel)) rfl
theorem ms_X6_mean : Cond.selects RX6 yX6_mean yX6_mean ∈ gw := gw_mem (List.mem_of_getElem? (i := 989) (by decide +kernel)) rfl
theorem mc_X6_mean : Cond.code yX6_mean cX6_mean 5 (some .int) ∈ gw := gw_mem (List.mem_of_getElem? (i := 990) (by decide +kernel)) rfl
theorem mm_L_44 : Cond.methodLink RL 44 yX6_text ∈ gw := gw_mem (List.mem_of_getElem? (i := 991) (by decide +kernel)) rfl
theorem mi_X6_text : Cond.instanceMethod yX6_text ∈ gw := gw_mem (List.mem_of_getElem? (i := 992) (by decide +kernel)) rfl
theorem ms_X6_text : Cond.selects RX6 yX6_text yX6_text ∈ gw := gw_mem (List.mem_of_getElem? (i := 993) (by decide +kernel)) rfl
theorem mc_X6_text : Cond.code yX6_text cX6_text 4 (some .int) ∈ gw := gw_mem (List.mem_of_getElem? (i := 994) (by decide +kernel)) rfl
theorem mm_X6_108 : Cond.methodLink RX6 108 yX6_isText ∈ gw := gw_mem (List.mem_of_getElem? (i := 995) (by decide +kernel)) rfl
theorem mt_X6_isText : Cond.static yX6_isText ∈ gw := gw_mem (List.mem_of_getElem? (i := 996) (by decide +kernel)) rfl
theorem mc_X6_isText : Cond.code yX6_isText cX6_isText 1 (some .boolean) ∈ gw := gw_mem (List.mem_of_getElem? (i := 997) (by decide +kernel)) rfl
theorem mm_L_48 : Cond.methodLink RL 48 yX6_put ∈ gw := gw_mem (List.mem_of_getElem? (i := 998) (by decide +kernel)) rfl
theorem mi_X6_put : Cond.instanceMethod yX6_put ∈ gw := gw_mem (List.mem_of_getElem? (i := 999) (by decide +kernel)) rfl
theorem ms_X6_put : Cond.selects RX6 yX6_put yX6_put ∈ gw := gw_mem (List.mem_of_getElem? (i := 1000) (by decide +kernel)) rfl
theorem mc_X6_put : Cond.code yX6_put cX6_put 5 (some .int) ∈ gw := gw_mem (List.mem_of_getElem? (i := 1001) (by decide +kernel)) rfl
theorem mm_L_52 : Cond.methodLink RL 52 yX6_fault ∈ gw := gw_mem (List.mem_of_getElem? (i := 1002) (by decide +kernel)) rfl
theorem mi_X6_fault : Cond.instanceMethod yX6_fault ∈ gw := gw_mem (List.mem_of_getElem? (i := 1003) (by decide +kernel)) rfl
theorem ms_X6_fault : Cond.selects RX6 yX6_fault yX6_fault ∈ gw := gw_mem (List.mem_of_getElem? (i := 1004) (by decide +kernel)) rfl
theorem mc_X6_fault : Cond.code yX6_fault cX6_fault 2 (some .int) ∈ gw := gw_mem (List.mem_of_getElem? (i := 1005) (by decide +kernel)) rfl
theorem mm_X6_139 : Cond.methodLink RX6 139 yX6_faultOf ∈ gw := gw_mem (List.mem_of_getElem? (i := 1006) (by decide +kernel)) rfl
theorem mi_X6_faultOf : Cond.instanceMethod yX6_faultOf ∈ gw := gw_mem (List.mem_of_getElem? (i := 1008) (by decide +kernel)) rfl
theorem mc_X6_faultOf : Cond.code yX6_faultOf cX6_faultOf 2 (some .int) ∈ gw := gw_mem (List.mem_of_getElem? (i := 1009) (by decide +kernel)) rfl
theorem mm_X6_114 : Cond.methodLink RX6 114 yX6_letterAt ∈ gw := gw_mem (List.mem_of_getElem? (i := 1010) (by decide +kernel)) rfl
theorem mi_X6_letterAt : Cond.instanceMethod yX6_letterAt ∈ gw := gw_mem (List.mem_of_getElem? (i := 1012) (by decide +kernel)) rfl
theorem mc_X6_letterAt : Cond.code yX6_letterAt cX6_letterAt 3 (some .int) ∈ gw := gw_mem (List.mem_of_getElem? (i := 1013) (by decide +kernel)) rfl
theorem mm_X6_133 : Cond.methodLink RX6 133 yX6_readsSpoke ∈ gw := gw_mem (List.mem_of_getElem? (i := 1014) (by decide +kernel)) rfl
theorem mi_X6_readsSpoke : Cond.instanceMethod yX6_readsSpoke ∈ gw := gw_mem (List.mem_of_getElem? (i := 1016) (by decide +kernel)) rfl
theorem mc_X6_readsSpoke : Cond.code yX6_readsSpoke cX6_readsSpoke 5 (some .boolean) ∈ gw := gw_mem (List.mem_of_getElem? (i := 1017) (by decide +kernel)) rfl
theorem mm_X6_127 : Cond.methodLink RX6 127 yX6_kindOf ∈ gw := gw_mem (List.mem_of_getElem? (i := 1018) (by decide +kernel)) rfl
theorem mt_X6_kindOf : Cond.static yX6_kindOf ∈ gw := gw_mem (List.mem_of_getElem? (i := 1019) (by decide +kernel)) rfl
theorem mc_X6_kindOf : Cond.code yX6_kindOf cX6_kindOf 1 (some .int) ∈ gw := gw_mem (List.mem_of_getElem? (i := 1020) (by decide +kernel)) rfl
theorem mm_X6_117 : Cond.methodLink RX6 117 yX6_reads ∈ gw := gw_mem (List.mem_of_getElem? (i := 1021) (by decide +kernel)) rfl
theorem mi_X6_reads : Cond.instanceMethod yX6_reads ∈ gw := gw_mem (List.mem_of_getElem? (i := 1023) (by decide +kernel)) rfl
theorem mc_X6_reads : Cond.code yX6_reads cX6_reads 4 (some .int) ∈ gw := gw_mem (List.mem_of_getElem? (i := 1024) (by decide +kernel)) rfl
theorem mm_X6_136 : Cond.methodLink RX6 136 yX6_readsRoad ∈ gw := gw_mem (List.mem_of_getElem? (i := 1025) (by decide +kernel)) rfl
theorem mi_X6_readsRoad : Cond.instanceMethod yX6_readsRoad ∈ gw := gw_mem (List.mem_of_getElem? (i := 1027) (by decide +kernel)) rfl
theorem mc_X6_readsRoad : Cond.code yX6_readsRoad cX6_readsRoad 5 (some .boolean) ∈ gw := gw_mem (List.mem_of_getElem? (i := 1028) (by decide +kernel)) rfl
theorem mm_L_56 : Cond.methodLink RL 56 yX6_wheel ∈ gw := gw_mem (List.mem_of_getElem? (i := 1029) (by decide +kernel)) rfl
theorem mi_X6_wheel : Cond.instanceMethod yX6_wheel ∈ gw := gw_mem (List.mem_of_getElem? (i := 1030) (by decide +kernel)) rfl
theorem ms_X6_wheel : Cond.selects RX6 yX6_wheel yX6_wheel ∈ gw := gw_mem (List.mem_of_getElem? (i := 1031) (by decide +kernel)) rfl
theorem mc_X6_wheel : Cond.code yX6_wheel cX6_wheel 3 (some .int) ∈ gw := gw_mem (List.mem_of_getElem? (i := 1032) (by decide +kernel)) rfl
theorem mm_L_60 : Cond.methodLink RL 60 yX6_spoke ∈ gw := gw_mem (List.mem_of_getElem? (i := 1033) (by decide +kernel)) rfl
theorem mi_X6_spoke : Cond.instanceMethod yX6_spoke ∈ gw := gw_mem (List.mem_of_getElem? (i := 1034) (by decide +kernel)) rfl
theorem ms_X6_spoke : Cond.selects RX6 yX6_spoke yX6_spoke ∈ gw := gw_mem (List.mem_of_getElem? (i := 1035) (by decide +kernel)) rfl
theorem mc_X6_spoke : Cond.code yX6_spoke cX6_spoke 3 (some .int) ∈ gw := gw_mem (List.mem_of_getElem? (i := 1036) (by decide +kernel)) rfl
theorem mm_X6_169 : Cond.methodLink RX6 169 yX6_isSpoke ∈ gw := gw_mem (List.mem_of_getElem? (i := 1037) (by decide +kernel)) rfl
theorem mi_X6_isSpoke : Cond.instanceMethod yX6_isSpoke ∈ gw := gw_mem (List.mem_of_getElem? (i := 1039) (by decide +kernel)) rfl
theorem mc_X6_isSpoke : Cond.code yX6_isSpoke cX6_isSpoke 2 (some .boolean) ∈ gw := gw_mem (List.mem_of_getElem? (i := 1040) (by decide +kernel)) rfl
theorem mm_X6_172 : Cond.methodLink RX6 172 yX6_spokeTells ∈ gw := gw_mem (List.mem_of_getElem? (i := 1041) (by decide +kernel)) rfl
theorem mi_X6_spokeTells : Cond.instanceMethod yX6_spokeTells ∈ gw := gw_mem (List.mem_of_getElem? (i := 1043) (by decide +kernel)) rfl
theorem mc_X6_spokeTells : Cond.code yX6_spokeTells cX6_spokeTells 3 (some .int) ∈ gw := gw_mem (List.mem_of_getElem? (i := 1044) (by decide +kernel)) rfl
theorem mm_X6_162 : Cond.methodLink RX6 162 yX6_depth ∈ gw := gw_mem (List.mem_of_getElem? (i := 1045) (by decide +kernel)) rfl
theorem mi_X6_depth : Cond.instanceMethod yX6_depth ∈ gw := gw_mem (List.mem_of_getElem? (i := 1047) (by decide +kernel)) rfl
theorem mc_X6_depth : Cond.code yX6_depth cX6_depth 2 (some .int) ∈ gw := gw_mem (List.mem_of_getElem? (i := 1048) (by decide +kernel)) rfl
theorem mm_X6_165 : Cond.methodLink RX6 165 yX6_bearsOn ∈ gw := gw_mem (List.mem_of_getElem? (i := 1049) (by decide +kernel)) rfl
theorem mi_X6_bearsOn : Cond.instanceMethod yX6_bearsOn ∈ gw := gw_mem (List.mem_of_getElem? (i := 1051) (by decide +kernel)) rfl
theorem mc_X6_bearsOn : Cond.code yX6_bearsOn cX6_bearsOn 4 (some .int) ∈ gw := gw_mem (List.mem_of_getElem? (i := 1052) (by decide +kernel)) rfl
theorem mm_X6_154 : Cond.methodLink RX6 154 yX6_bearsAs ∈ gw := gw_mem (List.mem_of_getElem? (i := 1053) (by decide +kernel)) rfl
theorem mt_X6_bearsAs : Cond.static yX6_bearsAs ∈ gw := gw_mem (List.mem_of_getElem? (i := 1054) (by decide +kernel)) rfl
theorem mc_X6_bearsAs : Cond.code yX6_bearsAs cX6_bearsAs 7 (some .int) ∈ gw := gw_mem (List.mem_of_getElem? (i := 1055) (by decide +kernel)) rfl
theorem mm_X6_151 : Cond.methodLink RX6 151 yX6_above0 ∈ gw := gw_mem (List.mem_of_getElem? (i := 1056) (by decide +kernel)) rfl
theorem mt_X6_above0 : Cond.static yX6_above0 ∈ gw := gw_mem (List.mem_of_getElem? (i := 1057) (by decide +kernel)) rfl
theorem mc_X6_above0 : Cond.code yX6_above0 cX6_above0 1 (some .int) ∈ gw := gw_mem (List.mem_of_getElem? (i := 1058) (by decide +kernel)) rfl
theorem mm_L_64 : Cond.methodLink RL 64 yX6_mark ∈ gw := gw_mem (List.mem_of_getElem? (i := 1059) (by decide +kernel)) rfl
theorem mi_X6_mark : Cond.instanceMethod yX6_mark ∈ gw := gw_mem (List.mem_of_getElem? (i := 1060) (by decide +kernel)) rfl
theorem ms_X6_mark : Cond.selects RX6 yX6_mark yX6_mark ∈ gw := gw_mem (List.mem_of_getElem? (i := 1061) (by decide +kernel)) rfl
theorem mc_X6_mark : Cond.code yX6_mark cX6_mark 4 (some .int) ∈ gw := gw_mem (List.mem_of_getElem? (i := 1062) (by decide +kernel)) rfl
theorem mm_X6_175 : Cond.methodLink RX6 175 yX6_isOf ∈ gw := gw_mem (List.mem_of_getElem? (i := 1063) (by decide +kernel)) rfl
theorem mt_X6_isOf : Cond.static yX6_isOf ∈ gw := gw_mem (List.mem_of_getElem? (i := 1064) (by decide +kernel)) rfl
theorem mc_X6_isOf : Cond.code yX6_isOf cX6_isOf 2 (some .boolean) ∈ gw := gw_mem (List.mem_of_getElem? (i := 1065) (by decide +kernel)) rfl
theorem mm_X6_178 : Cond.methodLink RX6 178 yX6_alike ∈ gw := gw_mem (List.mem_of_getElem? (i := 1066) (by decide +kernel)) rfl
theorem mi_X6_alike : Cond.instanceMethod yX6_alike ∈ gw := gw_mem (List.mem_of_getElem? (i := 1068) (by decide +kernel)) rfl
theorem mc_X6_alike : Cond.code yX6_alike cX6_alike 3 (some .int) ∈ gw := gw_mem (List.mem_of_getElem? (i := 1069) (by decide +kernel)) rfl
theorem mm_L_68 : Cond.methodLink RL 68 yX6_bears ∈ gw := gw_mem (List.mem_of_getElem? (i := 1070) (by decide +kernel)) rfl
theorem mi_X6_bears : Cond.instanceMethod yX6_bears ∈ gw := gw_mem (List.mem_of_getElem? (i := 1071) (by decide +kernel)) rfl
theorem ms_X6_bears : Cond.selects RX6 yX6_bears yX6_bears ∈ gw := gw_mem (List.mem_of_getElem? (i := 1072) (by decide +kernel)) rfl
theorem mc_X6_bears : Cond.code yX6_bears cX6_bears 4 (some .int) ∈ gw := gw_mem (List.mem_of_getElem? (i := 1073) (by decide +kernel)) rfl
theorem mm_L_73 : Cond.methodLink RL 73 yX6_step ∈ gw := gw_mem (List.mem_of_getElem? (i := 1074) (by decide +kernel)) rfl
theorem mi_X6_step : Cond.instanceMethod yX6_step ∈ gw := gw_mem (List.mem_of_getElem? (i := 1075) (by decide +kernel)) rfl
theorem ms_X6_step : Cond.selects RX6 yX6_step yX6_step ∈ gw := gw_mem (List.mem_of_getElem? (i := 1076) (by decide +kernel)) rfl
theorem mc_X6_step : Cond.code yX6_step cX6_step 1 (some .int) ∈ gw := gw_mem (List.mem_of_getElem? (i := 1077) (by decide +kernel)) rfl
theorem mm_X6_181 : Cond.methodLink RX6 181 yX6_isOver ∈ gw := gw_mem (List.mem_of_getElem? (i := 1078) (by decide +kernel)) rfl
theorem mi_X6_isOver : Cond.instanceMethod yX6_isOver ∈ gw := gw_mem (List.mem_of_getElem? (i := 1080) (by decide +kernel)) rfl
theorem mc_X6_isOver : Cond.code yX6_isOver cX6_isOver 4 (some .boolean) ∈ gw := gw_mem (List.mem_of_getElem? (i := 1081) (by decide +kernel)) rfl
theorem mm_X6_158 : Cond.methodLink RX6 158 yX6_has ∈ gw := gw_mem (List.mem_of_getElem? (i := 1082) (by decide +kernel)) rfl
theorem mt_X6_has : Cond.static yX6_has ∈ gw := gw_mem (List.mem_of_getElem? (i := 1083) (by decide +kernel)) rfl
theorem mc_X6_has : Cond.code yX6_has cX6_has 2 (some .boolean) ∈ gw := gw_mem (List.mem_of_getElem? (i := 1084) (by decide +kernel)) rfl
theorem mm_X6_185 : Cond.methodLink RX6 185 yX6_remember ∈ gw := gw_mem (List.mem_of_getElem? (i := 1085) (by decide +kernel)) rfl
theorem mi_X6_remember : Cond.instanceMethod yX6_remember ∈ gw := gw_mem (List.mem_of_getElem? (i := 1087) (by decide +kernel)) rfl
theorem mc_X6_remember : Cond.code yX6_remember cX6_remember 2 (none) ∈ gw := gw_mem (List.mem_of_getElem? (i := 1088) (by decide +kernel)) rfl
theorem mm_X6_188 : Cond.methodLink RX6 188 yX6_steps ∈ gw := gw_mem (List.mem_of_getElem? (i := 1089) (by decide +kernel)) rfl
theorem mi_X6_steps : Cond.instanceMethod yX6_steps ∈ gw := gw_mem (List.mem_of_getElem? (i := 1091) (by decide +kernel)) rfl
theorem mc_X6_steps : Cond.code yX6_steps cX6_steps 6 (some .boolean) ∈ gw := gw_mem (List.mem_of_getElem? (i := 1092) (by decide +kernel)) rfl
theorem mm_L_77 : Cond.methodLink RL 77 yX6_soak ∈ gw := gw_mem (List.mem_of_getElem? (i := 1093) (by decide +kernel)) rfl
theorem mi_X6_soak : Cond.instanceMethod yX6_soak ∈ gw := gw_mem (List.mem_of_getElem? (i := 1094) (by decide +kernel)) rfl
theorem ms_X6_soak : Cond.selects RX6 yX6_soak yX6_soak ∈ gw := gw_mem (List.mem_of_getElem? (i := 1095) (by decide +kernel)) rfl
theorem mc_X6_soak : Cond.code yX6_soak cX6_soak 1 (some .int) ∈ gw := gw_mem (List.mem_of_getElem? (i := 1096) (by decide +kernel)) rfl
theorem mm_X6_191 : Cond.methodLink RX6 191 yX6_need ∈ gw := gw_mem (List.mem_of_getElem? (i := 1097) (by decide +kernel)) rfl
theorem mi_X6_need : Cond.instanceMethod yX6_need ∈ gw := gw_mem (List.mem_of_getElem? (i := 1099) (by decide +kernel)) rfl
theorem mc_X6_need : Cond.code yX6_need cX6_need 1 (some .int) ∈ gw := gw_mem (List.mem_of_getElem? (i := 1100) (by decide +kernel)) rfl
theorem mm_X6_195 : Cond.methodLink RX6 195 yX6_soaks ∈ gw := gw_mem (List.mem_of_getElem? (i := 1101) (by decide +kernel)) rfl
theorem mt_X6_soaks : Cond.static yX6_soaks ∈ gw := gw_mem (List.mem_of_getElem? (i := 1102) (by decide +kernel)) rfl
theorem mc_X6_soaks : Cond.code yX6_soaks cX6_soaks 3 (some .int) ∈ gw := gw_mem (List.mem_of_getElem? (i := 1103) (by decide +kernel)) rfl
theorem mm_L_81 : Cond.methodLink RL 81 yX6_weather ∈ gw := gw_mem (List.mem_of_getElem? (i := 1104) (by decide +kernel)) rfl
theorem mi_X6_weather : Cond.instanceMethod yX6_weather ∈ gw := gw_mem (List.mem_of_getElem? (i := 1105) (by decide +kernel)) rfl
theorem ms_X6_weather : Cond.selects RX6 yX6_weather yX6_weather ∈ gw := gw_mem (List.mem_of_getElem? (i := 1106) (by decide +kernel)) rfl
theorem mc_X6_weather : Cond.code yX6_weather cX6_weather 1 (some .int) ∈ gw := gw_mem (List.mem_of_getElem? (i := 1107) (by decide +kernel)) rfl
theorem mm_L_85 : Cond.methodLink RL 85 yX6_knock ∈ gw := gw_mem (List.mem_of_getElem? (i := 1108) (by decide +kernel)) rfl
theorem mi_X6_knock : Cond.instanceMethod yX6_knock ∈ gw := gw_mem (List.mem_of_getElem? (i := 1109) (by decide +kernel)) rfl
theorem ms_X6_knock : Cond.selects RX6 yX6_knock yX6_knock ∈ gw := gw_mem (List.mem_of_getElem? (i := 1110) (by decide +kernel)) rfl
theorem mc_X6_knock : Cond.code yX6_knock cX6_knock 2 (some .int) ∈ gw := gw_mem (List.mem_of_getElem? (i := 1111) (by decide +kernel)) rfl
theorem mm_L_89 : Cond.methodLink RL 89 yX6_mend ∈ gw := gw_mem (List.mem_of_getElem? (i := 1112) (by decide +kernel)) rfl
theorem mi_X6_mend : Cond.instanceMethod yX6_mend ∈ gw := gw_mem (List.mem_of_getElem? (i := 1113) (by decide +kernel)) rfl
theorem ms_X6_mend : Cond.selects RX6 yX6_mend yX6_mend ∈ gw := gw_mem (List.mem_of_getElem? (i := 1114) (by decide +kernel)) rfl
theorem mc_X6_mend : Cond.code yX6_mend cX6_mend 3 (some .int) ∈ gw := gw_mem (List.mem_of_getElem? (i := 1115) (by decide +kernel)) rfl
theorem mm_X6_199 : Cond.methodLink RX6 199 yX6_puts ∈ gw := gw_mem (List.mem_of_getElem? (i := 1116) (by decide +kernel)) rfl
theorem mt_X6_puts : Cond.static yX6_puts ∈ gw := gw_mem (List.mem_of_getElem? (i := 1117) (by decide +kernel)) rfl
theorem mc_X6_puts : Cond.code yX6_puts cX6_puts 2 (none) ∈ gw := gw_mem (List.mem_of_getElem? (i := 1118) (by decide +kernel)) rfl
theorem mm_L_93 : Cond.methodLink RL 93 yX6_undo ∈ gw := gw_mem (List.mem_of_getElem? (i := 1119) (by decide +kernel)) rfl
theorem mi_X6_undo : Cond.instanceMethod yX6_undo ∈ gw := gw_mem (List.mem_of_getElem? (i := 1120) (by decide +kernel)) rfl
theorem ms_X6_undo : Cond.selects RX6 yX6_undo yX6_undo ∈ gw := gw_mem (List.mem_of_getElem? (i := 1121) (by decide +kernel)) rfl
theorem mc_X6_undo : Cond.code yX6_undo cX6_undo 4 (some .int) ∈ gw := gw_mem (List.mem_of_getElem? (i := 1122) (by decide +kernel)) rfl
theorem mm_L_97 : Cond.methodLink RL 97 yX6_keep ∈ gw := gw_mem (List.mem_of_getElem? (i := 1123) (by decide +kernel)) rfl
theorem mi_X6_keep : Cond.instanceMethod yX6_keep ∈ gw := gw_mem (List.mem_of_getElem? (i := 1124) (by decide +kernel)) rfl
theorem ms_X6_keep : Cond.selects RX6 yX6_keep yX6_keep ∈ gw := gw_mem (List.mem_of_getElem? (i := 1125) (by decide +kernel)) rfl
theorem mc_X6_keep : Cond.code yX6_keep cX6_keep 3 (some .int) ∈ gw := gw_mem (List.mem_of_getElem? (i := 1126) (by decide +kernel)) rfl
theorem mm_L_101 : Cond.methodLink RL 101 yX6_on ∈ gw := gw_mem (List.mem_of_getElem? (i := 1127) (by decide +kernel)) rfl
theorem mi_X6_on : Cond.instanceMethod yX6_on ∈ gw := gw_mem (List.mem_of_getElem? (i := 1128) (by decide +kernel)) rfl
theorem ms_X6_on : Cond.selects RX6 yX6_on yX6_on ∈ gw := gw_mem (List.mem_of_getElem? (i := 1129) (by decide +kernel)) rfl
theorem mc_X6_on : Cond.code yX6_on cX6_on 3 (some .int) ∈ gw := gw_mem (List.mem_of_getElem? (i := 1130) (by decide +kernel)) rfl
theorem mm_L_105 : Cond.methodLink RL 105 yX6_goes ∈ gw := gw_mem (List.mem_of_getElem? (i := 1131) (by decide +kernel)) rfl
theorem mi_X6_goes : Cond.instanceMethod yX6_goes ∈ gw := gw_mem (List.mem_of_getElem? (i := 1132) (by decide +kernel)) rfl
theorem ms_X6_goes : Cond.selects RX6 yX6_goes yX6_goes ∈ gw := gw_mem (List.mem_of_getElem? (i := 1133) (by decide +kernel)) rfl
theorem mc_X6_goes : Cond.code yX6_goes cX6_goes 3 (some .int) ∈ gw := gw_mem (List.mem_of_getElem? (i := 1134) (by decide +kernel)) rfl
theorem mm_X6_203 : Cond.methodLink RX6 203 yX6_copyNow ∈ gw := gw_mem (List.mem_of_getElem? (i := 1135) (by decide +kernel)) rfl
theorem mi_X6_copyNow : Cond.instanceMethod yX6_copyNow ∈ gw := gw_mem (List.mem_of_getElem? (i := 1137) (by decide +kernel)) rfl
theorem mc_X6_copyNow : Cond.code yX6_copyNow cX6_copyNow 2 (none) ∈ gw := gw_mem (List.mem_of_getElem? (i := 1138) (by decide +kernel)) rfl
theorem mm_X6_206 : Cond.methodLink RX6 206 yX6_limpsIn ∈ gw := gw_mem (List.mem_of_getElem? (i := 1139) (by decide +kernel)) rfl
theorem mi_X6_limpsIn : Cond.instanceMethod yX6_limpsIn ∈ gw := gw_mem (List.mem_of_getElem? (i := 1141) (by decide +kernel)) rfl
theorem mc_X6_limpsIn : Cond.code yX6_limpsIn cX6_limpsIn 6 (some .int) ∈ gw := gw_mem (List.mem_of_getElem? (i := 1142) (by decide +kernel)) rfl
theorem mm_L_109 : Cond.methodLink RL 109 yX6_over ∈ gw := gw_mem (List.mem_of_getElem? (i := 1143) (by decide +kernel)) rfl
theorem mi_X6_over : Cond.instanceMethod yX6_over ∈ gw := gw_mem (List.mem_of_getElem? (i := 1144) (by decide +kernel)) rfl
theorem ms_X6_over : Cond.selects RX6 yX6_over yX6_over ∈ gw := gw_mem (List.mem_of_getElem? (i := 1145) (by decide +kernel)) rfl
theorem mc_X6_over : Cond.code yX6_over cX6_over 1 (some .int) ∈ gw := gw_mem (List.mem_of_getElem? (i := 1146) (by decide +kernel)) rfl
theorem mm_X6_210 : Cond.methodLink RX6 210 yX6_all ∈ gw := gw_mem (List.mem_of_getElem? (i := 1147) (by decide +kernel)) rfl
theorem mi_X6_all : Cond.instanceMethod yX6_all ∈ gw := gw_mem (List.mem_of_getElem? (i := 1149) (by decide +kernel)) rfl
theorem mc_X6_all : Cond.code yX6_all cX6_all 1 (some .int) ∈ gw := gw_mem (List.mem_of_getElem? (i := 1150) (by decide +kernel)) rfl
theorem mm_L_113 : Cond.methodLink RL 113 yX6_limps ∈ gw := gw_mem (List.mem_of_getElem? (i := 1151) (by decide +kernel)) rfl
theorem mi_X6_limps : Cond.instanceMethod yX6_limps ∈ gw := gw_mem (List.mem_of_getElem? (i := 1152) (by decide +kernel)) rfl
theorem ms_X6_limps : Cond.selects RX6 yX6_limps yX6_limps ∈ gw := gw_mem (List.mem_of_getElem? (i := 1153) (by decide +kernel)) rfl
theorem mc_X6_limps : Cond.code yX6_limps cX6_limps 6 (some .int) ∈ gw := gw_mem (List.mem_of_getElem? (i := 1154) (by decide +kernel)) rfl
theorem mm_X6_213 : Cond.methodLink RX6 213 yX6_row ∈ gw := gw_mem (List.mem_of_getElem? (i := 1155) (by decide +kernel)) rfl
theorem mm_L_117 : Cond.methodLink RL 117 yX6_gate ∈ gw := gw_mem (List.mem_of_getElem? (i := 1156) (by decide +kernel)) rfl
theorem mi_X6_gate : Cond.instanceMethod yX6_gate ∈ gw := gw_mem (List.mem_of_getElem? (i := 1157) (by decide +kernel)) rfl
theorem ms_X6_gate : Cond.selects RX6 yX6_gate yX6_gate ∈ gw := gw_mem (List.mem_of_getElem? (i := 1158) (by decide +kernel)) rfl
theorem mc_X6_gate : Cond.code yX6_gate cX6_gate 4 (some .int) ∈ gw := gw_mem (List.mem_of_getElem? (i := 1159) (by decide +kernel)) rfl
theorem mm_X6_216 : Cond.methodLink RX6 216 yX6_bits ∈ gw := gw_mem (List.mem_of_getElem? (i := 1160) (by decide +kernel)) rfl
theorem mt_X6_bits : Cond.static yX6_bits ∈ gw := gw_mem (List.mem_of_getElem? (i := 1161) (by decide +kernel)) rfl
theorem mc_X6_bits : Cond.code yX6_bits cX6_bits 3 (some .int) ∈ gw := gw_mem (List.mem_of_getElem? (i := 1162) (by decide +kernel)) rfl
theorem mm_X6_219 : Cond.methodLink RX6 219 yX6_comes ∈ gw := gw_mem (List.mem_of_getElem? (i := 1163) (by decide +kernel)) rfl
theorem mi_X6_comes : Cond.instanceMethod yX6_comes ∈ gw := gw_mem (List.mem_of_getElem? (i := 1165) (by decide +kernel)) rfl
theorem mc_X6_comes : Cond.code yX6_comes cX6_comes 2 (some .boolean) ∈ gw := gw_mem (List.mem_of_getElem? (i := 1166) (by decide +kernel)) rfl
theorem mm_L_121 : Cond.methodLink RL 121 yX6_turned ∈ gw := gw_mem (List.mem_of_getElem? (i := 1167) (by decide +kernel)) rfl
theorem mi_X6_turned : Cond.instanceMethod yX6_turned ∈ gw := gw_mem (List.mem_of_getElem? (i := 1168) (by decide +kernel)) rfl
theorem ms_X6_turned : Cond.selects RX6 yX6_turned yX6_turned ∈ gw := gw_mem (List.mem_of_getElem? (i := 1169) (by decide +kernel)) rfl
theorem mc_X6_turned : Cond.code yX6_turned cX6_turned 5 (some .int) ∈ gw := gw_mem (List.mem_of_getElem? (i := 1170) (by decide +kernel)) rfl
theorem mk_X6_223 : Cond.constant RX6 223 (1000000) ∈ gw := gw_mem (List.mem_of_getElem? (i := 1171) (by decide +kernel)) rfl
theorem mm_L_125 : Cond.methodLink RL 125 yX6_change ∈ gw := gw_mem (List.mem_of_getElem? (i := 1172) (by decide +kernel)) rfl
theorem mi_X6_change : Cond.instanceMethod yX6_change ∈ gw := gw_mem (List.mem_of_getElem? (i := 1173) (by decide +kernel)) rfl
theorem ms_X6_change : Cond.selects RX6 yX6_change yX6_change ∈ gw := gw_mem (List.mem_of_getElem? (i := 1174) (by decide +kernel)) rfl
theorem mc_X6_change : Cond.code yX6_change cX6_change 8 (some .int) ∈ gw := gw_mem (List.mem_of_getElem? (i := 1175) (by decide +kernel)) rfl
theorem mm_X6_224 : Cond.methodLink RX6 224 yX6_swap ∈ gw := gw_mem (List.mem_of_getElem? (i := 1176) (by decide +kernel)) rfl
theorem mt_X6_swap : Cond.static yX6_swap ∈ gw := gw_mem (List.mem_of_getElem? (i := 1177) (by decide +kernel)) rfl
theorem mc_X6_swap : Cond.code yX6_swap cX6_swap 4 (none) ∈ gw := gw_mem (List.mem_of_getElem? (i := 1178) (by decide +kernel)) rfl
theorem mm_X6_228 : Cond.methodLink RX6 228 yX6_changes ∈ gw := gw_mem (List.mem_of_getElem? (i := 1179) (by decide +kernel)) rfl
theorem mi_X6_changes : Cond.instanceMethod yX6_changes ∈ gw := gw_mem (List.mem_of_getElem? (i := 1181) (by decide +kernel)) rfl
theorem mc_X6_changes : Cond.code yX6_changes cX6_changes 3 (none) ∈ gw := gw_mem (List.mem_of_getElem? (i := 1182) (by decide +kernel)) rfl
theorem mm_L_129 : Cond.methodLink RL 129 yX6_gone ∈ gw := gw_mem (List.mem_of_getElem? (i := 1183) (by decide +kernel)) rfl
theorem mi_X6_gone : Cond.instanceMethod yX6_gone ∈ gw := gw_mem (List.mem_of_getElem? (i := 1184) (by decide +kernel)) rfl
theorem ms_X6_gone : Cond.selects RX6 yX6_gone yX6_gone ∈ gw := gw_mem (List.mem_of_getElem? (i := 1185) (by decide +kernel)) rfl
theorem mc_X6_gone : Cond.code yX6_gone cX6_gone 7 (some .int) ∈ gw := gw_mem (List.mem_of_getElem? (i := 1186) (by decide +kernel)) rfl
theorem mm_X6_232 : Cond.methodLink RX6 232 yX6_needLimps ∈ gw := gw_mem (List.mem_of_getElem? (i := 1187) (by decide +kernel)) rfl
theorem mi_X6_needLimps : Cond.instanceMethod yX6_needLimps ∈ gw := gw_mem (List.mem_of_getElem? (i := 1189) (by decide +kernel)) rfl
theorem mc_X6_needLimps : Cond.code yX6_needLimps cX6_needLimps 4 (some .int) ∈ gw := gw_mem (List.mem_of_getElem? (i := 1190) (by decide +kernel)) rfl
theorem mm_X6_235 : Cond.methodLink RX6 235 yX6_isSo ∈ gw := gw_mem (List.mem_of_getElem? (i := 1191) (by decide +kernel)) rfl
theorem mi_X6_isSo : Cond.instanceMethod yX6_isSo ∈ gw := gw_mem (List.mem_of_getElem? (i := 1193) (by decide +kernel)) rfl
theorem mc_X6_isSo : Cond.code yX6_isSo cX6_isSo 4 (some .boolean) ∈ gw := gw_mem (List.mem_of_getElem? (i := 1194) (by decide +kernel)) rfl
theorem mm_L_133 : Cond.methodLink RL 133 yX6_strengths ∈ gw := gw_mem (List.mem_of_getElem? (i := 1195) (by decide +kernel)) rfl
theorem mi_X6_strengths : Cond.instanceMethod yX6_strengths ∈ gw := gw_mem (List.mem_of_getElem? (i := 1196) (by decide +kernel)) rfl
theorem ms_X6_strengths : Cond.selects RX6 yX6_strengths yX6_strengths ∈ gw := gw_mem (List.mem_of_getElem? (i := 1197) (by decide +kernel)) rfl
theorem mc_X6_strengths : Cond.code yX6_strengths cX6_strengths 7 (some .int) ∈ gw := gw_mem (List.mem_of_getElem? (i := 1198) (by decide +kernel)) rfl
theorem mm_L_137 : Cond.methodLink RL 137 yX6_kinds ∈ gw := gw_mem (List.mem_of_getElem? (i := 1199) (by decide +kernel)) rfl
theorem mi_X6_kinds : Cond.instanceMethod yX6_kinds ∈ gw := gw_mem (List.mem_of_getElem? (i := 1200) (by decide +kernel)) rfl
theorem ms_X6_kinds : Cond.selects RX6 yX6_kinds yX6_kinds ∈ gw := gw_mem (List.mem_of_getElem? (i := 1201) (by decide +kernel)) rfl
theorem mc_X6_kinds : Cond.code yX6_kinds cX6_kinds 7 (some .int) ∈ gw := gw_mem (List.mem_of_getElem? (i := 1202) (by decide +kernel)) rfl
theorem mm_L_141 : Cond.methodLink RL 141 yX6_look ∈ gw := gw_mem (List.mem_of_getElem? (i := 1203) (by decide +kernel)) rfl
theorem mi_X6_look : Cond.instanceMethod yX6_look ∈ gw := gw_mem (List.mem_of_getElem? (i := 1204) (by decide +kernel)) rfl
theorem ms_X6_look : Cond.selects RX6 yX6_look yX6_look ∈ gw := gw_mem (List.mem_of_getElem? (i := 1205) (by decide +kernel)) rfl
theorem mc_X6_look : Cond.code yX6_look cX6_look 7 (some .int) ∈ gw := gw_mem (List.mem_of_getElem? (i := 1206) (by decide +kernel)) rfl
theorem mm_L_145 : Cond.methodLink RL 145 yX6_duel ∈ gw := gw_mem (List.mem_of_getElem? (i := 1207) (by decide +kernel)) rfl
theorem mi_X6_duel : Cond.instanceMethod yX6_duel ∈ gw := gw_mem (List.mem_of_getElem? (i := 1208) (by decide +kernel)) rfl
theorem ms_X6_duel : Cond.selects RX6 yX6_duel yX6_duel ∈ gw := gw_mem (List.mem_of_getElem? (i := 1209) (by decide +kernel)) rfl
theorem mc_X6_duel : Cond.code yX6_duel cX6_duel 9 (some .int) ∈ gw := gw_mem (List.mem_of_getElem? (i := 1210) (by decide +kernel)) rfl
theorem mm_X6_238 : Cond.methodLink RX6 238 yX6_isMoved ∈ gw := gw_mem (List.mem_of_getElem? (i := 1211) (by decide +kernel)) rfl
theorem mi_X6_isMoved : Cond.instanceMethod yX6_isMoved ∈ gw := gw_mem (List.mem_of_getElem? (i := 1213) (by decide +kernel)) rfl
theorem mc_X6_isMoved : Cond.code yX6_isMoved cX6_isMoved 8 (some .boolean) ∈ gw := gw_mem (List.mem_of_getElem? (i := 1214) (by decide +kernel)) rfl
theorem mm_L_149 : Cond.methodLink RL 149 yX6_odds ∈ gw := gw_mem (List.mem_of_getElem? (i := 1215) (by decide +kernel)) rfl
theorem mi_X6_odds : Cond.instanceMethod yX6_odds ∈ gw := gw_mem (List.mem_of_getElem? (i := 1216) (by decide +kernel)) rfl
theorem ms_X6_odds : Cond.selects RX6 yX6_odds yX6_odds ∈ gw := gw_mem (List.mem_of_getElem? (i := 1217) (by decide +kernel)) rfl
theorem mc_X6_odds : Cond.code yX6_odds cX6_odds 6 (some .int) ∈ gw := gw_mem (List.mem_of_getElem? (i := 1218) (by decide +kernel)) rfl
theorem mm_X6_246 : Cond.methodLink RX6 246 yX6_layParts ∈ gw := gw_mem (List.mem_of_getElem? (i := 1219) (by decide +kernel)) rfl
theorem mi_X6_layParts : Cond.instanceMethod yX6_layParts ∈ gw := gw_mem (List.mem_of_getElem? (i := 1221) (by decide +kernel)) rfl
theorem mc_X6_layParts : Cond.code yX6_layParts cX6_layParts 6 (none) ∈ gw := gw_mem (List.mem_of_getElem? (i := 1222) (by decide +kernel)) rfl
theorem mk_X6_244 : Cond.constantLong RX6 244 (12) ∈ gw := gw_mem (List.mem_of_getElem? (i := 1223) (by decide +kernel)) rfl
theorem mm_X6_250 : Cond.methodLink RX6 250 yX6_lowest ∈ gw := gw_mem (List.mem_of_getElem? (i := 1224) (by decide +kernel)) rfl
theorem mi_X6_lowest : Cond.instanceMethod yX6_lowest ∈ gw := gw_mem (List.mem_of_getElem? (i := 1226) (by decide +kernel)) rfl
theorem mc_X6_lowest : Cond.code yX6_lowest cX6_lowest 11 (some .int) ∈ gw := gw_mem (List.mem_of_getElem? (i := 1227) (by decide +kernel)) rfl
theorem mm_L_153 : Cond.methodLink RL 153 yX6_mid ∈ gw := gw_mem (List.mem_of_getElem? (i := 1228) (by decide +kernel)) rfl
theorem mi_X6_mid : Cond.instanceMethod yX6_mid ∈ gw := gw_mem (List.mem_of_getElem? (i := 1229) (by decide +kernel)) rfl
theorem ms_X6_mid : Cond.selects RX6 yX6_mid yX6_mid ∈ gw := gw_mem (List.mem_of_getElem? (i := 1230) (by decide +kernel)) rfl
theorem mc_X6_mid : Cond.code yX6_mid cX6_mid 5 (some .int) ∈ gw := gw_mem (List.mem_of_getElem? (i := 1231) (by decide +kernel)) rfl
theorem mm_L_157 : Cond.methodLink RL 157 yX6_lots ∈ gw := gw_mem (List.mem_of_getElem? (i := 1232) (by decide +kernel)) rfl
theorem mi_X6_lots : Cond.instanceMethod yX6_lots ∈ gw := gw_mem (List.mem_of_getElem? (i := 1233) (by decide +kernel)) rfl
theorem ms_X6_lots : Cond.selects RX6 yX6_lots yX6_lots ∈ gw := gw_mem (List.mem_of_getElem? (i := 1234) (by decide +kernel)) rfl
theorem mc_X6_lots : Cond.code yX6_lots cX6_lots 6 (some .int) ∈ gw := gw_mem (List.mem_of_getElem? (i := 1235) (by decide +kernel)) rfl
theorem mk_X6_254 : Cond.constant RX6 254 (2147483646) ∈ gw := gw_mem (List.mem_of_getElem? (i := 1236) (by decide +kernel)) rfl
theorem mk_X6_255 : Cond.constantLong RX6 255 (48271) ∈ gw := gw_mem (List.mem_of_getElem? (i := 1237) (by decide +kernel)) rfl
theorem mk_X6_257 : Cond.constantLong RX6 257 (2147483647) ∈ gw := gw_mem (List.mem_of_getElem? (i := 1238) (by decide +kernel)) rfl
theorem mk_X6_259 : Cond.constantLong RX6 259 (6) ∈ gw := gw_mem (List.mem_of_getElem? (i := 1239) (by decide +kernel)) rfl
theorem mk_X6_261 : Cond.constantLong RX6 261 (8) ∈ gw := gw_mem (List.mem_of_getElem? (i := 1240) (by decide +kernel)) rfl
theorem mm_L_174 : Cond.methodLink RL 174 yX6_count ∈ gw := gw_mem (List.mem_of_getElem? (i := 1241) (by decide +kernel)) rfl
theorem mi_X6_count : Cond.instanceMethod yX6_count ∈ gw := gw_mem (List.mem_of_getElem? (i := 1242) (by decide +kernel)) rfl
theorem ms_X6_count : Cond.selects RX6 yX6_count yX6_count ∈ gw := gw_mem (List.mem_of_getElem? (i := 1243) (by decide +kernel)) rfl
theorem mc_X6_count : Cond.code yX6_count cX6_count 2 (some .int) ∈ gw := gw_mem (List.mem_of_getElem? (i := 1244) (by decide +kernel)) rfl
theorem mm_X6_263 : Cond.methodLink RX6 263 yX6_counted ∈ gw := gw_mem (List.mem_of_getElem? (i := 1245) (by decide +kernel)) rfl
theorem mi_X6_counted : Cond.instanceMethod yX6_counted ∈ gw := gw_mem (List.mem_of_getElem? (i := 1247) (by decide +kernel)) rfl
theorem mc_X6_counted : Cond.code yX6_counted cX6_counted 4 (some .int) ∈ gw := gw_mem (List.mem_of_getElem? (i := 1248) (by decide +kernel)) rfl
theorem mm_L_186 : Cond.methodLink RL 186 yX6_digest ∈ gw := gw_mem (List.mem_of_getElem? (i := 1249) (by decide +kernel)) rfl
theorem mi_X6_digest : Cond.instanceMethod yX6_digest ∈ gw := gw_mem (List.mem_of_getElem? (i := 1250) (by decide +kernel)) rfl
theorem ms_X6_digest : Cond.selects RX6 yX6_digest yX6_digest ∈ gw := gw_mem (List.mem_of_getElem? (i := 1251) (by decide +kernel)) rfl
theorem mc_X6_digest : Cond.code yX6_digest cX6_digest 3 (some .long) ∈ gw := gw_mem (List.mem_of_getElem? (i := 1252) (by decide +kernel)) rfl
theorem mk_X6_271 : Cond.constantLong RX6 271 (17) ∈ gw := gw_mem (List.mem_of_getElem? (i := 1253) (by decide +kernel)) rfl
theorem mm_X6_273 : Cond.methodLink RX6 273 yX6_adds ∈ gw := gw_mem (List.mem_of_getElem? (i := 1254) (by decide +kernel)) rfl
theorem mi_X6_adds : Cond.instanceMethod yX6_adds ∈ gw := gw_mem (List.mem_of_getElem? (i := 1256) (by decide +kernel)) rfl
theorem mc_X6_adds : Cond.code yX6_adds cX6_adds 3 (none) ∈ gw := gw_mem (List.mem_of_getElem? (i := 1257) (by decide +kernel)) rfl
theorem mk_X6_266 : Cond.constantLong RX6 266 (31) ∈ gw := gw_mem (List.mem_of_getElem? (i := 1258) (by decide +kernel)) rfl
theorem ms_X5_makeAnew : Cond.selects RX5 yX5_makeAnew yX5_makeAnew ∈ gw := gw_mem (List.mem_of_getElem? (i := 0) (by decide +kernel)) rfl
theorem ms_X5_refuse : Cond.selects RX5 yX5_refuse yX5_refuse ∈ gw := gw_mem (List.mem_of_getElem? (i := 1) (by decide +kernel)) rfl
theorem ms_X5_refusePlace : Cond.selects RX5 yX5_refusePlace yX5_refusePlace ∈ gw := gw_mem (List.mem_of_getElem? (i := 2) (by decide +kernel)) rfl
theorem ms_X5_refuseMissing : Cond.selects RX5 yX5_refuseMissing yX5_refuseMissing ∈ gw := gw_mem (List.mem_of_getElem? (i := 3) (by decide +kernel)) rfl
theorem ms_X5_tell : Cond.selects RX5 yX5_tell yX5_tell ∈ gw := gw_mem (List.mem_of_getElem? (i := 4) (by decide +kernel)) rfl
theorem ms_X2_skipBlanks : Cond.selects RX2 yX2_skipBlanks yX2_skipBlanks ∈ gw := gw_mem (List.mem_of_getElem? (i := 5) (by decide +kernel)) rfl
theorem ms_X2_readRoad : Cond.selects RX2 yX2_readRoad yX2_readRoad ∈ gw := gw_mem (List.mem_of_getElem? (i := 6) (by decide +kernel)) rfl
theorem ms_X2_readFigure : Cond.selects RX2 yX2_readFigure yX2_readFigure ∈ gw := gw_mem (List.mem_of_getElem? (i := 7) (by decide +kernel)) rfl
theorem ms_X2_readGate : Cond.selects RX2 yX2_readGate yX2_readGate ∈ gw := gw_mem (List.mem_of_getElem? (i := 8) (by decide +kernel)) rfl
theorem ms_X2_readSpoke : Cond.selects RX2 yX2_readSpoke yX2_readSpoke ∈ gw := gw_mem (List.mem_of_getElem? (i := 9) (by decide +kernel)) rfl
theorem ms_X5_doDeed : Cond.selects RX5 yX5_doDeed yX5_doDeed ∈ gw := gw_mem (List.mem_of_getElem? (i := 10) (by decide +kernel)) rfl
theorem ms_X4_soakAll : Cond.selects RX4 yX4_soakAll yX4_soakAll ∈ gw := gw_mem (List.mem_of_getElem? (i := 11) (by decide +kernel)) rfl
theorem ms_X4_turnWeather : Cond.selects RX4 yX4_turnWeather yX4_turnWeather ∈ gw := gw_mem (List.mem_of_getElem? (i := 12) (by decide +kernel)) rfl
theorem ms_X4_knockOut : Cond.selects RX4 yX4_knockOut yX4_knockOut ∈ gw := gw_mem (List.mem_of_getElem? (i := 13) (by decide +kernel)) rfl
theorem ms_X4_putIn : Cond.selects RX4 yX4_putIn yX4_putIn ∈ gw := gw_mem (List.mem_of_getElem? (i := 14) (by decide +kernel)) rfl
theorem ms_X5_tellBeside : Cond.selects RX5 yX5_tellBeside yX5_tellBeside ∈ gw := gw_mem (List.mem_of_getElem? (i := 15) (by decide +kernel)) rfl
theorem ms_X0_reachesGateWith : Cond.selects RX0 yX0_reachesGateWith yX0_reachesGateWith ∈ gw := gw_mem (List.mem_of_getElem? (i := 16) (by decide +kernel)) rfl
theorem ms_X5_refuseLimps : Cond.selects RX5 yX5_refuseLimps yX5_refuseLimps ∈ gw := gw_mem (List.mem_of_getElem? (i := 17) (by decide +kernel)) rfl
theorem ms_X5_refuseGuess : Cond.selects RX5 yX5_refuseGuess yX5_refuseGuess ∈ gw := gw_mem (List.mem_of_getElem? (i := 18) (by decide +kernel)) rfl
theorem ms_X0_kindsBearing : Cond.selects RX0 yX0_kindsBearing yX0_kindsBearing ∈ gw := gw_mem (List.mem_of_getElem? (i := 19) (by decide +kernel)) rfl
theorem ms_X0_fight : Cond.selects RX0 yX0_fight yX0_fight ∈ gw := gw_mem (List.mem_of_getElem? (i := 20) (by decide +kernel)) rfl
theorem ms_X0_limpsWith : Cond.selects RX0 yX0_limpsWith yX0_limpsWith ∈ gw := gw_mem (List.mem_of_getElem? (i := 21) (by decide +kernel)) rfl
theorem ms_X0_waysToLose : Cond.selects RX0 yX0_waysToLose yX0_waysToLose ∈ gw := gw_mem (List.mem_of_getElem? (i := 22) (by decide +kernel)) rfl
theorem ms_X5_tellShare : Cond.selects RX5 yX5_tellShare yX5_tellShare ∈ gw := gw_mem (List.mem_of_getElem? (i := 23) (by decide +kernel)) rfl
theorem ms_X5_doLot : Cond.selects RX5 yX5_doLot yX5_doLot ∈ gw := gw_mem (List.mem_of_getElem? (i := 24) (by decide +kernel)) rfl
theorem ms_X5_counted : Cond.selects RX5 yX5_counted yX5_counted ∈ gw := gw_mem (List.mem_of_getElem? (i := 25) (by decide +kernel)) rfl
theorem ms_X5_keptOnes : Cond.selects RX5 yX5_keptOnes yX5_keptOnes ∈ gw := gw_mem (List.mem_of_getElem? (i := 26) (by decide +kernel)) rfl
theorem ms_X6_meets : Cond.selects RX6 yX6_meets yX6_meets ∈ gw := gw_mem (List.mem_of_getElem? (i := 27) (by decide +kernel)) rfl
theorem ms_X6_rowAt : Cond.selects RX6 yX6_rowAt yX6_rowAt ∈ gw := gw_mem (List.mem_of_getElem? (i := 28) (by decide +kernel)) rfl
theorem ms_X6_tells : Cond.selects RX6 yX6_tells yX6_tells ∈ gw := gw_mem (List.mem_of_getElem? (i := 29) (by decide +kernel)) rfl
theorem ms_X6_faultOf : Cond.selects RX6 yX6_faultOf yX6_faultOf ∈ gw := gw_mem (List.mem_of_getElem? (i := 30) (by decide +kernel)) rfl
theorem ms_X6_letterAt : Cond.selects RX6 yX6_letterAt yX6_letterAt ∈ gw := gw_mem (List.mem_of_getElem? (i := 31) (by decide +kernel)) rfl
theorem ms_X6_readsSpoke : Cond.selects RX6 yX6_readsSpoke yX6_readsSpoke ∈ gw := gw_mem (List.mem_of_getElem? (i := 32) (by decide +kernel)) rfl
theorem ms_X6_reads : Cond.selects RX6 yX6_reads yX6_reads ∈ gw := gw_mem (List.mem_of_getElem? (i := 33) (by decide +kernel)) rfl
theorem ms_X6_readsRoad : Cond.selects RX6 yX6_readsRoad yX6_readsRoad ∈ gw := gw_mem (List.mem_of_getElem? (i := 34) (by decide +kernel)) rfl
theorem ms_X6_isSpoke : Cond.selects RX6 yX6_isSpoke yX6_isSpoke ∈ gw := gw_mem (List.mem_of_getElem? (i := 35) (by decide +kernel)) rfl
theorem ms_X6_spokeTells : Cond.selects RX6 yX6_spokeTells yX6_spokeTells ∈ gw := gw_mem (List.mem_of_getElem? (i := 36) (by decide +kernel)) rfl
theorem ms_X6_depth : Cond.selects RX6 yX6_depth yX6_depth ∈ gw := gw_mem (List.mem_of_getElem? (i := 37) (by decide +kernel)) rfl
theorem ms_X6_bearsOn : Cond.selects RX6 yX6_bearsOn yX6_bearsOn ∈ gw := gw_mem (List.mem_of_getElem? (i := 38) (by decide +kernel)) rfl
theorem ms_X6_alike : Cond.selects RX6 yX6_alike yX6_alike ∈ gw := gw_mem (List.mem_of_getElem? (i := 39) (by decide +kernel)) rfl
theorem ms_X6_isOver : Cond.selects RX6 yX6_isOver yX6_isOver ∈ gw := gw_mem (List.mem_of_getElem? (i := 40) (by decide +kernel)) rfl
theorem ms_X6_remember : Cond.selects RX6 yX6_remember yX6_remember ∈ gw := gw_mem (List.mem_of_getElem? (i := 41) (by decide +kernel)) rfl
theorem ms_X6_steps : Cond.selects RX6 yX6_steps yX6_steps ∈ gw := gw_mem (List.mem_of_getElem? (i := 42) (by decide +kernel)) rfl
theorem ms_X6_need : Cond.selects RX6 yX6_need yX6_need ∈ gw := gw_mem (List.mem_of_getElem? (i := 43) (by decide +kernel)) rfl
theorem ms_X6_copyNow : Cond.selects RX6 yX6_copyNow yX6_copyNow ∈ gw := gw_mem (List.mem_of_getElem? (i := 44) (by decide +kernel)) rfl
theorem ms_X6_limpsIn : Cond.selects RX6 yX6_limpsIn yX6_limpsIn ∈ gw := gw_mem (List.mem_of_getElem? (i := 45) (by decide +kernel)) rfl
theorem ms_X6_all : Cond.selects RX6 yX6_all yX6_all ∈ gw := gw_mem (List.mem_of_getElem? (i := 46) (by decide +kernel)) rfl
theorem ms_X6_comes : Cond.selects RX6 yX6_comes yX6_comes ∈ gw := gw_mem (List.mem_of_getElem? (i := 47) (by decide +kernel)) rfl
theorem ms_X6_changes : Cond.selects RX6 yX6_changes yX6_changes ∈ gw := gw_mem (List.mem_of_getElem? (i := 48) (by decide +kernel)) rfl
theorem ms_X6_needLimps : Cond.selects RX6 yX6_needLimps yX6_needLimps ∈ gw := gw_mem (List.mem_of_getElem? (i := 49) (by decide +kernel)) rfl
theorem ms_X6_isSo : Cond.selects RX6 yX6_isSo yX6_isSo ∈ gw := gw_mem (List.mem_of_getElem? (i := 50) (by decide +kernel)) rfl
theorem ms_X6_isMoved : Cond.selects RX6 yX6_isMoved yX6_isMoved ∈ gw := gw_mem (List.mem_of_getElem? (i := 51) (by decide +kernel)) rfl
theorem ms_X6_layParts : Cond.selects RX6 yX6_layParts yX6_layParts ∈ gw := gw_mem (List.mem_of_getElem? (i := 52) (by decide +kernel)) rfl
theorem ms_X6_lowest : Cond.selects RX6 yX6_lowest yX6_lowest ∈ gw := gw_mem (List.mem_of_getElem? (i := 53) (by decide +kernel)) rfl
theorem ms_X6_counted : Cond.selects RX6 yX6_counted yX6_counted ∈ gw := gw_mem (List.mem_of_getElem? (i := 54) (by decide +kernel)) rfl
theorem ms_X6_adds : Cond.selects RX6 yX6_adds yX6_adds ∈ gw := gw_mem (List.mem_of_getElem? (i := 55) (by decide +kernel)) rfl
def nestW : List Cond := [Cond.methodLinkNest RX5 23 yX2_init "WheelWeeks", Cond.methodLinkNest RX2 11 yX4_init "WheelWeeks", Cond.methodLinkNest RX5 30 yX1_init "WheelWeeks", Cond.methodLinkNest RX1 11 yX4_init "WheelWeeks", Cond.methodLinkNest RX0 17 yX4_init "WheelWeeks", Cond.fieldLinkNest RX2 73 "WheelWeeks" "LETTERS" "[I" "WheelWeeks", Cond.methodLinkNest RX4 66 yX5_bearing "WheelWeeks", Cond.methodLinkNest RX0 106 yX5_bearing "WheelWeeks", Cond.methodLinkNest RX5 231 yX0_fight "WheelWeeks", Cond.methodLinkNest RX0 124 yX5_power "WheelWeeks", Cond.methodLinkNest RX4 78 yX5_isOfKind "WheelWeeks"]
theorem inX0 : ∀ w ∈ wsX00, w ∈ gw := by decide +kernel
theorem inX1 : ∀ w ∈ wsX10, w ∈ gw := by decide +kernel
theorem inX2 : ∀ w ∈ wsX20, w ∈ gw := by decide +kernel
theorem inX3 : ∀ w ∈ wsX30, w ∈ gw := by decide +kernel
theorem inX4 : ∀ w ∈ wsX40, w ∈ gw := by decide +kernel
theorem inX5 : ∀ w ∈ wsX50, w ∈ gw := by decide +kernel
theorem inX6 : ∀ w ∈ wsX60, w ∈ gw := by decide +kernel
