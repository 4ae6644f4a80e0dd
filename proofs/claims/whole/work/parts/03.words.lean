theorem w_0 : Cond.initialized "LentGalleryLaw" ∈ TB := tb_in1 (List.mem_of_getElem? (i := 0) rfl) rfl
theorem w_1 : Cond.initialized "LentGallery" ∈ TB := tb_in1 (List.mem_of_getElem? (i := 1) rfl) rfl
theorem w_2 : Cond.initialized "LentGallery$Page" ∈ TB := tb_in1 (List.mem_of_getElem? (i := 2) rfl) rfl
theorem w_3 : Cond.initialized "LentGallery$Street" ∈ TB := tb_in1 (List.mem_of_getElem? (i := 3) rfl) rfl
theorem w_4 : Cond.initialized "LentGallery$Roof" ∈ TB := tb_in1 (List.mem_of_getElem? (i := 4) rfl) rfl
theorem w_5 : Cond.initialized "LentGallery$Knocks" ∈ TB := tb_in1 (List.mem_of_getElem? (i := 5) rfl) rfl
theorem w_6 : Cond.initialized "LentGallery$Settling" ∈ TB := tb_in1 (List.mem_of_getElem? (i := 6) rfl) rfl
theorem w_7 : Cond.initialized "LentGallery$Sounding" ∈ TB := tb_in1 (List.mem_of_getElem? (i := 7) rfl) rfl
theorem w_8 : Cond.initialized "LentGallery$Draws" ∈ TB := tb_in1 (List.mem_of_getElem? (i := 8) rfl) rfl
theorem w_9 : Cond.initialized "LentGalleryModel" ∈ TB := tb_in1 (List.mem_of_getElem? (i := 9) rfl) rfl
theorem w_10 : Cond.initialized "java/lang/Math" ∈ TB := tb_in1 (List.mem_of_getElem? (i := 10) rfl) rfl
theorem w_11 : Cond.initialized "java/lang/System" ∈ TB := tb_in1 (List.mem_of_getElem? (i := 11) rfl) rfl
theorem w_12 : Cond.initialized "java/lang/Integer" ∈ TB := tb_in1 (List.mem_of_getElem? (i := 12) rfl) rfl
theorem w_13 : Cond.initialized "java/util/Arrays" ∈ TB := tb_in1 (List.mem_of_getElem? (i := 13) rfl) rfl
theorem w_14 : Cond.classLink "LentGalleryLaw" 7 "LentGallery" ∈ TB := tb_in1 (List.mem_of_getElem? (i := 14) rfl) rfl
theorem w_15 : Cond.instantiable "LentGallery" 13 ∈ TB := tb_in1 (List.mem_of_getElem? (i := 15) rfl) rfl
theorem w_16 : Cond.methodLink "LentGalleryLaw" 9 yX7_init ∈ TB := tb_in1 (List.mem_of_getElem? (i := 16) rfl) rfl
theorem w_17 : Cond.instanceMethod yX7_init ∈ TB := tb_in1 (List.mem_of_getElem? (i := 17) rfl) rfl
theorem w_18 : Cond.code yX7_init prog_1_method_1_code 1 none ∈ TB := tb_in1 (List.mem_of_getElem? (i := 18) rfl) rfl
theorem w_19 : Cond.methodLink "LentGallery" 3 objectInit ∈ TB := tb_in1 (List.mem_of_getElem? (i := 19) rfl) rfl
theorem w_20 : Cond.instanceMethod objectInit ∈ TB := tb_in1 (List.mem_of_getElem? (i := 20) rfl) rfl
theorem w_21 : Cond.code objectInit object_method_1_code 1 none ∈ TB := tb_in1 (List.mem_of_getElem? (i := 21) rfl) rfl
theorem w_22 : Cond.classLink "LentGallery" 9 "LentGallery$Page" ∈ TB := tb_in1 (List.mem_of_getElem? (i := 22) rfl) rfl
theorem w_23 : Cond.instantiable "LentGallery$Page" 2 ∈ TB := tb_in1 (List.mem_of_getElem? (i := 23) rfl) rfl
theorem w_25 : Cond.instanceMethod yX2_init ∈ TB := tb_in1 (List.mem_of_getElem? (i := 25) rfl) rfl
theorem w_26 : Cond.code yX2_init prog_4_method_1_code 1 none ∈ TB := tb_in1 (List.mem_of_getElem? (i := 26) rfl) rfl
theorem w_27 : Cond.methodLink "LentGallery$Page" 3 objectInit ∈ TB := tb_in1 (List.mem_of_getElem? (i := 27) rfl) rfl
theorem w_28 : Cond.fieldLink "LentGallery$Page" 9 "LentGallery$Page" "letters" "[I" ∈ TB := tb_in1 (List.mem_of_getElem? (i := 28) rfl) rfl
theorem w_29 : Cond.fieldLink "LentGallery" 261 "LentGallery$Page" "letters" "[I" ∈ TB := tb_in1 (List.mem_of_getElem? (i := 29) rfl) rfl
theorem w_30 : Cond.fieldLink "LentGallery$Page" 15 "LentGallery$Page" "length" "I" ∈ TB := tb_in1 (List.mem_of_getElem? (i := 30) rfl) rfl
theorem w_31 : Cond.fieldLink "LentGallery" 64 "LentGallery$Page" "length" "I" ∈ TB := tb_in1 (List.mem_of_getElem? (i := 31) rfl) rfl
theorem w_32 : Cond.laysFinal "LentGallery$Page" "LentGallery$Page" "letters" "[I" ∈ TB := tb_in1 (List.mem_of_getElem? (i := 32) rfl) rfl
theorem w_34 : Cond.lays "LentGallery$Page" "LentGallery$Page" "length" "I" ∈ TB := tb_in1 (List.mem_of_getElem? (i := 34) rfl) rfl
theorem w_37 : Cond.arrayClass FieldType.int ∈ TB := tb_in1 (List.mem_of_getElem? (i := 37) rfl) rfl
theorem w_38 : Cond.classLink "LentGallery" 16 "LentGallery$Street" ∈ TB := tb_in1 (List.mem_of_getElem? (i := 38) rfl) rfl
theorem w_39 : Cond.instantiable "LentGallery$Street" 9 ∈ TB := tb_in1 (List.mem_of_getElem? (i := 39) rfl) rfl
theorem w_41 : Cond.instanceMethod yX6_init ∈ TB := tb_in1 (List.mem_of_getElem? (i := 41) rfl) rfl
theorem w_42 : Cond.code yX6_init prog_8_method_1_code 1 none ∈ TB := tb_in1 (List.mem_of_getElem? (i := 42) rfl) rfl
theorem w_43 : Cond.methodLink "LentGallery$Street" 3 objectInit ∈ TB := tb_in1 (List.mem_of_getElem? (i := 43) rfl) rfl
theorem w_44 : Cond.classLink "LentGallery$Street" 9 "LentGallery$Roof" ∈ TB := tb_in1 (List.mem_of_getElem? (i := 44) rfl) rfl
theorem w_45 : Cond.instantiable "LentGallery$Roof" 3 ∈ TB := tb_in1 (List.mem_of_getElem? (i := 45) rfl) rfl
theorem w_47 : Cond.instanceMethod yX3_init ∈ TB := tb_in1 (List.mem_of_getElem? (i := 47) rfl) rfl
theorem w_48 : Cond.code yX3_init prog_5_method_1_code 1 none ∈ TB := tb_in1 (List.mem_of_getElem? (i := 48) rfl) rfl
theorem w_49 : Cond.methodLink "LentGallery$Roof" 3 objectInit ∈ TB := tb_in1 (List.mem_of_getElem? (i := 49) rfl) rfl
theorem w_50 : Cond.fieldLink "LentGallery$Roof" 9 "LentGallery$Roof" "strong" "[I" ∈ TB := tb_in1 (List.mem_of_getElem? (i := 50) rfl) rfl
theorem w_51 : Cond.fieldLink "LentGallery$Street" 25 "LentGallery$Roof" "strong" "[I" ∈ TB := tb_in1 (List.mem_of_getElem? (i := 51) rfl) rfl
theorem w_52 : Cond.fieldLink "LentGallery$Sounding" 45 "LentGallery$Roof" "strong" "[I" ∈ TB := tb_in1 (List.mem_of_getElem? (i := 52) rfl) rfl
theorem w_53 : Cond.fieldLink "LentGallery" 101 "LentGallery$Roof" "strong" "[I" ∈ TB := tb_in1 (List.mem_of_getElem? (i := 53) rfl) rfl
theorem w_54 : Cond.fieldLink "LentGallery$Roof" 15 "LentGallery$Roof" "load" "[I" ∈ TB := tb_in1 (List.mem_of_getElem? (i := 54) rfl) rfl
theorem w_55 : Cond.fieldLink "LentGallery$Settling" 32 "LentGallery$Roof" "load" "[I" ∈ TB := tb_in1 (List.mem_of_getElem? (i := 55) rfl) rfl
theorem w_56 : Cond.fieldLink "LentGallery$Street" 34 "LentGallery$Roof" "load" "[I" ∈ TB := tb_in1 (List.mem_of_getElem? (i := 56) rfl) rfl
theorem w_57 : Cond.fieldLink "LentGallery" 105 "LentGallery$Roof" "load" "[I" ∈ TB := tb_in1 (List.mem_of_getElem? (i := 57) rfl) rfl
theorem w_58 : Cond.fieldLink "LentGallery$Roof" 18 "LentGallery$Roof" "losses" "[I" ∈ TB := tb_in1 (List.mem_of_getElem? (i := 58) rfl) rfl
theorem w_59 : Cond.laysFinal "LentGallery$Roof" "LentGallery$Roof" "strong" "[I" ∈ TB := tb_in1 (List.mem_of_getElem? (i := 59) rfl) rfl
theorem w_61 : Cond.laysFinal "LentGallery$Roof" "LentGallery$Roof" "load" "[I" ∈ TB := tb_in1 (List.mem_of_getElem? (i := 61) rfl) rfl
theorem w_63 : Cond.laysFinal "LentGallery$Roof" "LentGallery$Roof" "losses" "[I" ∈ TB := tb_in1 (List.mem_of_getElem? (i := 63) rfl) rfl
theorem w_66 : Cond.fieldLink "LentGallery$Street" 12 "LentGallery$Street" "roof" "LLentGallery$Roof;" ∈ TB := tb_in1 (List.mem_of_getElem? (i := 66) rfl) rfl
theorem w_67 : Cond.fieldLink "LentGallery$Settling" 25 "LentGallery$Street" "roof" "LLentGallery$Roof;" ∈ TB := tb_in1 (List.mem_of_getElem? (i := 67) rfl) rfl
theorem w_68 : Cond.fieldLink "LentGallery" 89 "LentGallery$Street" "roof" "LLentGallery$Roof;" ∈ TB := tb_in1 (List.mem_of_getElem? (i := 68) rfl) rfl
theorem w_69 : Cond.fieldLink "LentGallery$Street" 18 "LentGallery$Street" "kinds" "[I" ∈ TB := tb_in1 (List.mem_of_getElem? (i := 69) rfl) rfl
theorem w_70 : Cond.fieldLink "LentGallery" 150 "LentGallery$Street" "kinds" "[I" ∈ TB := tb_in1 (List.mem_of_getElem? (i := 70) rfl) rfl
theorem w_71 : Cond.fieldLink "LentGallery$Street" 22 "LentGallery$Street" "homes" "[I" ∈ TB := tb_in1 (List.mem_of_getElem? (i := 71) rfl) rfl
theorem w_72 : Cond.fieldLink "LentGallery" 153 "LentGallery$Street" "homes" "[I" ∈ TB := tb_in1 (List.mem_of_getElem? (i := 72) rfl) rfl
theorem w_73 : Cond.fieldLink "LentGallery$Street" 44 "LentGallery$Street" "tenants" "I" ∈ TB := tb_in1 (List.mem_of_getElem? (i := 73) rfl) rfl
theorem w_74 : Cond.fieldLink "LentGallery$Settling" 57 "LentGallery$Street" "tenants" "I" ∈ TB := tb_in1 (List.mem_of_getElem? (i := 74) rfl) rfl
theorem w_75 : Cond.fieldLink "LentGallery" 140 "LentGallery$Street" "tenants" "I" ∈ TB := tb_in1 (List.mem_of_getElem? (i := 75) rfl) rfl
theorem w_76 : Cond.fieldLink "LentGallery$Street" 37 "LentGallery$Street" "air" "I" ∈ TB := tb_in1 (List.mem_of_getElem? (i := 76) rfl) rfl
theorem w_77 : Cond.fieldLink "LentGallery" 233 "LentGallery$Street" "air" "I" ∈ TB := tb_in1 (List.mem_of_getElem? (i := 77) rfl) rfl
theorem w_78 : Cond.fieldLink "LentGallery$Street" 41 "LentGallery$Street" "cage" "I" ∈ TB := tb_in1 (List.mem_of_getElem? (i := 78) rfl) rfl
theorem w_79 : Cond.fieldLink "LentGallery" 236 "LentGallery$Street" "cage" "I" ∈ TB := tb_in1 (List.mem_of_getElem? (i := 79) rfl) rfl
theorem w_80 : Cond.fieldLink "LentGallery$Street" 47 "LentGallery$Street" "days" "I" ∈ TB := tb_in1 (List.mem_of_getElem? (i := 80) rfl) rfl
theorem w_81 : Cond.fieldLink "LentGallery" 230 "LentGallery$Street" "days" "I" ∈ TB := tb_in1 (List.mem_of_getElem? (i := 81) rfl) rfl
theorem w_82 : Cond.fieldLink "LentGallery$Street" 50 "LentGallery$Street" "falls" "I" ∈ TB := tb_in1 (List.mem_of_getElem? (i := 82) rfl) rfl
theorem w_83 : Cond.fieldLink "LentGallery" 242 "LentGallery$Street" "falls" "I" ∈ TB := tb_in1 (List.mem_of_getElem? (i := 83) rfl) rfl
theorem w_84 : Cond.fieldLink "LentGallery$Street" 53 "LentGallery$Street" "props" "I" ∈ TB := tb_in1 (List.mem_of_getElem? (i := 84) rfl) rfl
theorem w_85 : Cond.fieldLink "LentGallery" 134 "LentGallery$Street" "props" "I" ∈ TB := tb_in1 (List.mem_of_getElem? (i := 85) rfl) rfl
theorem w_86 : Cond.laysFinal "LentGallery$Street" "LentGallery$Street" "roof" "LLentGallery$Roof;" ∈ TB := tb_in1 (List.mem_of_getElem? (i := 86) rfl) rfl
theorem w_88 : Cond.laysFinal "LentGallery$Street" "LentGallery$Street" "kinds" "[I" ∈ TB := tb_in1 (List.mem_of_getElem? (i := 88) rfl) rfl
theorem w_90 : Cond.laysFinal "LentGallery$Street" "LentGallery$Street" "homes" "[I" ∈ TB := tb_in1 (List.mem_of_getElem? (i := 90) rfl) rfl
theorem w_92 : Cond.lays "LentGallery$Street" "LentGallery$Street" "tenants" "I" ∈ TB := tb_in1 (List.mem_of_getElem? (i := 92) rfl) rfl
theorem w_94 : Cond.lays "LentGallery$Street" "LentGallery$Street" "air" "I" ∈ TB := tb_in1 (List.mem_of_getElem? (i := 94) rfl) rfl
theorem w_96 : Cond.lays "LentGallery$Street" "LentGallery$Street" "cage" "I" ∈ TB := tb_in1 (List.mem_of_getElem? (i := 96) rfl) rfl
theorem w_98 : Cond.lays "LentGallery$Street" "LentGallery$Street" "days" "I" ∈ TB := tb_in1 (List.mem_of_getElem? (i := 98) rfl) rfl
theorem w_100 : Cond.lays "LentGallery$Street" "LentGallery$Street" "falls" "I" ∈ TB := tb_in1 (List.mem_of_getElem? (i := 100) rfl) rfl
theorem w_102 : Cond.lays "LentGallery$Street" "LentGallery$Street" "props" "I" ∈ TB := tb_in1 (List.mem_of_getElem? (i := 102) rfl) rfl
theorem w_105 : Cond.classLink "LentGallery" 23 "LentGallery$Knocks" ∈ TB := tb_in1 (List.mem_of_getElem? (i := 105) rfl) rfl
theorem w_106 : Cond.instantiable "LentGallery$Knocks" 4 ∈ TB := tb_in1 (List.mem_of_getElem? (i := 106) rfl) rfl
theorem w_108 : Cond.instanceMethod yX1_init ∈ TB := tb_in1 (List.mem_of_getElem? (i := 108) rfl) rfl
theorem w_109 : Cond.code yX1_init prog_3_method_1_code 1 none ∈ TB := tb_in1 (List.mem_of_getElem? (i := 109) rfl) rfl
theorem w_110 : Cond.methodLink "LentGallery$Knocks" 3 objectInit ∈ TB := tb_in1 (List.mem_of_getElem? (i := 110) rfl) rfl
theorem w_111 : Cond.fieldLink "LentGallery$Knocks" 9 "LentGallery$Knocks" "places" "[I" ∈ TB := tb_in1 (List.mem_of_getElem? (i := 111) rfl) rfl
theorem w_112 : Cond.fieldLink "LentGallery$Knocks" 15 "LentGallery$Knocks" "days" "[I" ∈ TB := tb_in1 (List.mem_of_getElem? (i := 112) rfl) rfl
theorem w_113 : Cond.fieldLink "LentGallery$Knocks" 18 "LentGallery$Knocks" "stood" "[I" ∈ TB := tb_in1 (List.mem_of_getElem? (i := 113) rfl) rfl
theorem w_114 : Cond.fieldLink "LentGallery$Knocks" 21 "LentGallery$Knocks" "size" "I" ∈ TB := tb_in1 (List.mem_of_getElem? (i := 114) rfl) rfl
theorem w_115 : Cond.fieldLink "LentGallery" 76 "LentGallery$Knocks" "size" "I" ∈ TB := tb_in1 (List.mem_of_getElem? (i := 115) rfl) rfl
theorem w_116 : Cond.laysFinal "LentGallery$Knocks" "LentGallery$Knocks" "places" "[I" ∈ TB := tb_in1 (List.mem_of_getElem? (i := 116) rfl) rfl
theorem w_118 : Cond.laysFinal "LentGallery$Knocks" "LentGallery$Knocks" "days" "[I" ∈ TB := tb_in1 (List.mem_of_getElem? (i := 118) rfl) rfl
theorem w_120 : Cond.laysFinal "LentGallery$Knocks" "LentGallery$Knocks" "stood" "[I" ∈ TB := tb_in1 (List.mem_of_getElem? (i := 120) rfl) rfl
theorem w_122 : Cond.lays "LentGallery$Knocks" "LentGallery$Knocks" "size" "I" ∈ TB := tb_in1 (List.mem_of_getElem? (i := 122) rfl) rfl
theorem w_125 : Cond.classLink "LentGallery" 39 "LentGallery$Settling" ∈ TB := tb_in1 (List.mem_of_getElem? (i := 125) rfl) rfl
theorem w_126 : Cond.instantiable "LentGallery$Settling" 5 ∈ TB := tb_in1 (List.mem_of_getElem? (i := 126) rfl) rfl
theorem w_128 : Cond.instanceMethod yX4_init ∈ TB := tb_in1 (List.mem_of_getElem? (i := 128) rfl) rfl
theorem w_129 : Cond.code yX4_init prog_6_method_1_code 1 none ∈ TB := tb_in1 (List.mem_of_getElem? (i := 129) rfl) rfl
theorem w_130 : Cond.methodLink "LentGallery$Settling" 3 objectInit ∈ TB := tb_in1 (List.mem_of_getElem? (i := 130) rfl) rfl
theorem w_131 : Cond.classLink "LentGallery$Settling" 9 "LentGallery$Roof" ∈ TB := tb_in1 (List.mem_of_getElem? (i := 131) rfl) rfl
theorem w_133 : Cond.fieldLink "LentGallery$Settling" 12 "LentGallery$Settling" "roof" "LLentGallery$Roof;" ∈ TB := tb_in1 (List.mem_of_getElem? (i := 133) rfl) rfl
theorem w_134 : Cond.fieldLink "LentGallery$Settling" 18 "LentGallery$Settling" "homes" "[I" ∈ TB := tb_in1 (List.mem_of_getElem? (i := 134) rfl) rfl
theorem w_135 : Cond.fieldLink "LentGallery$Settling" 22 "LentGallery$Settling" "bestHomes" "[I" ∈ TB := tb_in1 (List.mem_of_getElem? (i := 135) rfl) rfl
theorem w_136 : Cond.fieldLink "LentGallery" 197 "LentGallery$Settling" "bestHomes" "[I" ∈ TB := tb_in1 (List.mem_of_getElem? (i := 136) rfl) rfl
theorem w_137 : Cond.fieldLink "LentGallery$Settling" 41 "LentGallery$Settling" "bestHold" "I" ∈ TB := tb_in1 (List.mem_of_getElem? (i := 137) rfl) rfl
theorem w_138 : Cond.fieldLink "LentGallery" 194 "LentGallery$Settling" "bestHold" "I" ∈ TB := tb_in1 (List.mem_of_getElem? (i := 138) rfl) rfl
theorem w_139 : Cond.fieldLink "LentGallery$Settling" 45 "LentGallery$Settling" "found" "Z" ∈ TB := tb_in1 (List.mem_of_getElem? (i := 139) rfl) rfl
theorem w_140 : Cond.fieldLink "LentGallery" 191 "LentGallery$Settling" "found" "Z" ∈ TB := tb_in1 (List.mem_of_getElem? (i := 140) rfl) rfl
theorem w_141 : Cond.laysFinal "LentGallery$Settling" "LentGallery$Settling" "roof" "LLentGallery$Roof;" ∈ TB := tb_in1 (List.mem_of_getElem? (i := 141) rfl) rfl
theorem w_143 : Cond.laysFinal "LentGallery$Settling" "LentGallery$Settling" "homes" "[I" ∈ TB := tb_in1 (List.mem_of_getElem? (i := 143) rfl) rfl
theorem w_145 : Cond.laysFinal "LentGallery$Settling" "LentGallery$Settling" "bestHomes" "[I" ∈ TB := tb_in1 (List.mem_of_getElem? (i := 145) rfl) rfl
theorem w_147 : Cond.lays "LentGallery$Settling" "LentGallery$Settling" "bestHold" "I" ∈ TB := tb_in1 (List.mem_of_getElem? (i := 147) rfl) rfl
theorem w_149 : Cond.lays "LentGallery$Settling" "LentGallery$Settling" "found" "Z" ∈ TB := tb_in1 (List.mem_of_getElem? (i := 149) rfl) rfl
theorem w_152 : Cond.classLink "LentGallery" 46 "LentGallery$Sounding" ∈ TB := tb_in1 (List.mem_of_getElem? (i := 152) rfl) rfl
theorem w_153 : Cond.instantiable "LentGallery$Sounding" 4 ∈ TB := tb_in1 (List.mem_of_getElem? (i := 153) rfl) rfl
theorem w_155 : Cond.instanceMethod yX5_init ∈ TB := tb_in1 (List.mem_of_getElem? (i := 155) rfl) rfl
theorem w_156 : Cond.code yX5_init prog_7_method_1_code 1 none ∈ TB := tb_in1 (List.mem_of_getElem? (i := 156) rfl) rfl
theorem w_157 : Cond.methodLink "LentGallery$Sounding" 3 objectInit ∈ TB := tb_in1 (List.mem_of_getElem? (i := 157) rfl) rfl
theorem w_158 : Cond.classLink "LentGallery$Sounding" 9 "LentGallery$Roof" ∈ TB := tb_in1 (List.mem_of_getElem? (i := 158) rfl) rfl
theorem w_160 : Cond.fieldLink "LentGallery$Sounding" 12 "LentGallery$Sounding" "trial" "LLentGallery$Roof;" ∈ TB := tb_in1 (List.mem_of_getElem? (i := 160) rfl) rfl
theorem w_161 : Cond.fieldLink "LentGallery$Sounding" 18 "LentGallery$Sounding" "fallenBy" "[I" ∈ TB := tb_in1 (List.mem_of_getElem? (i := 161) rfl) rfl
theorem w_162 : Cond.fieldLink "LentGallery$Sounding" 22 "LentGallery$Sounding" "guessFallenBy" "[I" ∈ TB := tb_in1 (List.mem_of_getElem? (i := 162) rfl) rfl
theorem w_163 : Cond.fieldLink "LentGallery$Sounding" 25 "LentGallery$Sounding" "possible" "I" ∈ TB := tb_in1 (List.mem_of_getElem? (i := 163) rfl) rfl
theorem w_164 : Cond.fieldLink "LentGallery" 125 "LentGallery$Sounding" "possible" "I" ∈ TB := tb_in1 (List.mem_of_getElem? (i := 164) rfl) rfl
theorem w_165 : Cond.laysFinal "LentGallery$Sounding" "LentGallery$Sounding" "trial" "LLentGallery$Roof;" ∈ TB := tb_in1 (List.mem_of_getElem? (i := 165) rfl) rfl
theorem w_167 : Cond.laysFinal "LentGallery$Sounding" "LentGallery$Sounding" "fallenBy" "[I" ∈ TB := tb_in1 (List.mem_of_getElem? (i := 167) rfl) rfl
theorem w_169 : Cond.laysFinal "LentGallery$Sounding" "LentGallery$Sounding" "guessFallenBy" "[I" ∈ TB := tb_in1 (List.mem_of_getElem? (i := 169) rfl) rfl
theorem w_171 : Cond.lays "LentGallery$Sounding" "LentGallery$Sounding" "possible" "I" ∈ TB := tb_in1 (List.mem_of_getElem? (i := 171) rfl) rfl
theorem w_174 : Cond.classLink "LentGallery" 53 "LentGallery$Draws" ∈ TB := tb_in1 (List.mem_of_getElem? (i := 174) rfl) rfl
theorem w_175 : Cond.instantiable "LentGallery$Draws" 1 ∈ TB := tb_in1 (List.mem_of_getElem? (i := 175) rfl) rfl
theorem w_177 : Cond.instanceMethod yX0_init ∈ TB := tb_in1 (List.mem_of_getElem? (i := 177) rfl) rfl
theorem w_178 : Cond.code yX0_init prog_2_method_1_code 1 none ∈ TB := tb_in1 (List.mem_of_getElem? (i := 178) rfl) rfl
theorem w_179 : Cond.methodLink "LentGallery$Draws" 1 objectInit ∈ TB := tb_in1 (List.mem_of_getElem? (i := 179) rfl) rfl
theorem w_180 : Cond.fieldLink "LentGallery$Draws" 9 "LentGallery$Draws" "seed" "I" ∈ TB := tb_in1 (List.mem_of_getElem? (i := 180) rfl) rfl
theorem w_181 : Cond.fieldLink "LentGallery" 213 "LentGallery$Draws" "seed" "I" ∈ TB := tb_in1 (List.mem_of_getElem? (i := 181) rfl) rfl
theorem w_182 : Cond.lays "LentGallery$Draws" "LentGallery$Draws" "seed" "I" ∈ TB := tb_in1 (List.mem_of_getElem? (i := 182) rfl) rfl
theorem w_185 : Cond.fieldLink "LentGallery" 12 "LentGallery" "page" "LLentGallery$Page;" ∈ TB := tb_in1 (List.mem_of_getElem? (i := 185) rfl) rfl
theorem w_186 : Cond.fieldLink "LentGallery" 19 "LentGallery" "street" "LLentGallery$Street;" ∈ TB := tb_in1 (List.mem_of_getElem? (i := 186) rfl) rfl
theorem w_187 : Cond.fieldLink "LentGallery" 26 "LentGallery" "knocks" "LLentGallery$Knocks;" ∈ TB := tb_in1 (List.mem_of_getElem? (i := 187) rfl) rfl
theorem w_188 : Cond.fieldLink "LentGallery" 30 "LentGallery" "keptStreet" "LLentGallery$Street;" ∈ TB := tb_in1 (List.mem_of_getElem? (i := 188) rfl) rfl
theorem w_189 : Cond.fieldLink "LentGallery" 33 "LentGallery" "keptKnocks" "LLentGallery$Knocks;" ∈ TB := tb_in1 (List.mem_of_getElem? (i := 189) rfl) rfl
theorem w_190 : Cond.fieldLink "LentGallery" 36 "LentGallery" "wouldBe" "LLentGallery$Street;" ∈ TB := tb_in1 (List.mem_of_getElem? (i := 190) rfl) rfl
theorem w_191 : Cond.fieldLink "LentGallery" 42 "LentGallery" "settling" "LLentGallery$Settling;" ∈ TB := tb_in1 (List.mem_of_getElem? (i := 191) rfl) rfl
theorem w_192 : Cond.fieldLink "LentGallery" 49 "LentGallery" "sounding" "LLentGallery$Sounding;" ∈ TB := tb_in1 (List.mem_of_getElem? (i := 192) rfl) rfl
theorem w_193 : Cond.fieldLink "LentGallery" 56 "LentGallery" "draws" "LLentGallery$Draws;" ∈ TB := tb_in1 (List.mem_of_getElem? (i := 193) rfl) rfl
theorem w_194 : Cond.fieldLink "LentGallery" 79 "LentGallery" "hasGallery" "Z" ∈ TB := tb_in1 (List.mem_of_getElem? (i := 194) rfl) rfl
theorem w_195 : Cond.fieldLink "LentGallery" 83 "LentGallery" "hasImage" "Z" ∈ TB := tb_in1 (List.mem_of_getElem? (i := 195) rfl) rfl
theorem w_196 : Cond.fieldLink "LentGallery" 86 "LentGallery" "galleriesRead" "I" ∈ TB := tb_in1 (List.mem_of_getElem? (i := 196) rfl) rfl
theorem w_197 : Cond.fieldLink "LentGallery" 184 "LentGallery" "whereDone" "I" ∈ TB := tb_in1 (List.mem_of_getElem? (i := 197) rfl) rfl
theorem w_198 : Cond.laysFinal "LentGallery" "LentGallery" "page" "LLentGallery$Page;" ∈ TB := tb_in1 (List.mem_of_getElem? (i := 198) rfl) rfl
theorem w_200 : Cond.laysFinal "LentGallery" "LentGallery" "street" "LLentGallery$Street;" ∈ TB := tb_in1 (List.mem_of_getElem? (i := 200) rfl) rfl
theorem w_202 : Cond.laysFinal "LentGallery" "LentGallery" "knocks" "LLentGallery$Knocks;" ∈ TB := tb_in1 (List.mem_of_getElem? (i := 202) rfl) rfl
theorem w_204 : Cond.laysFinal "LentGallery" "LentGallery" "keptStreet" "LLentGallery$Street;" ∈ TB := tb_in1 (List.mem_of_getElem? (i := 204) rfl) rfl
theorem w_206 : Cond.laysFinal "LentGallery" "LentGallery" "keptKnocks" "LLentGallery$Knocks;" ∈ TB := tb_in1 (List.mem_of_getElem? (i := 206) rfl) rfl
theorem w_208 : Cond.laysFinal "LentGallery" "LentGallery" "wouldBe" "LLentGallery$Street;" ∈ TB := tb_in1 (List.mem_of_getElem? (i := 208) rfl) rfl
theorem w_210 : Cond.laysFinal "LentGallery" "LentGallery" "settling" "LLentGallery$Settling;" ∈ TB := tb_in1 (List.mem_of_getElem? (i := 210) rfl) rfl
theorem w_212 : Cond.laysFinal "LentGallery" "LentGallery" "sounding" "LLentGallery$Sounding;" ∈ TB := tb_in1 (List.mem_of_getElem? (i := 212) rfl) rfl
theorem w_214 : Cond.laysFinal "LentGallery" "LentGallery" "draws" "LLentGallery$Draws;" ∈ TB := tb_in1 (List.mem_of_getElem? (i := 214) rfl) rfl
theorem w_216 : Cond.lays "LentGallery" "LentGallery" "hasGallery" "Z" ∈ TB := tb_in1 (List.mem_of_getElem? (i := 216) rfl) rfl
theorem w_218 : Cond.lays "LentGallery" "LentGallery" "hasImage" "Z" ∈ TB := tb_in1 (List.mem_of_getElem? (i := 218) rfl) rfl
theorem w_220 : Cond.lays "LentGallery" "LentGallery" "galleriesRead" "I" ∈ TB := tb_in1 (List.mem_of_getElem? (i := 220) rfl) rfl
theorem w_222 : Cond.lays "LentGallery" "LentGallery" "whereDone" "I" ∈ TB := tb_in1 (List.mem_of_getElem? (i := 222) rfl) rfl
theorem w_225 : Cond.methodLink "LentGalleryLaw" 13 yX7_letter ∈ TB := tb_in1 (List.mem_of_getElem? (i := 225) rfl) rfl
theorem w_226 : Cond.instanceMethod yX7_letter ∈ TB := tb_in1 (List.mem_of_getElem? (i := 226) rfl) rfl
theorem w_227 : Cond.selects "LentGallery" yX7_letter yX7_letter ∈ TB := tb_in1 (List.mem_of_getElem? (i := 227) rfl) rfl
theorem w_228 : Cond.code yX7_letter prog_1_method_2_code 2 (Option.some FieldType.int) ∈ TB := tb_in1 (List.mem_of_getElem? (i := 228) rfl) rfl
theorem w_229 : Cond.methodLink "LentGallery" 60 yX2_write ∈ TB := tb_in1 (List.mem_of_getElem? (i := 229) rfl) rfl
theorem w_230 : Cond.instanceMethod yX2_write ∈ TB := tb_in1 (List.mem_of_getElem? (i := 230) rfl) rfl
theorem w_231 : Cond.selects "LentGallery$Page" yX2_write yX2_write ∈ TB := tb_in1 (List.mem_of_getElem? (i := 231) rfl) rfl
theorem w_232 : Cond.code yX2_write prog_4_method_2_code 2 (Option.some FieldType.boolean) ∈ TB := tb_in1 (List.mem_of_getElem? (i := 232) rfl) rfl
theorem w_233 : Cond.methodLink "LentGalleryLaw" 18 yX7_blank ∈ TB := tb_in1 (List.mem_of_getElem? (i := 233) rfl) rfl
theorem w_234 : Cond.instanceMethod yX7_blank ∈ TB := tb_in1 (List.mem_of_getElem? (i := 234) rfl) rfl
theorem w_235 : Cond.selects "LentGallery" yX7_blank yX7_blank ∈ TB := tb_in1 (List.mem_of_getElem? (i := 235) rfl) rfl
theorem w_236 : Cond.code yX7_blank prog_1_method_3_code 2 (Option.some FieldType.int) ∈ TB := tb_in1 (List.mem_of_getElem? (i := 236) rfl) rfl
theorem w_237 : Cond.methodLink "LentGalleryLaw" 23 yX7_fault ∈ TB := tb_in1 (List.mem_of_getElem? (i := 237) rfl) rfl
theorem w_238 : Cond.instanceMethod yX7_fault ∈ TB := tb_in1 (List.mem_of_getElem? (i := 238) rfl) rfl
theorem w_239 : Cond.selects "LentGallery" yX7_fault yX7_fault ∈ TB := tb_in1 (List.mem_of_getElem? (i := 239) rfl) rfl
theorem w_240 : Cond.code yX7_fault prog_1_method_4_code 1 (Option.some FieldType.int) ∈ TB := tb_in2 (List.mem_of_getElem? (i := 0) rfl) rfl
theorem w_241 : Cond.methodLink "LentGallery" 68 yX2_goodLetters ∈ TB := tb_in2 (List.mem_of_getElem? (i := 1) rfl) rfl
theorem w_242 : Cond.instanceMethod yX2_goodLetters ∈ TB := tb_in2 (List.mem_of_getElem? (i := 2) rfl) rfl
theorem w_243 : Cond.selects "LentGallery$Page" yX2_goodLetters yX2_goodLetters ∈ TB := tb_in2 (List.mem_of_getElem? (i := 3) rfl) rfl
theorem w_244 : Cond.code yX2_goodLetters prog_4_method_3_code 2 (Option.some FieldType.int) ∈ TB := tb_in2 (List.mem_of_getElem? (i := 4) rfl) rfl
theorem w_245 : Cond.methodLink "LentGallery$Page" 19 yX2_fits ∈ TB := tb_in2 (List.mem_of_getElem? (i := 5) rfl) rfl
theorem w_246 : Cond.static yX2_fits ∈ TB := tb_in2 (List.mem_of_getElem? (i := 6) rfl) rfl
theorem w_247 : Cond.code yX2_fits prog_4_method_5_code 3 (Option.some FieldType.boolean) ∈ TB := tb_in2 (List.mem_of_getElem? (i := 7) rfl) rfl
theorem w_248 : Cond.methodLink "LentGalleryLaw" 27 yX7_gallery ∈ TB := tb_in2 (List.mem_of_getElem? (i := 8) rfl) rfl
theorem w_249 : Cond.instanceMethod yX7_gallery ∈ TB := tb_in2 (List.mem_of_getElem? (i := 9) rfl) rfl
theorem w_250 : Cond.selects "LentGallery" yX7_gallery yX7_gallery ∈ TB := tb_in2 (List.mem_of_getElem? (i := 10) rfl) rfl
theorem w_251 : Cond.code yX7_gallery prog_1_method_5_code 1 (Option.some FieldType.int) ∈ TB := tb_in2 (List.mem_of_getElem? (i := 11) rfl) rfl
theorem w_252 : Cond.methodLink "LentGallery" 72 yX6_open ∈ TB := tb_in2 (List.mem_of_getElem? (i := 12) rfl) rfl
theorem w_253 : Cond.instanceMethod yX6_open ∈ TB := tb_in2 (List.mem_of_getElem? (i := 13) rfl) rfl
theorem w_254 : Cond.selects "LentGallery$Street" yX6_open yX6_open ∈ TB := tb_in2 (List.mem_of_getElem? (i := 14) rfl) rfl
theorem w_255 : Cond.code yX6_open prog_8_method_2_code 3 none ∈ TB := tb_in2 (List.mem_of_getElem? (i := 15) rfl) rfl
theorem w_256 : Cond.methodLink "LentGallery$Street" 28 yX2_digit ∈ TB := tb_in2 (List.mem_of_getElem? (i := 16) rfl) rfl
theorem w_257 : Cond.instanceMethod yX2_digit ∈ TB := tb_in2 (List.mem_of_getElem? (i := 17) rfl) rfl
theorem w_258 : Cond.selects "LentGallery$Page" yX2_digit yX2_digit ∈ TB := tb_in2 (List.mem_of_getElem? (i := 18) rfl) rfl
theorem w_259 : Cond.code yX2_digit prog_4_method_4_code 2 (Option.some FieldType.int) ∈ TB := tb_in2 (List.mem_of_getElem? (i := 19) rfl) rfl
theorem w_260 : Cond.methodLink "LentGallery" 93 yX3_standing ∈ TB := tb_in2 (List.mem_of_getElem? (i := 20) rfl) rfl
theorem w_261 : Cond.instanceMethod yX3_standing ∈ TB := tb_in2 (List.mem_of_getElem? (i := 21) rfl) rfl
theorem w_262 : Cond.selects "LentGallery$Roof" yX3_standing yX3_standing ∈ TB := tb_in2 (List.mem_of_getElem? (i := 22) rfl) rfl
theorem w_263 : Cond.code yX3_standing prog_5_method_4_code 3 (Option.some FieldType.int) ∈ TB := tb_in2 (List.mem_of_getElem? (i := 23) rfl) rfl
theorem w_264 : Cond.methodLink "LentGalleryLaw" 31 yX7_place ∈ TB := tb_in2 (List.mem_of_getElem? (i := 24) rfl) rfl
theorem w_265 : Cond.instanceMethod yX7_place ∈ TB := tb_in2 (List.mem_of_getElem? (i := 25) rfl) rfl
theorem w_266 : Cond.selects "LentGallery" yX7_place yX7_place ∈ TB := tb_in2 (List.mem_of_getElem? (i := 26) rfl) rfl
theorem w_267 : Cond.code yX7_place prog_1_method_6_code 3 (Option.some FieldType.int) ∈ TB := tb_in2 (List.mem_of_getElem? (i := 27) rfl) rfl
theorem w_268 : Cond.methodLink "LentGallery" 98 yX7_isPlace ∈ TB := tb_in2 (List.mem_of_getElem? (i := 28) rfl) rfl
theorem w_270 : Cond.instanceMethod yX7_isPlace ∈ TB := tb_in2 (List.mem_of_getElem? (i := 30) rfl) rfl
theorem w_271 : Cond.code yX7_isPlace prog_1_method_27_code 2 (Option.some FieldType.boolean) ∈ TB := tb_in2 (List.mem_of_getElem? (i := 31) rfl) rfl
theorem w_272 : Cond.methodLink "LentGallery" 108 yX6_dwellers ∈ TB := tb_in2 (List.mem_of_getElem? (i := 32) rfl) rfl
theorem w_273 : Cond.instanceMethod yX6_dwellers ∈ TB := tb_in2 (List.mem_of_getElem? (i := 33) rfl) rfl
theorem w_274 : Cond.selects "LentGallery$Street" yX6_dwellers yX6_dwellers ∈ TB := tb_in2 (List.mem_of_getElem? (i := 34) rfl) rfl
theorem w_275 : Cond.code yX6_dwellers prog_8_method_11_code 4 (Option.some FieldType.int) ∈ TB := tb_in2 (List.mem_of_getElem? (i := 35) rfl) rfl
theorem w_276 : Cond.methodLink "LentGallery" 112 yX3_lossAt ∈ TB := tb_in2 (List.mem_of_getElem? (i := 36) rfl) rfl
theorem w_277 : Cond.instanceMethod yX3_lossAt ∈ TB := tb_in2 (List.mem_of_getElem? (i := 37) rfl) rfl
theorem w_278 : Cond.selects "LentGallery$Roof" yX3_lossAt yX3_lossAt ∈ TB := tb_in2 (List.mem_of_getElem? (i := 38) rfl) rfl
theorem w_279 : Cond.code yX3_lossAt prog_5_method_6_code 3 (Option.some FieldType.int) ∈ TB := tb_in2 (List.mem_of_getElem? (i := 39) rfl) rfl
theorem w_280 : Cond.methodLink "LentGallery" 115 yJ9_min_7cf53 ∈ TB := tb_in2 (List.mem_of_getElem? (i := 40) rfl) rfl
theorem w_281 : Cond.static yJ9_min_7cf53 ∈ TB := tb_in2 (List.mem_of_getElem? (i := 41) rfl) rfl
theorem w_282 : Cond.code yJ9_min_7cf53 prog_12_method_69_code 2 (Option.some FieldType.int) ∈ TB := tb_in2 (List.mem_of_getElem? (i := 42) rfl) rfl
theorem w_283 : Cond.methodLink "LentGallery" 121 yX5_sound ∈ TB := tb_in2 (List.mem_of_getElem? (i := 43) rfl) rfl
theorem w_284 : Cond.instanceMethod yX5_sound ∈ TB := tb_in2 (List.mem_of_getElem? (i := 44) rfl) rfl
theorem w_285 : Cond.selects "LentGallery$Sounding" yX5_sound yX5_sound ∈ TB := tb_in2 (List.mem_of_getElem? (i := 45) rfl) rfl
theorem w_286 : Cond.code yX5_sound prog_7_method_2_code 6 none ∈ TB := tb_in2 (List.mem_of_getElem? (i := 46) rfl) rfl
theorem w_287 : Cond.methodLink "LentGallery$Sounding" 29 yX1_lastDay ∈ TB := tb_in2 (List.mem_of_getElem? (i := 47) rfl) rfl
theorem w_288 : Cond.instanceMethod yX1_lastDay ∈ TB := tb_in2 (List.mem_of_getElem? (i := 48) rfl) rfl
theorem w_289 : Cond.selects "LentGallery$Knocks" yX1_lastDay yX1_lastDay ∈ TB := tb_in2 (List.mem_of_getElem? (i := 49) rfl) rfl
theorem w_290 : Cond.code yX1_lastDay prog_3_method_4_code 3 (Option.some FieldType.int) ∈ TB := tb_in2 (List.mem_of_getElem? (i := 50) rfl) rfl
theorem w_291 : Cond.methodLink "LentGallery$Knocks" 31 yJ9_max_7cf53 ∈ TB := tb_in2 (List.mem_of_getElem? (i := 51) rfl) rfl
theorem w_292 : Cond.static yJ9_max_7cf53 ∈ TB := tb_in2 (List.mem_of_getElem? (i := 52) rfl) rfl
theorem w_293 : Cond.code yJ9_max_7cf53 prog_12_method_65_code 2 (Option.some FieldType.int) ∈ TB := tb_in2 (List.mem_of_getElem? (i := 53) rfl) rfl
theorem w_294 : Cond.methodLink "LentGallery$Sounding" 35 yJ9_max_7cf53 ∈ TB := tb_in2 (List.mem_of_getElem? (i := 54) rfl) rfl
theorem w_295 : Cond.methodLink "LentGallery$Sounding" 41 yX3_copyFrom ∈ TB := tb_in2 (List.mem_of_getElem? (i := 55) rfl) rfl
theorem w_296 : Cond.instanceMethod yX3_copyFrom ∈ TB := tb_in2 (List.mem_of_getElem? (i := 56) rfl) rfl
theorem w_297 : Cond.selects "LentGallery$Roof" yX3_copyFrom yX3_copyFrom ∈ TB := tb_in2 (List.mem_of_getElem? (i := 57) rfl) rfl
theorem w_298 : Cond.code yX3_copyFrom prog_5_method_2_code 2 none ∈ TB := tb_in2 (List.mem_of_getElem? (i := 58) rfl) rfl
theorem w_299 : Cond.methodLink "LentGallery$Roof" 21 (⟨"java/lang/System", "arraycopy", "(Ljava/lang/Object;ILjava/lang/Object;II)V"⟩ : MethodName) ∈ TB := tb_in2 (List.mem_of_getElem? (i := 59) rfl) rfl
theorem w_300 : Cond.static (⟨"java/lang/System", "arraycopy", "(Ljava/lang/Object;ILjava/lang/Object;II)V"⟩ : MethodName) ∈ TB := tb_in2 (List.mem_of_getElem? (i := 60) rfl) rfl
theorem w_301 : Cond.native (⟨"java/lang/System", "arraycopy", "(Ljava/lang/Object;ILjava/lang/Object;II)V"⟩ : MethodName) ∈ TB := tb_in2 (List.mem_of_getElem? (i := 61) rfl) rfl
theorem w_302 : Cond.methodLink "LentGallery$Sounding" 48 yX5_liveDays ∈ TB := tb_in2 (List.mem_of_getElem? (i := 62) rfl) rfl
theorem w_304 : Cond.instanceMethod yX5_liveDays ∈ TB := tb_in2 (List.mem_of_getElem? (i := 64) rfl) rfl
theorem w_305 : Cond.code yX5_liveDays prog_7_method_5_code 4 none ∈ TB := tb_in2 (List.mem_of_getElem? (i := 65) rfl) rfl
theorem w_306 : Cond.methodLink "LentGallery$Sounding" 65 yX3_stands ∈ TB := tb_in2 (List.mem_of_getElem? (i := 66) rfl) rfl
theorem w_307 : Cond.instanceMethod yX3_stands ∈ TB := tb_in2 (List.mem_of_getElem? (i := 67) rfl) rfl
theorem w_308 : Cond.selects "LentGallery$Roof" yX3_stands yX3_stands ∈ TB := tb_in2 (List.mem_of_getElem? (i := 68) rfl) rfl
theorem w_309 : Cond.code yX3_stands prog_5_method_3_code 2 (Option.some FieldType.boolean) ∈ TB := tb_in2 (List.mem_of_getElem? (i := 69) rfl) rfl
theorem w_310 : Cond.methodLink "LentGallery$Sounding" 69 yX3_passDay ∈ TB := tb_in2 (List.mem_of_getElem? (i := 70) rfl) rfl
theorem w_311 : Cond.instanceMethod yX3_passDay ∈ TB := tb_in2 (List.mem_of_getElem? (i := 71) rfl) rfl
theorem w_312 : Cond.selects "LentGallery$Roof" yX3_passDay yX3_passDay ∈ TB := tb_in2 (List.mem_of_getElem? (i := 72) rfl) rfl
theorem w_313 : Cond.code yX3_passDay prog_5_method_7_code 3 (Option.some FieldType.int) ∈ TB := tb_in2 (List.mem_of_getElem? (i := 73) rfl) rfl
theorem w_314 : Cond.methodLink "LentGallery$Roof" 27 yX3_lossAt ∈ TB := tb_in2 (List.mem_of_getElem? (i := 74) rfl) rfl
theorem w_315 : Cond.methodLink "LentGallery$Roof" 31 yJ9_max_7cf53 ∈ TB := tb_in2 (List.mem_of_getElem? (i := 75) rfl) rfl
theorem w_316 : Cond.methodLink "LentGallery$Sounding" 52 yX1_agreeWith ∈ TB := tb_in2 (List.mem_of_getElem? (i := 76) rfl) rfl
theorem w_317 : Cond.instanceMethod yX1_agreeWith ∈ TB := tb_in2 (List.mem_of_getElem? (i := 77) rfl) rfl
theorem w_318 : Cond.selects "LentGallery$Knocks" yX1_agreeWith yX1_agreeWith ∈ TB := tb_in2 (List.mem_of_getElem? (i := 78) rfl) rfl
theorem w_319 : Cond.code yX1_agreeWith prog_3_method_5_code 5 (Option.some FieldType.boolean) ∈ TB := tb_in2 (List.mem_of_getElem? (i := 79) rfl) rfl
theorem w_320 : Cond.methodLink "LentGallery" 128 yX5_bestDay ∈ TB := tb_in2 (List.mem_of_getElem? (i := 80) rfl) rfl
theorem w_321 : Cond.instanceMethod yX5_bestDay ∈ TB := tb_in2 (List.mem_of_getElem? (i := 81) rfl) rfl
theorem w_322 : Cond.selects "LentGallery$Sounding" yX5_bestDay yX5_bestDay ∈ TB := tb_in2 (List.mem_of_getElem? (i := 82) rfl) rfl
theorem w_323 : Cond.code yX5_bestDay prog_7_method_3_code 5 (Option.some FieldType.int) ∈ TB := tb_in2 (List.mem_of_getElem? (i := 83) rfl) rfl
theorem w_324 : Cond.methodLink "LentGallery$Sounding" 56 yX5_leftAtWorst ∈ TB := tb_in2 (List.mem_of_getElem? (i := 84) rfl) rfl
theorem w_326 : Cond.instanceMethod yX5_leftAtWorst ∈ TB := tb_in2 (List.mem_of_getElem? (i := 86) rfl) rfl
theorem w_327 : Cond.code yX5_leftAtWorst prog_7_method_4_code 4 (Option.some FieldType.int) ∈ TB := tb_in2 (List.mem_of_getElem? (i := 87) rfl) rfl
theorem w_328 : Cond.methodLink "LentGallery$Sounding" 60 yJ6_bitCount_0f7a4 ∈ TB := tb_in2 (List.mem_of_getElem? (i := 88) rfl) rfl
theorem w_329 : Cond.static yJ6_bitCount_0f7a4 ∈ TB := tb_in2 (List.mem_of_getElem? (i := 89) rfl) rfl
theorem w_330 : Cond.code yJ6_bitCount_0f7a4 prog_11_method_49_code 1 (Option.some FieldType.int) ∈ TB := tb_in2 (List.mem_of_getElem? (i := 90) rfl) rfl
theorem w_331 : Cond.constant "java/lang/Integer" 265 (1431655765 : Int32) ∈ TB := tb_in2 (List.mem_of_getElem? (i := 91) rfl) rfl
theorem w_332 : Cond.constant "java/lang/Integer" 266 (858993459 : Int32) ∈ TB := tb_in2 (List.mem_of_getElem? (i := 92) rfl) rfl
theorem w_333 : Cond.constant "java/lang/Integer" 267 (252645135 : Int32) ∈ TB := tb_in2 (List.mem_of_getElem? (i := 93) rfl) rfl
theorem w_334 : Cond.methodLink "LentGalleryLaw" 36 yX7_prop ∈ TB := tb_in2 (List.mem_of_getElem? (i := 94) rfl) rfl
theorem w_335 : Cond.instanceMethod yX7_prop ∈ TB := tb_in2 (List.mem_of_getElem? (i := 95) rfl) rfl
theorem w_336 : Cond.selects "LentGallery" yX7_prop yX7_prop ∈ TB := tb_in2 (List.mem_of_getElem? (i := 96) rfl) rfl
theorem w_337 : Cond.code yX7_prop prog_1_method_7_code 2 (Option.some FieldType.int) ∈ TB := tb_in2 (List.mem_of_getElem? (i := 97) rfl) rfl
theorem w_338 : Cond.methodLink "LentGallery" 131 yX3_stands ∈ TB := tb_in2 (List.mem_of_getElem? (i := 98) rfl) rfl
theorem w_339 : Cond.methodLink "LentGalleryLaw" 40 yX7_tenant ∈ TB := tb_in2 (List.mem_of_getElem? (i := 99) rfl) rfl
theorem w_340 : Cond.instanceMethod yX7_tenant ∈ TB := tb_in2 (List.mem_of_getElem? (i := 100) rfl) rfl
theorem w_341 : Cond.selects "LentGallery" yX7_tenant yX7_tenant ∈ TB := tb_in2 (List.mem_of_getElem? (i := 101) rfl) rfl
theorem w_342 : Cond.code yX7_tenant prog_1_method_8_code 3 (Option.some FieldType.int) ∈ TB := tb_in2 (List.mem_of_getElem? (i := 102) rfl) rfl
theorem w_343 : Cond.methodLink "LentGallery" 137 yX7_isKind ∈ TB := tb_in2 (List.mem_of_getElem? (i := 103) rfl) rfl
theorem w_344 : Cond.static yX7_isKind ∈ TB := tb_in2 (List.mem_of_getElem? (i := 104) rfl) rfl
theorem w_345 : Cond.code yX7_isKind prog_1_method_29_code 1 (Option.some FieldType.boolean) ∈ TB := tb_in2 (List.mem_of_getElem? (i := 105) rfl) rfl
theorem w_346 : Cond.fieldLink "LentGallery" 280 "LentGallery" "WEIGHTS" "[I" ∈ TB := tb_in2 (List.mem_of_getElem? (i := 106) rfl) rfl
theorem w_348 : Cond.methodLink "LentGallery" 143 yX6_welcome ∈ TB := tb_in2 (List.mem_of_getElem? (i := 108) rfl) rfl
theorem w_349 : Cond.instanceMethod yX6_welcome ∈ TB := tb_in2 (List.mem_of_getElem? (i := 109) rfl) rfl
theorem w_350 : Cond.selects "LentGallery$Street" yX6_welcome yX6_welcome ∈ TB := tb_in2 (List.mem_of_getElem? (i := 110) rfl) rfl
theorem w_351 : Cond.code yX6_welcome prog_8_method_4_code 3 none ∈ TB := tb_in2 (List.mem_of_getElem? (i := 111) rfl) rfl
theorem w_353 : Cond.methodLink "LentGallery$Street" 70 yX3_stands ∈ TB := tb_in2 (List.mem_of_getElem? (i := 113) rfl) rfl
theorem w_355 : Cond.methodLink "LentGalleryLaw" 44 yX7_about ∈ TB := tb_in2 (List.mem_of_getElem? (i := 115) rfl) rfl
theorem w_356 : Cond.instanceMethod yX7_about ∈ TB := tb_in2 (List.mem_of_getElem? (i := 116) rfl) rfl
theorem w_357 : Cond.selects "LentGallery" yX7_about yX7_about ∈ TB := tb_in2 (List.mem_of_getElem? (i := 117) rfl) rfl
theorem w_358 : Cond.code yX7_about prog_1_method_9_code 3 (Option.some FieldType.int) ∈ TB := tb_in2 (List.mem_of_getElem? (i := 118) rfl) rfl
theorem w_359 : Cond.methodLink "LentGallery" 147 yX7_isTenant ∈ TB := tb_in2 (List.mem_of_getElem? (i := 119) rfl) rfl
theorem w_361 : Cond.instanceMethod yX7_isTenant ∈ TB := tb_in2 (List.mem_of_getElem? (i := 121) rfl) rfl
theorem w_362 : Cond.code yX7_isTenant prog_1_method_28_code 2 (Option.some FieldType.boolean) ∈ TB := tb_in2 (List.mem_of_getElem? (i := 122) rfl) rfl
theorem w_363 : Cond.methodLink "LentGallery" 156 yX6_weightOf ∈ TB := tb_in2 (List.mem_of_getElem? (i := 123) rfl) rfl
theorem w_364 : Cond.instanceMethod yX6_weightOf ∈ TB := tb_in2 (List.mem_of_getElem? (i := 124) rfl) rfl
theorem w_365 : Cond.selects "LentGallery$Street" yX6_weightOf yX6_weightOf ∈ TB := tb_in2 (List.mem_of_getElem? (i := 125) rfl) rfl
theorem w_366 : Cond.code yX6_weightOf prog_8_method_7_code 2 (Option.some FieldType.int) ∈ TB := tb_in2 (List.mem_of_getElem? (i := 126) rfl) rfl
theorem w_367 : Cond.methodLink "LentGallery$Street" 76 yX6_isHere ∈ TB := tb_in2 (List.mem_of_getElem? (i := 127) rfl) rfl
theorem w_369 : Cond.instanceMethod yX6_isHere ∈ TB := tb_in2 (List.mem_of_getElem? (i := 129) rfl) rfl
theorem w_370 : Cond.code yX6_isHere prog_8_method_15_code 2 (Option.some FieldType.boolean) ∈ TB := tb_in2 (List.mem_of_getElem? (i := 130) rfl) rfl
theorem w_371 : Cond.methodLink "LentGallery" 159 yX6_breathOf ∈ TB := tb_in2 (List.mem_of_getElem? (i := 131) rfl) rfl
theorem w_372 : Cond.instanceMethod yX6_breathOf ∈ TB := tb_in2 (List.mem_of_getElem? (i := 132) rfl) rfl
theorem w_373 : Cond.selects "LentGallery$Street" yX6_breathOf yX6_breathOf ∈ TB := tb_in2 (List.mem_of_getElem? (i := 133) rfl) rfl
theorem w_374 : Cond.code yX6_breathOf prog_8_method_8_code 2 (Option.some FieldType.int) ∈ TB := tb_in2 (List.mem_of_getElem? (i := 134) rfl) rfl
theorem w_377 : Cond.methodLink "LentGallery" 162 yX6_isCutOff ∈ TB := tb_in2 (List.mem_of_getElem? (i := 137) rfl) rfl
theorem w_378 : Cond.instanceMethod yX6_isCutOff ∈ TB := tb_in2 (List.mem_of_getElem? (i := 138) rfl) rfl
theorem w_379 : Cond.selects "LentGallery$Street" yX6_isCutOff yX6_isCutOff ∈ TB := tb_in2 (List.mem_of_getElem? (i := 139) rfl) rfl
theorem w_380 : Cond.code yX6_isCutOff prog_8_method_9_code 2 (Option.some FieldType.boolean) ∈ TB := tb_in2 (List.mem_of_getElem? (i := 140) rfl) rfl
theorem w_381 : Cond.methodLink "LentGallery$Street" 92 yX3_firstFallen ∈ TB := tb_in2 (List.mem_of_getElem? (i := 141) rfl) rfl
theorem w_382 : Cond.instanceMethod yX3_firstFallen ∈ TB := tb_in2 (List.mem_of_getElem? (i := 142) rfl) rfl
theorem w_383 : Cond.selects "LentGallery$Roof" yX3_firstFallen yX3_firstFallen ∈ TB := tb_in2 (List.mem_of_getElem? (i := 143) rfl) rfl
theorem w_384 : Cond.code yX3_firstFallen prog_5_method_5_code 2 (Option.some FieldType.int) ∈ TB := tb_in2 (List.mem_of_getElem? (i := 144) rfl) rfl
theorem w_385 : Cond.methodLink "LentGallery" 165 yX6_gaspers ∈ TB := tb_in2 (List.mem_of_getElem? (i := 145) rfl) rfl
theorem w_386 : Cond.instanceMethod yX6_gaspers ∈ TB := tb_in2 (List.mem_of_getElem? (i := 146) rfl) rfl
theorem w_387 : Cond.selects "LentGallery$Street" yX6_gaspers yX6_gaspers ∈ TB := tb_in2 (List.mem_of_getElem? (i := 147) rfl) rfl
theorem w_388 : Cond.code yX6_gaspers prog_8_method_12_code 6 (Option.some FieldType.int) ∈ TB := tb_in2 (List.mem_of_getElem? (i := 148) rfl) rfl
theorem w_389 : Cond.methodLink "LentGallery$Street" 95 yX6_dwellers ∈ TB := tb_in2 (List.mem_of_getElem? (i := 149) rfl) rfl
theorem w_390 : Cond.methodLink "LentGallery$Street" 79 yX6_isCutOff ∈ TB := tb_in2 (List.mem_of_getElem? (i := 150) rfl) rfl
theorem w_391 : Cond.methodLink "LentGallery$Street" 98 yX6_breathOf ∈ TB := tb_in2 (List.mem_of_getElem? (i := 151) rfl) rfl
theorem w_392 : Cond.methodLink "LentGalleryLaw" 48 yX7_as ∈ TB := tb_in2 (List.mem_of_getElem? (i := 152) rfl) rfl
theorem w_393 : Cond.instanceMethod yX7_as ∈ TB := tb_in2 (List.mem_of_getElem? (i := 153) rfl) rfl
theorem w_394 : Cond.selects "LentGallery" yX7_as yX7_as ∈ TB := tb_in2 (List.mem_of_getElem? (i := 154) rfl) rfl
theorem w_395 : Cond.code yX7_as prog_1_method_10_code 3 (Option.some FieldType.int) ∈ TB := tb_in2 (List.mem_of_getElem? (i := 155) rfl) rfl
theorem w_396 : Cond.methodLink "LentGallery" 168 yX7_isSuch ∈ TB := tb_in2 (List.mem_of_getElem? (i := 156) rfl) rfl
theorem w_397 : Cond.static yX7_isSuch ∈ TB := tb_in2 (List.mem_of_getElem? (i := 157) rfl) rfl
theorem w_398 : Cond.code yX7_isSuch prog_1_method_30_code 2 (Option.some FieldType.boolean) ∈ TB := tb_in2 (List.mem_of_getElem? (i := 158) rfl) rfl
theorem w_399 : Cond.methodLink "LentGalleryLaw" 52 yX7_move ∈ TB := tb_in2 (List.mem_of_getElem? (i := 159) rfl) rfl
theorem w_400 : Cond.instanceMethod yX7_move ∈ TB := tb_in2 (List.mem_of_getElem? (i := 160) rfl) rfl
theorem w_401 : Cond.selects "LentGallery" yX7_move yX7_move ∈ TB := tb_in2 (List.mem_of_getElem? (i := 161) rfl) rfl
theorem w_402 : Cond.code yX7_move prog_1_method_11_code 4 (Option.some FieldType.int) ∈ TB := tb_in2 (List.mem_of_getElem? (i := 162) rfl) rfl
theorem w_403 : Cond.methodLink "LentGallery" 172 yX6_rehouse ∈ TB := tb_in2 (List.mem_of_getElem? (i := 163) rfl) rfl
theorem w_404 : Cond.instanceMethod yX6_rehouse ∈ TB := tb_in2 (List.mem_of_getElem? (i := 164) rfl) rfl
theorem w_405 : Cond.selects "LentGallery$Street" yX6_rehouse yX6_rehouse ∈ TB := tb_in2 (List.mem_of_getElem? (i := 165) rfl) rfl
theorem w_406 : Cond.code yX6_rehouse prog_8_method_5_code 5 (Option.some FieldType.boolean) ∈ TB := tb_in2 (List.mem_of_getElem? (i := 166) rfl) rfl
theorem w_407 : Cond.methodLink "LentGallery$Street" 82 yX6_weightOf ∈ TB := tb_in2 (List.mem_of_getElem? (i := 167) rfl) rfl
theorem w_408 : Cond.methodLink "LentGalleryLaw" 56 yX7_day ∈ TB := tb_in2 (List.mem_of_getElem? (i := 168) rfl) rfl
theorem w_409 : Cond.instanceMethod yX7_day ∈ TB := tb_in2 (List.mem_of_getElem? (i := 169) rfl) rfl
theorem w_410 : Cond.selects "LentGallery" yX7_day yX7_day ∈ TB := tb_in2 (List.mem_of_getElem? (i := 170) rfl) rfl
theorem w_411 : Cond.code yX7_day prog_1_method_12_code 1 (Option.some FieldType.int) ∈ TB := tb_in2 (List.mem_of_getElem? (i := 171) rfl) rfl
theorem w_412 : Cond.methodLink "LentGallery" 175 yX6_liveDay ∈ TB := tb_in2 (List.mem_of_getElem? (i := 172) rfl) rfl
theorem w_413 : Cond.instanceMethod yX6_liveDay ∈ TB := tb_in2 (List.mem_of_getElem? (i := 173) rfl) rfl
theorem w_414 : Cond.selects "LentGallery$Street" yX6_liveDay yX6_liveDay ∈ TB := tb_in2 (List.mem_of_getElem? (i := 174) rfl) rfl
theorem w_415 : Cond.code yX6_liveDay prog_8_method_6_code 2 (Option.some FieldType.int) ∈ TB := tb_in2 (List.mem_of_getElem? (i := 175) rfl) rfl
theorem w_416 : Cond.methodLink "LentGallery$Street" 85 yX3_passDay ∈ TB := tb_in2 (List.mem_of_getElem? (i := 176) rfl) rfl
theorem w_417 : Cond.methodLink "LentGalleryLaw" 60 yX7_holds ∈ TB := tb_in2 (List.mem_of_getElem? (i := 177) rfl) rfl
theorem w_418 : Cond.instanceMethod yX7_holds ∈ TB := tb_in2 (List.mem_of_getElem? (i := 178) rfl) rfl
theorem w_419 : Cond.selects "LentGallery" yX7_holds yX7_holds ∈ TB := tb_in2 (List.mem_of_getElem? (i := 179) rfl) rfl
theorem w_420 : Cond.code yX7_holds prog_1_method_13_code 1 (Option.some FieldType.int) ∈ TB := tb_in2 (List.mem_of_getElem? (i := 180) rfl) rfl
theorem w_421 : Cond.methodLink "LentGallery" 178 yX3_firstFall ∈ TB := tb_in2 (List.mem_of_getElem? (i := 181) rfl) rfl
theorem w_422 : Cond.instanceMethod yX3_firstFall ∈ TB := tb_in2 (List.mem_of_getElem? (i := 182) rfl) rfl
theorem w_423 : Cond.selects "LentGallery$Roof" yX3_firstFall yX3_firstFall ∈ TB := tb_in2 (List.mem_of_getElem? (i := 183) rfl) rfl
theorem w_424 : Cond.code yX3_firstFall prog_5_method_8_code 4 (Option.some FieldType.int) ∈ TB := tb_in2 (List.mem_of_getElem? (i := 184) rfl) rfl
theorem w_425 : Cond.methodLink "LentGallery$Roof" 37 yJ9_min_7cf53 ∈ TB := tb_in2 (List.mem_of_getElem? (i := 185) rfl) rfl
theorem w_426 : Cond.methodLink "LentGallery" 181 yX7_orNone ∈ TB := tb_in2 (List.mem_of_getElem? (i := 186) rfl) rfl
theorem w_427 : Cond.static yX7_orNone ∈ TB := tb_in2 (List.mem_of_getElem? (i := 187) rfl) rfl
theorem w_428 : Cond.code yX7_orNone prog_1_method_31_code 1 (Option.some FieldType.int) ∈ TB := tb_in2 (List.mem_of_getElem? (i := 188) rfl) rfl
theorem w_429 : Cond.methodLink "LentGalleryLaw" 64 yX7_where ∈ TB := tb_in2 (List.mem_of_getElem? (i := 189) rfl) rfl
theorem w_430 : Cond.instanceMethod yX7_where ∈ TB := tb_in2 (List.mem_of_getElem? (i := 190) rfl) rfl
theorem w_431 : Cond.selects "LentGallery" yX7_where yX7_where ∈ TB := tb_in2 (List.mem_of_getElem? (i := 191) rfl) rfl
theorem w_432 : Cond.code yX7_where prog_1_method_14_code 4 (Option.some FieldType.int) ∈ TB := tb_in2 (List.mem_of_getElem? (i := 192) rfl) rfl
theorem w_433 : Cond.methodLink "LentGallery" 187 yX4_seek ∈ TB := tb_in2 (List.mem_of_getElem? (i := 193) rfl) rfl
theorem w_434 : Cond.instanceMethod yX4_seek ∈ TB := tb_in2 (List.mem_of_getElem? (i := 194) rfl) rfl
theorem w_435 : Cond.selects "LentGallery$Settling" yX4_seek yX4_seek ∈ TB := tb_in2 (List.mem_of_getElem? (i := 195) rfl) rfl
theorem w_436 : Cond.code yX4_seek prog_6_method_2_code 2 none ∈ TB := tb_in2 (List.mem_of_getElem? (i := 196) rfl) rfl
theorem w_437 : Cond.methodLink "LentGallery$Settling" 28 yX3_copyFrom ∈ TB := tb_in2 (List.mem_of_getElem? (i := 197) rfl) rfl
theorem w_438 : Cond.methodLink "LentGallery$Settling" 35 yJ7_fill_53178 ∈ TB := tb_in2 (List.mem_of_getElem? (i := 198) rfl) rfl
theorem w_439 : Cond.static yJ7_fill_53178 ∈ TB := tb_in2 (List.mem_of_getElem? (i := 199) rfl) rfl
theorem w_440 : Cond.code yJ7_fill_53178 prog_14_method_103_code 4 none ∈ TB := tb_in2 (List.mem_of_getElem? (i := 200) rfl) rfl
theorem w_441 : Cond.methodLink "LentGallery$Settling" 49 yX4_settle ∈ TB := tb_in2 (List.mem_of_getElem? (i := 201) rfl) rfl
theorem w_442 : Cond.static yX4_settle ∈ TB := tb_in2 (List.mem_of_getElem? (i := 202) rfl) rfl
theorem w_443 : Cond.code yX4_settle prog_6_method_3_code 6 none ∈ TB := tb_in2 (List.mem_of_getElem? (i := 203) rfl) rfl
theorem w_444 : Cond.methodLink "LentGallery$Settling" 53 yX3_firstFall ∈ TB := tb_in2 (List.mem_of_getElem? (i := 204) rfl) rfl
theorem w_445 : Cond.methodLink "LentGallery$Settling" 60 yX4_keep ∈ TB := tb_in2 (List.mem_of_getElem? (i := 205) rfl) rfl
theorem w_447 : Cond.instanceMethod yX4_keep ∈ TB := tb_in2 (List.mem_of_getElem? (i := 207) rfl) rfl
theorem w_448 : Cond.code yX4_keep prog_6_method_4_code 2 none ∈ TB := tb_in2 (List.mem_of_getElem? (i := 208) rfl) rfl
theorem w_449 : Cond.methodLink "LentGallery$Settling" 72 (⟨"java/lang/System", "arraycopy", "(Ljava/lang/Object;ILjava/lang/Object;II)V"⟩ : MethodName) ∈ TB := tb_in2 (List.mem_of_getElem? (i := 209) rfl) rfl
theorem w_450 : Cond.methodLink "LentGallery$Settling" 64 yX6_weightOf ∈ TB := tb_in2 (List.mem_of_getElem? (i := 210) rfl) rfl
theorem w_451 : Cond.methodLink "LentGallery$Settling" 68 yX3_stands ∈ TB := tb_in2 (List.mem_of_getElem? (i := 211) rfl) rfl
theorem w_452 : Cond.methodLink "LentGalleryLaw" 68 yX7_props ∈ TB := tb_in2 (List.mem_of_getElem? (i := 212) rfl) rfl
theorem w_453 : Cond.instanceMethod yX7_props ∈ TB := tb_in2 (List.mem_of_getElem? (i := 213) rfl) rfl
theorem w_454 : Cond.selects "LentGallery" yX7_props yX7_props ∈ TB := tb_in2 (List.mem_of_getElem? (i := 214) rfl) rfl
theorem w_455 : Cond.code yX7_props prog_1_method_15_code 6 (Option.some FieldType.int) ∈ TB := tb_in2 (List.mem_of_getElem? (i := 215) rfl) rfl
theorem w_456 : Cond.methodLink "LentGallery" 200 yX3_propsNeeded ∈ TB := tb_in2 (List.mem_of_getElem? (i := 216) rfl) rfl
theorem w_457 : Cond.instanceMethod yX3_propsNeeded ∈ TB := tb_in2 (List.mem_of_getElem? (i := 217) rfl) rfl
theorem w_458 : Cond.selects "LentGallery$Roof" yX3_propsNeeded yX3_propsNeeded ∈ TB := tb_in2 (List.mem_of_getElem? (i := 218) rfl) rfl
theorem w_459 : Cond.code yX3_propsNeeded prog_5_method_9_code 5 (Option.some FieldType.int) ∈ TB := tb_in2 (List.mem_of_getElem? (i := 219) rfl) rfl
theorem w_460 : Cond.methodLink "LentGallery$Roof" 40 yX3_propsNeededAt ∈ TB := tb_in2 (List.mem_of_getElem? (i := 220) rfl) rfl
theorem w_461 : Cond.instanceMethod yX3_propsNeededAt ∈ TB := tb_in2 (List.mem_of_getElem? (i := 221) rfl) rfl
theorem w_462 : Cond.selects "LentGallery$Roof" yX3_propsNeededAt yX3_propsNeededAt ∈ TB := tb_in2 (List.mem_of_getElem? (i := 222) rfl) rfl
theorem w_463 : Cond.code yX3_propsNeededAt prog_5_method_10_code 5 (Option.some FieldType.int) ∈ TB := tb_in2 (List.mem_of_getElem? (i := 223) rfl) rfl
theorem w_464 : Cond.methodLink "LentGallery$Roof" 43 yX3_stands ∈ TB := tb_in2 (List.mem_of_getElem? (i := 224) rfl) rfl
theorem w_465 : Cond.methodLink "LentGallery" 203 yX3_propsNeededAt ∈ TB := tb_in2 (List.mem_of_getElem? (i := 225) rfl) rfl
theorem w_466 : Cond.methodLink "LentGalleryLaw" 72 yX7_out ∈ TB := tb_in2 (List.mem_of_getElem? (i := 226) rfl) rfl
theorem w_467 : Cond.instanceMethod yX7_out ∈ TB := tb_in2 (List.mem_of_getElem? (i := 227) rfl) rfl
theorem w_468 : Cond.selects "LentGallery" yX7_out yX7_out ∈ TB := tb_in2 (List.mem_of_getElem? (i := 228) rfl) rfl
theorem w_469 : Cond.code yX7_out prog_1_method_16_code 1 (Option.some FieldType.int) ∈ TB := tb_in2 (List.mem_of_getElem? (i := 229) rfl) rfl
theorem w_470 : Cond.methodLink "LentGallery" 206 yX6_minutesOut ∈ TB := tb_in2 (List.mem_of_getElem? (i := 230) rfl) rfl
theorem w_471 : Cond.instanceMethod yX6_minutesOut ∈ TB := tb_in2 (List.mem_of_getElem? (i := 231) rfl) rfl
theorem w_472 : Cond.selects "LentGallery$Street" yX6_minutesOut yX6_minutesOut ∈ TB := tb_in2 (List.mem_of_getElem? (i := 232) rfl) rfl
theorem w_473 : Cond.code yX6_minutesOut prog_8_method_13_code 5 (Option.some FieldType.int) ∈ TB := tb_in2 (List.mem_of_getElem? (i := 233) rfl) rfl
theorem w_474 : Cond.methodLink "LentGallery$Street" 101 yX6_cutOffs ∈ TB := tb_in2 (List.mem_of_getElem? (i := 234) rfl) rfl
theorem w_475 : Cond.instanceMethod yX6_cutOffs ∈ TB := tb_in2 (List.mem_of_getElem? (i := 235) rfl) rfl
theorem w_476 : Cond.selects "LentGallery$Street" yX6_cutOffs yX6_cutOffs ∈ TB := tb_in2 (List.mem_of_getElem? (i := 236) rfl) rfl
theorem w_477 : Cond.code yX6_cutOffs prog_8_method_10_code 3 (Option.some FieldType.int) ∈ TB := tb_in2 (List.mem_of_getElem? (i := 237) rfl) rfl
theorem w_478 : Cond.methodLink "LentGallery$Street" 104 yJ9_min_7cf53 ∈ TB := tb_in2 (List.mem_of_getElem? (i := 238) rfl) rfl
theorem w_479 : Cond.methodLink "LentGallery$Street" 110 yX6_comersFrom ∈ TB := tb_in2 (List.mem_of_getElem? (i := 239) rfl) rfl
theorem w_481 : Cond.instanceMethod yX6_comersFrom ∈ TB := tb_in3 (List.mem_of_getElem? (i := 1) rfl) rfl
theorem w_482 : Cond.code yX6_comersFrom prog_8_method_14_code 2 (Option.some FieldType.int) ∈ TB := tb_in3 (List.mem_of_getElem? (i := 2) rfl) rfl
theorem w_483 : Cond.methodLink "LentGallery$Street" 113 yJ6_bitCount_0f7a4 ∈ TB := tb_in3 (List.mem_of_getElem? (i := 3) rfl) rfl
theorem w_484 : Cond.methodLink "LentGalleryLaw" 76 yX7_knock ∈ TB := tb_in3 (List.mem_of_getElem? (i := 4) rfl) rfl
theorem w_485 : Cond.instanceMethod yX7_knock ∈ TB := tb_in3 (List.mem_of_getElem? (i := 5) rfl) rfl
theorem w_486 : Cond.selects "LentGallery" yX7_knock yX7_knock ∈ TB := tb_in3 (List.mem_of_getElem? (i := 6) rfl) rfl
theorem w_487 : Cond.code yX7_knock prog_1_method_17_code 4 (Option.some FieldType.int) ∈ TB := tb_in3 (List.mem_of_getElem? (i := 7) rfl) rfl
theorem w_488 : Cond.methodLink "LentGallery" 209 yX1_hear ∈ TB := tb_in3 (List.mem_of_getElem? (i := 8) rfl) rfl
theorem w_489 : Cond.instanceMethod yX1_hear ∈ TB := tb_in3 (List.mem_of_getElem? (i := 9) rfl) rfl
theorem w_490 : Cond.selects "LentGallery$Knocks" yX1_hear yX1_hear ∈ TB := tb_in3 (List.mem_of_getElem? (i := 10) rfl) rfl
theorem w_491 : Cond.code yX1_hear prog_3_method_2_code 4 (Option.some FieldType.boolean) ∈ TB := tb_in3 (List.mem_of_getElem? (i := 11) rfl) rfl
theorem w_492 : Cond.methodLink "LentGalleryLaw" 81 yX7_forget ∈ TB := tb_in3 (List.mem_of_getElem? (i := 12) rfl) rfl
theorem w_493 : Cond.instanceMethod yX7_forget ∈ TB := tb_in3 (List.mem_of_getElem? (i := 13) rfl) rfl
theorem w_494 : Cond.selects "LentGallery" yX7_forget yX7_forget ∈ TB := tb_in3 (List.mem_of_getElem? (i := 14) rfl) rfl
theorem w_495 : Cond.code yX7_forget prog_1_method_18_code 2 (Option.some FieldType.int) ∈ TB := tb_in3 (List.mem_of_getElem? (i := 15) rfl) rfl
theorem w_496 : Cond.methodLink "LentGalleryLaw" 85 yX7_years ∈ TB := tb_in3 (List.mem_of_getElem? (i := 16) rfl) rfl
theorem w_497 : Cond.instanceMethod yX7_years ∈ TB := tb_in3 (List.mem_of_getElem? (i := 17) rfl) rfl
theorem w_498 : Cond.selects "LentGallery" yX7_years yX7_years ∈ TB := tb_in3 (List.mem_of_getElem? (i := 18) rfl) rfl
theorem w_499 : Cond.code yX7_years prog_1_method_19_code 8 (Option.some FieldType.int) ∈ TB := tb_in3 (List.mem_of_getElem? (i := 19) rfl) rfl
theorem w_500 : Cond.methodLink "LentGallery" 216 yX6_copyFrom ∈ TB := tb_in3 (List.mem_of_getElem? (i := 20) rfl) rfl
theorem w_501 : Cond.instanceMethod yX6_copyFrom ∈ TB := tb_in3 (List.mem_of_getElem? (i := 21) rfl) rfl
theorem w_502 : Cond.selects "LentGallery$Street" yX6_copyFrom yX6_copyFrom ∈ TB := tb_in3 (List.mem_of_getElem? (i := 22) rfl) rfl
theorem w_503 : Cond.code yX6_copyFrom prog_8_method_3_code 2 none ∈ TB := tb_in3 (List.mem_of_getElem? (i := 23) rfl) rfl
theorem w_504 : Cond.methodLink "LentGallery$Street" 56 yX3_copyFrom ∈ TB := tb_in3 (List.mem_of_getElem? (i := 24) rfl) rfl
theorem w_505 : Cond.methodLink "LentGallery$Street" 60 (⟨"java/lang/System", "arraycopy", "(Ljava/lang/Object;ILjava/lang/Object;II)V"⟩ : MethodName) ∈ TB := tb_in3 (List.mem_of_getElem? (i := 25) rfl) rfl
theorem w_506 : Cond.methodLink "LentGallery" 219 yX0_below ∈ TB := tb_in3 (List.mem_of_getElem? (i := 26) rfl) rfl
theorem w_507 : Cond.instanceMethod yX0_below ∈ TB := tb_in3 (List.mem_of_getElem? (i := 27) rfl) rfl
theorem w_508 : Cond.selects "LentGallery$Draws" yX0_below yX0_below ∈ TB := tb_in3 (List.mem_of_getElem? (i := 28) rfl) rfl
theorem w_509 : Cond.code yX0_below prog_2_method_2_code 2 (Option.some FieldType.int) ∈ TB := tb_in3 (List.mem_of_getElem? (i := 29) rfl) rfl
theorem w_510 : Cond.constantLong "LentGallery$Draws" 7 (1103515245 : Int64) ∈ TB := tb_in3 (List.mem_of_getElem? (i := 30) rfl) rfl
theorem w_511 : Cond.constantLong "LentGallery$Draws" 15 (12345 : Int64) ∈ TB := tb_in3 (List.mem_of_getElem? (i := 31) rfl) rfl
theorem w_512 : Cond.constantLong "LentGallery$Draws" 17 (2147483648 : Int64) ∈ TB := tb_in3 (List.mem_of_getElem? (i := 32) rfl) rfl
theorem w_513 : Cond.constant "LentGallery$Draws" 19 (65536 : Int32) ∈ TB := tb_in3 (List.mem_of_getElem? (i := 33) rfl) rfl
theorem w_514 : Cond.methodLink "LentGallery" 222 yJ6_bitCount_0f7a4 ∈ TB := tb_in3 (List.mem_of_getElem? (i := 34) rfl) rfl
theorem w_515 : Cond.methodLink "LentGalleryLaw" 90 yX7_image ∈ TB := tb_in3 (List.mem_of_getElem? (i := 35) rfl) rfl
theorem w_516 : Cond.instanceMethod yX7_image ∈ TB := tb_in3 (List.mem_of_getElem? (i := 36) rfl) rfl
theorem w_517 : Cond.selects "LentGallery" yX7_image yX7_image ∈ TB := tb_in3 (List.mem_of_getElem? (i := 37) rfl) rfl
theorem w_518 : Cond.code yX7_image prog_1_method_20_code 1 (Option.some FieldType.int) ∈ TB := tb_in3 (List.mem_of_getElem? (i := 38) rfl) rfl
theorem w_519 : Cond.methodLink "LentGallery" 227 yX1_copyFrom ∈ TB := tb_in3 (List.mem_of_getElem? (i := 39) rfl) rfl
theorem w_520 : Cond.instanceMethod yX1_copyFrom ∈ TB := tb_in3 (List.mem_of_getElem? (i := 40) rfl) rfl
theorem w_521 : Cond.selects "LentGallery$Knocks" yX1_copyFrom yX1_copyFrom ∈ TB := tb_in3 (List.mem_of_getElem? (i := 41) rfl) rfl
theorem w_522 : Cond.code yX1_copyFrom prog_3_method_3_code 2 none ∈ TB := tb_in3 (List.mem_of_getElem? (i := 42) rfl) rfl
theorem w_523 : Cond.methodLink "LentGallery$Knocks" 25 (⟨"java/lang/System", "arraycopy", "(Ljava/lang/Object;ILjava/lang/Object;II)V"⟩ : MethodName) ∈ TB := tb_in3 (List.mem_of_getElem? (i := 43) rfl) rfl
theorem w_524 : Cond.methodLink "LentGalleryLaw" 94 yX7_restore ∈ TB := tb_in3 (List.mem_of_getElem? (i := 44) rfl) rfl
theorem w_525 : Cond.instanceMethod yX7_restore ∈ TB := tb_in3 (List.mem_of_getElem? (i := 45) rfl) rfl
theorem w_526 : Cond.selects "LentGallery" yX7_restore yX7_restore ∈ TB := tb_in3 (List.mem_of_getElem? (i := 46) rfl) rfl
theorem w_527 : Cond.code yX7_restore prog_1_method_21_code 1 (Option.some FieldType.int) ∈ TB := tb_in3 (List.mem_of_getElem? (i := 47) rfl) rfl
theorem w_528 : Cond.methodLink "LentGalleryLaw" 98 yX7_count ∈ TB := tb_in3 (List.mem_of_getElem? (i := 48) rfl) rfl
theorem w_529 : Cond.instanceMethod yX7_count ∈ TB := tb_in3 (List.mem_of_getElem? (i := 49) rfl) rfl
theorem w_530 : Cond.selects "LentGallery" yX7_count yX7_count ∈ TB := tb_in3 (List.mem_of_getElem? (i := 50) rfl) rfl
theorem w_531 : Cond.code yX7_count prog_1_method_22_code 2 (Option.some FieldType.int) ∈ TB := tb_in3 (List.mem_of_getElem? (i := 51) rfl) rfl
theorem w_532 : Cond.methodLink "LentGallery" 239 yX6_cutOffs ∈ TB := tb_in3 (List.mem_of_getElem? (i := 52) rfl) rfl
theorem w_533 : Cond.methodLink "LentGalleryLaw" 102 yX7_digest ∈ TB := tb_in3 (List.mem_of_getElem? (i := 53) rfl) rfl
theorem w_534 : Cond.instanceMethod yX7_digest ∈ TB := tb_in3 (List.mem_of_getElem? (i := 54) rfl) rfl
theorem w_535 : Cond.selects "LentGallery" yX7_digest yX7_digest ∈ TB := tb_in3 (List.mem_of_getElem? (i := 55) rfl) rfl
theorem w_536 : Cond.code yX7_digest prog_1_method_23_code 5 (Option.some FieldType.long) ∈ TB := tb_in3 (List.mem_of_getElem? (i := 56) rfl) rfl
theorem w_537 : Cond.constantLong "LentGallery" 245 (919 : Int64) ∈ TB := tb_in3 (List.mem_of_getElem? (i := 57) rfl) rfl
theorem w_538 : Cond.methodLink "LentGallery" 247 yX7_mixPlaces ∈ TB := tb_in3 (List.mem_of_getElem? (i := 58) rfl) rfl
theorem w_540 : Cond.instanceMethod yX7_mixPlaces ∈ TB := tb_in3 (List.mem_of_getElem? (i := 60) rfl) rfl
theorem w_541 : Cond.code yX7_mixPlaces prog_1_method_24_code 7 (Option.some FieldType.long) ∈ TB := tb_in3 (List.mem_of_getElem? (i := 61) rfl) rfl
theorem w_542 : Cond.methodLink "LentGallery" 267 yX7_place ∈ TB := tb_in3 (List.mem_of_getElem? (i := 62) rfl) rfl
theorem w_543 : Cond.methodLink "LentGallery" 254 yX7_mix ∈ TB := tb_in3 (List.mem_of_getElem? (i := 63) rfl) rfl
theorem w_544 : Cond.static yX7_mix ∈ TB := tb_in3 (List.mem_of_getElem? (i := 64) rfl) rfl
theorem w_545 : Cond.code yX7_mix prog_1_method_26_code 4 (Option.some FieldType.long) ∈ TB := tb_in3 (List.mem_of_getElem? (i := 65) rfl) rfl
theorem w_546 : Cond.constantLong "LentGallery" 278 (31 : Int64) ∈ TB := tb_in3 (List.mem_of_getElem? (i := 66) rfl) rfl
theorem w_547 : Cond.methodLink "LentGallery" 251 yX7_about ∈ TB := tb_in3 (List.mem_of_getElem? (i := 67) rfl) rfl
theorem w_548 : Cond.methodLink "LentGallery" 258 yX7_mixWouldBe ∈ TB := tb_in3 (List.mem_of_getElem? (i := 68) rfl) rfl
theorem w_550 : Cond.instanceMethod yX7_mixWouldBe ∈ TB := tb_in3 (List.mem_of_getElem? (i := 70) rfl) rfl
theorem w_551 : Cond.code yX7_mixWouldBe prog_1_method_25_code 6 (Option.some FieldType.long) ∈ TB := tb_in3 (List.mem_of_getElem? (i := 71) rfl) rfl
theorem w_552 : Cond.methodLink "LentGallery" 270 yX7_holds ∈ TB := tb_in3 (List.mem_of_getElem? (i := 72) rfl) rfl
theorem w_553 : Cond.methodLink "LentGallery" 273 yX7_out ∈ TB := tb_in3 (List.mem_of_getElem? (i := 73) rfl) rfl
theorem w_554 : Cond.methodLink "LentGallery" 276 yX7_props ∈ TB := tb_in3 (List.mem_of_getElem? (i := 74) rfl) rfl
theorem w_555 : Cond.methodLink "LentGallery" 264 yX7_count ∈ TB := tb_in3 (List.mem_of_getElem? (i := 75) rfl) rfl
theorem w_556 : Cond.classLink "LentGalleryLaw" 10 "LentGalleryModel" ∈ TB := tb_in3 (List.mem_of_getElem? (i := 76) rfl) rfl
theorem w_557 : Cond.instantiable "LentGalleryModel" 30 ∈ TB := tb_in3 (List.mem_of_getElem? (i := 77) rfl) rfl
theorem w_558 : Cond.methodLink "LentGalleryLaw" 12 yX8_init ∈ TB := tb_in3 (List.mem_of_getElem? (i := 78) rfl) rfl
theorem w_559 : Cond.instanceMethod yX8_init ∈ TB := tb_in3 (List.mem_of_getElem? (i := 79) rfl) rfl
theorem w_560 : Cond.code yX8_init prog_10_method_1_code 1 none ∈ TB := tb_in3 (List.mem_of_getElem? (i := 80) rfl) rfl
theorem w_561 : Cond.methodLink "LentGalleryModel" 1 objectInit ∈ TB := tb_in3 (List.mem_of_getElem? (i := 81) rfl) rfl
theorem w_562 : Cond.fieldLink "LentGalleryModel" 7 "LentGalleryModel" "page" "[I" ∈ TB := tb_in3 (List.mem_of_getElem? (i := 82) rfl) rfl
theorem w_563 : Cond.fieldLink "LentGalleryModel" 56 "LentGalleryModel" "pageMany" "I" ∈ TB := tb_in3 (List.mem_of_getElem? (i := 83) rfl) rfl
theorem w_564 : Cond.fieldLink "LentGalleryModel" 69 "LentGalleryModel" "air" "I" ∈ TB := tb_in3 (List.mem_of_getElem? (i := 84) rfl) rfl
theorem w_565 : Cond.fieldLink "LentGalleryModel" 72 "LentGalleryModel" "cage" "I" ∈ TB := tb_in3 (List.mem_of_getElem? (i := 85) rfl) rfl
theorem w_566 : Cond.fieldLink "LentGalleryModel" 75 "LentGalleryModel" "daysNow" "I" ∈ TB := tb_in3 (List.mem_of_getElem? (i := 86) rfl) rfl
theorem w_567 : Cond.fieldLink "LentGalleryModel" 78 "LentGalleryModel" "fallsNow" "I" ∈ TB := tb_in3 (List.mem_of_getElem? (i := 87) rfl) rfl
theorem w_568 : Cond.fieldLink "LentGalleryModel" 81 "LentGalleryModel" "propsNow" "I" ∈ TB := tb_in3 (List.mem_of_getElem? (i := 88) rfl) rfl
theorem w_569 : Cond.fieldLink "LentGalleryModel" 90 "LentGalleryModel" "galleriesRead" "I" ∈ TB := tb_in3 (List.mem_of_getElem? (i := 89) rfl) rfl
theorem w_570 : Cond.fieldLink "LentGalleryModel" 13 "LentGalleryModel" "strong" "[I" ∈ TB := tb_in3 (List.mem_of_getElem? (i := 90) rfl) rfl
theorem w_571 : Cond.fieldLink "LentGalleryModel" 84 "LentGalleryModel" "tenants" "I" ∈ TB := tb_in3 (List.mem_of_getElem? (i := 91) rfl) rfl
theorem w_572 : Cond.fieldLink "LentGalleryModel" 16 "LentGalleryModel" "rows" "[I" ∈ TB := tb_in3 (List.mem_of_getElem? (i := 92) rfl) rfl
theorem w_573 : Cond.fieldLink "LentGalleryModel" 19 "LentGalleryModel" "homes" "[I" ∈ TB := tb_in3 (List.mem_of_getElem? (i := 93) rfl) rfl
theorem w_574 : Cond.fieldLink "LentGalleryModel" 22 "LentGalleryModel" "now" "[I" ∈ TB := tb_in3 (List.mem_of_getElem? (i := 94) rfl) rfl
theorem w_575 : Cond.fieldLink "LentGalleryModel" 25 "LentGalleryModel" "ahead" "[I" ∈ TB := tb_in3 (List.mem_of_getElem? (i := 95) rfl) rfl
theorem w_576 : Cond.fieldLink "LentGalleryModel" 174 "LentGalleryModel" "whereMany" "I" ∈ TB := tb_in3 (List.mem_of_getElem? (i := 96) rfl) rfl
theorem w_577 : Cond.fieldLink "LentGalleryModel" 28 "LentGalleryModel" "bestHomes" "[I" ∈ TB := tb_in3 (List.mem_of_getElem? (i := 97) rfl) rfl
theorem w_578 : Cond.fieldLink "LentGalleryModel" 87 "LentGalleryModel" "knockMany" "I" ∈ TB := tb_in3 (List.mem_of_getElem? (i := 98) rfl) rfl
theorem w_579 : Cond.fieldLink "LentGalleryModel" 31 "LentGalleryModel" "knocks" "[I" ∈ TB := tb_in3 (List.mem_of_getElem? (i := 99) rfl) rfl
theorem w_580 : Cond.fieldLink "LentGalleryModel" 34 "LentGalleryModel" "stand" "[I" ∈ TB := tb_in3 (List.mem_of_getElem? (i := 100) rfl) rfl
theorem w_581 : Cond.fieldLink "LentGalleryModel" 198 "LentGalleryModel" "seedNow" "I" ∈ TB := tb_in3 (List.mem_of_getElem? (i := 101) rfl) rfl
theorem w_582 : Cond.fieldLink "LentGalleryModel" 46 "LentGalleryModel" "keptGallery" "I" ∈ TB := tb_in3 (List.mem_of_getElem? (i := 102) rfl) rfl
theorem w_583 : Cond.fieldLink "LentGalleryModel" 213 "LentGalleryModel" "keptTenants" "I" ∈ TB := tb_in3 (List.mem_of_getElem? (i := 103) rfl) rfl
theorem w_584 : Cond.fieldLink "LentGalleryModel" 216 "LentGalleryModel" "keptDays" "I" ∈ TB := tb_in3 (List.mem_of_getElem? (i := 104) rfl) rfl
theorem w_585 : Cond.fieldLink "LentGalleryModel" 219 "LentGalleryModel" "keptFalls" "I" ∈ TB := tb_in3 (List.mem_of_getElem? (i := 105) rfl) rfl
theorem w_586 : Cond.fieldLink "LentGalleryModel" 222 "LentGalleryModel" "keptProps" "I" ∈ TB := tb_in3 (List.mem_of_getElem? (i := 106) rfl) rfl
theorem w_587 : Cond.fieldLink "LentGalleryModel" 225 "LentGalleryModel" "keptKnockMany" "I" ∈ TB := tb_in3 (List.mem_of_getElem? (i := 107) rfl) rfl
theorem w_588 : Cond.fieldLink "LentGalleryModel" 37 "LentGalleryModel" "keptStrong" "[I" ∈ TB := tb_in3 (List.mem_of_getElem? (i := 108) rfl) rfl
theorem w_589 : Cond.fieldLink "LentGalleryModel" 40 "LentGalleryModel" "keptRows" "[I" ∈ TB := tb_in3 (List.mem_of_getElem? (i := 109) rfl) rfl
theorem w_590 : Cond.fieldLink "LentGalleryModel" 43 "LentGalleryModel" "keptKnocks" "[I" ∈ TB := tb_in3 (List.mem_of_getElem? (i := 110) rfl) rfl
theorem w_591 : Cond.fieldLink "LentGalleryModel" 236 "LentGalleryModel" "hash" "J" ∈ TB := tb_in3 (List.mem_of_getElem? (i := 111) rfl) rfl
theorem w_592 : Cond.laysFinal "LentGalleryModel" "LentGalleryModel" "page" "[I" ∈ TB := tb_in3 (List.mem_of_getElem? (i := 112) rfl) rfl
theorem w_594 : Cond.lays "LentGalleryModel" "LentGalleryModel" "pageMany" "I" ∈ TB := tb_in3 (List.mem_of_getElem? (i := 114) rfl) rfl
theorem w_596 : Cond.lays "LentGalleryModel" "LentGalleryModel" "air" "I" ∈ TB := tb_in3 (List.mem_of_getElem? (i := 116) rfl) rfl
theorem w_598 : Cond.lays "LentGalleryModel" "LentGalleryModel" "cage" "I" ∈ TB := tb_in3 (List.mem_of_getElem? (i := 118) rfl) rfl
theorem w_600 : Cond.lays "LentGalleryModel" "LentGalleryModel" "daysNow" "I" ∈ TB := tb_in3 (List.mem_of_getElem? (i := 120) rfl) rfl
theorem w_602 : Cond.lays "LentGalleryModel" "LentGalleryModel" "fallsNow" "I" ∈ TB := tb_in3 (List.mem_of_getElem? (i := 122) rfl) rfl
theorem w_604 : Cond.lays "LentGalleryModel" "LentGalleryModel" "propsNow" "I" ∈ TB := tb_in3 (List.mem_of_getElem? (i := 124) rfl) rfl
theorem w_606 : Cond.lays "LentGalleryModel" "LentGalleryModel" "galleriesRead" "I" ∈ TB := tb_in3 (List.mem_of_getElem? (i := 126) rfl) rfl
theorem w_608 : Cond.laysFinal "LentGalleryModel" "LentGalleryModel" "strong" "[I" ∈ TB := tb_in3 (List.mem_of_getElem? (i := 128) rfl) rfl
theorem w_610 : Cond.lays "LentGalleryModel" "LentGalleryModel" "tenants" "I" ∈ TB := tb_in3 (List.mem_of_getElem? (i := 130) rfl) rfl
theorem w_612 : Cond.laysFinal "LentGalleryModel" "LentGalleryModel" "rows" "[I" ∈ TB := tb_in3 (List.mem_of_getElem? (i := 132) rfl) rfl
theorem w_614 : Cond.laysFinal "LentGalleryModel" "LentGalleryModel" "homes" "[I" ∈ TB := tb_in3 (List.mem_of_getElem? (i := 134) rfl) rfl
theorem w_616 : Cond.laysFinal "LentGalleryModel" "LentGalleryModel" "now" "[I" ∈ TB := tb_in3 (List.mem_of_getElem? (i := 136) rfl) rfl
theorem w_618 : Cond.laysFinal "LentGalleryModel" "LentGalleryModel" "ahead" "[I" ∈ TB := tb_in3 (List.mem_of_getElem? (i := 138) rfl) rfl
theorem w_620 : Cond.lays "LentGalleryModel" "LentGalleryModel" "whereMany" "I" ∈ TB := tb_in3 (List.mem_of_getElem? (i := 140) rfl) rfl
theorem w_622 : Cond.laysFinal "LentGalleryModel" "LentGalleryModel" "bestHomes" "[I" ∈ TB := tb_in3 (List.mem_of_getElem? (i := 142) rfl) rfl
theorem w_624 : Cond.lays "LentGalleryModel" "LentGalleryModel" "knockMany" "I" ∈ TB := tb_in3 (List.mem_of_getElem? (i := 144) rfl) rfl
theorem w_626 : Cond.laysFinal "LentGalleryModel" "LentGalleryModel" "knocks" "[I" ∈ TB := tb_in3 (List.mem_of_getElem? (i := 146) rfl) rfl
theorem w_628 : Cond.laysFinal "LentGalleryModel" "LentGalleryModel" "stand" "[I" ∈ TB := tb_in3 (List.mem_of_getElem? (i := 148) rfl) rfl
theorem w_630 : Cond.lays "LentGalleryModel" "LentGalleryModel" "seedNow" "I" ∈ TB := tb_in3 (List.mem_of_getElem? (i := 150) rfl) rfl
theorem w_632 : Cond.lays "LentGalleryModel" "LentGalleryModel" "keptGallery" "I" ∈ TB := tb_in3 (List.mem_of_getElem? (i := 152) rfl) rfl
theorem w_634 : Cond.lays "LentGalleryModel" "LentGalleryModel" "keptTenants" "I" ∈ TB := tb_in3 (List.mem_of_getElem? (i := 154) rfl) rfl
theorem w_636 : Cond.lays "LentGalleryModel" "LentGalleryModel" "keptDays" "I" ∈ TB := tb_in3 (List.mem_of_getElem? (i := 156) rfl) rfl
theorem w_638 : Cond.lays "LentGalleryModel" "LentGalleryModel" "keptFalls" "I" ∈ TB := tb_in3 (List.mem_of_getElem? (i := 158) rfl) rfl
theorem w_640 : Cond.lays "LentGalleryModel" "LentGalleryModel" "keptProps" "I" ∈ TB := tb_in3 (List.mem_of_getElem? (i := 160) rfl) rfl
theorem w_642 : Cond.lays "LentGalleryModel" "LentGalleryModel" "keptKnockMany" "I" ∈ TB := tb_in3 (List.mem_of_getElem? (i := 162) rfl) rfl
theorem w_644 : Cond.laysFinal "LentGalleryModel" "LentGalleryModel" "keptStrong" "[I" ∈ TB := tb_in3 (List.mem_of_getElem? (i := 164) rfl) rfl
theorem w_646 : Cond.laysFinal "LentGalleryModel" "LentGalleryModel" "keptRows" "[I" ∈ TB := tb_in3 (List.mem_of_getElem? (i := 166) rfl) rfl
theorem w_648 : Cond.laysFinal "LentGalleryModel" "LentGalleryModel" "keptKnocks" "[I" ∈ TB := tb_in3 (List.mem_of_getElem? (i := 168) rfl) rfl
theorem w_650 : Cond.lays "LentGalleryModel" "LentGalleryModel" "hash" "J" ∈ TB := tb_in3 (List.mem_of_getElem? (i := 170) rfl) rfl
theorem w_653 : Cond.methodLink "LentGalleryLaw" 17 yX8_letter ∈ TB := tb_in3 (List.mem_of_getElem? (i := 173) rfl) rfl
theorem w_654 : Cond.instanceMethod yX8_letter ∈ TB := tb_in3 (List.mem_of_getElem? (i := 174) rfl) rfl
theorem w_655 : Cond.selects "LentGalleryModel" yX8_letter yX8_letter ∈ TB := tb_in3 (List.mem_of_getElem? (i := 175) rfl) rfl
theorem w_656 : Cond.code yX8_letter prog_10_method_4_code 2 (Option.some FieldType.int) ∈ TB := tb_in3 (List.mem_of_getElem? (i := 176) rfl) rfl
theorem w_657 : Cond.constantLong "LentGalleryModel" 50 (126 : Int64) ∈ TB := tb_in3 (List.mem_of_getElem? (i := 177) rfl) rfl
theorem w_658 : Cond.methodLink "LentGalleryModel" 52 yX8_in ∈ TB := tb_in3 (List.mem_of_getElem? (i := 178) rfl) rfl
theorem w_659 : Cond.static yX8_in ∈ TB := tb_in3 (List.mem_of_getElem? (i := 179) rfl) rfl
theorem w_660 : Cond.code yX8_in prog_10_method_2_code 6 (Option.some FieldType.boolean) ∈ TB := tb_in3 (List.mem_of_getElem? (i := 180) rfl) rfl
theorem w_661 : Cond.methodLink "LentGalleryLaw" 22 yX8_blank ∈ TB := tb_in3 (List.mem_of_getElem? (i := 181) rfl) rfl
theorem w_662 : Cond.instanceMethod yX8_blank ∈ TB := tb_in3 (List.mem_of_getElem? (i := 182) rfl) rfl
theorem w_663 : Cond.selects "LentGalleryModel" yX8_blank yX8_blank ∈ TB := tb_in3 (List.mem_of_getElem? (i := 183) rfl) rfl
theorem w_664 : Cond.code yX8_blank prog_10_method_5_code 2 (Option.some FieldType.int) ∈ TB := tb_in3 (List.mem_of_getElem? (i := 184) rfl) rfl
theorem w_665 : Cond.methodLink "LentGalleryLaw" 26 yX8_fault ∈ TB := tb_in3 (List.mem_of_getElem? (i := 185) rfl) rfl
theorem w_666 : Cond.instanceMethod yX8_fault ∈ TB := tb_in3 (List.mem_of_getElem? (i := 186) rfl) rfl
theorem w_667 : Cond.selects "LentGalleryModel" yX8_fault yX8_fault ∈ TB := tb_in3 (List.mem_of_getElem? (i := 187) rfl) rfl
theorem w_668 : Cond.code yX8_fault prog_10_method_8_code 1 (Option.some FieldType.int) ∈ TB := tb_in3 (List.mem_of_getElem? (i := 188) rfl) rfl
theorem w_669 : Cond.methodLink "LentGalleryModel" 65 yX8_faultOf ∈ TB := tb_in3 (List.mem_of_getElem? (i := 189) rfl) rfl
theorem w_671 : Cond.instanceMethod yX8_faultOf ∈ TB := tb_in3 (List.mem_of_getElem? (i := 191) rfl) rfl
theorem w_672 : Cond.code yX8_faultOf prog_10_method_7_code 2 (Option.some FieldType.int) ∈ TB := tb_in3 (List.mem_of_getElem? (i := 192) rfl) rfl
theorem w_673 : Cond.methodLink "LentGalleryModel" 61 yX8_isGood ∈ TB := tb_in3 (List.mem_of_getElem? (i := 193) rfl) rfl
theorem w_674 : Cond.static yX8_isGood ∈ TB := tb_in3 (List.mem_of_getElem? (i := 194) rfl) rfl
theorem w_675 : Cond.code yX8_isGood prog_10_method_6_code 3 (Option.some FieldType.boolean) ∈ TB := tb_in3 (List.mem_of_getElem? (i := 195) rfl) rfl
theorem w_676 : Cond.constantLong "LentGalleryModel" 59 (9 : Int64) ∈ TB := tb_in3 (List.mem_of_getElem? (i := 196) rfl) rfl
theorem w_677 : Cond.methodLink "LentGalleryLaw" 30 yX8_gallery ∈ TB := tb_in3 (List.mem_of_getElem? (i := 197) rfl) rfl
theorem w_678 : Cond.instanceMethod yX8_gallery ∈ TB := tb_in3 (List.mem_of_getElem? (i := 198) rfl) rfl
theorem w_679 : Cond.selects "LentGalleryModel" yX8_gallery yX8_gallery ∈ TB := tb_in3 (List.mem_of_getElem? (i := 199) rfl) rfl
theorem w_680 : Cond.code yX8_gallery prog_10_method_10_code 2 (Option.some FieldType.int) ∈ TB := tb_in3 (List.mem_of_getElem? (i := 200) rfl) rfl
theorem w_681 : Cond.methodLink "LentGalleryModel" 93 yX8_standing ∈ TB := tb_in3 (List.mem_of_getElem? (i := 201) rfl) rfl
theorem w_683 : Cond.instanceMethod yX8_standing ∈ TB := tb_in3 (List.mem_of_getElem? (i := 203) rfl) rfl
theorem w_684 : Cond.code yX8_standing prog_10_method_9_code 3 (Option.some FieldType.int) ∈ TB := tb_in3 (List.mem_of_getElem? (i := 204) rfl) rfl
theorem w_685 : Cond.methodLink "LentGalleryLaw" 35 yX8_place ∈ TB := tb_in3 (List.mem_of_getElem? (i := 205) rfl) rfl
theorem w_686 : Cond.instanceMethod yX8_place ∈ TB := tb_in3 (List.mem_of_getElem? (i := 206) rfl) rfl
theorem w_687 : Cond.selects "LentGalleryModel" yX8_place yX8_place ∈ TB := tb_in3 (List.mem_of_getElem? (i := 207) rfl) rfl
theorem w_688 : Cond.code yX8_place prog_10_method_23_code 3 (Option.some FieldType.int) ∈ TB := tb_in3 (List.mem_of_getElem? (i := 208) rfl) rfl
theorem w_689 : Cond.methodLink "LentGalleryModel" 133 yX8_isPlace ∈ TB := tb_in3 (List.mem_of_getElem? (i := 209) rfl) rfl
theorem w_691 : Cond.instanceMethod yX8_isPlace ∈ TB := tb_in3 (List.mem_of_getElem? (i := 211) rfl) rfl
theorem w_692 : Cond.code yX8_isPlace prog_10_method_12_code 2 (Option.some FieldType.boolean) ∈ TB := tb_in3 (List.mem_of_getElem? (i := 212) rfl) rfl
theorem w_693 : Cond.methodLink "LentGalleryModel" 96 yX8_lacks ∈ TB := tb_in3 (List.mem_of_getElem? (i := 213) rfl) rfl
theorem w_695 : Cond.instanceMethod yX8_lacks ∈ TB := tb_in3 (List.mem_of_getElem? (i := 215) rfl) rfl
theorem w_696 : Cond.code yX8_lacks prog_10_method_11_code 1 (Option.some FieldType.boolean) ∈ TB := tb_in3 (List.mem_of_getElem? (i := 216) rfl) rfl
theorem w_697 : Cond.constantLong "LentGalleryModel" 100 (5 : Int64) ∈ TB := tb_in3 (List.mem_of_getElem? (i := 217) rfl) rfl
theorem w_698 : Cond.methodLink "LentGalleryModel" 137 yX8_tellPlace ∈ TB := tb_in3 (List.mem_of_getElem? (i := 218) rfl) rfl
theorem w_700 : Cond.instanceMethod yX8_tellPlace ∈ TB := tb_in3 (List.mem_of_getElem? (i := 220) rfl) rfl
theorem w_701 : Cond.code yX8_tellPlace prog_10_method_22_code 3 (Option.some FieldType.int) ∈ TB := tb_in3 (List.mem_of_getElem? (i := 221) rfl) rfl
theorem w_702 : Cond.methodLink "LentGalleryModel" 121 yX8_asItIs ∈ TB := tb_in3 (List.mem_of_getElem? (i := 222) rfl) rfl
theorem w_704 : Cond.instanceMethod yX8_asItIs ∈ TB := tb_in3 (List.mem_of_getElem? (i := 224) rfl) rfl
theorem w_705 : Cond.code yX8_asItIs prog_10_method_16_code 2 none ∈ TB := tb_in3 (List.mem_of_getElem? (i := 225) rfl) rfl
theorem w_706 : Cond.methodLink "LentGalleryModel" 102 yX8_copy ∈ TB := tb_in3 (List.mem_of_getElem? (i := 226) rfl) rfl
theorem w_707 : Cond.static yX8_copy ∈ TB := tb_in3 (List.mem_of_getElem? (i := 227) rfl) rfl
theorem w_708 : Cond.code yX8_copy prog_10_method_3_code 3 none ∈ TB := tb_in3 (List.mem_of_getElem? (i := 228) rfl) rfl
theorem w_709 : Cond.methodLink "LentGalleryModel" 110 yX8_weightIn ∈ TB := tb_in3 (List.mem_of_getElem? (i := 229) rfl) rfl
theorem w_711 : Cond.instanceMethod yX8_weightIn ∈ TB := tb_in3 (List.mem_of_getElem? (i := 231) rfl) rfl
theorem w_712 : Cond.code yX8_weightIn prog_10_method_17_code 4 (Option.some FieldType.int) ∈ TB := tb_in3 (List.mem_of_getElem? (i := 232) rfl) rfl
theorem w_713 : Cond.methodLink "LentGalleryModel" 106 yX8_weightBy ∈ TB := tb_in3 (List.mem_of_getElem? (i := 233) rfl) rfl
theorem w_714 : Cond.static yX8_weightBy ∈ TB := tb_in3 (List.mem_of_getElem? (i := 234) rfl) rfl
theorem w_715 : Cond.code yX8_weightBy prog_10_method_14_code 1 (Option.some FieldType.int) ∈ TB := tb_in3 (List.mem_of_getElem? (i := 235) rfl) rfl
theorem w_716 : Cond.methodLink "LentGalleryModel" 124 yX8_whoIn ∈ TB := tb_in3 (List.mem_of_getElem? (i := 236) rfl) rfl
theorem w_718 : Cond.instanceMethod yX8_whoIn ∈ TB := tb_in3 (List.mem_of_getElem? (i := 238) rfl) rfl
theorem w_719 : Cond.code yX8_whoIn prog_10_method_21_code 4 (Option.some FieldType.int) ∈ TB := tb_in3 (List.mem_of_getElem? (i := 239) rfl) rfl
theorem w_720 : Cond.methodLink "LentGalleryModel" 117 yX8_lessOf ∈ TB := tb_in4 (List.mem_of_getElem? (i := 0) rfl) rfl
theorem w_722 : Cond.instanceMethod yX8_lessOf ∈ TB := tb_in4 (List.mem_of_getElem? (i := 2) rfl) rfl
theorem w_723 : Cond.code yX8_lessOf prog_10_method_19_code 3 (Option.some FieldType.int) ∈ TB := tb_in4 (List.mem_of_getElem? (i := 3) rfl) rfl
theorem w_724 : Cond.methodLink "LentGalleryModel" 113 yX8_hasFallen ∈ TB := tb_in4 (List.mem_of_getElem? (i := 4) rfl) rfl
theorem w_725 : Cond.static yX8_hasFallen ∈ TB := tb_in4 (List.mem_of_getElem? (i := 5) rfl) rfl
theorem w_726 : Cond.code yX8_hasFallen prog_10_method_18_code 2 (Option.some FieldType.boolean) ∈ TB := tb_in4 (List.mem_of_getElem? (i := 6) rfl) rfl
theorem w_727 : Cond.methodLink "LentGalleryModel" 127 yX8_strongOf ∈ TB := tb_in4 (List.mem_of_getElem? (i := 7) rfl) rfl
theorem w_729 : Cond.instanceMethod yX8_strongOf ∈ TB := tb_in4 (List.mem_of_getElem? (i := 9) rfl) rfl
theorem w_730 : Cond.code yX8_strongOf prog_10_method_47_code 4 (Option.some FieldType.int) ∈ TB := tb_in4 (List.mem_of_getElem? (i := 10) rfl) rfl
theorem w_731 : Cond.methodLink "LentGalleryModel" 193 yX8_isKnocked ∈ TB := tb_in4 (List.mem_of_getElem? (i := 11) rfl) rfl
theorem w_733 : Cond.instanceMethod yX8_isKnocked ∈ TB := tb_in4 (List.mem_of_getElem? (i := 13) rfl) rfl
theorem w_734 : Cond.code yX8_isKnocked prog_10_method_46_code 7 (Option.some FieldType.boolean) ∈ TB := tb_in4 (List.mem_of_getElem? (i := 14) rfl) rfl
theorem w_735 : Cond.methodLink "LentGalleryModel" 158 yX8_goesBy ∈ TB := tb_in4 (List.mem_of_getElem? (i := 15) rfl) rfl
theorem w_737 : Cond.instanceMethod yX8_goesBy ∈ TB := tb_in4 (List.mem_of_getElem? (i := 17) rfl) rfl
theorem w_738 : Cond.code yX8_goesBy prog_10_method_20_code 4 (Option.some FieldType.int) ∈ TB := tb_in4 (List.mem_of_getElem? (i := 18) rfl) rfl
theorem w_739 : Cond.methodLink "LentGalleryModel" 130 yX8_knockOf ∈ TB := tb_in4 (List.mem_of_getElem? (i := 19) rfl) rfl
theorem w_741 : Cond.instanceMethod yX8_knockOf ∈ TB := tb_in4 (List.mem_of_getElem? (i := 21) rfl) rfl
theorem w_742 : Cond.code yX8_knockOf prog_10_method_48_code 8 (Option.some FieldType.int) ∈ TB := tb_in4 (List.mem_of_getElem? (i := 22) rfl) rfl
theorem w_743 : Cond.methodLink "LentGalleryLaw" 39 yX8_prop ∈ TB := tb_in4 (List.mem_of_getElem? (i := 23) rfl) rfl
theorem w_744 : Cond.instanceMethod yX8_prop ∈ TB := tb_in4 (List.mem_of_getElem? (i := 24) rfl) rfl
theorem w_745 : Cond.selects "LentGalleryModel" yX8_prop yX8_prop ∈ TB := tb_in4 (List.mem_of_getElem? (i := 25) rfl) rfl
theorem w_746 : Cond.code yX8_prop prog_10_method_24_code 2 (Option.some FieldType.int) ∈ TB := tb_in4 (List.mem_of_getElem? (i := 26) rfl) rfl
theorem w_747 : Cond.methodLink "LentGalleryLaw" 43 yX8_tenant ∈ TB := tb_in4 (List.mem_of_getElem? (i := 27) rfl) rfl
theorem w_748 : Cond.instanceMethod yX8_tenant ∈ TB := tb_in4 (List.mem_of_getElem? (i := 28) rfl) rfl
theorem w_749 : Cond.selects "LentGalleryModel" yX8_tenant yX8_tenant ∈ TB := tb_in4 (List.mem_of_getElem? (i := 29) rfl) rfl
theorem w_750 : Cond.code yX8_tenant prog_10_method_25_code 3 (Option.some FieldType.int) ∈ TB := tb_in4 (List.mem_of_getElem? (i := 30) rfl) rfl
theorem w_751 : Cond.constantLong "LentGalleryModel" 141 (4 : Int64) ∈ TB := tb_in4 (List.mem_of_getElem? (i := 31) rfl) rfl
theorem w_752 : Cond.methodLink "LentGalleryLaw" 47 yX8_about ∈ TB := tb_in4 (List.mem_of_getElem? (i := 32) rfl) rfl
theorem w_753 : Cond.instanceMethod yX8_about ∈ TB := tb_in4 (List.mem_of_getElem? (i := 33) rfl) rfl
theorem w_754 : Cond.selects "LentGalleryModel" yX8_about yX8_about ∈ TB := tb_in4 (List.mem_of_getElem? (i := 34) rfl) rfl
theorem w_755 : Cond.code yX8_about prog_10_method_29_code 3 (Option.some FieldType.int) ∈ TB := tb_in4 (List.mem_of_getElem? (i := 35) rfl) rfl
theorem w_756 : Cond.methodLink "LentGalleryModel" 152 yX8_isTenant ∈ TB := tb_in4 (List.mem_of_getElem? (i := 36) rfl) rfl
theorem w_758 : Cond.instanceMethod yX8_isTenant ∈ TB := tb_in4 (List.mem_of_getElem? (i := 38) rfl) rfl
theorem w_759 : Cond.code yX8_isTenant prog_10_method_13_code 2 (Option.some FieldType.boolean) ∈ TB := tb_in4 (List.mem_of_getElem? (i := 39) rfl) rfl
theorem w_760 : Cond.methodLink "LentGalleryModel" 155 yX8_tell ∈ TB := tb_in4 (List.mem_of_getElem? (i := 40) rfl) rfl
theorem w_762 : Cond.instanceMethod yX8_tell ∈ TB := tb_in4 (List.mem_of_getElem? (i := 42) rfl) rfl
theorem w_763 : Cond.code yX8_tell prog_10_method_28_code 3 (Option.some FieldType.int) ∈ TB := tb_in4 (List.mem_of_getElem? (i := 43) rfl) rfl
theorem w_764 : Cond.methodLink "LentGalleryModel" 143 yX8_breathBy ∈ TB := tb_in4 (List.mem_of_getElem? (i := 44) rfl) rfl
theorem w_765 : Cond.static yX8_breathBy ∈ TB := tb_in4 (List.mem_of_getElem? (i := 45) rfl) rfl
theorem w_766 : Cond.code yX8_breathBy prog_10_method_15_code 1 (Option.some FieldType.int) ∈ TB := tb_in4 (List.mem_of_getElem? (i := 46) rfl) rfl
theorem w_767 : Cond.methodLink "LentGalleryModel" 146 yX8_isCutOff ∈ TB := tb_in4 (List.mem_of_getElem? (i := 47) rfl) rfl
theorem w_769 : Cond.instanceMethod yX8_isCutOff ∈ TB := tb_in4 (List.mem_of_getElem? (i := 49) rfl) rfl
theorem w_770 : Cond.code yX8_isCutOff prog_10_method_26_code 4 (Option.some FieldType.boolean) ∈ TB := tb_in4 (List.mem_of_getElem? (i := 50) rfl) rfl
theorem w_771 : Cond.methodLink "LentGalleryModel" 149 yX8_gasping ∈ TB := tb_in4 (List.mem_of_getElem? (i := 51) rfl) rfl
theorem w_773 : Cond.instanceMethod yX8_gasping ∈ TB := tb_in4 (List.mem_of_getElem? (i := 53) rfl) rfl
theorem w_774 : Cond.code yX8_gasping prog_10_method_27_code 7 (Option.some FieldType.int) ∈ TB := tb_in4 (List.mem_of_getElem? (i := 54) rfl) rfl
theorem w_775 : Cond.methodLink "LentGalleryLaw" 51 yX8_as ∈ TB := tb_in4 (List.mem_of_getElem? (i := 55) rfl) rfl
theorem w_776 : Cond.instanceMethod yX8_as ∈ TB := tb_in4 (List.mem_of_getElem? (i := 56) rfl) rfl
theorem w_777 : Cond.selects "LentGalleryModel" yX8_as yX8_as ∈ TB := tb_in4 (List.mem_of_getElem? (i := 57) rfl) rfl
theorem w_778 : Cond.code yX8_as prog_10_method_30_code 5 (Option.some FieldType.int) ∈ TB := tb_in4 (List.mem_of_getElem? (i := 58) rfl) rfl
theorem w_779 : Cond.methodLink "LentGalleryLaw" 55 yX8_move ∈ TB := tb_in4 (List.mem_of_getElem? (i := 59) rfl) rfl
theorem w_780 : Cond.instanceMethod yX8_move ∈ TB := tb_in4 (List.mem_of_getElem? (i := 60) rfl) rfl
theorem w_781 : Cond.selects "LentGalleryModel" yX8_move yX8_move ∈ TB := tb_in4 (List.mem_of_getElem? (i := 61) rfl) rfl
theorem w_782 : Cond.code yX8_move prog_10_method_31_code 3 (Option.some FieldType.int) ∈ TB := tb_in4 (List.mem_of_getElem? (i := 62) rfl) rfl
theorem w_783 : Cond.methodLink "LentGalleryLaw" 59 yX8_day ∈ TB := tb_in4 (List.mem_of_getElem? (i := 63) rfl) rfl
theorem w_784 : Cond.instanceMethod yX8_day ∈ TB := tb_in4 (List.mem_of_getElem? (i := 64) rfl) rfl
theorem w_785 : Cond.selects "LentGalleryModel" yX8_day yX8_day ∈ TB := tb_in4 (List.mem_of_getElem? (i := 65) rfl) rfl
theorem w_786 : Cond.code yX8_day prog_10_method_32_code 2 (Option.some FieldType.int) ∈ TB := tb_in4 (List.mem_of_getElem? (i := 66) rfl) rfl
theorem w_787 : Cond.methodLink "LentGalleryLaw" 63 yX8_holds ∈ TB := tb_in4 (List.mem_of_getElem? (i := 67) rfl) rfl
theorem w_788 : Cond.instanceMethod yX8_holds ∈ TB := tb_in4 (List.mem_of_getElem? (i := 68) rfl) rfl
theorem w_789 : Cond.selects "LentGalleryModel" yX8_holds yX8_holds ∈ TB := tb_in4 (List.mem_of_getElem? (i := 69) rfl) rfl
theorem w_790 : Cond.code yX8_holds prog_10_method_35_code 1 (Option.some FieldType.int) ∈ TB := tb_in4 (List.mem_of_getElem? (i := 70) rfl) rfl
theorem w_791 : Cond.methodLink "LentGalleryModel" 164 yX8_holdsOf ∈ TB := tb_in4 (List.mem_of_getElem? (i := 71) rfl) rfl
theorem w_793 : Cond.instanceMethod yX8_holdsOf ∈ TB := tb_in4 (List.mem_of_getElem? (i := 73) rfl) rfl
theorem w_794 : Cond.code yX8_holdsOf prog_10_method_34_code 2 (Option.some FieldType.int) ∈ TB := tb_in4 (List.mem_of_getElem? (i := 74) rfl) rfl
theorem w_795 : Cond.methodLink "LentGalleryModel" 161 yX8_holdsThen ∈ TB := tb_in4 (List.mem_of_getElem? (i := 75) rfl) rfl
theorem w_797 : Cond.instanceMethod yX8_holdsThen ∈ TB := tb_in4 (List.mem_of_getElem? (i := 77) rfl) rfl
theorem w_798 : Cond.code yX8_holdsThen prog_10_method_33_code 2 (Option.some FieldType.int) ∈ TB := tb_in4 (List.mem_of_getElem? (i := 78) rfl) rfl
theorem w_799 : Cond.methodLink "LentGalleryLaw" 67 yX8_where ∈ TB := tb_in4 (List.mem_of_getElem? (i := 79) rfl) rfl
theorem w_800 : Cond.instanceMethod yX8_where ∈ TB := tb_in4 (List.mem_of_getElem? (i := 80) rfl) rfl
theorem w_801 : Cond.selects "LentGalleryModel" yX8_where yX8_where ∈ TB := tb_in4 (List.mem_of_getElem? (i := 81) rfl) rfl
theorem w_802 : Cond.code yX8_where prog_10_method_38_code 3 (Option.some FieldType.int) ∈ TB := tb_in4 (List.mem_of_getElem? (i := 82) rfl) rfl
theorem w_803 : Cond.constantLong "LentGalleryModel" 170 (10 : Int64) ∈ TB := tb_in4 (List.mem_of_getElem? (i := 83) rfl) rfl
theorem w_804 : Cond.constantLong "LentGalleryModel" 172 (14 : Int64) ∈ TB := tb_in4 (List.mem_of_getElem? (i := 84) rfl) rfl
theorem w_805 : Cond.methodLink "LentGalleryModel" 177 yX8_layWhere ∈ TB := tb_in4 (List.mem_of_getElem? (i := 85) rfl) rfl
theorem w_807 : Cond.instanceMethod yX8_layWhere ∈ TB := tb_in4 (List.mem_of_getElem? (i := 87) rfl) rfl
theorem w_808 : Cond.code yX8_layWhere prog_10_method_36_code 8 (Option.some FieldType.int) ∈ TB := tb_in4 (List.mem_of_getElem? (i := 88) rfl) rfl
theorem w_809 : Cond.methodLink "LentGalleryModel" 167 yX8_power ∈ TB := tb_in4 (List.mem_of_getElem? (i := 89) rfl) rfl
theorem w_810 : Cond.static yX8_power ∈ TB := tb_in4 (List.mem_of_getElem? (i := 90) rfl) rfl
theorem w_811 : Cond.code yX8_power prog_10_method_37_code 3 (Option.some FieldType.int) ∈ TB := tb_in4 (List.mem_of_getElem? (i := 91) rfl) rfl
theorem w_812 : Cond.methodLink "LentGalleryLaw" 71 yX8_props ∈ TB := tb_in4 (List.mem_of_getElem? (i := 92) rfl) rfl
theorem w_813 : Cond.instanceMethod yX8_props ∈ TB := tb_in4 (List.mem_of_getElem? (i := 93) rfl) rfl
theorem w_814 : Cond.selects "LentGalleryModel" yX8_props yX8_props ∈ TB := tb_in4 (List.mem_of_getElem? (i := 94) rfl) rfl
theorem w_815 : Cond.code yX8_props prog_10_method_41_code 3 (Option.some FieldType.int) ∈ TB := tb_in4 (List.mem_of_getElem? (i := 95) rfl) rfl
theorem w_816 : Cond.constantLong "LentGalleryModel" 183 (20 : Int64) ∈ TB := tb_in4 (List.mem_of_getElem? (i := 96) rfl) rfl
theorem w_817 : Cond.constantLong "LentGalleryModel" 185 (15 : Int64) ∈ TB := tb_in4 (List.mem_of_getElem? (i := 97) rfl) rfl
theorem w_818 : Cond.methodLink "LentGalleryModel" 187 yX8_propsOf ∈ TB := tb_in4 (List.mem_of_getElem? (i := 98) rfl) rfl
theorem w_820 : Cond.instanceMethod yX8_propsOf ∈ TB := tb_in4 (List.mem_of_getElem? (i := 100) rfl) rfl
theorem w_821 : Cond.code yX8_propsOf prog_10_method_40_code 7 (Option.some FieldType.int) ∈ TB := tb_in4 (List.mem_of_getElem? (i := 101) rfl) rfl
theorem w_822 : Cond.methodLink "LentGalleryModel" 180 yX8_propsIn ∈ TB := tb_in4 (List.mem_of_getElem? (i := 102) rfl) rfl
theorem w_824 : Cond.instanceMethod yX8_propsIn ∈ TB := tb_in4 (List.mem_of_getElem? (i := 104) rfl) rfl
theorem w_825 : Cond.code yX8_propsIn prog_10_method_39_code 4 (Option.some FieldType.int) ∈ TB := tb_in4 (List.mem_of_getElem? (i := 105) rfl) rfl
theorem w_826 : Cond.methodLink "LentGalleryLaw" 75 yX8_out ∈ TB := tb_in4 (List.mem_of_getElem? (i := 106) rfl) rfl
theorem w_827 : Cond.instanceMethod yX8_out ∈ TB := tb_in4 (List.mem_of_getElem? (i := 107) rfl) rfl
theorem w_828 : Cond.selects "LentGalleryModel" yX8_out yX8_out ∈ TB := tb_in4 (List.mem_of_getElem? (i := 108) rfl) rfl
theorem w_829 : Cond.code yX8_out prog_10_method_43_code 1 (Option.some FieldType.int) ∈ TB := tb_in4 (List.mem_of_getElem? (i := 109) rfl) rfl
theorem w_830 : Cond.methodLink "LentGalleryModel" 190 yX8_outOf ∈ TB := tb_in4 (List.mem_of_getElem? (i := 110) rfl) rfl
theorem w_832 : Cond.instanceMethod yX8_outOf ∈ TB := tb_in4 (List.mem_of_getElem? (i := 112) rfl) rfl
theorem w_833 : Cond.code yX8_outOf prog_10_method_42_code 6 (Option.some FieldType.int) ∈ TB := tb_in4 (List.mem_of_getElem? (i := 113) rfl) rfl
theorem w_834 : Cond.methodLink "LentGalleryLaw" 80 yX8_knock ∈ TB := tb_in4 (List.mem_of_getElem? (i := 114) rfl) rfl
theorem w_835 : Cond.instanceMethod yX8_knock ∈ TB := tb_in4 (List.mem_of_getElem? (i := 115) rfl) rfl
theorem w_836 : Cond.selects "LentGalleryModel" yX8_knock yX8_knock ∈ TB := tb_in4 (List.mem_of_getElem? (i := 116) rfl) rfl
theorem w_837 : Cond.code yX8_knock prog_10_method_44_code 4 (Option.some FieldType.int) ∈ TB := tb_in4 (List.mem_of_getElem? (i := 117) rfl) rfl
theorem w_838 : Cond.methodLink "LentGalleryLaw" 84 yX8_forget ∈ TB := tb_in4 (List.mem_of_getElem? (i := 118) rfl) rfl
theorem w_839 : Cond.instanceMethod yX8_forget ∈ TB := tb_in4 (List.mem_of_getElem? (i := 119) rfl) rfl
theorem w_840 : Cond.selects "LentGalleryModel" yX8_forget yX8_forget ∈ TB := tb_in4 (List.mem_of_getElem? (i := 120) rfl) rfl
theorem w_841 : Cond.code yX8_forget prog_10_method_45_code 2 (Option.some FieldType.int) ∈ TB := tb_in4 (List.mem_of_getElem? (i := 121) rfl) rfl
theorem w_842 : Cond.methodLink "LentGalleryLaw" 89 yX8_years ∈ TB := tb_in4 (List.mem_of_getElem? (i := 122) rfl) rfl
theorem w_843 : Cond.instanceMethod yX8_years ∈ TB := tb_in4 (List.mem_of_getElem? (i := 123) rfl) rfl
theorem w_844 : Cond.selects "LentGalleryModel" yX8_years yX8_years ∈ TB := tb_in4 (List.mem_of_getElem? (i := 124) rfl) rfl
theorem w_845 : Cond.code yX8_years prog_10_method_50_code 8 (Option.some FieldType.int) ∈ TB := tb_in4 (List.mem_of_getElem? (i := 125) rfl) rfl
theorem w_846 : Cond.constantLong "LentGalleryModel" 206 (60 : Int64) ∈ TB := tb_in4 (List.mem_of_getElem? (i := 126) rfl) rfl
theorem w_847 : Cond.constantLong "LentGalleryModel" 208 (2 : Int64) ∈ TB := tb_in4 (List.mem_of_getElem? (i := 127) rfl) rfl
theorem w_848 : Cond.methodLink "LentGalleryModel" 210 yX8_draw ∈ TB := tb_in4 (List.mem_of_getElem? (i := 128) rfl) rfl
theorem w_850 : Cond.instanceMethod yX8_draw ∈ TB := tb_in4 (List.mem_of_getElem? (i := 130) rfl) rfl
theorem w_851 : Cond.code yX8_draw prog_10_method_49_code 2 (Option.some FieldType.int) ∈ TB := tb_in4 (List.mem_of_getElem? (i := 131) rfl) rfl
theorem w_852 : Cond.constantLong "LentGalleryModel" 196 (1103515245 : Int64) ∈ TB := tb_in4 (List.mem_of_getElem? (i := 132) rfl) rfl
theorem w_853 : Cond.constantLong "LentGalleryModel" 201 (12345 : Int64) ∈ TB := tb_in4 (List.mem_of_getElem? (i := 133) rfl) rfl
theorem w_854 : Cond.constantLong "LentGalleryModel" 203 (2147483647 : Int64) ∈ TB := tb_in4 (List.mem_of_getElem? (i := 134) rfl) rfl
theorem w_855 : Cond.constant "LentGalleryModel" 205 (65536 : Int32) ∈ TB := tb_in4 (List.mem_of_getElem? (i := 135) rfl) rfl
theorem w_856 : Cond.methodLink "LentGalleryLaw" 93 yX8_image ∈ TB := tb_in4 (List.mem_of_getElem? (i := 136) rfl) rfl
theorem w_857 : Cond.instanceMethod yX8_image ∈ TB := tb_in4 (List.mem_of_getElem? (i := 137) rfl) rfl
theorem w_858 : Cond.selects "LentGalleryModel" yX8_image yX8_image ∈ TB := tb_in4 (List.mem_of_getElem? (i := 138) rfl) rfl
theorem w_859 : Cond.code yX8_image prog_10_method_51_code 1 (Option.some FieldType.int) ∈ TB := tb_in4 (List.mem_of_getElem? (i := 139) rfl) rfl
theorem w_860 : Cond.methodLink "LentGalleryLaw" 97 yX8_restore ∈ TB := tb_in4 (List.mem_of_getElem? (i := 140) rfl) rfl
theorem w_861 : Cond.instanceMethod yX8_restore ∈ TB := tb_in4 (List.mem_of_getElem? (i := 141) rfl) rfl
theorem w_862 : Cond.selects "LentGalleryModel" yX8_restore yX8_restore ∈ TB := tb_in4 (List.mem_of_getElem? (i := 142) rfl) rfl
theorem w_863 : Cond.code yX8_restore prog_10_method_52_code 1 (Option.some FieldType.int) ∈ TB := tb_in4 (List.mem_of_getElem? (i := 143) rfl) rfl
theorem w_864 : Cond.methodLink "LentGalleryLaw" 101 yX8_count ∈ TB := tb_in4 (List.mem_of_getElem? (i := 144) rfl) rfl
theorem w_865 : Cond.instanceMethod yX8_count ∈ TB := tb_in4 (List.mem_of_getElem? (i := 145) rfl) rfl
theorem w_866 : Cond.selects "LentGalleryModel" yX8_count yX8_count ∈ TB := tb_in4 (List.mem_of_getElem? (i := 146) rfl) rfl
theorem w_867 : Cond.code yX8_count prog_10_method_55_code 2 (Option.some FieldType.int) ∈ TB := tb_in4 (List.mem_of_getElem? (i := 147) rfl) rfl
theorem w_868 : Cond.methodLink "LentGalleryModel" 231 yX8_countOf ∈ TB := tb_in4 (List.mem_of_getElem? (i := 148) rfl) rfl
theorem w_870 : Cond.instanceMethod yX8_countOf ∈ TB := tb_in4 (List.mem_of_getElem? (i := 150) rfl) rfl
theorem w_871 : Cond.code yX8_countOf prog_10_method_54_code 2 (Option.some FieldType.int) ∈ TB := tb_in4 (List.mem_of_getElem? (i := 151) rfl) rfl
theorem w_872 : Cond.methodLink "LentGalleryModel" 228 yX8_sumBy ∈ TB := tb_in4 (List.mem_of_getElem? (i := 152) rfl) rfl
theorem w_874 : Cond.instanceMethod yX8_sumBy ∈ TB := tb_in4 (List.mem_of_getElem? (i := 154) rfl) rfl
theorem w_875 : Cond.code yX8_sumBy prog_10_method_53_code 4 (Option.some FieldType.int) ∈ TB := tb_in4 (List.mem_of_getElem? (i := 155) rfl) rfl
theorem w_876 : Cond.methodLink "LentGalleryLaw" 106 yX8_digest ∈ TB := tb_in4 (List.mem_of_getElem? (i := 156) rfl) rfl
theorem w_877 : Cond.instanceMethod yX8_digest ∈ TB := tb_in4 (List.mem_of_getElem? (i := 157) rfl) rfl
theorem w_878 : Cond.selects "LentGalleryModel" yX8_digest yX8_digest ∈ TB := tb_in4 (List.mem_of_getElem? (i := 158) rfl) rfl
theorem w_879 : Cond.code yX8_digest prog_10_method_58_code 3 (Option.some FieldType.long) ∈ TB := tb_in4 (List.mem_of_getElem? (i := 159) rfl) rfl
theorem w_880 : Cond.constantLong "LentGalleryModel" 244 (919 : Int64) ∈ TB := tb_in4 (List.mem_of_getElem? (i := 160) rfl) rfl
theorem w_881 : Cond.methodLink "LentGalleryModel" 240 yX8_say ∈ TB := tb_in4 (List.mem_of_getElem? (i := 161) rfl) rfl
theorem w_883 : Cond.instanceMethod yX8_say ∈ TB := tb_in4 (List.mem_of_getElem? (i := 163) rfl) rfl
theorem w_884 : Cond.code yX8_say prog_10_method_56_code 3 none ∈ TB := tb_in4 (List.mem_of_getElem? (i := 164) rfl) rfl
theorem w_885 : Cond.constantLong "LentGalleryModel" 234 (31 : Int64) ∈ TB := tb_in4 (List.mem_of_getElem? (i := 165) rfl) rfl
theorem w_886 : Cond.methodLink "LentGalleryModel" 246 yX8_sayGallery ∈ TB := tb_in4 (List.mem_of_getElem? (i := 166) rfl) rfl
theorem w_888 : Cond.instanceMethod yX8_sayGallery ∈ TB := tb_in4 (List.mem_of_getElem? (i := 168) rfl) rfl
theorem w_889 : Cond.code yX8_sayGallery prog_10_method_57_code 2 none ∈ TB := tb_in4 (List.mem_of_getElem? (i := 169) rfl) rfl
theorem v_0 : Cond.selects "LentGallery" yX7_isPlace yX7_isPlace ∈ TB := tb_sel (List.mem_of_getElem? (i := 0) rfl) rfl
theorem v_1 : Cond.selects "LentGallery$Sounding" yX5_liveDays yX5_liveDays ∈ TB := tb_sel (List.mem_of_getElem? (i := 1) rfl) rfl
theorem v_2 : Cond.selects "LentGallery$Sounding" yX5_leftAtWorst yX5_leftAtWorst ∈ TB := tb_sel (List.mem_of_getElem? (i := 2) rfl) rfl
theorem v_3 : Cond.selects "LentGallery" yX7_isTenant yX7_isTenant ∈ TB := tb_sel (List.mem_of_getElem? (i := 3) rfl) rfl
theorem v_4 : Cond.selects "LentGallery$Street" yX6_isHere yX6_isHere ∈ TB := tb_sel (List.mem_of_getElem? (i := 4) rfl) rfl
theorem v_5 : Cond.selects "LentGallery$Settling" yX4_keep yX4_keep ∈ TB := tb_sel (List.mem_of_getElem? (i := 5) rfl) rfl
theorem v_6 : Cond.selects "LentGallery$Street" yX6_comersFrom yX6_comersFrom ∈ TB := tb_sel (List.mem_of_getElem? (i := 6) rfl) rfl
theorem v_7 : Cond.selects "LentGallery" yX7_mixPlaces yX7_mixPlaces ∈ TB := tb_sel (List.mem_of_getElem? (i := 7) rfl) rfl
theorem v_8 : Cond.selects "LentGallery" yX7_mixWouldBe yX7_mixWouldBe ∈ TB := tb_sel (List.mem_of_getElem? (i := 8) rfl) rfl
theorem v_9 : Cond.selects "LentGalleryModel" yX8_faultOf yX8_faultOf ∈ TB := tb_sel (List.mem_of_getElem? (i := 9) rfl) rfl
theorem v_10 : Cond.selects "LentGalleryModel" yX8_standing yX8_standing ∈ TB := tb_sel (List.mem_of_getElem? (i := 10) rfl) rfl
theorem v_11 : Cond.selects "LentGalleryModel" yX8_isPlace yX8_isPlace ∈ TB := tb_sel (List.mem_of_getElem? (i := 11) rfl) rfl
theorem v_12 : Cond.selects "LentGalleryModel" yX8_lacks yX8_lacks ∈ TB := tb_sel (List.mem_of_getElem? (i := 12) rfl) rfl
theorem v_13 : Cond.selects "LentGalleryModel" yX8_tellPlace yX8_tellPlace ∈ TB := tb_sel (List.mem_of_getElem? (i := 13) rfl) rfl
theorem v_14 : Cond.selects "LentGalleryModel" yX8_asItIs yX8_asItIs ∈ TB := tb_sel (List.mem_of_getElem? (i := 14) rfl) rfl
theorem v_15 : Cond.selects "LentGalleryModel" yX8_weightIn yX8_weightIn ∈ TB := tb_sel (List.mem_of_getElem? (i := 15) rfl) rfl
theorem v_16 : Cond.selects "LentGalleryModel" yX8_whoIn yX8_whoIn ∈ TB := tb_sel (List.mem_of_getElem? (i := 16) rfl) rfl
theorem v_17 : Cond.selects "LentGalleryModel" yX8_lessOf yX8_lessOf ∈ TB := tb_sel (List.mem_of_getElem? (i := 17) rfl) rfl
theorem v_18 : Cond.selects "LentGalleryModel" yX8_strongOf yX8_strongOf ∈ TB := tb_sel (List.mem_of_getElem? (i := 18) rfl) rfl
theorem v_19 : Cond.selects "LentGalleryModel" yX8_isKnocked yX8_isKnocked ∈ TB := tb_sel (List.mem_of_getElem? (i := 19) rfl) rfl
theorem v_20 : Cond.selects "LentGalleryModel" yX8_goesBy yX8_goesBy ∈ TB := tb_sel (List.mem_of_getElem? (i := 20) rfl) rfl
theorem v_21 : Cond.selects "LentGalleryModel" yX8_knockOf yX8_knockOf ∈ TB := tb_sel (List.mem_of_getElem? (i := 21) rfl) rfl
theorem v_22 : Cond.selects "LentGalleryModel" yX8_isTenant yX8_isTenant ∈ TB := tb_sel (List.mem_of_getElem? (i := 22) rfl) rfl
theorem v_23 : Cond.selects "LentGalleryModel" yX8_tell yX8_tell ∈ TB := tb_sel (List.mem_of_getElem? (i := 23) rfl) rfl
theorem v_24 : Cond.selects "LentGalleryModel" yX8_isCutOff yX8_isCutOff ∈ TB := tb_sel (List.mem_of_getElem? (i := 24) rfl) rfl
theorem v_25 : Cond.selects "LentGalleryModel" yX8_gasping yX8_gasping ∈ TB := tb_sel (List.mem_of_getElem? (i := 25) rfl) rfl
theorem v_26 : Cond.selects "LentGalleryModel" yX8_holdsOf yX8_holdsOf ∈ TB := tb_sel (List.mem_of_getElem? (i := 26) rfl) rfl
theorem v_27 : Cond.selects "LentGalleryModel" yX8_holdsThen yX8_holdsThen ∈ TB := tb_sel (List.mem_of_getElem? (i := 27) rfl) rfl
theorem v_28 : Cond.selects "LentGalleryModel" yX8_layWhere yX8_layWhere ∈ TB := tb_sel (List.mem_of_getElem? (i := 28) rfl) rfl
theorem v_29 : Cond.selects "LentGalleryModel" yX8_propsOf yX8_propsOf ∈ TB := tb_sel (List.mem_of_getElem? (i := 29) rfl) rfl
theorem v_30 : Cond.selects "LentGalleryModel" yX8_propsIn yX8_propsIn ∈ TB := tb_sel (List.mem_of_getElem? (i := 30) rfl) rfl
theorem v_31 : Cond.selects "LentGalleryModel" yX8_outOf yX8_outOf ∈ TB := tb_sel (List.mem_of_getElem? (i := 31) rfl) rfl
theorem v_32 : Cond.selects "LentGalleryModel" yX8_draw yX8_draw ∈ TB := tb_sel (List.mem_of_getElem? (i := 32) rfl) rfl
theorem v_33 : Cond.selects "LentGalleryModel" yX8_countOf yX8_countOf ∈ TB := tb_sel (List.mem_of_getElem? (i := 33) rfl) rfl
theorem v_34 : Cond.selects "LentGalleryModel" yX8_sumBy yX8_sumBy ∈ TB := tb_sel (List.mem_of_getElem? (i := 34) rfl) rfl
theorem v_35 : Cond.selects "LentGalleryModel" yX8_say yX8_say ∈ TB := tb_sel (List.mem_of_getElem? (i := 35) rfl) rfl
theorem v_36 : Cond.selects "LentGalleryModel" yX8_sayGallery yX8_sayGallery ∈ TB := tb_sel (List.mem_of_getElem? (i := 36) rfl) rfl
