theorem kw_0 : (Cond.classLink RL 7 RX10) ∈ wsL_law := List.mem_of_getElem? (i := 0) rfl
theorem kw_1 : (Cond.instantiable RX10 10) ∈ wsL_law := List.mem_of_getElem? (i := 1) rfl
theorem kw_2 : (Cond.initialized RX10) ∈ wsL_law := List.mem_of_getElem? (i := 2) rfl
theorem kw_3 : (Cond.classLink RL 10 RX11) ∈ wsL_law := List.mem_of_getElem? (i := 3) rfl
theorem kw_4 : (Cond.instantiable RX11 59) ∈ wsL_law := List.mem_of_getElem? (i := 4) rfl
theorem kw_5 : (Cond.initialized RX11) ∈ wsL_law := List.mem_of_getElem? (i := 5) rfl
theorem kw_6 : (Cond.constantLong RL 97 (4294967295)) ∈ wsL_law := List.mem_of_getElem? (i := 6) rfl
theorem kw_7 : (Cond.methodLink RL 9 yX10_init) ∈ wsL_law := List.mem_of_getElem? (i := 7) rfl
theorem kw_8 : (Cond.instanceMethod yX10_init) ∈ wsL_law := List.mem_of_getElem? (i := 8) rfl
theorem kw_9 : (Cond.code yX10_init cX10_init 1 none) ∈ wsL_law := List.mem_of_getElem? (i := 9) rfl
theorem kw_10 : (Cond.methodLink RX10 3 objectInit) ∈ wsL_law := List.mem_of_getElem? (i := 10) rfl
theorem kw_11 : (Cond.instanceMethod objectInit) ∈ wsL_law := List.mem_of_getElem? (i := 11) rfl
theorem kw_12 : (Cond.code objectInit ⟨#[0xb1]⟩ 1 none) ∈ wsL_law := List.mem_of_getElem? (i := 12) rfl
theorem kw_13 : (Cond.classLink RX10 9 RX9) ∈ wsL_law := List.mem_of_getElem? (i := 13) rfl
theorem kw_14 : (Cond.instantiable RX9 8) ∈ wsL_law := List.mem_of_getElem? (i := 14) rfl
theorem kw_15 : (Cond.initialized RX9) ∈ wsL_law := List.mem_of_getElem? (i := 15) rfl
theorem kw_16 : (Cond.fieldLink RX10 12 "DrumCoder" "tape" "LDrumCoder$Tape;") ∈ wsL_law := List.mem_of_getElem? (i := 16) rfl
theorem kw_17 : (Cond.classLink RX10 16 RX1) ∈ wsL_law := List.mem_of_getElem? (i := 17) rfl
theorem kw_18 : (Cond.instantiable RX1 4) ∈ wsL_law := List.mem_of_getElem? (i := 18) rfl
theorem kw_19 : (Cond.initialized RX1) ∈ wsL_law := List.mem_of_getElem? (i := 19) rfl
theorem kw_20 : (Cond.fieldLink RX10 19 "DrumCoder" "turning" "LDrumCoder$Drum;") ∈ wsL_law := List.mem_of_getElem? (i := 20) rfl
theorem kw_21 : (Cond.classLink RX10 23 RX2) ∈ wsL_law := List.mem_of_getElem? (i := 21) rfl
theorem kw_22 : (Cond.instantiable RX2 2) ∈ wsL_law := List.mem_of_getElem? (i := 22) rfl
theorem kw_23 : (Cond.initialized RX2) ∈ wsL_law := List.mem_of_getElem? (i := 23) rfl
theorem kw_24 : (Cond.fieldLink RX10 28 "DrumCoder" "drumReader" "LDrumCoder$DrumReader;") ∈ wsL_law := List.mem_of_getElem? (i := 24) rfl
theorem kw_25 : (Cond.classLink RX10 32 RX5) ∈ wsL_law := List.mem_of_getElem? (i := 25) rfl
theorem kw_26 : (Cond.instantiable RX5 6) ∈ wsL_law := List.mem_of_getElem? (i := 26) rfl
theorem kw_27 : (Cond.initialized RX5) ∈ wsL_law := List.mem_of_getElem? (i := 27) rfl
theorem kw_28 : (Cond.fieldLink RX10 35 "DrumCoder" "words" "LDrumCoder$Program;") ∈ wsL_law := List.mem_of_getElem? (i := 28) rfl
theorem kw_29 : (Cond.classLink RX10 39 RX6) ∈ wsL_law := List.mem_of_getElem? (i := 29) rfl
theorem kw_30 : (Cond.instantiable RX6 8) ∈ wsL_law := List.mem_of_getElem? (i := 30) rfl
theorem kw_31 : (Cond.initialized RX6) ∈ wsL_law := List.mem_of_getElem? (i := 31) rfl
theorem kw_32 : (Cond.fieldLink RX10 42 "DrumCoder" "programReader" "LDrumCoder$ProgramReader;") ∈ wsL_law := List.mem_of_getElem? (i := 32) rfl
theorem kw_33 : (Cond.classLink RX10 46 RX3) ∈ wsL_law := List.mem_of_getElem? (i := 33) rfl
theorem kw_34 : (Cond.instantiable RX3 9) ∈ wsL_law := List.mem_of_getElem? (i := 34) rfl
theorem kw_35 : (Cond.initialized RX3) ∈ wsL_law := List.mem_of_getElem? (i := 35) rfl
theorem kw_36 : (Cond.fieldLink RX10 51 "DrumCoder" "laying" "LDrumCoder$Laying;") ∈ wsL_law := List.mem_of_getElem? (i := 36) rfl
theorem kw_37 : (Cond.classLink RX10 55 RX0) ∈ wsL_law := List.mem_of_getElem? (i := 37) rfl
theorem kw_38 : (Cond.instantiable RX0 8) ∈ wsL_law := List.mem_of_getElem? (i := 38) rfl
theorem kw_39 : (Cond.initialized RX0) ∈ wsL_law := List.mem_of_getElem? (i := 39) rfl
theorem kw_40 : (Cond.fieldLink RX10 58 "DrumCoder" "course" "LDrumCoder$Course;") ∈ wsL_law := List.mem_of_getElem? (i := 40) rfl
theorem kw_41 : (Cond.classLink RX10 62 RX7) ∈ wsL_law := List.mem_of_getElem? (i := 41) rfl
theorem kw_42 : (Cond.instantiable RX7 18) ∈ wsL_law := List.mem_of_getElem? (i := 42) rfl
theorem kw_43 : (Cond.initialized RX7) ∈ wsL_law := List.mem_of_getElem? (i := 43) rfl
theorem kw_44 : (Cond.fieldLink RX10 65 "DrumCoder" "report" "LDrumCoder$Report;") ∈ wsL_law := List.mem_of_getElem? (i := 44) rfl
theorem kw_45 : (Cond.classLink RX10 69 RX8) ∈ wsL_law := List.mem_of_getElem? (i := 45) rfl
theorem kw_46 : (Cond.instantiable RX8 7) ∈ wsL_law := List.mem_of_getElem? (i := 46) rfl
theorem kw_47 : (Cond.initialized RX8) ∈ wsL_law := List.mem_of_getElem? (i := 47) rfl
theorem kw_48 : (Cond.fieldLink RX10 74 "DrumCoder" "search" "LDrumCoder$Search;") ∈ wsL_law := List.mem_of_getElem? (i := 48) rfl
theorem kw_49 : (Cond.classLink RX10 78 RX4) ∈ wsL_law := List.mem_of_getElem? (i := 49) rfl
theorem kw_50 : (Cond.instantiable RX4 4) ∈ wsL_law := List.mem_of_getElem? (i := 50) rfl
theorem kw_51 : (Cond.initialized RX4) ∈ wsL_law := List.mem_of_getElem? (i := 51) rfl
theorem kw_52 : (Cond.fieldLink RX10 81 "DrumCoder" "jobs" "LDrumCoder$Night;") ∈ wsL_law := List.mem_of_getElem? (i := 52) rfl
theorem kw_53 : (Cond.instanceMethod yX9_init) ∈ wsL_law := List.mem_of_getElem? (i := 53) rfl
theorem kw_54 : (Cond.code yX9_init cX9_init 1 none) ∈ wsL_law := List.mem_of_getElem? (i := 54) rfl
theorem kw_55 : (Cond.methodLink RX9 3 objectInit) ∈ wsL_law := List.mem_of_getElem? (i := 55) rfl
theorem kw_56 : (Cond.arrayClass .byte) ∈ wsL_law := List.mem_of_getElem? (i := 56) rfl
theorem kw_57 : (Cond.fieldLink RX9 11 "DrumCoder$Tape" "bytes" "[B") ∈ wsL_law := List.mem_of_getElem? (i := 57) rfl
theorem kw_58 : (Cond.fieldLink RX9 15 "DrumCoder$Tape" "faultPlace" "I") ∈ wsL_law := List.mem_of_getElem? (i := 58) rfl
theorem kw_59 : (Cond.methodLink RX10 18 yX1_init) ∈ wsL_law := List.mem_of_getElem? (i := 59) rfl
theorem kw_60 : (Cond.instanceMethod yX1_init) ∈ wsL_law := List.mem_of_getElem? (i := 60) rfl
theorem kw_61 : (Cond.code yX1_init cX1_init 1 none) ∈ wsL_law := List.mem_of_getElem? (i := 61) rfl
theorem kw_62 : (Cond.methodLink RX1 3 objectInit) ∈ wsL_law := List.mem_of_getElem? (i := 62) rfl
theorem kw_63 : (Cond.arrayClass .int) ∈ wsL_law := List.mem_of_getElem? (i := 63) rfl
theorem kw_64 : (Cond.fieldLink RX1 9 "DrumCoder$Drum" "rounds" "[I") ∈ wsL_law := List.mem_of_getElem? (i := 64) rfl
theorem kw_65 : (Cond.fieldLink RX1 15 "DrumCoder$Drum" "places" "[I") ∈ wsL_law := List.mem_of_getElem? (i := 65) rfl
theorem kw_66 : (Cond.fieldLink RX1 18 "DrumCoder$Drum" "words" "I") ∈ wsL_law := List.mem_of_getElem? (i := 66) rfl
theorem kw_67 : (Cond.fieldLink RX1 22 "DrumCoder$Drum" "tracks" "I") ∈ wsL_law := List.mem_of_getElem? (i := 67) rfl
theorem kw_68 : (Cond.methodLink RX10 25 yX2_init) ∈ wsL_law := List.mem_of_getElem? (i := 68) rfl
theorem kw_69 : (Cond.instanceMethod yX2_init) ∈ wsL_law := List.mem_of_getElem? (i := 69) rfl
theorem kw_70 : (Cond.code yX2_init cX2_init 2 none) ∈ wsL_law := List.mem_of_getElem? (i := 70) rfl
theorem kw_71 : (Cond.methodLink RX2 3 objectInit) ∈ wsL_law := List.mem_of_getElem? (i := 71) rfl
theorem kw_72 : (Cond.classLink RX2 9 RX1) ∈ wsL_law := List.mem_of_getElem? (i := 72) rfl
theorem kw_73 : (Cond.fieldLink RX2 12 "DrumCoder$DrumReader" "draft" "LDrumCoder$Drum;") ∈ wsL_law := List.mem_of_getElem? (i := 73) rfl
theorem kw_74 : (Cond.fieldLink RX2 18 "DrumCoder$DrumReader" "tape" "LDrumCoder$Tape;") ∈ wsL_law := List.mem_of_getElem? (i := 74) rfl
theorem kw_75 : (Cond.methodLink RX2 11 yX1_init) ∈ wsL_law := List.mem_of_getElem? (i := 75) rfl
theorem kw_76 : (Cond.instanceMethod yX5_init) ∈ wsL_law := List.mem_of_getElem? (i := 76) rfl
theorem kw_77 : (Cond.code yX5_init cX5_init 1 none) ∈ wsL_law := List.mem_of_getElem? (i := 77) rfl
theorem kw_78 : (Cond.methodLink RX5 3 objectInit) ∈ wsL_law := List.mem_of_getElem? (i := 78) rfl
theorem kw_79 : (Cond.fieldLink RX5 9 "DrumCoder$Program" "values" "[I") ∈ wsL_law := List.mem_of_getElem? (i := 79) rfl
theorem kw_80 : (Cond.fieldLink RX5 15 "DrumCoder$Program" "kinds" "[I") ∈ wsL_law := List.mem_of_getElem? (i := 80) rfl
theorem kw_81 : (Cond.fieldLink RX5 18 "DrumCoder$Program" "reached" "[I") ∈ wsL_law := List.mem_of_getElem? (i := 81) rfl
theorem kw_82 : (Cond.methodLink RX10 41 yX6_init) ∈ wsL_law := List.mem_of_getElem? (i := 82) rfl
theorem kw_83 : (Cond.instanceMethod yX6_init) ∈ wsL_law := List.mem_of_getElem? (i := 83) rfl
theorem kw_84 : (Cond.code yX6_init cX6_init 2 none) ∈ wsL_law := List.mem_of_getElem? (i := 84) rfl
theorem kw_85 : (Cond.methodLink RX6 3 objectInit) ∈ wsL_law := List.mem_of_getElem? (i := 85) rfl
theorem kw_86 : (Cond.classLink RX6 9 RX5) ∈ wsL_law := List.mem_of_getElem? (i := 86) rfl
theorem kw_87 : (Cond.fieldLink RX6 12 "DrumCoder$ProgramReader" "draft" "LDrumCoder$Program;") ∈ wsL_law := List.mem_of_getElem? (i := 87) rfl
theorem kw_88 : (Cond.fieldLink RX6 18 "DrumCoder$ProgramReader" "nameCodes" "[I") ∈ wsL_law := List.mem_of_getElem? (i := 88) rfl
theorem kw_89 : (Cond.fieldLink RX6 22 "DrumCoder$ProgramReader" "wordCodes" "[I") ∈ wsL_law := List.mem_of_getElem? (i := 89) rfl
theorem kw_90 : (Cond.fieldLink RX6 25 "DrumCoder$ProgramReader" "nextCodes" "[I") ∈ wsL_law := List.mem_of_getElem? (i := 90) rfl
theorem kw_91 : (Cond.fieldLink RX6 28 "DrumCoder$ProgramReader" "wordPlaces" "[I") ∈ wsL_law := List.mem_of_getElem? (i := 91) rfl
theorem kw_92 : (Cond.fieldLink RX6 31 "DrumCoder$ProgramReader" "nextPlaces" "[I") ∈ wsL_law := List.mem_of_getElem? (i := 92) rfl
theorem kw_93 : (Cond.fieldLink RX6 34 "DrumCoder$ProgramReader" "ops" "[I") ∈ wsL_law := List.mem_of_getElem? (i := 93) rfl
theorem kw_94 : (Cond.fieldLink RX6 37 "DrumCoder$ProgramReader" "tape" "LDrumCoder$Tape;") ∈ wsL_law := List.mem_of_getElem? (i := 94) rfl
theorem kw_95 : (Cond.methodLink RX10 48 yX3_init) ∈ wsL_law := List.mem_of_getElem? (i := 95) rfl
theorem kw_96 : (Cond.instanceMethod yX3_init) ∈ wsL_law := List.mem_of_getElem? (i := 96) rfl
theorem kw_97 : (Cond.code yX3_init cX3_init 2 none) ∈ wsL_law := List.mem_of_getElem? (i := 97) rfl
theorem kw_98 : (Cond.methodLink RX3 3 objectInit) ∈ wsL_law := List.mem_of_getElem? (i := 98) rfl
theorem kw_99 : (Cond.fieldLink RX3 11 "DrumCoder$Laying" "spots" "[I") ∈ wsL_law := List.mem_of_getElem? (i := 99) rfl
theorem kw_100 : (Cond.fieldLink RX3 15 "DrumCoder$Laying" "phases" "[I") ∈ wsL_law := List.mem_of_getElem? (i := 100) rfl
theorem kw_101 : (Cond.fieldLink RX3 18 "DrumCoder$Laying" "rounds" "[I") ∈ wsL_law := List.mem_of_getElem? (i := 101) rfl
theorem kw_102 : (Cond.fieldLink RX3 21 "DrumCoder$Laying" "names" "[I") ∈ wsL_law := List.mem_of_getElem? (i := 102) rfl
theorem kw_103 : (Cond.arrayClass .boolean) ∈ wsL_law := List.mem_of_getElem? (i := 103) rfl
theorem kw_104 : (Cond.fieldLink RX3 24 "DrumCoder$Laying" "bad" "[Z") ∈ wsL_law := List.mem_of_getElem? (i := 104) rfl
theorem kw_105 : (Cond.classLink RX3 28 "[[I") ∈ wsL_law := List.mem_of_getElem? (i := 105) rfl
theorem kw_106 : (Cond.fieldLink RX3 30 "DrumCoder$Laying" "kept" "[[I") ∈ wsL_law := List.mem_of_getElem? (i := 106) rfl
theorem kw_107 : (Cond.fieldLink RX3 33 "DrumCoder$Laying" "isKept" "[Z") ∈ wsL_law := List.mem_of_getElem? (i := 107) rfl
theorem kw_108 : (Cond.fieldLink RX3 36 "DrumCoder$Laying" "drum" "LDrumCoder$Drum;") ∈ wsL_law := List.mem_of_getElem? (i := 108) rfl
theorem kw_109 : (Cond.methodLink RX3 40 yJ7_fill_53178) ∈ wsL_law := List.mem_of_getElem? (i := 109) rfl
theorem kw_110 : (Cond.static yJ7_fill_53178) ∈ wsL_law := List.mem_of_getElem? (i := 110) rfl
theorem kw_111 : (Cond.initialized RJ7) ∈ wsL_law := List.mem_of_getElem? (i := 111) rfl
theorem kw_112 : (Cond.code yJ7_fill_53178 cJ7_fill_53178 4 none) ∈ wsL_law := List.mem_of_getElem? (i := 112) rfl
theorem kw_113 : (Cond.instanceMethod yX0_init) ∈ wsL_law := List.mem_of_getElem? (i := 113) rfl
theorem kw_114 : (Cond.code yX0_init cX0_init 1 none) ∈ wsL_law := List.mem_of_getElem? (i := 114) rfl
theorem kw_115 : (Cond.methodLink RX0 3 objectInit) ∈ wsL_law := List.mem_of_getElem? (i := 115) rfl
theorem kw_116 : (Cond.fieldLink RX0 11 "DrumCoder$Course" "trace" "[I") ∈ wsL_law := List.mem_of_getElem? (i := 116) rfl
theorem kw_117 : (Cond.fieldLink RX0 15 "DrumCoder$Course" "values" "[I") ∈ wsL_law := List.mem_of_getElem? (i := 117) rfl
theorem kw_118 : (Cond.fieldLink RX0 18 "DrumCoder$Course" "printed" "[I") ∈ wsL_law := List.mem_of_getElem? (i := 118) rfl
theorem kw_119 : (Cond.instanceMethod yX7_init) ∈ wsL_law := List.mem_of_getElem? (i := 119) rfl
theorem kw_120 : (Cond.code yX7_init cX7_init 1 none) ∈ wsL_law := List.mem_of_getElem? (i := 120) rfl
theorem kw_121 : (Cond.methodLink RX7 3 objectInit) ∈ wsL_law := List.mem_of_getElem? (i := 121) rfl
theorem kw_122 : (Cond.fieldLink RX7 11 "DrumCoder$Report" "printed" "[I") ∈ wsL_law := List.mem_of_getElem? (i := 122) rfl
theorem kw_123 : (Cond.fieldLink RX7 17 "DrumCoder$Report" "asOrder" "[I") ∈ wsL_law := List.mem_of_getElem? (i := 123) rfl
theorem kw_124 : (Cond.fieldLink RX7 20 "DrumCoder$Report" "asWord" "[I") ∈ wsL_law := List.mem_of_getElem? (i := 124) rfl
theorem kw_125 : (Cond.fieldLink RX7 23 "DrumCoder$Report" "waits" "[I") ∈ wsL_law := List.mem_of_getElem? (i := 125) rfl
theorem kw_126 : (Cond.fieldLink RX7 26 "DrumCoder$Report" "values" "[I") ∈ wsL_law := List.mem_of_getElem? (i := 126) rfl
theorem kw_127 : (Cond.fieldLink RX7 29 "DrumCoder$Report" "changed" "[I") ∈ wsL_law := List.mem_of_getElem? (i := 127) rfl
theorem kw_128 : (Cond.fieldLink RX7 32 "DrumCoder$Report" "firsts" "[I") ∈ wsL_law := List.mem_of_getElem? (i := 128) rfl
theorem kw_129 : (Cond.fieldLink RX7 35 "DrumCoder$Report" "lasts" "[I") ∈ wsL_law := List.mem_of_getElem? (i := 129) rfl
theorem kw_130 : (Cond.fieldLink RX7 38 "DrumCoder$Report" "shares" "[I") ∈ wsL_law := List.mem_of_getElem? (i := 130) rfl
theorem kw_131 : (Cond.fieldLink RX7 41 "DrumCoder$Report" "taken" "[I") ∈ wsL_law := List.mem_of_getElem? (i := 131) rfl
theorem kw_132 : (Cond.methodLink RX10 71 yX8_init) ∈ wsL_law := List.mem_of_getElem? (i := 132) rfl
theorem kw_133 : (Cond.instanceMethod yX8_init) ∈ wsL_law := List.mem_of_getElem? (i := 133) rfl
theorem kw_134 : (Cond.code yX8_init cX8_init 4 none) ∈ wsL_law := List.mem_of_getElem? (i := 134) rfl
theorem kw_135 : (Cond.methodLink RX8 3 objectInit) ∈ wsL_law := List.mem_of_getElem? (i := 135) rfl
theorem kw_136 : (Cond.fieldLink RX8 11 "DrumCoder$Search" "rowNames" "[I") ∈ wsL_law := List.mem_of_getElem? (i := 136) rfl
theorem kw_137 : (Cond.fieldLink RX8 15 "DrumCoder$Search" "rowSpots" "[I") ∈ wsL_law := List.mem_of_getElem? (i := 137) rfl
theorem kw_138 : (Cond.fieldLink RX8 18 "DrumCoder$Search" "bestSpots" "[I") ∈ wsL_law := List.mem_of_getElem? (i := 138) rfl
theorem kw_139 : (Cond.fieldLink RX8 21 "DrumCoder$Search" "drum" "LDrumCoder$Drum;") ∈ wsL_law := List.mem_of_getElem? (i := 139) rfl
theorem kw_140 : (Cond.fieldLink RX8 25 "DrumCoder$Search" "laying" "LDrumCoder$Laying;") ∈ wsL_law := List.mem_of_getElem? (i := 140) rfl
theorem kw_141 : (Cond.fieldLink RX8 29 "DrumCoder$Search" "course" "LDrumCoder$Course;") ∈ wsL_law := List.mem_of_getElem? (i := 141) rfl
theorem kw_142 : (Cond.instanceMethod yX4_init) ∈ wsL_law := List.mem_of_getElem? (i := 142) rfl
theorem kw_143 : (Cond.code yX4_init cX4_init 1 none) ∈ wsL_law := List.mem_of_getElem? (i := 143) rfl
theorem kw_144 : (Cond.methodLink RX4 3 objectInit) ∈ wsL_law := List.mem_of_getElem? (i := 144) rfl
theorem kw_145 : (Cond.fieldLink RX4 11 "DrumCoder$Night" "times" "[I") ∈ wsL_law := List.mem_of_getElem? (i := 145) rfl
theorem kw_146 : (Cond.fieldLink RX4 15 "DrumCoder$Night" "dues" "[I") ∈ wsL_law := List.mem_of_getElem? (i := 146) rfl
theorem kw_147 : (Cond.fieldLink RX4 18 "DrumCoder$Night" "byDue" "[I") ∈ wsL_law := List.mem_of_getElem? (i := 147) rfl
theorem kw_148 : (Cond.methodLink RL 12 yX11_init) ∈ wsL_law := List.mem_of_getElem? (i := 148) rfl
theorem kw_149 : (Cond.instanceMethod yX11_init) ∈ wsL_law := List.mem_of_getElem? (i := 149) rfl
theorem kw_150 : (Cond.code yX11_init cX11_init 2 none) ∈ wsL_law := List.mem_of_getElem? (i := 150) rfl
theorem kw_151 : (Cond.methodLink RX11 1 objectInit) ∈ wsL_law := List.mem_of_getElem? (i := 151) rfl
theorem kw_152 : (Cond.fieldLink RX11 7 "DrumCoderModel" "tape" "[B") ∈ wsL_law := List.mem_of_getElem? (i := 152) rfl
theorem kw_153 : (Cond.fieldLink RX11 13 "DrumCoderModel" "faultPlace" "I") ∈ wsL_law := List.mem_of_getElem? (i := 153) rfl
theorem kw_154 : (Cond.fieldLink RX11 17 "DrumCoderModel" "trackRound" "[I") ∈ wsL_law := List.mem_of_getElem? (i := 154) rfl
theorem kw_155 : (Cond.fieldLink RX11 21 "DrumCoderModel" "trackPlaces" "[I") ∈ wsL_law := List.mem_of_getElem? (i := 155) rfl
theorem kw_156 : (Cond.fieldLink RX11 24 "DrumCoderModel" "isBad" "[Z") ∈ wsL_law := List.mem_of_getElem? (i := 156) rfl
theorem kw_157 : (Cond.arrayClass .long) ∈ wsL_law := List.mem_of_getElem? (i := 157) rfl
theorem kw_158 : (Cond.fieldLink RX11 28 "DrumCoderModel" "nameOf" "[J") ∈ wsL_law := List.mem_of_getElem? (i := 158) rfl
theorem kw_159 : (Cond.fieldLink RX11 32 "DrumCoderModel" "values" "[I") ∈ wsL_law := List.mem_of_getElem? (i := 159) rfl
theorem kw_160 : (Cond.fieldLink RX11 35 "DrumCoderModel" "spotOf" "[I") ∈ wsL_law := List.mem_of_getElem? (i := 160) rfl
theorem kw_161 : (Cond.fieldLink RX11 38 "DrumCoderModel" "newName" "[J") ∈ wsL_law := List.mem_of_getElem? (i := 161) rfl
theorem kw_162 : (Cond.fieldLink RX11 41 "DrumCoderModel" "newValue" "[I") ∈ wsL_law := List.mem_of_getElem? (i := 162) rfl
theorem kw_163 : (Cond.fieldLink RX11 44 "DrumCoderModel" "newW" "[I") ∈ wsL_law := List.mem_of_getElem? (i := 163) rfl
theorem kw_164 : (Cond.fieldLink RX11 47 "DrumCoderModel" "newNext" "[I") ∈ wsL_law := List.mem_of_getElem? (i := 164) rfl
theorem kw_165 : (Cond.fieldLink RX11 50 "DrumCoderModel" "toldWord" "[J") ∈ wsL_law := List.mem_of_getElem? (i := 165) rfl
theorem kw_166 : (Cond.fieldLink RX11 53 "DrumCoderModel" "toldAt" "[I") ∈ wsL_law := List.mem_of_getElem? (i := 166) rfl
theorem kw_167 : (Cond.fieldLink RX11 56 "DrumCoderModel" "now" "[I") ∈ wsL_law := List.mem_of_getElem? (i := 167) rfl
theorem kw_168 : (Cond.fieldLink RX11 59 "DrumCoderModel" "printed" "[I") ∈ wsL_law := List.mem_of_getElem? (i := 168) rfl
theorem kw_169 : (Cond.fieldLink RX11 62 "DrumCoderModel" "asOrder" "[I") ∈ wsL_law := List.mem_of_getElem? (i := 169) rfl
theorem kw_170 : (Cond.fieldLink RX11 65 "DrumCoderModel" "asWord" "[I") ∈ wsL_law := List.mem_of_getElem? (i := 170) rfl
theorem kw_171 : (Cond.fieldLink RX11 68 "DrumCoderModel" "waits" "[I") ∈ wsL_law := List.mem_of_getElem? (i := 171) rfl
theorem kw_172 : (Cond.fieldLink RX11 71 "DrumCoderModel" "firstStep" "[I") ∈ wsL_law := List.mem_of_getElem? (i := 172) rfl
theorem kw_173 : (Cond.fieldLink RX11 74 "DrumCoderModel" "lastStep" "[I") ∈ wsL_law := List.mem_of_getElem? (i := 173) rfl
theorem kw_174 : (Cond.fieldLink RX11 77 "DrumCoderModel" "ran" "[I") ∈ wsL_law := List.mem_of_getElem? (i := 174) rfl
theorem kw_175 : (Cond.fieldLink RX11 80 "DrumCoderModel" "ranPrinted" "[I") ∈ wsL_law := List.mem_of_getElem? (i := 175) rfl
theorem kw_176 : (Cond.fieldLink RX11 83 "DrumCoderModel" "ranOf" "[I") ∈ wsL_law := List.mem_of_getElem? (i := 176) rfl
theorem kw_177 : (Cond.fieldLink RX11 86 "DrumCoderModel" "chosen" "[I") ∈ wsL_law := List.mem_of_getElem? (i := 177) rfl
theorem kw_178 : (Cond.fieldLink RX11 89 "DrumCoderModel" "theirs" "[I") ∈ wsL_law := List.mem_of_getElem? (i := 178) rfl
theorem kw_179 : (Cond.fieldLink RX11 92 "DrumCoderModel" "bestSpots" "[I") ∈ wsL_law := List.mem_of_getElem? (i := 179) rfl
theorem kw_180 : (Cond.fieldLink RX11 95 "DrumCoderModel" "isKept" "[Z") ∈ wsL_law := List.mem_of_getElem? (i := 180) rfl
theorem kw_181 : (Cond.fieldLink RX11 98 "DrumCoderModel" "kept" "[I") ∈ wsL_law := List.mem_of_getElem? (i := 181) rfl
theorem kw_182 : (Cond.fieldLink RX11 101 "DrumCoderModel" "marks" "[I") ∈ wsL_law := List.mem_of_getElem? (i := 182) rfl
theorem kw_183 : (Cond.fieldLink RX11 104 "DrumCoderModel" "queue" "[I") ∈ wsL_law := List.mem_of_getElem? (i := 183) rfl
theorem kw_184 : (Cond.fieldLink RX11 107 "DrumCoderModel" "jobTime" "[I") ∈ wsL_law := List.mem_of_getElem? (i := 184) rfl
theorem kw_185 : (Cond.fieldLink RX11 110 "DrumCoderModel" "jobDue" "[I") ∈ wsL_law := List.mem_of_getElem? (i := 185) rfl
theorem kw_186 : (Cond.fieldLink RX11 113 "DrumCoderModel" "words" "I") ∈ wsL_law := List.mem_of_getElem? (i := 186) rfl
theorem kw_187 : (Cond.fieldLink RX11 116 "DrumCoderModel" "tracks" "I") ∈ wsL_law := List.mem_of_getElem? (i := 187) rfl
theorem kw_188 : (Cond.methodLink RL 13 yX10_feed) ∈ wsL_law := List.mem_of_getElem? (i := 188) rfl
theorem kw_189 : (Cond.instanceMethod yX10_feed) ∈ wsL_law := List.mem_of_getElem? (i := 189) rfl
theorem kw_190 : (Cond.selects RX10 yX10_feed yX10_feed) ∈ wsL_law := List.mem_of_getElem? (i := 190) rfl
theorem kw_191 : (Cond.code yX10_feed cX10_feed 6 (some .int)) ∈ wsL_law := List.mem_of_getElem? (i := 191) rfl
theorem kw_192 : (Cond.fieldLink RX10 93 "DrumCoder$Tape" "length" "I") ∈ wsL_law := List.mem_of_getElem? (i := 192) rfl
theorem kw_193 : (Cond.methodLink RX10 85 yX9_hasRoomFor) ∈ wsL_law := List.mem_of_getElem? (i := 193) rfl
theorem kw_194 : (Cond.instanceMethod yX9_hasRoomFor) ∈ wsL_law := List.mem_of_getElem? (i := 194) rfl
theorem kw_195 : (Cond.selects RX9 yX9_hasRoomFor yX9_hasRoomFor) ∈ wsL_law := List.mem_of_getElem? (i := 195) rfl
theorem kw_196 : (Cond.code yX9_hasRoomFor cX9_hasRoomFor 2 (some .boolean)) ∈ wsL_law := List.mem_of_getElem? (i := 196) rfl
theorem kw_197 : (Cond.fieldLink RX9 19 "DrumCoder$Tape" "length" "I") ∈ wsL_law := List.mem_of_getElem? (i := 197) rfl
theorem kw_198 : (Cond.methodLink RX10 89 yX9_append) ∈ wsL_law := List.mem_of_getElem? (i := 198) rfl
theorem kw_199 : (Cond.instanceMethod yX9_append) ∈ wsL_law := List.mem_of_getElem? (i := 199) rfl
theorem kw_200 : (Cond.selects RX9 yX9_append yX9_append) ∈ wsL_law := List.mem_of_getElem? (i := 200) rfl
theorem kw_201 : (Cond.code yX9_append cX9_append 3 none) ∈ wsL_law := List.mem_of_getElem? (i := 201) rfl
theorem kw_202 : (Cond.methodLink RL 17 yX11_feed) ∈ wsL_law := List.mem_of_getElem? (i := 202) rfl
theorem kw_203 : (Cond.instanceMethod yX11_feed) ∈ wsL_law := List.mem_of_getElem? (i := 203) rfl
theorem kw_204 : (Cond.selects RX11 yX11_feed yX11_feed) ∈ wsL_law := List.mem_of_getElem? (i := 204) rfl
theorem kw_205 : (Cond.code yX11_feed cX11_feed 9 (some .int)) ∈ wsL_law := List.mem_of_getElem? (i := 205) rfl
theorem kw_206 : (Cond.fieldLink RX11 119 "DrumCoderModel" "taped" "I") ∈ wsL_law := List.mem_of_getElem? (i := 206) rfl
theorem kw_207 : (Cond.methodLink RL 18 yX10_end) ∈ wsL_law := List.mem_of_getElem? (i := 207) rfl
theorem kw_208 : (Cond.instanceMethod yX10_end) ∈ wsL_law := List.mem_of_getElem? (i := 208) rfl
theorem kw_209 : (Cond.selects RX10 yX10_end yX10_end) ∈ wsL_law := List.mem_of_getElem? (i := 209) rfl
theorem kw_210 : (Cond.code yX10_end cX10_end 2 (some .int)) ∈ wsL_law := List.mem_of_getElem? (i := 210) rfl
theorem kw_211 : (Cond.methodLink RL 22 yX11_end) ∈ wsL_law := List.mem_of_getElem? (i := 211) rfl
theorem kw_212 : (Cond.instanceMethod yX11_end) ∈ wsL_law := List.mem_of_getElem? (i := 212) rfl
theorem kw_213 : (Cond.selects RX11 yX11_end yX11_end) ∈ wsL_law := List.mem_of_getElem? (i := 213) rfl
theorem kw_214 : (Cond.code yX11_end cX11_end 2 (some .int)) ∈ wsL_law := List.mem_of_getElem? (i := 214) rfl
theorem kw_215 : (Cond.methodLink RL 23 yX10_drum) ∈ wsL_law := List.mem_of_getElem? (i := 215) rfl
theorem kw_216 : (Cond.instanceMethod yX10_drum) ∈ wsL_law := List.mem_of_getElem? (i := 216) rfl
theorem kw_217 : (Cond.selects RX10 yX10_drum yX10_drum) ∈ wsL_law := List.mem_of_getElem? (i := 217) rfl
theorem kw_218 : (Cond.code yX10_drum cX10_drum 2 (some .int)) ∈ wsL_law := List.mem_of_getElem? (i := 218) rfl
theorem kw_219 : (Cond.fieldLink RX10 101 "DrumCoder$DrumReader" "draft" "LDrumCoder$Drum;") ∈ wsL_law := List.mem_of_getElem? (i := 219) rfl
theorem kw_220 : (Cond.fieldLink RX10 111 "DrumCoder$Program" "count" "I") ∈ wsL_law := List.mem_of_getElem? (i := 220) rfl
theorem kw_221 : (Cond.methodLink RX10 97 yX2_read) ∈ wsL_law := List.mem_of_getElem? (i := 221) rfl
theorem kw_222 : (Cond.instanceMethod yX2_read) ∈ wsL_law := List.mem_of_getElem? (i := 222) rfl
theorem kw_223 : (Cond.selects RX2 yX2_read yX2_read) ∈ wsL_law := List.mem_of_getElem? (i := 223) rfl
theorem kw_224 : (Cond.code yX2_read cX2_read 2 (some .boolean)) ∈ wsL_law := List.mem_of_getElem? (i := 224) rfl
theorem kw_225 : (Cond.fieldLink RX2 27 "DrumCoder$Drum" "tracks" "I") ∈ wsL_law := List.mem_of_getElem? (i := 225) rfl
theorem kw_226 : (Cond.fieldLink RX2 38 "DrumCoder$Tape" "kind" "I") ∈ wsL_law := List.mem_of_getElem? (i := 226) rfl
theorem kw_227 : (Cond.methodLink RX2 22 yX9_rewind) ∈ wsL_law := List.mem_of_getElem? (i := 227) rfl
theorem kw_228 : (Cond.instanceMethod yX9_rewind) ∈ wsL_law := List.mem_of_getElem? (i := 228) rfl
theorem kw_229 : (Cond.selects RX9 yX9_rewind yX9_rewind) ∈ wsL_law := List.mem_of_getElem? (i := 229) rfl
theorem kw_230 : (Cond.code yX9_rewind cX9_rewind 1 none) ∈ wsL_law := List.mem_of_getElem? (i := 230) rfl
theorem kw_231 : (Cond.fieldLink RX9 22 "DrumCoder$Tape" "position" "I") ∈ wsL_law := List.mem_of_getElem? (i := 231) rfl
theorem kw_232 : (Cond.fieldLink RX9 25 "DrumCoder$Tape" "faultKind" "I") ∈ wsL_law := List.mem_of_getElem? (i := 232) rfl
theorem kw_233 : (Cond.methodLink RX9 28 yX9_advance) ∈ wsL_law := List.mem_of_getElem? (i := 233) rfl
theorem kw_234 : (Cond.instanceMethod yX9_advance) ∈ wsL_law := List.mem_of_getElem? (i := 234) rfl
theorem kw_235 : (Cond.selects RX9 yX9_advance yX9_advance) ∈ wsL_law := List.mem_of_getElem? (i := 235) rfl
theorem kw_236 : (Cond.code yX9_advance cX9_advance 2 none) ∈ wsL_law := List.mem_of_getElem? (i := 236) rfl
theorem kw_237 : (Cond.fieldLink RX9 35 "DrumCoder$Tape" "start" "I") ∈ wsL_law := List.mem_of_getElem? (i := 237) rfl
theorem kw_238 : (Cond.fieldLink RX9 38 "DrumCoder$Tape" "kind" "I") ∈ wsL_law := List.mem_of_getElem? (i := 238) rfl
theorem kw_239 : (Cond.methodLink RX9 31 yX9_byteAt) ∈ wsL_law := List.mem_of_getElem? (i := 239) rfl
theorem kw_240 : (Cond.instanceMethod yX9_byteAt) ∈ wsL_law := List.mem_of_getElem? (i := 240) rfl
theorem kw_241 : (Cond.selects RX9 yX9_byteAt yX9_byteAt) ∈ wsL_law := List.mem_of_getElem? (i := 241) rfl
theorem kw_242 : (Cond.code yX9_byteAt cX9_byteAt 2 (some .int)) ∈ wsL_law := List.mem_of_getElem? (i := 242) rfl
theorem kw_243 : (Cond.methodLink RX9 41 yX9_isLetter) ∈ wsL_law := List.mem_of_getElem? (i := 243) rfl
theorem kw_244 : (Cond.static yX9_isLetter) ∈ wsL_law := List.mem_of_getElem? (i := 244) rfl
theorem kw_245 : (Cond.code yX9_isLetter cX9_isLetter 1 (some .boolean)) ∈ wsL_law := List.mem_of_getElem? (i := 245) rfl
theorem kw_246 : (Cond.methodLink RX9 45 yX9_readWord) ∈ wsL_law := List.mem_of_getElem? (i := 246) rfl
theorem kw_247 : (Cond.instanceMethod yX9_readWord) ∈ wsL_law := List.mem_of_getElem? (i := 247) rfl
theorem kw_248 : (Cond.selects RX9 yX9_readWord yX9_readWord) ∈ wsL_law := List.mem_of_getElem? (i := 248) rfl
theorem kw_249 : (Cond.code yX9_readWord cX9_readWord 2 none) ∈ wsL_law := List.mem_of_getElem? (i := 249) rfl
theorem kw_250 : (Cond.fieldLink RX9 54 "DrumCoder$Tape" "content" "I") ∈ wsL_law := List.mem_of_getElem? (i := 250) rfl
theorem kw_251 : (Cond.methodLink RX9 57 yX9_codeWith) ∈ wsL_law := List.mem_of_getElem? (i := 251) rfl
theorem kw_252 : (Cond.static yX9_codeWith) ∈ wsL_law := List.mem_of_getElem? (i := 252) rfl
theorem kw_253 : (Cond.code yX9_codeWith cX9_codeWith 2 (some .int)) ∈ wsL_law := List.mem_of_getElem? (i := 253) rfl
theorem kw_254 : (Cond.methodLink RX9 48 yX9_isDigit) ∈ wsL_law := List.mem_of_getElem? (i := 254) rfl
theorem kw_255 : (Cond.static yX9_isDigit) ∈ wsL_law := List.mem_of_getElem? (i := 255) rfl
theorem kw_256 : (Cond.code yX9_isDigit cX9_isDigit 1 (some .boolean)) ∈ wsL_law := List.mem_of_getElem? (i := 256) rfl
theorem kw_257 : (Cond.methodLink RX9 51 yX9_readNumber) ∈ wsL_law := List.mem_of_getElem? (i := 257) rfl
theorem kw_258 : (Cond.instanceMethod yX9_readNumber) ∈ wsL_law := List.mem_of_getElem? (i := 258) rfl
theorem kw_259 : (Cond.selects RX9 yX9_readNumber yX9_readNumber) ∈ wsL_law := List.mem_of_getElem? (i := 259) rfl
theorem kw_260 : (Cond.code yX9_readNumber cX9_readNumber 2 none) ∈ wsL_law := List.mem_of_getElem? (i := 260) rfl
theorem kw_261 : (Cond.methodLink RX2 31 yX2_readWords) ∈ wsL_law := List.mem_of_getElem? (i := 261) rfl
theorem kw_262 : (Cond.instanceMethod yX2_readWords) ∈ wsL_law := List.mem_of_getElem? (i := 262) rfl
theorem kw_263 : (Cond.selects RX2 yX2_readWords yX2_readWords) ∈ wsL_law := List.mem_of_getElem? (i := 263) rfl
theorem kw_264 : (Cond.code yX2_readWords cX2_readWords 1 (some .boolean)) ∈ wsL_law := List.mem_of_getElem? (i := 264) rfl
theorem kw_265 : (Cond.fieldLink RX2 47 "DrumCoder$Tape" "start" "I") ∈ wsL_law := List.mem_of_getElem? (i := 265) rfl
theorem kw_266 : (Cond.fieldLink RX2 60 "DrumCoder$Tape" "content" "I") ∈ wsL_law := List.mem_of_getElem? (i := 266) rfl
theorem kw_267 : (Cond.fieldLink RX2 63 "DrumCoder$Drum" "words" "I") ∈ wsL_law := List.mem_of_getElem? (i := 267) rfl
theorem kw_268 : (Cond.methodLink RX2 43 yX9_isWord) ∈ wsL_law := List.mem_of_getElem? (i := 268) rfl
theorem kw_269 : (Cond.instanceMethod yX9_isWord) ∈ wsL_law := List.mem_of_getElem? (i := 269) rfl
theorem kw_270 : (Cond.selects RX9 yX9_isWord yX9_isWord) ∈ wsL_law := List.mem_of_getElem? (i := 270) rfl
theorem kw_271 : (Cond.code yX9_isWord cX9_isWord 4 (some .boolean)) ∈ wsL_law := List.mem_of_getElem? (i := 271) rfl
theorem kw_272 : (Cond.methodLink RX9 61 yJ0_length_8abf5) ∈ wsL_law := List.mem_of_getElem? (i := 272) rfl
theorem kw_273 : (Cond.instanceMethod yJ0_length_8abf5) ∈ wsL_law := List.mem_of_getElem? (i := 273) rfl
theorem kw_274 : (Cond.selects RJ0 yJ0_length_8abf5 yJ0_length_8abf5) ∈ wsL_law := List.mem_of_getElem? (i := 274) rfl
theorem kw_275 : (Cond.initialized RJ0) ∈ wsL_law := List.mem_of_getElem? (i := 275) rfl
theorem kw_276 : (Cond.code yJ0_length_8abf5 cJ0_length_8abf5 1 (some .int)) ∈ wsL_law := List.mem_of_getElem? (i := 276) rfl
theorem kw_277 : (Cond.fieldLink RJ0 9 "java/lang/String" "value" "[B") ∈ wsL_law := List.mem_of_getElem? (i := 277) rfl
theorem kw_278 : (Cond.methodLink RJ0 335 yJ0_coder_7d493) ∈ wsL_law := List.mem_of_getElem? (i := 278) rfl
theorem kw_279 : (Cond.instanceMethod yJ0_coder_7d493) ∈ wsL_law := List.mem_of_getElem? (i := 279) rfl
theorem kw_280 : (Cond.selects RJ0 yJ0_coder_7d493 yJ0_coder_7d493) ∈ wsL_law := List.mem_of_getElem? (i := 280) rfl
theorem kw_281 : (Cond.code yJ0_coder_7d493 cJ0_coder_7d493 1 (some .byte)) ∈ wsL_law := List.mem_of_getElem? (i := 281) rfl
theorem kw_282 : (Cond.fieldLink RJ0 38 "java/lang/String" "COMPACT_STRINGS" "Z") ∈ wsL_law := List.mem_of_getElem? (i := 282) rfl
theorem kw_283 : (Cond.fieldLink RJ0 15 "java/lang/String" "coder" "B") ∈ wsL_law := List.mem_of_getElem? (i := 283) rfl
theorem kw_284 : (Cond.methodLink RX9 66 yJ0_charAt_5068e) ∈ wsL_law := List.mem_of_getElem? (i := 284) rfl
theorem kw_285 : (Cond.instanceMethod yJ0_charAt_5068e) ∈ wsL_law := List.mem_of_getElem? (i := 285) rfl
theorem kw_286 : (Cond.selects RJ0 yJ0_charAt_5068e yJ0_charAt_5068e) ∈ wsL_law := List.mem_of_getElem? (i := 286) rfl
theorem kw_287 : (Cond.code yJ0_charAt_5068e cJ0_charAt_5068e 2 (some .char)) ∈ wsL_law := List.mem_of_getElem? (i := 287) rfl
theorem kw_288 : (Cond.methodLink RJ0 492 yJ0_isLatin1_aae02) ∈ wsL_law := List.mem_of_getElem? (i := 288) rfl
theorem kw_289 : (Cond.instanceMethod yJ0_isLatin1_aae02) ∈ wsL_law := List.mem_of_getElem? (i := 289) rfl
theorem kw_290 : (Cond.selects RJ0 yJ0_isLatin1_aae02 yJ0_isLatin1_aae02) ∈ wsL_law := List.mem_of_getElem? (i := 290) rfl
theorem kw_291 : (Cond.code yJ0_isLatin1_aae02 cJ0_isLatin1_aae02 1 (some .boolean)) ∈ wsL_law := List.mem_of_getElem? (i := 291) rfl
theorem kw_292 : (Cond.methodLink RJ0 495 yJ1_charAt_3b067) ∈ wsL_law := List.mem_of_getElem? (i := 292) rfl
theorem kw_293 : (Cond.static yJ1_charAt_3b067) ∈ wsL_law := List.mem_of_getElem? (i := 293) rfl
theorem kw_294 : (Cond.initialized RJ1) ∈ wsL_law := List.mem_of_getElem? (i := 294) rfl
theorem kw_295 : (Cond.code yJ1_charAt_3b067 cJ1_charAt_3b067 2 (some .char)) ∈ wsL_law := List.mem_of_getElem? (i := 295) rfl
theorem kw_296 : (Cond.methodLink RJ1 9 yJ0_checkIndex_df160) ∈ wsL_law := List.mem_of_getElem? (i := 296) rfl
theorem kw_297 : (Cond.static yJ0_checkIndex_df160) ∈ wsL_law := List.mem_of_getElem? (i := 297) rfl
theorem kw_298 : (Cond.code yJ0_checkIndex_df160 cJ0_checkIndex_df160 2 none) ∈ wsL_law := List.mem_of_getElem? (i := 298) rfl
theorem kw_299 : (Cond.fieldLink RJ0 1053 "jdk/internal/util/Preconditions" "SIOOBE_FORMATTER" "Ljava/util/function/BiFunction;") ∈ wsL_law := List.mem_of_getElem? (i := 299) rfl
theorem kw_300 : (Cond.methodLink RJ0 1059 yJ3_checkIndex_8e157) ∈ wsL_law := List.mem_of_getElem? (i := 300) rfl
theorem kw_301 : (Cond.static yJ3_checkIndex_8e157) ∈ wsL_law := List.mem_of_getElem? (i := 301) rfl
theorem kw_302 : (Cond.initialized RJ3) ∈ wsL_law := List.mem_of_getElem? (i := 302) rfl
theorem kw_303 : (Cond.code yJ3_checkIndex_8e157 cJ3_checkIndex_8e157 3 (some .int)) ∈ wsL_law := List.mem_of_getElem? (i := 303) rfl
theorem kw_304 : (Cond.methodLink RJ0 498 yJ2_charAt_3b067) ∈ wsL_law := List.mem_of_getElem? (i := 304) rfl
theorem kw_305 : (Cond.static yJ2_charAt_3b067) ∈ wsL_law := List.mem_of_getElem? (i := 305) rfl
theorem kw_306 : (Cond.initialized RJ2) ∈ wsL_law := List.mem_of_getElem? (i := 306) rfl
theorem kw_307 : (Cond.code yJ2_charAt_3b067 cJ2_charAt_3b067 2 (some .char)) ∈ wsL_law := List.mem_of_getElem? (i := 307) rfl
theorem kw_308 : (Cond.methodLink RJ2 67 yJ2_checkIndex_2214a) ∈ wsL_law := List.mem_of_getElem? (i := 308) rfl
theorem kw_309 : (Cond.static yJ2_checkIndex_2214a) ∈ wsL_law := List.mem_of_getElem? (i := 309) rfl
theorem kw_310 : (Cond.code yJ2_checkIndex_2214a cJ2_checkIndex_2214a 2 none) ∈ wsL_law := List.mem_of_getElem? (i := 310) rfl
theorem kw_311 : (Cond.methodLink RJ2 48 yJ2_length_9d52b) ∈ wsL_law := List.mem_of_getElem? (i := 311) rfl
theorem kw_312 : (Cond.static yJ2_length_9d52b) ∈ wsL_law := List.mem_of_getElem? (i := 312) rfl
theorem kw_313 : (Cond.code yJ2_length_9d52b cJ2_length_9d52b 1 (some .int)) ∈ wsL_law := List.mem_of_getElem? (i := 313) rfl
theorem kw_314 : (Cond.methodLink RJ2 414 yJ0_checkIndex_df160) ∈ wsL_law := List.mem_of_getElem? (i := 314) rfl
theorem kw_315 : (Cond.methodLink RJ2 71 yJ2_getChar_3b067) ∈ wsL_law := List.mem_of_getElem? (i := 315) rfl
theorem kw_316 : (Cond.static yJ2_getChar_3b067) ∈ wsL_law := List.mem_of_getElem? (i := 316) rfl
theorem kw_317 : (Cond.code yJ2_getChar_3b067 cJ2_getChar_3b067 2 (some .char)) ∈ wsL_law := List.mem_of_getElem? (i := 317) rfl
theorem kw_318 : (Cond.fieldLink RJ2 44 "java/lang/StringUTF16" "$assertionsDisabled" "Z") ∈ wsL_law := List.mem_of_getElem? (i := 318) rfl
theorem kw_319 : (Cond.fieldLink RJ2 59 "java/lang/StringUTF16" "HI_BYTE_SHIFT" "I") ∈ wsL_law := List.mem_of_getElem? (i := 319) rfl
theorem kw_320 : (Cond.fieldLink RJ2 63 "java/lang/StringUTF16" "LO_BYTE_SHIFT" "I") ∈ wsL_law := List.mem_of_getElem? (i := 320) rfl
theorem kw_321 : (Cond.methodLink RX2 50 yX9_fail) ∈ wsL_law := List.mem_of_getElem? (i := 321) rfl
theorem kw_322 : (Cond.instanceMethod yX9_fail) ∈ wsL_law := List.mem_of_getElem? (i := 322) rfl
theorem kw_323 : (Cond.selects RX9 yX9_fail yX9_fail) ∈ wsL_law := List.mem_of_getElem? (i := 323) rfl
theorem kw_324 : (Cond.code yX9_fail cX9_fail 3 (some .boolean)) ∈ wsL_law := List.mem_of_getElem? (i := 324) rfl
theorem kw_325 : (Cond.methodLink RX2 54 yX9_advance) ∈ wsL_law := List.mem_of_getElem? (i := 325) rfl
theorem kw_326 : (Cond.methodLink RX2 57 yX2_numberIsWithin) ∈ wsL_law := List.mem_of_getElem? (i := 326) rfl
theorem kw_327 : (Cond.instanceMethod yX2_numberIsWithin) ∈ wsL_law := List.mem_of_getElem? (i := 327) rfl
theorem kw_328 : (Cond.selects RX2 yX2_numberIsWithin yX2_numberIsWithin) ∈ wsL_law := List.mem_of_getElem? (i := 328) rfl
theorem kw_329 : (Cond.code yX2_numberIsWithin cX2_numberIsWithin 3 (some .boolean)) ∈ wsL_law := List.mem_of_getElem? (i := 329) rfl
theorem kw_330 : (Cond.methodLink RX2 65 yX9_pass) ∈ wsL_law := List.mem_of_getElem? (i := 330) rfl
theorem kw_331 : (Cond.instanceMethod yX9_pass) ∈ wsL_law := List.mem_of_getElem? (i := 331) rfl
theorem kw_332 : (Cond.selects RX9 yX9_pass yX9_pass) ∈ wsL_law := List.mem_of_getElem? (i := 332) rfl
theorem kw_333 : (Cond.code yX9_pass cX9_pass 2 (some .boolean)) ∈ wsL_law := List.mem_of_getElem? (i := 333) rfl
theorem kw_334 : (Cond.methodLink RX9 70 yX9_fail) ∈ wsL_law := List.mem_of_getElem? (i := 334) rfl
theorem kw_335 : (Cond.methodLink RX2 35 yX2_readTrack) ∈ wsL_law := List.mem_of_getElem? (i := 335) rfl
theorem kw_336 : (Cond.instanceMethod yX2_readTrack) ∈ wsL_law := List.mem_of_getElem? (i := 336) rfl
theorem kw_337 : (Cond.selects RX2 yX2_readTrack yX2_readTrack) ∈ wsL_law := List.mem_of_getElem? (i := 337) rfl
theorem kw_338 : (Cond.code yX2_readTrack cX2_readTrack 3 (some .boolean)) ∈ wsL_law := List.mem_of_getElem? (i := 338) rfl
theorem kw_339 : (Cond.methodLink RX2 75 yX2_readHeads) ∈ wsL_law := List.mem_of_getElem? (i := 339) rfl
theorem kw_340 : (Cond.instanceMethod yX2_readHeads) ∈ wsL_law := List.mem_of_getElem? (i := 340) rfl
theorem kw_341 : (Cond.selects RX2 yX2_readHeads yX2_readHeads) ∈ wsL_law := List.mem_of_getElem? (i := 341) rfl
theorem kw_342 : (Cond.code yX2_readHeads cX2_readHeads 2 (some .boolean)) ∈ wsL_law := List.mem_of_getElem? (i := 342) rfl
theorem kw_343 : (Cond.methodLink RX2 81 yX1_addTrack) ∈ wsL_law := List.mem_of_getElem? (i := 343) rfl
theorem kw_344 : (Cond.instanceMethod yX1_addTrack) ∈ wsL_law := List.mem_of_getElem? (i := 344) rfl
theorem kw_345 : (Cond.selects RX1 yX1_addTrack yX1_addTrack) ∈ wsL_law := List.mem_of_getElem? (i := 345) rfl
theorem kw_346 : (Cond.code yX1_addTrack cX1_addTrack 3 none) ∈ wsL_law := List.mem_of_getElem? (i := 346) rfl
theorem kw_347 : (Cond.methodLink RX2 78 yX2_readQuickWords) ∈ wsL_law := List.mem_of_getElem? (i := 347) rfl
theorem kw_348 : (Cond.instanceMethod yX2_readQuickWords) ∈ wsL_law := List.mem_of_getElem? (i := 348) rfl
theorem kw_349 : (Cond.selects RX2 yX2_readQuickWords yX2_readQuickWords) ∈ wsL_law := List.mem_of_getElem? (i := 349) rfl
theorem kw_350 : (Cond.code yX2_readQuickWords cX2_readQuickWords 1 (some .boolean)) ∈ wsL_law := List.mem_of_getElem? (i := 350) rfl
theorem kw_351 : (Cond.methodLink RX2 85 Lib.Math.min.name) ∈ wsL_law := List.mem_of_getElem? (i := 351) rfl
theorem kw_352 : (Cond.static Lib.Math.min.name) ∈ wsL_law := List.mem_of_getElem? (i := 352) rfl
theorem kw_353 : (Cond.initialized "java/lang/Math") ∈ wsL_law := List.mem_of_getElem? (i := 353) rfl
theorem kw_354 : (Cond.code Lib.Math.min.name Lib.Math.min.code 2 (some .int)) ∈ wsL_law := List.mem_of_getElem? (i := 354) rfl
theorem kw_355 : (Cond.methodLink RX10 104 yX1_copyFrom) ∈ wsL_law := List.mem_of_getElem? (i := 355) rfl
theorem kw_356 : (Cond.instanceMethod yX1_copyFrom) ∈ wsL_law := List.mem_of_getElem? (i := 356) rfl
theorem kw_357 : (Cond.selects RX1 yX1_copyFrom yX1_copyFrom) ∈ wsL_law := List.mem_of_getElem? (i := 357) rfl
theorem kw_358 : (Cond.code yX1_copyFrom cX1_copyFrom 3 none) ∈ wsL_law := List.mem_of_getElem? (i := 358) rfl
theorem kw_359 : (Cond.methodLink RX10 107 yX1_countSpots) ∈ wsL_law := List.mem_of_getElem? (i := 359) rfl
theorem kw_360 : (Cond.instanceMethod yX1_countSpots) ∈ wsL_law := List.mem_of_getElem? (i := 360) rfl
theorem kw_361 : (Cond.selects RX1 yX1_countSpots yX1_countSpots) ∈ wsL_law := List.mem_of_getElem? (i := 361) rfl
theorem kw_362 : (Cond.code yX1_countSpots cX1_countSpots 3 (some .int)) ∈ wsL_law := List.mem_of_getElem? (i := 362) rfl
theorem kw_363 : (Cond.methodLink RX10 114 yX5_clear) ∈ wsL_law := List.mem_of_getElem? (i := 363) rfl
theorem kw_364 : (Cond.instanceMethod yX5_clear) ∈ wsL_law := List.mem_of_getElem? (i := 364) rfl
theorem kw_365 : (Cond.selects RX5 yX5_clear yX5_clear) ∈ wsL_law := List.mem_of_getElem? (i := 365) rfl
theorem kw_366 : (Cond.code yX5_clear cX5_clear 1 none) ∈ wsL_law := List.mem_of_getElem? (i := 366) rfl
theorem kw_367 : (Cond.fieldLink RX5 21 "DrumCoder$Program" "count" "I") ∈ wsL_law := List.mem_of_getElem? (i := 367) rfl
theorem kw_368 : (Cond.fieldLink RX5 25 "DrumCoder$Program" "entry" "I") ∈ wsL_law := List.mem_of_getElem? (i := 368) rfl
theorem kw_369 : (Cond.methodLink RX10 117 yX10_startAfresh) ∈ wsL_law := List.mem_of_getElem? (i := 369) rfl
theorem kw_370 : (Cond.instanceMethod yX10_startAfresh) ∈ wsL_law := List.mem_of_getElem? (i := 370) rfl
theorem kw_371 : (Cond.selects RX10 yX10_startAfresh yX10_startAfresh) ∈ wsL_law := List.mem_of_getElem? (i := 371) rfl
theorem kw_372 : (Cond.code yX10_startAfresh cX10_startAfresh 1 none) ∈ wsL_law := List.mem_of_getElem? (i := 372) rfl
theorem kw_373 : (Cond.methodLink RX10 242 yX3_begin) ∈ wsL_law := List.mem_of_getElem? (i := 373) rfl
theorem kw_374 : (Cond.instanceMethod yX3_begin) ∈ wsL_law := List.mem_of_getElem? (i := 374) rfl
theorem kw_375 : (Cond.selects RX3 yX3_begin yX3_begin) ∈ wsL_law := List.mem_of_getElem? (i := 375) rfl
theorem kw_376 : (Cond.code yX3_begin cX3_begin 3 none) ∈ wsL_law := List.mem_of_getElem? (i := 376) rfl
theorem kw_377 : (Cond.fieldLink RX3 46 "DrumCoder$Laying" "count" "I") ∈ wsL_law := List.mem_of_getElem? (i := 377) rfl
theorem kw_378 : (Cond.methodLink RX3 50 yX1_hasSpot) ∈ wsL_law := List.mem_of_getElem? (i := 378) rfl
theorem kw_379 : (Cond.instanceMethod yX1_hasSpot) ∈ wsL_law := List.mem_of_getElem? (i := 379) rfl
theorem kw_380 : (Cond.selects RX1 yX1_hasSpot yX1_hasSpot) ∈ wsL_law := List.mem_of_getElem? (i := 380) rfl
theorem kw_381 : (Cond.code yX1_hasSpot cX1_hasSpot 2 (some .boolean)) ∈ wsL_law := List.mem_of_getElem? (i := 381) rfl
theorem kw_382 : (Cond.methodLink RX1 31 yX1_spotsEnd) ∈ wsL_law := List.mem_of_getElem? (i := 382) rfl
theorem kw_383 : (Cond.instanceMethod yX1_spotsEnd) ∈ wsL_law := List.mem_of_getElem? (i := 383) rfl
theorem kw_384 : (Cond.selects RX1 yX1_spotsEnd yX1_spotsEnd) ∈ wsL_law := List.mem_of_getElem? (i := 384) rfl
theorem kw_385 : (Cond.code yX1_spotsEnd cX1_spotsEnd 1 (some .int)) ∈ wsL_law := List.mem_of_getElem? (i := 385) rfl
theorem kw_386 : (Cond.methodLink RX1 25 Lib.Math.min.name) ∈ wsL_law := List.mem_of_getElem? (i := 386) rfl
theorem kw_387 : (Cond.methodLink RX1 35 yX1_placeOf) ∈ wsL_law := List.mem_of_getElem? (i := 387) rfl
theorem kw_388 : (Cond.instanceMethod yX1_placeOf) ∈ wsL_law := List.mem_of_getElem? (i := 388) rfl
theorem kw_389 : (Cond.selects RX1 yX1_placeOf yX1_placeOf) ∈ wsL_law := List.mem_of_getElem? (i := 389) rfl
theorem kw_390 : (Cond.code yX1_placeOf cX1_placeOf 2 (some .int)) ∈ wsL_law := List.mem_of_getElem? (i := 390) rfl
theorem kw_391 : (Cond.methodLink RX1 39 yX1_trackOf) ∈ wsL_law := List.mem_of_getElem? (i := 391) rfl
theorem kw_392 : (Cond.instanceMethod yX1_trackOf) ∈ wsL_law := List.mem_of_getElem? (i := 392) rfl
theorem kw_393 : (Cond.selects RX1 yX1_trackOf yX1_trackOf) ∈ wsL_law := List.mem_of_getElem? (i := 393) rfl
theorem kw_394 : (Cond.code yX1_trackOf cX1_trackOf 3 (some .int)) ∈ wsL_law := List.mem_of_getElem? (i := 394) rfl
theorem kw_395 : (Cond.methodLink RX3 56 yX3_put) ∈ wsL_law := List.mem_of_getElem? (i := 395) rfl
theorem kw_396 : (Cond.instanceMethod yX3_put) ∈ wsL_law := List.mem_of_getElem? (i := 396) rfl
theorem kw_397 : (Cond.selects RX3 yX3_put yX3_put) ∈ wsL_law := List.mem_of_getElem? (i := 397) rfl
theorem kw_398 : (Cond.code yX3_put cX3_put 4 none) ∈ wsL_law := List.mem_of_getElem? (i := 398) rfl
theorem kw_399 : (Cond.methodLink RX3 60 yX1_roundOf) ∈ wsL_law := List.mem_of_getElem? (i := 399) rfl
theorem kw_400 : (Cond.instanceMethod yX1_roundOf) ∈ wsL_law := List.mem_of_getElem? (i := 400) rfl
theorem kw_401 : (Cond.selects RX1 yX1_roundOf yX1_roundOf) ∈ wsL_law := List.mem_of_getElem? (i := 401) rfl
theorem kw_402 : (Cond.code yX1_roundOf cX1_roundOf 2 (some .int)) ∈ wsL_law := List.mem_of_getElem? (i := 402) rfl
theorem kw_403 : (Cond.methodLink RX3 64 yX1_placeOf) ∈ wsL_law := List.mem_of_getElem? (i := 403) rfl
theorem kw_404 : (Cond.methodLink RX10 245 yX7_clear) ∈ wsL_law := List.mem_of_getElem? (i := 404) rfl
theorem kw_405 : (Cond.instanceMethod yX7_clear) ∈ wsL_law := List.mem_of_getElem? (i := 405) rfl
theorem kw_406 : (Cond.selects RX7 yX7_clear yX7_clear) ∈ wsL_law := List.mem_of_getElem? (i := 406) rfl
theorem kw_407 : (Cond.code yX7_clear cX7_clear 1 none) ∈ wsL_law := List.mem_of_getElem? (i := 407) rfl
theorem kw_408 : (Cond.fieldLink RX7 44 "DrumCoder$Report" "written" "Z") ∈ wsL_law := List.mem_of_getElem? (i := 408) rfl
theorem kw_409 : (Cond.fieldLink RX7 48 "DrumCoder$Report" "spotsNeeded" "I") ∈ wsL_law := List.mem_of_getElem? (i := 409) rfl
theorem kw_410 : (Cond.methodLink RL 27 yX11_drum) ∈ wsL_law := List.mem_of_getElem? (i := 410) rfl
theorem kw_411 : (Cond.instanceMethod yX11_drum) ∈ wsL_law := List.mem_of_getElem? (i := 411) rfl
theorem kw_412 : (Cond.selects RX11 yX11_drum yX11_drum) ∈ wsL_law := List.mem_of_getElem? (i := 412) rfl
theorem kw_413 : (Cond.code yX11_drum cX11_drum 2 (some .int)) ∈ wsL_law := List.mem_of_getElem? (i := 413) rfl
theorem kw_414 : (Cond.fieldLink RX11 185 "DrumCoderModel" "newWords" "I") ∈ wsL_law := List.mem_of_getElem? (i := 414) rfl
theorem kw_415 : (Cond.fieldLink RX11 191 "DrumCoderModel" "newTracks" "I") ∈ wsL_law := List.mem_of_getElem? (i := 415) rfl
theorem kw_416 : (Cond.fieldLink RX11 194 "DrumCoderModel" "names" "I") ∈ wsL_law := List.mem_of_getElem? (i := 416) rfl
theorem kw_417 : (Cond.fieldLink RX11 214 "DrumCoderModel" "entry" "I") ∈ wsL_law := List.mem_of_getElem? (i := 417) rfl
theorem kw_418 : (Cond.methodLink RX11 204 yX11_take) ∈ wsL_law := List.mem_of_getElem? (i := 418) rfl
theorem kw_419 : (Cond.instanceMethod yX11_take) ∈ wsL_law := List.mem_of_getElem? (i := 419) rfl
theorem kw_420 : (Cond.selects RX11 yX11_take yX11_take) ∈ wsL_law := List.mem_of_getElem? (i := 420) rfl
theorem kw_421 : (Cond.code yX11_take cX11_take 1 none) ∈ wsL_law := List.mem_of_getElem? (i := 421) rfl
theorem kw_422 : (Cond.fieldLink RX11 122 "DrumCoderModel" "size" "I") ∈ wsL_law := List.mem_of_getElem? (i := 422) rfl
theorem kw_423 : (Cond.fieldLink RX11 138 "DrumCoderModel" "end" "I") ∈ wsL_law := List.mem_of_getElem? (i := 423) rfl
theorem kw_424 : (Cond.fieldLink RX11 169 "DrumCoderModel" "faultKind" "I") ∈ wsL_law := List.mem_of_getElem? (i := 424) rfl
theorem kw_425 : (Cond.methodLink RX11 166 yX11_scan) ∈ wsL_law := List.mem_of_getElem? (i := 425) rfl
theorem kw_426 : (Cond.instanceMethod yX11_scan) ∈ wsL_law := List.mem_of_getElem? (i := 426) rfl
theorem kw_427 : (Cond.selects RX11 yX11_scan yX11_scan) ∈ wsL_law := List.mem_of_getElem? (i := 427) rfl
theorem kw_428 : (Cond.code yX11_scan cX11_scan 4 none) ∈ wsL_law := List.mem_of_getElem? (i := 428) rfl
theorem kw_429 : (Cond.fieldLink RX11 141 "DrumCoderModel" "at" "I") ∈ wsL_law := List.mem_of_getElem? (i := 429) rfl
theorem kw_430 : (Cond.fieldLink RX11 125 "DrumCoderModel" "sort" "I") ∈ wsL_law := List.mem_of_getElem? (i := 430) rfl
theorem kw_431 : (Cond.fieldLink RX11 152 "DrumCoderModel" "word" "J") ∈ wsL_law := List.mem_of_getElem? (i := 431) rfl
theorem kw_432 : (Cond.constantLong RX11 156 (32)) ∈ wsL_law := List.mem_of_getElem? (i := 432) rfl
theorem kw_433 : (Cond.constantLong RX11 158 (97)) ∈ wsL_law := List.mem_of_getElem? (i := 433) rfl
theorem kw_434 : (Cond.fieldLink RX11 163 "DrumCoderModel" "number" "I") ∈ wsL_law := List.mem_of_getElem? (i := 434) rfl
theorem kw_435 : (Cond.methodLink RX11 144 yX11_see) ∈ wsL_law := List.mem_of_getElem? (i := 435) rfl
theorem kw_436 : (Cond.instanceMethod yX11_see) ∈ wsL_law := List.mem_of_getElem? (i := 436) rfl
theorem kw_437 : (Cond.selects RX11 yX11_see yX11_see) ∈ wsL_law := List.mem_of_getElem? (i := 437) rfl
theorem kw_438 : (Cond.code yX11_see cX11_see 2 (some .int)) ∈ wsL_law := List.mem_of_getElem? (i := 438) rfl
theorem kw_439 : (Cond.methodLink RX11 148 yX11_isSmall) ∈ wsL_law := List.mem_of_getElem? (i := 439) rfl
theorem kw_440 : (Cond.static yX11_isSmall) ∈ wsL_law := List.mem_of_getElem? (i := 440) rfl
theorem kw_441 : (Cond.code yX11_isSmall cX11_isSmall 1 (some .boolean)) ∈ wsL_law := List.mem_of_getElem? (i := 441) rfl
theorem kw_442 : (Cond.methodLink RX11 160 yX11_isDigit) ∈ wsL_law := List.mem_of_getElem? (i := 442) rfl
theorem kw_443 : (Cond.static yX11_isDigit) ∈ wsL_law := List.mem_of_getElem? (i := 443) rfl
theorem kw_444 : (Cond.code yX11_isDigit cX11_isDigit 1 (some .boolean)) ∈ wsL_law := List.mem_of_getElem? (i := 444) rfl
theorem kw_445 : (Cond.methodLink RX11 207 yX11_readDrum) ∈ wsL_law := List.mem_of_getElem? (i := 445) rfl
theorem kw_446 : (Cond.instanceMethod yX11_readDrum) ∈ wsL_law := List.mem_of_getElem? (i := 446) rfl
theorem kw_447 : (Cond.selects RX11 yX11_readDrum yX11_readDrum) ∈ wsL_law := List.mem_of_getElem? (i := 447) rfl
theorem kw_448 : (Cond.code yX11_readDrum cX11_readDrum 3 (some .boolean)) ∈ wsL_law := List.mem_of_getElem? (i := 448) rfl
theorem kw_449 : (Cond.methodLink RX11 177 yX11_keyOf) ∈ wsL_law := List.mem_of_getElem? (i := 449) rfl
theorem kw_450 : (Cond.instanceMethod yX11_keyOf) ∈ wsL_law := List.mem_of_getElem? (i := 450) rfl
theorem kw_451 : (Cond.selects RX11 yX11_keyOf yX11_keyOf) ∈ wsL_law := List.mem_of_getElem? (i := 451) rfl
theorem kw_452 : (Cond.code yX11_keyOf cX11_keyOf 7 (some .int)) ∈ wsL_law := List.mem_of_getElem? (i := 452) rfl
theorem kw_453 : (Cond.methodLink RX11 128 yJ0_length_8abf5) ∈ wsL_law := List.mem_of_getElem? (i := 453) rfl
theorem kw_454 : (Cond.methodLink RX11 134 yJ0_charAt_5068e) ∈ wsL_law := List.mem_of_getElem? (i := 454) rfl
theorem kw_455 : (Cond.methodLink RX11 172 yX11_fails) ∈ wsL_law := List.mem_of_getElem? (i := 455) rfl
theorem kw_456 : (Cond.instanceMethod yX11_fails) ∈ wsL_law := List.mem_of_getElem? (i := 456) rfl
theorem kw_457 : (Cond.selects RX11 yX11_fails yX11_fails) ∈ wsL_law := List.mem_of_getElem? (i := 457) rfl
theorem kw_458 : (Cond.code yX11_fails cX11_fails 2 (some .boolean)) ∈ wsL_law := List.mem_of_getElem? (i := 458) rfl
theorem kw_459 : (Cond.methodLink RX11 181 yX11_in) ∈ wsL_law := List.mem_of_getElem? (i := 459) rfl
theorem kw_460 : (Cond.static yX11_in) ∈ wsL_law := List.mem_of_getElem? (i := 460) rfl
theorem kw_461 : (Cond.code yX11_in cX11_in 3 (some .boolean)) ∈ wsL_law := List.mem_of_getElem? (i := 461) rfl
theorem kw_462 : (Cond.methodLink RX11 188 yX11_readSign) ∈ wsL_law := List.mem_of_getElem? (i := 462) rfl
theorem kw_463 : (Cond.instanceMethod yX11_readSign) ∈ wsL_law := List.mem_of_getElem? (i := 463) rfl
theorem kw_464 : (Cond.selects RX11 yX11_readSign yX11_readSign) ∈ wsL_law := List.mem_of_getElem? (i := 464) rfl
theorem kw_465 : (Cond.code yX11_readSign cX11_readSign 2 (some .boolean)) ∈ wsL_law := List.mem_of_getElem? (i := 465) rfl
theorem kw_466 : (Cond.methodLink RX11 211 yX11_spots) ∈ wsL_law := List.mem_of_getElem? (i := 466) rfl
theorem kw_467 : (Cond.instanceMethod yX11_spots) ∈ wsL_law := List.mem_of_getElem? (i := 467) rfl
theorem kw_468 : (Cond.selects RX11 yX11_spots yX11_spots) ∈ wsL_law := List.mem_of_getElem? (i := 468) rfl
theorem kw_469 : (Cond.code yX11_spots cX11_spots 3 (some .int)) ∈ wsL_law := List.mem_of_getElem? (i := 469) rfl
theorem kw_470 : (Cond.methodLink RX11 217 yX11_layFirst) ∈ wsL_law := List.mem_of_getElem? (i := 470) rfl
theorem kw_471 : (Cond.instanceMethod yX11_layFirst) ∈ wsL_law := List.mem_of_getElem? (i := 471) rfl
theorem kw_472 : (Cond.selects RX11 yX11_layFirst yX11_layFirst) ∈ wsL_law := List.mem_of_getElem? (i := 472) rfl
theorem kw_473 : (Cond.code yX11_layFirst cX11_layFirst 3 none) ∈ wsL_law := List.mem_of_getElem? (i := 473) rfl
theorem kw_474 : (Cond.fieldLink RX11 200 "DrumCoderModel" "hasRun" "Z") ∈ wsL_law := List.mem_of_getElem? (i := 474) rfl
theorem kw_475 : (Cond.methodLink RX11 197 yX11_isThere) ∈ wsL_law := List.mem_of_getElem? (i := 475) rfl
theorem kw_476 : (Cond.instanceMethod yX11_isThere) ∈ wsL_law := List.mem_of_getElem? (i := 476) rfl
theorem kw_477 : (Cond.selects RX11 yX11_isThere yX11_isThere) ∈ wsL_law := List.mem_of_getElem? (i := 477) rfl
theorem kw_478 : (Cond.code yX11_isThere cX11_isThere 2 (some .boolean)) ∈ wsL_law := List.mem_of_getElem? (i := 478) rfl
theorem kw_479 : (Cond.methodLink RL 28 yX10_program) ∈ wsL_law := List.mem_of_getElem? (i := 479) rfl
theorem kw_480 : (Cond.instanceMethod yX10_program) ∈ wsL_law := List.mem_of_getElem? (i := 480) rfl
theorem kw_481 : (Cond.selects RX10 yX10_program yX10_program) ∈ wsL_law := List.mem_of_getElem? (i := 481) rfl
theorem kw_482 : (Cond.code yX10_program cX10_program 2 (some .int)) ∈ wsL_law := List.mem_of_getElem? (i := 482) rfl
theorem kw_483 : (Cond.fieldLink RX10 121 "DrumCoder$ProgramReader" "draft" "LDrumCoder$Program;") ∈ wsL_law := List.mem_of_getElem? (i := 483) rfl
theorem kw_484 : (Cond.methodLink RX10 120 yX6_read) ∈ wsL_law := List.mem_of_getElem? (i := 484) rfl
theorem kw_485 : (Cond.instanceMethod yX6_read) ∈ wsL_law := List.mem_of_getElem? (i := 485) rfl
theorem kw_486 : (Cond.selects RX6 yX6_read yX6_read) ∈ wsL_law := List.mem_of_getElem? (i := 486) rfl
theorem kw_487 : (Cond.code yX6_read cX6_read 2 (some .boolean)) ∈ wsL_law := List.mem_of_getElem? (i := 487) rfl
theorem kw_488 : (Cond.fieldLink RX6 49 "DrumCoder$Tape" "kind" "I") ∈ wsL_law := List.mem_of_getElem? (i := 488) rfl
theorem kw_489 : (Cond.fieldLink RX6 57 "DrumCoder$Program" "count" "I") ∈ wsL_law := List.mem_of_getElem? (i := 489) rfl
theorem kw_490 : (Cond.methodLink RX6 41 yX9_rewind) ∈ wsL_law := List.mem_of_getElem? (i := 490) rfl
theorem kw_491 : (Cond.methodLink RX6 46 yX5_clear) ∈ wsL_law := List.mem_of_getElem? (i := 491) rfl
theorem kw_492 : (Cond.methodLink RX6 53 yX6_readLine) ∈ wsL_law := List.mem_of_getElem? (i := 492) rfl
theorem kw_493 : (Cond.instanceMethod yX6_readLine) ∈ wsL_law := List.mem_of_getElem? (i := 493) rfl
theorem kw_494 : (Cond.selects RX6 yX6_readLine yX6_readLine) ∈ wsL_law := List.mem_of_getElem? (i := 494) rfl
theorem kw_495 : (Cond.code yX6_readLine cX6_readLine 2 (some .boolean)) ∈ wsL_law := List.mem_of_getElem? (i := 495) rfl
theorem kw_496 : (Cond.fieldLink RX6 64 "DrumCoder$Tape" "start" "I") ∈ wsL_law := List.mem_of_getElem? (i := 496) rfl
theorem kw_497 : (Cond.fieldLink RX6 71 "DrumCoder$Tape" "content" "I") ∈ wsL_law := List.mem_of_getElem? (i := 497) rfl
theorem kw_498 : (Cond.methodLink RX6 67 yX9_fail) ∈ wsL_law := List.mem_of_getElem? (i := 498) rfl
theorem kw_499 : (Cond.methodLink RX6 74 yX6_find) ∈ wsL_law := List.mem_of_getElem? (i := 499) rfl
theorem kw_500 : (Cond.instanceMethod yX6_find) ∈ wsL_law := List.mem_of_getElem? (i := 500) rfl
theorem kw_501 : (Cond.selects RX6 yX6_find yX6_find) ∈ wsL_law := List.mem_of_getElem? (i := 501) rfl
theorem kw_502 : (Cond.code yX6_find cX6_find 3 (some .int)) ∈ wsL_law := List.mem_of_getElem? (i := 502) rfl
theorem kw_503 : (Cond.methodLink RX6 78 yX9_advance) ∈ wsL_law := List.mem_of_getElem? (i := 503) rfl
theorem kw_504 : (Cond.methodLink RX6 81 yX6_readNumberLine) ∈ wsL_law := List.mem_of_getElem? (i := 504) rfl
theorem kw_505 : (Cond.instanceMethod yX6_readNumberLine) ∈ wsL_law := List.mem_of_getElem? (i := 505) rfl
theorem kw_506 : (Cond.selects RX6 yX6_readNumberLine yX6_readNumberLine) ∈ wsL_law := List.mem_of_getElem? (i := 506) rfl
theorem kw_507 : (Cond.code yX6_readNumberLine cX6_readNumberLine 3 (some .boolean)) ∈ wsL_law := List.mem_of_getElem? (i := 507) rfl
theorem kw_508 : (Cond.fieldLink RX6 90 "DrumCoder$Program" "values" "[I") ∈ wsL_law := List.mem_of_getElem? (i := 508) rfl
theorem kw_509 : (Cond.methodLink RX6 84 yX9_pass) ∈ wsL_law := List.mem_of_getElem? (i := 509) rfl
theorem kw_510 : (Cond.methodLink RX6 87 yX6_readOrderLine) ∈ wsL_law := List.mem_of_getElem? (i := 510) rfl
theorem kw_511 : (Cond.instanceMethod yX6_readOrderLine) ∈ wsL_law := List.mem_of_getElem? (i := 511) rfl
theorem kw_512 : (Cond.selects RX6 yX6_readOrderLine yX6_readOrderLine) ∈ wsL_law := List.mem_of_getElem? (i := 512) rfl
theorem kw_513 : (Cond.code yX6_readOrderLine cX6_readOrderLine 3 (some .boolean)) ∈ wsL_law := List.mem_of_getElem? (i := 513) rfl
theorem kw_514 : (Cond.methodLink RX6 93 yX6_opOnTape) ∈ wsL_law := List.mem_of_getElem? (i := 514) rfl
theorem kw_515 : (Cond.instanceMethod yX6_opOnTape) ∈ wsL_law := List.mem_of_getElem? (i := 515) rfl
theorem kw_516 : (Cond.selects RX6 yX6_opOnTape yX6_opOnTape) ∈ wsL_law := List.mem_of_getElem? (i := 516) rfl
theorem kw_517 : (Cond.code yX6_opOnTape cX6_opOnTape 1 (some .int)) ∈ wsL_law := List.mem_of_getElem? (i := 517) rfl
theorem kw_518 : (Cond.methodLink RX6 99 yX9_isWord) ∈ wsL_law := List.mem_of_getElem? (i := 518) rfl
theorem kw_519 : (Cond.methodLink RX6 60 yX6_resolve) ∈ wsL_law := List.mem_of_getElem? (i := 519) rfl
theorem kw_520 : (Cond.instanceMethod yX6_resolve) ∈ wsL_law := List.mem_of_getElem? (i := 520) rfl
theorem kw_521 : (Cond.selects RX6 yX6_resolve yX6_resolve) ∈ wsL_law := List.mem_of_getElem? (i := 521) rfl
theorem kw_522 : (Cond.code yX6_resolve cX6_resolve 4 (some .boolean)) ∈ wsL_law := List.mem_of_getElem? (i := 522) rfl
theorem kw_523 : (Cond.methodLink RX6 123 Lib.Math.min.name) ∈ wsL_law := List.mem_of_getElem? (i := 523) rfl
theorem kw_524 : (Cond.methodLink RX10 123 yX5_copyFrom) ∈ wsL_law := List.mem_of_getElem? (i := 524) rfl
theorem kw_525 : (Cond.instanceMethod yX5_copyFrom) ∈ wsL_law := List.mem_of_getElem? (i := 525) rfl
theorem kw_526 : (Cond.selects RX5 yX5_copyFrom yX5_copyFrom) ∈ wsL_law := List.mem_of_getElem? (i := 526) rfl
theorem kw_527 : (Cond.code yX5_copyFrom cX5_copyFrom 2 none) ∈ wsL_law := List.mem_of_getElem? (i := 527) rfl
theorem kw_528 : (Cond.methodLink RX5 28 arraycopyName) ∈ wsL_law := List.mem_of_getElem? (i := 528) rfl
theorem kw_529 : (Cond.native arraycopyName) ∈ wsL_law := List.mem_of_getElem? (i := 529) rfl
theorem kw_530 : (Cond.static arraycopyName) ∈ wsL_law := List.mem_of_getElem? (i := 530) rfl
theorem kw_531 : (Cond.initialized "java/lang/System") ∈ wsL_law := List.mem_of_getElem? (i := 531) rfl
theorem kw_532 : (Cond.methodLink RL 31 yX11_program) ∈ wsL_law := List.mem_of_getElem? (i := 532) rfl
theorem kw_533 : (Cond.instanceMethod yX11_program) ∈ wsL_law := List.mem_of_getElem? (i := 533) rfl
theorem kw_534 : (Cond.selects RX11 yX11_program yX11_program) ∈ wsL_law := List.mem_of_getElem? (i := 534) rfl
theorem kw_535 : (Cond.code yX11_program cX11_program 4 (some .int)) ∈ wsL_law := List.mem_of_getElem? (i := 535) rfl
theorem kw_536 : (Cond.fieldLink RX11 223 "DrumCoderModel" "newNames" "I") ∈ wsL_law := List.mem_of_getElem? (i := 536) rfl
theorem kw_537 : (Cond.fieldLink RX11 220 "DrumCoderModel" "told" "I") ∈ wsL_law := List.mem_of_getElem? (i := 537) rfl
theorem kw_538 : (Cond.methodLink RX11 235 yX11_readLine) ∈ wsL_law := List.mem_of_getElem? (i := 538) rfl
theorem kw_539 : (Cond.instanceMethod yX11_readLine) ∈ wsL_law := List.mem_of_getElem? (i := 539) rfl
theorem kw_540 : (Cond.selects RX11 yX11_readLine yX11_readLine) ∈ wsL_law := List.mem_of_getElem? (i := 540) rfl
theorem kw_541 : (Cond.code yX11_readLine cX11_readLine 3 (some .boolean)) ∈ wsL_law := List.mem_of_getElem? (i := 541) rfl
theorem kw_542 : (Cond.methodLink RX11 226 yX11_find) ∈ wsL_law := List.mem_of_getElem? (i := 542) rfl
theorem kw_543 : (Cond.instanceMethod yX11_find) ∈ wsL_law := List.mem_of_getElem? (i := 543) rfl
theorem kw_544 : (Cond.selects RX11 yX11_find yX11_find) ∈ wsL_law := List.mem_of_getElem? (i := 544) rfl
theorem kw_545 : (Cond.code yX11_find cX11_find 5 (some .int)) ∈ wsL_law := List.mem_of_getElem? (i := 545) rfl
theorem kw_546 : (Cond.methodLink RX11 232 yX11_readName) ∈ wsL_law := List.mem_of_getElem? (i := 546) rfl
theorem kw_547 : (Cond.instanceMethod yX11_readName) ∈ wsL_law := List.mem_of_getElem? (i := 547) rfl
theorem kw_548 : (Cond.selects RX11 yX11_readName yX11_readName) ∈ wsL_law := List.mem_of_getElem? (i := 548) rfl
theorem kw_549 : (Cond.code yX11_readName cX11_readName 1 (some .int)) ∈ wsL_law := List.mem_of_getElem? (i := 549) rfl
theorem kw_550 : (Cond.methodLink RL 32 yX10_fault) ∈ wsL_law := List.mem_of_getElem? (i := 550) rfl
theorem kw_551 : (Cond.instanceMethod yX10_fault) ∈ wsL_law := List.mem_of_getElem? (i := 551) rfl
theorem kw_552 : (Cond.selects RX10 yX10_fault yX10_fault) ∈ wsL_law := List.mem_of_getElem? (i := 552) rfl
theorem kw_553 : (Cond.code yX10_fault cX10_fault 2 (some .int)) ∈ wsL_law := List.mem_of_getElem? (i := 553) rfl
theorem kw_554 : (Cond.fieldLink RX10 126 "DrumCoder$Tape" "faultKind" "I") ∈ wsL_law := List.mem_of_getElem? (i := 554) rfl
theorem kw_555 : (Cond.fieldLink RX10 129 "DrumCoder$Tape" "faultPlace" "I") ∈ wsL_law := List.mem_of_getElem? (i := 555) rfl
theorem kw_556 : (Cond.methodLink RL 35 yX11_fault) ∈ wsL_law := List.mem_of_getElem? (i := 556) rfl
theorem kw_557 : (Cond.instanceMethod yX11_fault) ∈ wsL_law := List.mem_of_getElem? (i := 557) rfl
theorem kw_558 : (Cond.selects RX11 yX11_fault yX11_fault) ∈ wsL_law := List.mem_of_getElem? (i := 558) rfl
theorem kw_559 : (Cond.code yX11_fault cX11_fault 2 (some .int)) ∈ wsL_law := List.mem_of_getElem? (i := 559) rfl
theorem kw_560 : (Cond.methodLink RL 36 yX10_told) ∈ wsL_law := List.mem_of_getElem? (i := 560) rfl
theorem kw_561 : (Cond.instanceMethod yX10_told) ∈ wsL_law := List.mem_of_getElem? (i := 561) rfl
theorem kw_562 : (Cond.selects RX10 yX10_told yX10_told) ∈ wsL_law := List.mem_of_getElem? (i := 562) rfl
theorem kw_563 : (Cond.code yX10_told cX10_told 2 (some .int)) ∈ wsL_law := List.mem_of_getElem? (i := 563) rfl
theorem kw_564 : (Cond.fieldLink RX10 132 "DrumCoder$Drum" "words" "I") ∈ wsL_law := List.mem_of_getElem? (i := 564) rfl
theorem kw_565 : (Cond.fieldLink RX10 134 "DrumCoder$Drum" "tracks" "I") ∈ wsL_law := List.mem_of_getElem? (i := 565) rfl
theorem kw_566 : (Cond.fieldLink RX10 137 "DrumCoder$Program" "entry" "I") ∈ wsL_law := List.mem_of_getElem? (i := 566) rfl
theorem kw_567 : (Cond.fieldLink RX10 140 "DrumCoder$Night" "count" "I") ∈ wsL_law := List.mem_of_getElem? (i := 567) rfl
theorem kw_568 : (Cond.fieldLink RX10 141 "DrumCoder$Drum" "rounds" "[I") ∈ wsL_law := List.mem_of_getElem? (i := 568) rfl
theorem kw_569 : (Cond.methodLink RL 39 yX11_told) ∈ wsL_law := List.mem_of_getElem? (i := 569) rfl
theorem kw_570 : (Cond.instanceMethod yX11_told) ∈ wsL_law := List.mem_of_getElem? (i := 570) rfl
theorem kw_571 : (Cond.selects RX11 yX11_told yX11_told) ∈ wsL_law := List.mem_of_getElem? (i := 571) rfl
theorem kw_572 : (Cond.code yX11_told cX11_told 2 (some .int)) ∈ wsL_law := List.mem_of_getElem? (i := 572) rfl
theorem kw_573 : (Cond.fieldLink RX11 238 "DrumCoderModel" "jobs" "I") ∈ wsL_law := List.mem_of_getElem? (i := 573) rfl
theorem kw_574 : (Cond.methodLink RL 40 yX10_value) ∈ wsL_law := List.mem_of_getElem? (i := 574) rfl
theorem kw_575 : (Cond.instanceMethod yX10_value) ∈ wsL_law := List.mem_of_getElem? (i := 575) rfl
theorem kw_576 : (Cond.selects RX10 yX10_value yX10_value) ∈ wsL_law := List.mem_of_getElem? (i := 576) rfl
theorem kw_577 : (Cond.code yX10_value cX10_value 2 (some .int)) ∈ wsL_law := List.mem_of_getElem? (i := 577) rfl
theorem kw_578 : (Cond.fieldLink RX10 148 "DrumCoder$Program" "values" "[I") ∈ wsL_law := List.mem_of_getElem? (i := 578) rfl
theorem kw_579 : (Cond.constant RX10 151 (-2147483647)) ∈ wsL_law := List.mem_of_getElem? (i := 579) rfl
theorem kw_580 : (Cond.methodLink RX10 145 yX5_has) ∈ wsL_law := List.mem_of_getElem? (i := 580) rfl
theorem kw_581 : (Cond.instanceMethod yX5_has) ∈ wsL_law := List.mem_of_getElem? (i := 581) rfl
theorem kw_582 : (Cond.selects RX5 yX5_has yX5_has) ∈ wsL_law := List.mem_of_getElem? (i := 582) rfl
theorem kw_583 : (Cond.code yX5_has cX5_has 2 (some .boolean)) ∈ wsL_law := List.mem_of_getElem? (i := 583) rfl
theorem kw_584 : (Cond.methodLink RL 43 yX11_value) ∈ wsL_law := List.mem_of_getElem? (i := 584) rfl
theorem kw_585 : (Cond.instanceMethod yX11_value) ∈ wsL_law := List.mem_of_getElem? (i := 585) rfl
theorem kw_586 : (Cond.selects RX11 yX11_value yX11_value) ∈ wsL_law := List.mem_of_getElem? (i := 586) rfl
theorem kw_587 : (Cond.code yX11_value cX11_value 2 (some .int)) ∈ wsL_law := List.mem_of_getElem? (i := 587) rfl
theorem kw_588 : (Cond.constant RX11 244 (-2147483647)) ∈ wsL_law := List.mem_of_getElem? (i := 588) rfl
theorem kw_589 : (Cond.methodLink RX11 241 yX11_isName) ∈ wsL_law := List.mem_of_getElem? (i := 589) rfl
theorem kw_590 : (Cond.instanceMethod yX11_isName) ∈ wsL_law := List.mem_of_getElem? (i := 590) rfl
theorem kw_591 : (Cond.selects RX11 yX11_isName yX11_isName) ∈ wsL_law := List.mem_of_getElem? (i := 591) rfl
theorem kw_592 : (Cond.code yX11_isName cX11_isName 2 (some .boolean)) ∈ wsL_law := List.mem_of_getElem? (i := 592) rfl
theorem kw_593 : (Cond.methodLink RL 44 yX10_set) ∈ wsL_law := List.mem_of_getElem? (i := 593) rfl
theorem kw_594 : (Cond.instanceMethod yX10_set) ∈ wsL_law := List.mem_of_getElem? (i := 594) rfl
theorem kw_595 : (Cond.selects RX10 yX10_set yX10_set) ∈ wsL_law := List.mem_of_getElem? (i := 595) rfl
theorem kw_596 : (Cond.code yX10_set cX10_set 3 (some .int)) ∈ wsL_law := List.mem_of_getElem? (i := 596) rfl
theorem kw_597 : (Cond.methodLink RL 48 yX11_set) ∈ wsL_law := List.mem_of_getElem? (i := 597) rfl
theorem kw_598 : (Cond.instanceMethod yX11_set) ∈ wsL_law := List.mem_of_getElem? (i := 598) rfl
theorem kw_599 : (Cond.selects RX11 yX11_set yX11_set) ∈ wsL_law := List.mem_of_getElem? (i := 599) rfl
theorem kw_600 : (Cond.code yX11_set cX11_set 3 (some .int)) ∈ wsL_law := List.mem_of_getElem? (i := 600) rfl
theorem kw_601 : (Cond.methodLink RL 49 yX10_entry) ∈ wsL_law := List.mem_of_getElem? (i := 601) rfl
theorem kw_602 : (Cond.instanceMethod yX10_entry) ∈ wsL_law := List.mem_of_getElem? (i := 602) rfl
theorem kw_603 : (Cond.selects RX10 yX10_entry yX10_entry) ∈ wsL_law := List.mem_of_getElem? (i := 603) rfl
theorem kw_604 : (Cond.code yX10_entry cX10_entry 3 (some .int)) ∈ wsL_law := List.mem_of_getElem? (i := 604) rfl
theorem kw_605 : (Cond.methodLink RL 52 yX11_entry) ∈ wsL_law := List.mem_of_getElem? (i := 605) rfl
theorem kw_606 : (Cond.instanceMethod yX11_entry) ∈ wsL_law := List.mem_of_getElem? (i := 606) rfl
theorem kw_607 : (Cond.selects RX11 yX11_entry yX11_entry) ∈ wsL_law := List.mem_of_getElem? (i := 607) rfl
theorem kw_608 : (Cond.code yX11_entry cX11_entry 3 (some .int)) ∈ wsL_law := List.mem_of_getElem? (i := 608) rfl
theorem kw_609 : (Cond.methodLink RL 53 yX10_run) ∈ wsL_law := List.mem_of_getElem? (i := 609) rfl
theorem kw_610 : (Cond.instanceMethod yX10_run) ∈ wsL_law := List.mem_of_getElem? (i := 610) rfl
theorem kw_611 : (Cond.selects RX10 yX10_run yX10_run) ∈ wsL_law := List.mem_of_getElem? (i := 611) rfl
theorem kw_612 : (Cond.code yX10_run cX10_run 1 (some .int)) ∈ wsL_law := List.mem_of_getElem? (i := 612) rfl
theorem kw_613 : (Cond.fieldLink RX10 159 "DrumCoder$Course" "steps" "I") ∈ wsL_law := List.mem_of_getElem? (i := 613) rfl
theorem kw_614 : (Cond.methodLink RX10 152 yX0_follow) ∈ wsL_law := List.mem_of_getElem? (i := 614) rfl
theorem kw_615 : (Cond.instanceMethod yX0_follow) ∈ wsL_law := List.mem_of_getElem? (i := 615) rfl
theorem kw_616 : (Cond.selects RX0 yX0_follow yX0_follow) ∈ wsL_law := List.mem_of_getElem? (i := 616) rfl
theorem kw_617 : (Cond.code yX0_follow cX0_follow 2 none) ∈ wsL_law := List.mem_of_getElem? (i := 617) rfl
theorem kw_618 : (Cond.fieldLink RX0 21 "DrumCoder$Program" "values" "[I") ∈ wsL_law := List.mem_of_getElem? (i := 618) rfl
theorem kw_619 : (Cond.methodLink RX0 24 arraycopyName) ∈ wsL_law := List.mem_of_getElem? (i := 619) rfl
theorem kw_620 : (Cond.fieldLink RX0 30 "DrumCoder$Course" "steps" "I") ∈ wsL_law := List.mem_of_getElem? (i := 620) rfl
theorem kw_621 : (Cond.fieldLink RX0 34 "DrumCoder$Course" "ending" "I") ∈ wsL_law := List.mem_of_getElem? (i := 621) rfl
theorem kw_622 : (Cond.fieldLink RX0 37 "DrumCoder$Course" "sum" "I") ∈ wsL_law := List.mem_of_getElem? (i := 622) rfl
theorem kw_623 : (Cond.fieldLink RX0 40 "DrumCoder$Program" "entry" "I") ∈ wsL_law := List.mem_of_getElem? (i := 623) rfl
theorem kw_624 : (Cond.fieldLink RX0 43 "DrumCoder$Course" "at" "I") ∈ wsL_law := List.mem_of_getElem? (i := 624) rfl
theorem kw_625 : (Cond.fieldLink RX0 46 "DrumCoder$Course" "printedCount" "I") ∈ wsL_law := List.mem_of_getElem? (i := 625) rfl
theorem kw_626 : (Cond.methodLink RX0 49 yX0_goStep) ∈ wsL_law := List.mem_of_getElem? (i := 626) rfl
theorem kw_627 : (Cond.instanceMethod yX0_goStep) ∈ wsL_law := List.mem_of_getElem? (i := 627) rfl
theorem kw_628 : (Cond.selects RX0 yX0_goStep yX0_goStep) ∈ wsL_law := List.mem_of_getElem? (i := 628) rfl
theorem kw_629 : (Cond.code yX0_goStep cX0_goStep 7 none) ∈ wsL_law := List.mem_of_getElem? (i := 629) rfl
theorem kw_630 : (Cond.methodLink RX0 53 yX5_has) ∈ wsL_law := List.mem_of_getElem? (i := 630) rfl
theorem kw_631 : (Cond.methodLink RX0 57 yX5_isOrder) ∈ wsL_law := List.mem_of_getElem? (i := 631) rfl
theorem kw_632 : (Cond.instanceMethod yX5_isOrder) ∈ wsL_law := List.mem_of_getElem? (i := 632) rfl
theorem kw_633 : (Cond.selects RX5 yX5_isOrder yX5_isOrder) ∈ wsL_law := List.mem_of_getElem? (i := 633) rfl
theorem kw_634 : (Cond.code yX5_isOrder cX5_isOrder 2 (some .boolean)) ∈ wsL_law := List.mem_of_getElem? (i := 634) rfl
theorem kw_635 : (Cond.methodLink RX5 34 yX5_opOf) ∈ wsL_law := List.mem_of_getElem? (i := 635) rfl
theorem kw_636 : (Cond.static yX5_opOf) ∈ wsL_law := List.mem_of_getElem? (i := 636) rfl
theorem kw_637 : (Cond.code yX5_opOf cX5_opOf 1 (some .int)) ∈ wsL_law := List.mem_of_getElem? (i := 637) rfl
theorem kw_638 : (Cond.methodLink RX5 38 yX5_wordOf) ∈ wsL_law := List.mem_of_getElem? (i := 638) rfl
theorem kw_639 : (Cond.static yX5_wordOf) ∈ wsL_law := List.mem_of_getElem? (i := 639) rfl
theorem kw_640 : (Cond.code yX5_wordOf cX5_wordOf 1 (some .int)) ∈ wsL_law := List.mem_of_getElem? (i := 640) rfl
theorem kw_641 : (Cond.methodLink RX5 41 yX5_has) ∈ wsL_law := List.mem_of_getElem? (i := 641) rfl
theorem kw_642 : (Cond.methodLink RX5 45 yX5_nextOf) ∈ wsL_law := List.mem_of_getElem? (i := 642) rfl
theorem kw_643 : (Cond.static yX5_nextOf) ∈ wsL_law := List.mem_of_getElem? (i := 643) rfl
theorem kw_644 : (Cond.code yX5_nextOf cX5_nextOf 1 (some .int)) ∈ wsL_law := List.mem_of_getElem? (i := 644) rfl
theorem kw_645 : (Cond.methodLink RX0 60 yX0_note) ∈ wsL_law := List.mem_of_getElem? (i := 645) rfl
theorem kw_646 : (Cond.instanceMethod yX0_note) ∈ wsL_law := List.mem_of_getElem? (i := 646) rfl
theorem kw_647 : (Cond.selects RX0 yX0_note yX0_note) ∈ wsL_law := List.mem_of_getElem? (i := 647) rfl
theorem kw_648 : (Cond.code yX0_note cX0_note 4 none) ∈ wsL_law := List.mem_of_getElem? (i := 648) rfl
theorem kw_649 : (Cond.methodLink RX0 64 yX5_opOf) ∈ wsL_law := List.mem_of_getElem? (i := 649) rfl
theorem kw_650 : (Cond.methodLink RX0 68 yX5_wordOf) ∈ wsL_law := List.mem_of_getElem? (i := 650) rfl
theorem kw_651 : (Cond.methodLink RX0 71 yX5_nextOf) ∈ wsL_law := List.mem_of_getElem? (i := 651) rfl
theorem kw_652 : (Cond.methodLink RX0 74 yX5_readsWord) ∈ wsL_law := List.mem_of_getElem? (i := 652) rfl
theorem kw_653 : (Cond.static yX5_readsWord) ∈ wsL_law := List.mem_of_getElem? (i := 653) rfl
theorem kw_654 : (Cond.code yX5_readsWord cX5_readsWord 1 (some .boolean)) ∈ wsL_law := List.mem_of_getElem? (i := 654) rfl
theorem kw_655 : (Cond.methodLink RX0 77 yX0_extraTime) ∈ wsL_law := List.mem_of_getElem? (i := 655) rfl
theorem kw_656 : (Cond.instanceMethod yX0_extraTime) ∈ wsL_law := List.mem_of_getElem? (i := 656) rfl
theorem kw_657 : (Cond.selects RX0 yX0_extraTime yX0_extraTime) ∈ wsL_law := List.mem_of_getElem? (i := 657) rfl
theorem kw_658 : (Cond.code yX0_extraTime cX0_extraTime 3 (some .int)) ∈ wsL_law := List.mem_of_getElem? (i := 658) rfl
theorem kw_659 : (Cond.methodLink RX0 85 yJ6_bitCount_0f7a4) ∈ wsL_law := List.mem_of_getElem? (i := 659) rfl
theorem kw_660 : (Cond.static yJ6_bitCount_0f7a4) ∈ wsL_law := List.mem_of_getElem? (i := 660) rfl
theorem kw_661 : (Cond.initialized RJ6) ∈ wsL_law := List.mem_of_getElem? (i := 661) rfl
theorem kw_662 : (Cond.code yJ6_bitCount_0f7a4 cJ6_bitCount_0f7a4 1 (some .int)) ∈ wsL_law := List.mem_of_getElem? (i := 662) rfl
theorem kw_663 : (Cond.constant RJ6 265 (1431655765)) ∈ wsL_law := List.mem_of_getElem? (i := 663) rfl
theorem kw_664 : (Cond.constant RJ6 266 (858993459)) ∈ wsL_law := List.mem_of_getElem? (i := 664) rfl
theorem kw_665 : (Cond.constant RJ6 267 (252645135)) ∈ wsL_law := List.mem_of_getElem? (i := 665) rfl
theorem kw_666 : (Cond.methodLink RX0 81 yX0_work) ∈ wsL_law := List.mem_of_getElem? (i := 666) rfl
theorem kw_667 : (Cond.instanceMethod yX0_work) ∈ wsL_law := List.mem_of_getElem? (i := 667) rfl
theorem kw_668 : (Cond.selects RX0 yX0_work yX0_work) ∈ wsL_law := List.mem_of_getElem? (i := 668) rfl
theorem kw_669 : (Cond.code yX0_work cX0_work 3 none) ∈ wsL_law := List.mem_of_getElem? (i := 669) rfl
theorem kw_670 : (Cond.methodLink RX0 90 yX0_print) ∈ wsL_law := List.mem_of_getElem? (i := 670) rfl
theorem kw_671 : (Cond.instanceMethod yX0_print) ∈ wsL_law := List.mem_of_getElem? (i := 671) rfl
theorem kw_672 : (Cond.selects RX0 yX0_print yX0_print) ∈ wsL_law := List.mem_of_getElem? (i := 672) rfl
theorem kw_673 : (Cond.code yX0_print cX0_print 1 none) ∈ wsL_law := List.mem_of_getElem? (i := 673) rfl
theorem kw_674 : (Cond.methodLink RX10 155 yX7_write) ∈ wsL_law := List.mem_of_getElem? (i := 674) rfl
theorem kw_675 : (Cond.instanceMethod yX7_write) ∈ wsL_law := List.mem_of_getElem? (i := 675) rfl
theorem kw_676 : (Cond.selects RX7 yX7_write yX7_write) ∈ wsL_law := List.mem_of_getElem? (i := 676) rfl
theorem kw_677 : (Cond.code yX7_write cX7_write 5 none) ∈ wsL_law := List.mem_of_getElem? (i := 677) rfl
theorem kw_678 : (Cond.fieldLink RX7 52 "DrumCoder$Course" "ending" "I") ∈ wsL_law := List.mem_of_getElem? (i := 678) rfl
theorem kw_679 : (Cond.fieldLink RX7 55 "DrumCoder$Report" "ending" "I") ∈ wsL_law := List.mem_of_getElem? (i := 679) rfl
theorem kw_680 : (Cond.fieldLink RX7 56 "DrumCoder$Course" "sum" "I") ∈ wsL_law := List.mem_of_getElem? (i := 680) rfl
theorem kw_681 : (Cond.fieldLink RX7 59 "DrumCoder$Report" "sum" "I") ∈ wsL_law := List.mem_of_getElem? (i := 681) rfl
theorem kw_682 : (Cond.fieldLink RX7 60 "DrumCoder$Course" "at" "I") ∈ wsL_law := List.mem_of_getElem? (i := 682) rfl
theorem kw_683 : (Cond.fieldLink RX7 63 "DrumCoder$Report" "at" "I") ∈ wsL_law := List.mem_of_getElem? (i := 683) rfl
theorem kw_684 : (Cond.fieldLink RX7 64 "DrumCoder$Course" "printedCount" "I") ∈ wsL_law := List.mem_of_getElem? (i := 684) rfl
theorem kw_685 : (Cond.fieldLink RX7 67 "DrumCoder$Report" "printedCount" "I") ∈ wsL_law := List.mem_of_getElem? (i := 685) rfl
theorem kw_686 : (Cond.fieldLink RX7 68 "DrumCoder$Course" "printed" "[I") ∈ wsL_law := List.mem_of_getElem? (i := 686) rfl
theorem kw_687 : (Cond.methodLink RX7 69 arraycopyName) ∈ wsL_law := List.mem_of_getElem? (i := 687) rfl
theorem kw_688 : (Cond.fieldLink RX7 75 "DrumCoder$Course" "values" "[I") ∈ wsL_law := List.mem_of_getElem? (i := 688) rfl
theorem kw_689 : (Cond.fieldLink RX7 76 "DrumCoder$Program" "values" "[I") ∈ wsL_law := List.mem_of_getElem? (i := 689) rfl
theorem kw_690 : (Cond.methodLink RX7 79 yJ7_fill_53178) ∈ wsL_law := List.mem_of_getElem? (i := 690) rfl
theorem kw_691 : (Cond.methodLink RX7 85 yX7_countSteps) ∈ wsL_law := List.mem_of_getElem? (i := 691) rfl
theorem kw_692 : (Cond.instanceMethod yX7_countSteps) ∈ wsL_law := List.mem_of_getElem? (i := 692) rfl
theorem kw_693 : (Cond.selects RX7 yX7_countSteps yX7_countSteps) ∈ wsL_law := List.mem_of_getElem? (i := 693) rfl
theorem kw_694 : (Cond.code yX7_countSteps cX7_countSteps 7 none) ∈ wsL_law := List.mem_of_getElem? (i := 694) rfl
theorem kw_695 : (Cond.fieldLink RX7 92 "DrumCoder$Report" "time" "I") ∈ wsL_law := List.mem_of_getElem? (i := 695) rfl
theorem kw_696 : (Cond.fieldLink RX7 95 "DrumCoder$Report" "leastTime" "I") ∈ wsL_law := List.mem_of_getElem? (i := 696) rfl
theorem kw_697 : (Cond.fieldLink RX7 98 "DrumCoder$Course" "steps" "I") ∈ wsL_law := List.mem_of_getElem? (i := 697) rfl
theorem kw_698 : (Cond.fieldLink RX7 101 "DrumCoder$Course" "trace" "[I") ∈ wsL_law := List.mem_of_getElem? (i := 698) rfl
theorem kw_699 : (Cond.methodLink RX7 104 yX0_nameIn) ∈ wsL_law := List.mem_of_getElem? (i := 699) rfl
theorem kw_700 : (Cond.static yX0_nameIn) ∈ wsL_law := List.mem_of_getElem? (i := 700) rfl
theorem kw_701 : (Cond.code yX0_nameIn cX0_nameIn 1 (some .int)) ∈ wsL_law := List.mem_of_getElem? (i := 701) rfl
theorem kw_702 : (Cond.methodLink RX7 108 yX0_wordIn) ∈ wsL_law := List.mem_of_getElem? (i := 702) rfl
theorem kw_703 : (Cond.static yX0_wordIn) ∈ wsL_law := List.mem_of_getElem? (i := 703) rfl
theorem kw_704 : (Cond.code yX0_wordIn cX0_wordIn 1 (some .int)) ∈ wsL_law := List.mem_of_getElem? (i := 704) rfl
theorem kw_705 : (Cond.methodLink RX7 111 yX7_meet) ∈ wsL_law := List.mem_of_getElem? (i := 705) rfl
theorem kw_706 : (Cond.instanceMethod yX7_meet) ∈ wsL_law := List.mem_of_getElem? (i := 706) rfl
theorem kw_707 : (Cond.selects RX7 yX7_meet yX7_meet) ∈ wsL_law := List.mem_of_getElem? (i := 707) rfl
theorem kw_708 : (Cond.code yX7_meet cX7_meet 5 none) ∈ wsL_law := List.mem_of_getElem? (i := 708) rfl
theorem kw_709 : (Cond.methodLink RX7 118 yX3_waitFor) ∈ wsL_law := List.mem_of_getElem? (i := 709) rfl
theorem kw_710 : (Cond.instanceMethod yX3_waitFor) ∈ wsL_law := List.mem_of_getElem? (i := 710) rfl
theorem kw_711 : (Cond.selects RX3 yX3_waitFor yX3_waitFor) ∈ wsL_law := List.mem_of_getElem? (i := 711) rfl
theorem kw_712 : (Cond.code yX3_waitFor cX3_waitFor 4 (some .int)) ∈ wsL_law := List.mem_of_getElem? (i := 712) rfl
theorem kw_713 : (Cond.methodLink RX3 67 yJ9_floorMod_7cf53) ∈ wsL_law := List.mem_of_getElem? (i := 713) rfl
theorem kw_714 : (Cond.static yJ9_floorMod_7cf53) ∈ wsL_law := List.mem_of_getElem? (i := 714) rfl
theorem kw_715 : (Cond.initialized RJ9) ∈ wsL_law := List.mem_of_getElem? (i := 715) rfl
theorem kw_716 : (Cond.code yJ9_floorMod_7cf53 cJ9_floorMod_7cf53 3 (some .int)) ∈ wsL_law := List.mem_of_getElem? (i := 716) rfl
theorem kw_717 : (Cond.methodLink RX7 115 yX0_extraIn) ∈ wsL_law := List.mem_of_getElem? (i := 717) rfl
theorem kw_718 : (Cond.static yX0_extraIn) ∈ wsL_law := List.mem_of_getElem? (i := 718) rfl
theorem kw_719 : (Cond.code yX0_extraIn cX0_extraIn 1 (some .int)) ∈ wsL_law := List.mem_of_getElem? (i := 719) rfl
theorem kw_720 : (Cond.methodLink RX7 89 yX7_shareSpots) ∈ wsL_law := List.mem_of_getElem? (i := 720) rfl
theorem kw_721 : (Cond.instanceMethod yX7_shareSpots) ∈ wsL_law := List.mem_of_getElem? (i := 721) rfl
theorem kw_722 : (Cond.selects RX7 yX7_shareSpots yX7_shareSpots) ∈ wsL_law := List.mem_of_getElem? (i := 722) rfl
theorem kw_723 : (Cond.code yX7_shareSpots cX7_shareSpots 3 none) ∈ wsL_law := List.mem_of_getElem? (i := 723) rfl
theorem kw_724 : (Cond.methodLink RX7 131 Lib.Math.max.name) ∈ wsL_law := List.mem_of_getElem? (i := 724) rfl
theorem kw_725 : (Cond.static Lib.Math.max.name) ∈ wsL_law := List.mem_of_getElem? (i := 725) rfl
theorem kw_726 : (Cond.code Lib.Math.max.name Lib.Math.max.code 2 (some .int)) ∈ wsL_law := List.mem_of_getElem? (i := 726) rfl
theorem kw_727 : (Cond.methodLink RX7 124 yX7_nextToShare) ∈ wsL_law := List.mem_of_getElem? (i := 727) rfl
theorem kw_728 : (Cond.instanceMethod yX7_nextToShare) ∈ wsL_law := List.mem_of_getElem? (i := 728) rfl
theorem kw_729 : (Cond.selects RX7 yX7_nextToShare yX7_nextToShare) ∈ wsL_law := List.mem_of_getElem? (i := 729) rfl
theorem kw_730 : (Cond.code yX7_nextToShare cX7_nextToShare 4 (some .int)) ∈ wsL_law := List.mem_of_getElem? (i := 730) rfl
theorem kw_731 : (Cond.methodLink RX7 128 yX7_leastFreeShare) ∈ wsL_law := List.mem_of_getElem? (i := 731) rfl
theorem kw_732 : (Cond.instanceMethod yX7_leastFreeShare) ∈ wsL_law := List.mem_of_getElem? (i := 732) rfl
theorem kw_733 : (Cond.selects RX7 yX7_leastFreeShare yX7_leastFreeShare) ∈ wsL_law := List.mem_of_getElem? (i := 733) rfl
theorem kw_734 : (Cond.code yX7_leastFreeShare cX7_leastFreeShare 4 (some .int)) ∈ wsL_law := List.mem_of_getElem? (i := 734) rfl
theorem kw_735 : (Cond.methodLink RL 56 yX11_run) ∈ wsL_law := List.mem_of_getElem? (i := 735) rfl
theorem kw_736 : (Cond.instanceMethod yX11_run) ∈ wsL_law := List.mem_of_getElem? (i := 736) rfl
theorem kw_737 : (Cond.selects RX11 yX11_run yX11_run) ∈ wsL_law := List.mem_of_getElem? (i := 737) rfl
theorem kw_738 : (Cond.code yX11_run cX11_run 3 (some .int)) ∈ wsL_law := List.mem_of_getElem? (i := 738) rfl
theorem kw_739 : (Cond.fieldLink RX11 263 "DrumCoderModel" "rEnd" "I") ∈ wsL_law := List.mem_of_getElem? (i := 739) rfl
theorem kw_740 : (Cond.fieldLink RX11 245 "DrumCoderModel" "rA" "I") ∈ wsL_law := List.mem_of_getElem? (i := 740) rfl
theorem kw_741 : (Cond.fieldLink RX11 248 "DrumCoderModel" "rName" "I") ∈ wsL_law := List.mem_of_getElem? (i := 741) rfl
theorem kw_742 : (Cond.fieldLink RX11 251 "DrumCoderModel" "rPrinted" "I") ∈ wsL_law := List.mem_of_getElem? (i := 742) rfl
theorem kw_743 : (Cond.fieldLink RX11 254 "DrumCoderModel" "rTime" "I") ∈ wsL_law := List.mem_of_getElem? (i := 743) rfl
theorem kw_744 : (Cond.fieldLink RX11 257 "DrumCoderModel" "rLeast" "I") ∈ wsL_law := List.mem_of_getElem? (i := 744) rfl
theorem kw_745 : (Cond.fieldLink RX11 283 "DrumCoderModel" "ranNames" "I") ∈ wsL_law := List.mem_of_getElem? (i := 745) rfl
theorem kw_746 : (Cond.fieldLink RX11 260 "DrumCoderModel" "rSteps" "I") ∈ wsL_law := List.mem_of_getElem? (i := 746) rfl
theorem kw_747 : (Cond.methodLink RX11 280 yX11_goes) ∈ wsL_law := List.mem_of_getElem? (i := 747) rfl
theorem kw_748 : (Cond.instanceMethod yX11_goes) ∈ wsL_law := List.mem_of_getElem? (i := 748) rfl
theorem kw_749 : (Cond.selects RX11 yX11_goes yX11_goes) ∈ wsL_law := List.mem_of_getElem? (i := 749) rfl
theorem kw_750 : (Cond.code yX11_goes cX11_goes 8 none) ∈ wsL_law := List.mem_of_getElem? (i := 750) rfl
theorem kw_751 : (Cond.methodLink RX11 266 yX11_waitFor) ∈ wsL_law := List.mem_of_getElem? (i := 751) rfl
theorem kw_752 : (Cond.instanceMethod yX11_waitFor) ∈ wsL_law := List.mem_of_getElem? (i := 752) rfl
theorem kw_753 : (Cond.selects RX11 yX11_waitFor yX11_waitFor) ∈ wsL_law := List.mem_of_getElem? (i := 753) rfl
theorem kw_754 : (Cond.code yX11_waitFor cX11_waitFor 5 (some .int)) ∈ wsL_law := List.mem_of_getElem? (i := 754) rfl
theorem kw_755 : (Cond.methodLink RX11 270 yX11_live) ∈ wsL_law := List.mem_of_getElem? (i := 755) rfl
theorem kw_756 : (Cond.instanceMethod yX11_live) ∈ wsL_law := List.mem_of_getElem? (i := 756) rfl
theorem kw_757 : (Cond.selects RX11 yX11_live yX11_live) ∈ wsL_law := List.mem_of_getElem? (i := 757) rfl
theorem kw_758 : (Cond.code yX11_live cX11_live 3 none) ∈ wsL_law := List.mem_of_getElem? (i := 758) rfl
theorem kw_759 : (Cond.methodLink RX11 274 yX11_isWrong) ∈ wsL_law := List.mem_of_getElem? (i := 759) rfl
theorem kw_760 : (Cond.instanceMethod yX11_isWrong) ∈ wsL_law := List.mem_of_getElem? (i := 760) rfl
theorem kw_761 : (Cond.selects RX11 yX11_isWrong yX11_isWrong) ∈ wsL_law := List.mem_of_getElem? (i := 761) rfl
theorem kw_762 : (Cond.code yX11_isWrong cX11_isWrong 2 (some .boolean)) ∈ wsL_law := List.mem_of_getElem? (i := 762) rfl
theorem kw_763 : (Cond.methodLink RX11 277 yX11_reads) ∈ wsL_law := List.mem_of_getElem? (i := 763) rfl
theorem kw_764 : (Cond.static yX11_reads) ∈ wsL_law := List.mem_of_getElem? (i := 764) rfl
theorem kw_765 : (Cond.code yX11_reads cX11_reads 1 (some .boolean)) ∈ wsL_law := List.mem_of_getElem? (i := 765) rfl
theorem kw_766 : (Cond.methodLink RX11 286 yX11_share) ∈ wsL_law := List.mem_of_getElem? (i := 766) rfl
theorem kw_767 : (Cond.instanceMethod yX11_share) ∈ wsL_law := List.mem_of_getElem? (i := 767) rfl
theorem kw_768 : (Cond.selects RX11 yX11_share yX11_share) ∈ wsL_law := List.mem_of_getElem? (i := 768) rfl
theorem kw_769 : (Cond.code yX11_share cX11_share 6 none) ∈ wsL_law := List.mem_of_getElem? (i := 769) rfl
theorem kw_770 : (Cond.methodLink RX11 289 yX11_meet) ∈ wsL_law := List.mem_of_getElem? (i := 770) rfl
theorem kw_771 : (Cond.instanceMethod yX11_meet) ∈ wsL_law := List.mem_of_getElem? (i := 771) rfl
theorem kw_772 : (Cond.selects RX11 yX11_meet yX11_meet) ∈ wsL_law := List.mem_of_getElem? (i := 772) rfl
theorem kw_773 : (Cond.code yX11_meet cX11_meet 3 (some .boolean)) ∈ wsL_law := List.mem_of_getElem? (i := 773) rfl
theorem kw_774 : (Cond.methodLink RL 57 yX10_ran) ∈ wsL_law := List.mem_of_getElem? (i := 774) rfl
theorem kw_775 : (Cond.instanceMethod yX10_ran) ∈ wsL_law := List.mem_of_getElem? (i := 775) rfl
theorem kw_776 : (Cond.selects RX10 yX10_ran yX10_ran) ∈ wsL_law := List.mem_of_getElem? (i := 776) rfl
theorem kw_777 : (Cond.code yX10_ran cX10_ran 2 (some .int)) ∈ wsL_law := List.mem_of_getElem? (i := 777) rfl
theorem kw_778 : (Cond.methodLink RX10 162 yX7_tellRun) ∈ wsL_law := List.mem_of_getElem? (i := 778) rfl
theorem kw_779 : (Cond.instanceMethod yX7_tellRun) ∈ wsL_law := List.mem_of_getElem? (i := 779) rfl
theorem kw_780 : (Cond.selects RX7 yX7_tellRun yX7_tellRun) ∈ wsL_law := List.mem_of_getElem? (i := 780) rfl
theorem kw_781 : (Cond.code yX7_tellRun cX7_tellRun 2 (some .int)) ∈ wsL_law := List.mem_of_getElem? (i := 781) rfl
theorem kw_782 : (Cond.constant RX7 136 (-2147483647)) ∈ wsL_law := List.mem_of_getElem? (i := 782) rfl
theorem kw_783 : (Cond.methodLink RX7 137 yX7_tellPrinted) ∈ wsL_law := List.mem_of_getElem? (i := 783) rfl
theorem kw_784 : (Cond.instanceMethod yX7_tellPrinted) ∈ wsL_law := List.mem_of_getElem? (i := 784) rfl
theorem kw_785 : (Cond.selects RX7 yX7_tellPrinted yX7_tellPrinted) ∈ wsL_law := List.mem_of_getElem? (i := 785) rfl
theorem kw_786 : (Cond.code yX7_tellPrinted cX7_tellPrinted 2 (some .int)) ∈ wsL_law := List.mem_of_getElem? (i := 786) rfl
theorem kw_787 : (Cond.methodLink RL 60 yX11_ran) ∈ wsL_law := List.mem_of_getElem? (i := 787) rfl
theorem kw_788 : (Cond.instanceMethod yX11_ran) ∈ wsL_law := List.mem_of_getElem? (i := 788) rfl
theorem kw_789 : (Cond.selects RX11 yX11_ran yX11_ran) ∈ wsL_law := List.mem_of_getElem? (i := 789) rfl
theorem kw_790 : (Cond.code yX11_ran cX11_ran 2 (some .int)) ∈ wsL_law := List.mem_of_getElem? (i := 790) rfl
theorem kw_791 : (Cond.methodLink RL 61 yX10_of) ∈ wsL_law := List.mem_of_getElem? (i := 791) rfl
theorem kw_792 : (Cond.instanceMethod yX10_of) ∈ wsL_law := List.mem_of_getElem? (i := 792) rfl
theorem kw_793 : (Cond.selects RX10 yX10_of yX10_of) ∈ wsL_law := List.mem_of_getElem? (i := 793) rfl
theorem kw_794 : (Cond.code yX10_of cX10_of 3 (some .int)) ∈ wsL_law := List.mem_of_getElem? (i := 794) rfl
theorem kw_795 : (Cond.methodLink RX10 166 yX7_tellName) ∈ wsL_law := List.mem_of_getElem? (i := 795) rfl
theorem kw_796 : (Cond.instanceMethod yX7_tellName) ∈ wsL_law := List.mem_of_getElem? (i := 796) rfl
theorem kw_797 : (Cond.selects RX7 yX7_tellName yX7_tellName) ∈ wsL_law := List.mem_of_getElem? (i := 797) rfl
theorem kw_798 : (Cond.code yX7_tellName cX7_tellName 3 (some .int)) ∈ wsL_law := List.mem_of_getElem? (i := 798) rfl
theorem kw_799 : (Cond.methodLink RL 64 yX11_of) ∈ wsL_law := List.mem_of_getElem? (i := 799) rfl
theorem kw_800 : (Cond.instanceMethod yX11_of) ∈ wsL_law := List.mem_of_getElem? (i := 800) rfl
theorem kw_801 : (Cond.selects RX11 yX11_of yX11_of) ∈ wsL_law := List.mem_of_getElem? (i := 801) rfl
theorem kw_802 : (Cond.code yX11_of cX11_of 3 (some .int)) ∈ wsL_law := List.mem_of_getElem? (i := 802) rfl
theorem kw_803 : (Cond.methodLink RL 65 yX10_needed) ∈ wsL_law := List.mem_of_getElem? (i := 803) rfl
theorem kw_804 : (Cond.instanceMethod yX10_needed) ∈ wsL_law := List.mem_of_getElem? (i := 804) rfl
theorem kw_805 : (Cond.selects RX10 yX10_needed yX10_needed) ∈ wsL_law := List.mem_of_getElem? (i := 805) rfl
theorem kw_806 : (Cond.code yX10_needed cX10_needed 1 (some .int)) ∈ wsL_law := List.mem_of_getElem? (i := 806) rfl
theorem kw_807 : (Cond.fieldLink RX10 170 "DrumCoder$Report" "spotsNeeded" "I") ∈ wsL_law := List.mem_of_getElem? (i := 807) rfl
theorem kw_808 : (Cond.methodLink RL 68 yX11_needed) ∈ wsL_law := List.mem_of_getElem? (i := 808) rfl
theorem kw_809 : (Cond.instanceMethod yX11_needed) ∈ wsL_law := List.mem_of_getElem? (i := 809) rfl
theorem kw_810 : (Cond.selects RX11 yX11_needed yX11_needed) ∈ wsL_law := List.mem_of_getElem? (i := 810) rfl
theorem kw_811 : (Cond.code yX11_needed cX11_needed 5 (some .int)) ∈ wsL_law := List.mem_of_getElem? (i := 811) rfl
theorem kw_812 : (Cond.methodLink RL 69 yX10_spot) ∈ wsL_law := List.mem_of_getElem? (i := 812) rfl
theorem kw_813 : (Cond.instanceMethod yX10_spot) ∈ wsL_law := List.mem_of_getElem? (i := 813) rfl
theorem kw_814 : (Cond.selects RX10 yX10_spot yX10_spot) ∈ wsL_law := List.mem_of_getElem? (i := 814) rfl
theorem kw_815 : (Cond.code yX10_spot cX10_spot 2 (some .int)) ∈ wsL_law := List.mem_of_getElem? (i := 815) rfl
theorem kw_816 : (Cond.fieldLink RX10 173 "DrumCoder$Laying" "spots" "[I") ∈ wsL_law := List.mem_of_getElem? (i := 816) rfl
theorem kw_817 : (Cond.methodLink RL 72 yX11_spot) ∈ wsL_law := List.mem_of_getElem? (i := 817) rfl
theorem kw_818 : (Cond.instanceMethod yX11_spot) ∈ wsL_law := List.mem_of_getElem? (i := 818) rfl
theorem kw_819 : (Cond.selects RX11 yX11_spot yX11_spot) ∈ wsL_law := List.mem_of_getElem? (i := 819) rfl
theorem kw_820 : (Cond.code yX11_spot cX11_spot 2 (some .int)) ∈ wsL_law := List.mem_of_getElem? (i := 820) rfl
theorem kw_821 : (Cond.methodLink RL 73 yX10_lay) ∈ wsL_law := List.mem_of_getElem? (i := 821) rfl
theorem kw_822 : (Cond.instanceMethod yX10_lay) ∈ wsL_law := List.mem_of_getElem? (i := 822) rfl
theorem kw_823 : (Cond.selects RX10 yX10_lay yX10_lay) ∈ wsL_law := List.mem_of_getElem? (i := 823) rfl
theorem kw_824 : (Cond.code yX10_lay cX10_lay 5 (some .int)) ∈ wsL_law := List.mem_of_getElem? (i := 824) rfl
theorem kw_825 : (Cond.fieldLink RX10 179 "DrumCoder$Laying" "names" "[I") ∈ wsL_law := List.mem_of_getElem? (i := 825) rfl
theorem kw_826 : (Cond.fieldLink RX10 182 "DrumCoder$Laying" "bad" "[Z") ∈ wsL_law := List.mem_of_getElem? (i := 826) rfl
theorem kw_827 : (Cond.methodLink RX10 176 yX1_hasSpot) ∈ wsL_law := List.mem_of_getElem? (i := 827) rfl
theorem kw_828 : (Cond.methodLink RX10 186 yX3_move) ∈ wsL_law := List.mem_of_getElem? (i := 828) rfl
theorem kw_829 : (Cond.instanceMethod yX3_move) ∈ wsL_law := List.mem_of_getElem? (i := 829) rfl
theorem kw_830 : (Cond.selects RX3 yX3_move yX3_move) ∈ wsL_law := List.mem_of_getElem? (i := 830) rfl
theorem kw_831 : (Cond.code yX3_move cX3_move 3 none) ∈ wsL_law := List.mem_of_getElem? (i := 831) rfl
theorem kw_832 : (Cond.methodLink RL 76 yX11_lay) ∈ wsL_law := List.mem_of_getElem? (i := 832) rfl
theorem kw_833 : (Cond.instanceMethod yX11_lay) ∈ wsL_law := List.mem_of_getElem? (i := 833) rfl
theorem kw_834 : (Cond.selects RX11 yX11_lay yX11_lay) ∈ wsL_law := List.mem_of_getElem? (i := 834) rfl
theorem kw_835 : (Cond.code yX11_lay cX11_lay 4 (some .int)) ∈ wsL_law := List.mem_of_getElem? (i := 835) rfl
theorem kw_836 : (Cond.methodLink RX11 293 yX11_liesOn) ∈ wsL_law := List.mem_of_getElem? (i := 836) rfl
theorem kw_837 : (Cond.instanceMethod yX11_liesOn) ∈ wsL_law := List.mem_of_getElem? (i := 837) rfl
theorem kw_838 : (Cond.selects RX11 yX11_liesOn yX11_liesOn) ∈ wsL_law := List.mem_of_getElem? (i := 838) rfl
theorem kw_839 : (Cond.code yX11_liesOn cX11_liesOn 3 (some .int)) ∈ wsL_law := List.mem_of_getElem? (i := 839) rfl
theorem kw_840 : (Cond.methodLink RL 77 yX10_spoil) ∈ wsL_law := List.mem_of_getElem? (i := 840) rfl
theorem kw_841 : (Cond.instanceMethod yX10_spoil) ∈ wsL_law := List.mem_of_getElem? (i := 841) rfl
theorem kw_842 : (Cond.selects RX10 yX10_spoil yX10_spoil) ∈ wsL_law := List.mem_of_getElem? (i := 842) rfl
theorem kw_843 : (Cond.code yX10_spoil cX10_spoil 2 (some .int)) ∈ wsL_law := List.mem_of_getElem? (i := 843) rfl
theorem kw_844 : (Cond.methodLink RL 80 yX11_spoil) ∈ wsL_law := List.mem_of_getElem? (i := 844) rfl
theorem kw_845 : (Cond.instanceMethod yX11_spoil) ∈ wsL_law := List.mem_of_getElem? (i := 845) rfl
theorem kw_846 : (Cond.selects RX11 yX11_spoil yX11_spoil) ∈ wsL_law := List.mem_of_getElem? (i := 846) rfl
theorem kw_847 : (Cond.code yX11_spoil cX11_spoil 2 (some .int)) ∈ wsL_law := List.mem_of_getElem? (i := 847) rfl
theorem kw_848 : (Cond.methodLink RL 81 yX10_time) ∈ wsL_law := List.mem_of_getElem? (i := 848) rfl
theorem kw_849 : (Cond.instanceMethod yX10_time) ∈ wsL_law := List.mem_of_getElem? (i := 849) rfl
theorem kw_850 : (Cond.selects RX10 yX10_time yX10_time) ∈ wsL_law := List.mem_of_getElem? (i := 850) rfl
theorem kw_851 : (Cond.code yX10_time cX10_time 1 (some .int)) ∈ wsL_law := List.mem_of_getElem? (i := 851) rfl
theorem kw_852 : (Cond.methodLink RX10 190 yX3_timeOf) ∈ wsL_law := List.mem_of_getElem? (i := 852) rfl
theorem kw_853 : (Cond.instanceMethod yX3_timeOf) ∈ wsL_law := List.mem_of_getElem? (i := 853) rfl
theorem kw_854 : (Cond.selects RX3 yX3_timeOf yX3_timeOf) ∈ wsL_law := List.mem_of_getElem? (i := 854) rfl
theorem kw_855 : (Cond.code yX3_timeOf cX3_timeOf 6 (some .int)) ∈ wsL_law := List.mem_of_getElem? (i := 855) rfl
theorem kw_856 : (Cond.fieldLink RX3 73 "DrumCoder$Course" "steps" "I") ∈ wsL_law := List.mem_of_getElem? (i := 856) rfl
theorem kw_857 : (Cond.fieldLink RX3 78 "DrumCoder$Course" "trace" "[I") ∈ wsL_law := List.mem_of_getElem? (i := 857) rfl
theorem kw_858 : (Cond.methodLink RX3 81 yX0_nameIn) ∈ wsL_law := List.mem_of_getElem? (i := 858) rfl
theorem kw_859 : (Cond.methodLink RX3 84 yX3_waitFor) ∈ wsL_law := List.mem_of_getElem? (i := 859) rfl
theorem kw_860 : (Cond.methodLink RX3 87 yX0_wordIn) ∈ wsL_law := List.mem_of_getElem? (i := 860) rfl
theorem kw_861 : (Cond.methodLink RX3 90 yX0_extraIn) ∈ wsL_law := List.mem_of_getElem? (i := 861) rfl
theorem kw_862 : (Cond.methodLink RL 84 yX11_time) ∈ wsL_law := List.mem_of_getElem? (i := 862) rfl
theorem kw_863 : (Cond.instanceMethod yX11_time) ∈ wsL_law := List.mem_of_getElem? (i := 863) rfl
theorem kw_864 : (Cond.selects RX11 yX11_time yX11_time) ∈ wsL_law := List.mem_of_getElem? (i := 864) rfl
theorem kw_865 : (Cond.code yX11_time cX11_time 1 (some .int)) ∈ wsL_law := List.mem_of_getElem? (i := 865) rfl
theorem kw_866 : (Cond.methodLink RX11 296 yX11_timeNow) ∈ wsL_law := List.mem_of_getElem? (i := 866) rfl
theorem kw_867 : (Cond.instanceMethod yX11_timeNow) ∈ wsL_law := List.mem_of_getElem? (i := 867) rfl
theorem kw_868 : (Cond.selects RX11 yX11_timeNow yX11_timeNow) ∈ wsL_law := List.mem_of_getElem? (i := 868) rfl
theorem kw_869 : (Cond.code yX11_timeNow cX11_timeNow 1 (some .int)) ∈ wsL_law := List.mem_of_getElem? (i := 869) rfl
theorem kw_870 : (Cond.methodLink RL 85 yX10_place) ∈ wsL_law := List.mem_of_getElem? (i := 870) rfl
theorem kw_871 : (Cond.instanceMethod yX10_place) ∈ wsL_law := List.mem_of_getElem? (i := 871) rfl
theorem kw_872 : (Cond.selects RX10 yX10_place yX10_place) ∈ wsL_law := List.mem_of_getElem? (i := 872) rfl
theorem kw_873 : (Cond.code yX10_place cX10_place 2 (some .int)) ∈ wsL_law := List.mem_of_getElem? (i := 873) rfl
theorem kw_874 : (Cond.methodLink RX10 194 yX8_findPlace) ∈ wsL_law := List.mem_of_getElem? (i := 874) rfl
theorem kw_875 : (Cond.instanceMethod yX8_findPlace) ∈ wsL_law := List.mem_of_getElem? (i := 875) rfl
theorem kw_876 : (Cond.selects RX8 yX8_findPlace yX8_findPlace) ∈ wsL_law := List.mem_of_getElem? (i := 876) rfl
theorem kw_877 : (Cond.code yX8_findPlace cX8_findPlace 9 (some .int)) ∈ wsL_law := List.mem_of_getElem? (i := 877) rfl
theorem kw_878 : (Cond.fieldLink RX8 33 "DrumCoder$Laying" "spots" "[I") ∈ wsL_law := List.mem_of_getElem? (i := 878) rfl
theorem kw_879 : (Cond.fieldLink RX8 44 "DrumCoder$Laying" "names" "[I") ∈ wsL_law := List.mem_of_getElem? (i := 879) rfl
theorem kw_880 : (Cond.fieldLink RX8 47 "DrumCoder$Laying" "bad" "[Z") ∈ wsL_law := List.mem_of_getElem? (i := 880) rfl
theorem kw_881 : (Cond.methodLink RX8 38 yX1_spotsEnd) ∈ wsL_law := List.mem_of_getElem? (i := 881) rfl
theorem kw_882 : (Cond.methodLink RX8 51 yX1_hasSpot) ∈ wsL_law := List.mem_of_getElem? (i := 882) rfl
theorem kw_883 : (Cond.methodLink RX8 55 yX3_move) ∈ wsL_law := List.mem_of_getElem? (i := 883) rfl
theorem kw_884 : (Cond.methodLink RX8 59 yX3_timeOf) ∈ wsL_law := List.mem_of_getElem? (i := 884) rfl
theorem kw_885 : (Cond.methodLink RL 88 yX11_place) ∈ wsL_law := List.mem_of_getElem? (i := 885) rfl
theorem kw_886 : (Cond.instanceMethod yX11_place) ∈ wsL_law := List.mem_of_getElem? (i := 886) rfl
theorem kw_887 : (Cond.selects RX11 yX11_place yX11_place) ∈ wsL_law := List.mem_of_getElem? (i := 887) rfl
theorem kw_888 : (Cond.code yX11_place cX11_place 7 (some .int)) ∈ wsL_law := List.mem_of_getElem? (i := 888) rfl
theorem kw_889 : (Cond.methodLink RL 89 yX10_mend) ∈ wsL_law := List.mem_of_getElem? (i := 889) rfl
theorem kw_890 : (Cond.instanceMethod yX10_mend) ∈ wsL_law := List.mem_of_getElem? (i := 890) rfl
theorem kw_891 : (Cond.selects RX10 yX10_mend yX10_mend) ∈ wsL_law := List.mem_of_getElem? (i := 891) rfl
theorem kw_892 : (Cond.code yX10_mend cX10_mend 1 (some .int)) ∈ wsL_law := List.mem_of_getElem? (i := 892) rfl
theorem kw_893 : (Cond.methodLink RX10 197 yX8_leaveBadSpots) ∈ wsL_law := List.mem_of_getElem? (i := 893) rfl
theorem kw_894 : (Cond.instanceMethod yX8_leaveBadSpots) ∈ wsL_law := List.mem_of_getElem? (i := 894) rfl
theorem kw_895 : (Cond.selects RX8 yX8_leaveBadSpots yX8_leaveBadSpots) ∈ wsL_law := List.mem_of_getElem? (i := 895) rfl
theorem kw_896 : (Cond.code yX8_leaveBadSpots cX8_leaveBadSpots 4 (some .int)) ∈ wsL_law := List.mem_of_getElem? (i := 896) rfl
theorem kw_897 : (Cond.methodLink RX8 63 yX3_countNames) ∈ wsL_law := List.mem_of_getElem? (i := 897) rfl
theorem kw_898 : (Cond.instanceMethod yX3_countNames) ∈ wsL_law := List.mem_of_getElem? (i := 898) rfl
theorem kw_899 : (Cond.selects RX3 yX3_countNames yX3_countNames) ∈ wsL_law := List.mem_of_getElem? (i := 899) rfl
theorem kw_900 : (Cond.code yX3_countNames cX3_countNames 1 (some .int)) ∈ wsL_law := List.mem_of_getElem? (i := 900) rfl
theorem kw_901 : (Cond.methodLink RX8 66 yX3_liesOnBad) ∈ wsL_law := List.mem_of_getElem? (i := 901) rfl
theorem kw_902 : (Cond.instanceMethod yX3_liesOnBad) ∈ wsL_law := List.mem_of_getElem? (i := 902) rfl
theorem kw_903 : (Cond.selects RX3 yX3_liesOnBad yX3_liesOnBad) ∈ wsL_law := List.mem_of_getElem? (i := 903) rfl
theorem kw_904 : (Cond.code yX3_liesOnBad cX3_liesOnBad 3 (some .boolean)) ∈ wsL_law := List.mem_of_getElem? (i := 904) rfl
theorem kw_905 : (Cond.methodLink RX8 69 yX8_findPlace) ∈ wsL_law := List.mem_of_getElem? (i := 905) rfl
theorem kw_906 : (Cond.methodLink RL 92 yX11_mend) ∈ wsL_law := List.mem_of_getElem? (i := 906) rfl
theorem kw_907 : (Cond.instanceMethod yX11_mend) ∈ wsL_law := List.mem_of_getElem? (i := 907) rfl
theorem kw_908 : (Cond.selects RX11 yX11_mend yX11_mend) ∈ wsL_law := List.mem_of_getElem? (i := 908) rfl
theorem kw_909 : (Cond.code yX11_mend cX11_mend 4 (some .int)) ∈ wsL_law := List.mem_of_getElem? (i := 909) rfl
theorem kw_910 : (Cond.methodLink RX11 299 yX11_place) ∈ wsL_law := List.mem_of_getElem? (i := 910) rfl
theorem kw_911 : (Cond.methodLink RL 93 yX10_exchange) ∈ wsL_law := List.mem_of_getElem? (i := 911) rfl
theorem kw_912 : (Cond.instanceMethod yX10_exchange) ∈ wsL_law := List.mem_of_getElem? (i := 912) rfl
theorem kw_913 : (Cond.selects RX10 yX10_exchange yX10_exchange) ∈ wsL_law := List.mem_of_getElem? (i := 913) rfl
theorem kw_914 : (Cond.code yX10_exchange cX10_exchange 1 (some .int)) ∈ wsL_law := List.mem_of_getElem? (i := 914) rfl
theorem kw_915 : (Cond.methodLink RX10 200 yX8_exchangePairs) ∈ wsL_law := List.mem_of_getElem? (i := 915) rfl
theorem kw_916 : (Cond.instanceMethod yX8_exchangePairs) ∈ wsL_law := List.mem_of_getElem? (i := 916) rfl
theorem kw_917 : (Cond.selects RX8 yX8_exchangePairs yX8_exchangePairs) ∈ wsL_law := List.mem_of_getElem? (i := 917) rfl
theorem kw_918 : (Cond.code yX8_exchangePairs cX8_exchangePairs 4 (some .int)) ∈ wsL_law := List.mem_of_getElem? (i := 918) rfl
theorem kw_919 : (Cond.methodLink RX8 73 yX8_exchangeOnce) ∈ wsL_law := List.mem_of_getElem? (i := 919) rfl
theorem kw_920 : (Cond.instanceMethod yX8_exchangeOnce) ∈ wsL_law := List.mem_of_getElem? (i := 920) rfl
theorem kw_921 : (Cond.selects RX8 yX8_exchangeOnce yX8_exchangeOnce) ∈ wsL_law := List.mem_of_getElem? (i := 921) rfl
theorem kw_922 : (Cond.code yX8_exchangeOnce cX8_exchangeOnce 6 (some .int)) ∈ wsL_law := List.mem_of_getElem? (i := 922) rfl
theorem kw_923 : (Cond.methodLink RX8 76 yX8_exchangeIfLess) ∈ wsL_law := List.mem_of_getElem? (i := 923) rfl
theorem kw_924 : (Cond.instanceMethod yX8_exchangeIfLess) ∈ wsL_law := List.mem_of_getElem? (i := 924) rfl
theorem kw_925 : (Cond.selects RX8 yX8_exchangeIfLess yX8_exchangeIfLess) ∈ wsL_law := List.mem_of_getElem? (i := 925) rfl
theorem kw_926 : (Cond.code yX8_exchangeIfLess cX8_exchangeIfLess 5 (some .int)) ∈ wsL_law := List.mem_of_getElem? (i := 926) rfl
theorem kw_927 : (Cond.methodLink RX8 80 yX3_alikeInTime) ∈ wsL_law := List.mem_of_getElem? (i := 927) rfl
theorem kw_928 : (Cond.instanceMethod yX3_alikeInTime) ∈ wsL_law := List.mem_of_getElem? (i := 928) rfl
theorem kw_929 : (Cond.selects RX3 yX3_alikeInTime yX3_alikeInTime) ∈ wsL_law := List.mem_of_getElem? (i := 929) rfl
theorem kw_930 : (Cond.code yX3_alikeInTime cX3_alikeInTime 3 (some .boolean)) ∈ wsL_law := List.mem_of_getElem? (i := 930) rfl
theorem kw_931 : (Cond.methodLink RX8 84 yX3_swap) ∈ wsL_law := List.mem_of_getElem? (i := 931) rfl
theorem kw_932 : (Cond.instanceMethod yX3_swap) ∈ wsL_law := List.mem_of_getElem? (i := 932) rfl
theorem kw_933 : (Cond.selects RX3 yX3_swap yX3_swap) ∈ wsL_law := List.mem_of_getElem? (i := 933) rfl
theorem kw_934 : (Cond.code yX3_swap cX3_swap 4 none) ∈ wsL_law := List.mem_of_getElem? (i := 934) rfl
theorem kw_935 : (Cond.methodLink RL 96 yX11_exchange) ∈ wsL_law := List.mem_of_getElem? (i := 935) rfl
theorem kw_936 : (Cond.instanceMethod yX11_exchange) ∈ wsL_law := List.mem_of_getElem? (i := 936) rfl
theorem kw_937 : (Cond.selects RX11 yX11_exchange yX11_exchange) ∈ wsL_law := List.mem_of_getElem? (i := 937) rfl
theorem kw_938 : (Cond.code yX11_exchange cX11_exchange 7 (some .int)) ∈ wsL_law := List.mem_of_getElem? (i := 938) rfl
theorem kw_939 : (Cond.methodLink RX11 302 yX11_swap) ∈ wsL_law := List.mem_of_getElem? (i := 939) rfl
theorem kw_940 : (Cond.instanceMethod yX11_swap) ∈ wsL_law := List.mem_of_getElem? (i := 940) rfl
theorem kw_941 : (Cond.selects RX11 yX11_swap yX11_swap) ∈ wsL_law := List.mem_of_getElem? (i := 941) rfl
theorem kw_942 : (Cond.code yX11_swap cX11_swap 4 none) ∈ wsL_law := List.mem_of_getElem? (i := 942) rfl
theorem kw_943 : (Cond.methodLink RL 99 yX10_best) ∈ wsL_law := List.mem_of_getElem? (i := 943) rfl
theorem kw_944 : (Cond.instanceMethod yX10_best) ∈ wsL_law := List.mem_of_getElem? (i := 944) rfl
theorem kw_945 : (Cond.selects RX10 yX10_best yX10_best) ∈ wsL_law := List.mem_of_getElem? (i := 945) rfl
theorem kw_946 : (Cond.code yX10_best cX10_best 4 (some .int)) ∈ wsL_law := List.mem_of_getElem? (i := 946) rfl
theorem kw_947 : (Cond.methodLink RX10 203 yJ13_bitCount_95d88) ∈ wsL_law := List.mem_of_getElem? (i := 947) rfl
theorem kw_948 : (Cond.static yJ13_bitCount_95d88) ∈ wsL_law := List.mem_of_getElem? (i := 948) rfl
theorem kw_949 : (Cond.initialized RJ13) ∈ wsL_law := List.mem_of_getElem? (i := 949) rfl
theorem kw_950 : (Cond.code yJ13_bitCount_95d88 cJ13_bitCount_95d88 2 (some .int)) ∈ wsL_law := List.mem_of_getElem? (i := 950) rfl
theorem kw_951 : (Cond.constantLong RJ13 314 (6148914691236517205)) ∈ wsL_law := List.mem_of_getElem? (i := 951) rfl
theorem kw_952 : (Cond.constantLong RJ13 316 (3689348814741910323)) ∈ wsL_law := List.mem_of_getElem? (i := 952) rfl
theorem kw_953 : (Cond.constantLong RJ13 318 (1085102592571150095)) ∈ wsL_law := List.mem_of_getElem? (i := 953) rfl
theorem kw_954 : (Cond.methodLink RX10 209 yX8_choose) ∈ wsL_law := List.mem_of_getElem? (i := 954) rfl
theorem kw_955 : (Cond.instanceMethod yX8_choose) ∈ wsL_law := List.mem_of_getElem? (i := 955) rfl
theorem kw_956 : (Cond.selects RX8 yX8_choose yX8_choose) ∈ wsL_law := List.mem_of_getElem? (i := 956) rfl
theorem kw_957 : (Cond.code yX8_choose cX8_choose 4 (some .boolean)) ∈ wsL_law := List.mem_of_getElem? (i := 957) rfl
theorem kw_958 : (Cond.fieldLink RX8 87 "DrumCoder$Search" "chosen" "I") ∈ wsL_law := List.mem_of_getElem? (i := 958) rfl
theorem kw_959 : (Cond.methodLink RX8 91 yX8_sortIn) ∈ wsL_law := List.mem_of_getElem? (i := 959) rfl
theorem kw_960 : (Cond.instanceMethod yX8_sortIn) ∈ wsL_law := List.mem_of_getElem? (i := 960) rfl
theorem kw_961 : (Cond.selects RX8 yX8_sortIn yX8_sortIn) ∈ wsL_law := List.mem_of_getElem? (i := 961) rfl
theorem kw_962 : (Cond.code yX8_sortIn cX8_sortIn 3 none) ∈ wsL_law := List.mem_of_getElem? (i := 962) rfl
theorem kw_963 : (Cond.methodLink RX10 213 yX8_layBestRow) ∈ wsL_law := List.mem_of_getElem? (i := 963) rfl
theorem kw_964 : (Cond.instanceMethod yX8_layBestRow) ∈ wsL_law := List.mem_of_getElem? (i := 964) rfl
theorem kw_965 : (Cond.selects RX8 yX8_layBestRow yX8_layBestRow) ∈ wsL_law := List.mem_of_getElem? (i := 965) rfl
theorem kw_966 : (Cond.code yX8_layBestRow cX8_layBestRow 5 (some .int)) ∈ wsL_law := List.mem_of_getElem? (i := 966) rfl
theorem kw_967 : (Cond.methodLink RX8 99 arraycopyName) ∈ wsL_law := List.mem_of_getElem? (i := 967) rfl
theorem kw_968 : (Cond.methodLink RX8 95 yX8_layRow) ∈ wsL_law := List.mem_of_getElem? (i := 968) rfl
theorem kw_969 : (Cond.instanceMethod yX8_layRow) ∈ wsL_law := List.mem_of_getElem? (i := 969) rfl
theorem kw_970 : (Cond.selects RX8 yX8_layRow yX8_layRow) ∈ wsL_law := List.mem_of_getElem? (i := 970) rfl
theorem kw_971 : (Cond.code yX8_layRow cX8_layRow 3 none) ∈ wsL_law := List.mem_of_getElem? (i := 971) rfl
theorem kw_972 : (Cond.methodLink RX8 109 yX3_put) ∈ wsL_law := List.mem_of_getElem? (i := 972) rfl
theorem kw_973 : (Cond.methodLink RX8 105 yX8_nextRow) ∈ wsL_law := List.mem_of_getElem? (i := 973) rfl
theorem kw_974 : (Cond.instanceMethod yX8_nextRow) ∈ wsL_law := List.mem_of_getElem? (i := 974) rfl
theorem kw_975 : (Cond.selects RX8 yX8_nextRow yX8_nextRow) ∈ wsL_law := List.mem_of_getElem? (i := 975) rfl
theorem kw_976 : (Cond.code yX8_nextRow cX8_nextRow 5 (some .boolean)) ∈ wsL_law := List.mem_of_getElem? (i := 976) rfl
theorem kw_977 : (Cond.methodLink RX8 112 Lib.Math.min.name) ∈ wsL_law := List.mem_of_getElem? (i := 977) rfl
theorem kw_978 : (Cond.methodLink RX8 118 yX8_swapSpots) ∈ wsL_law := List.mem_of_getElem? (i := 978) rfl
theorem kw_979 : (Cond.instanceMethod yX8_swapSpots) ∈ wsL_law := List.mem_of_getElem? (i := 979) rfl
theorem kw_980 : (Cond.selects RX8 yX8_swapSpots yX8_swapSpots) ∈ wsL_law := List.mem_of_getElem? (i := 980) rfl
theorem kw_981 : (Cond.code yX8_swapSpots cX8_swapSpots 4 none) ∈ wsL_law := List.mem_of_getElem? (i := 981) rfl
theorem kw_982 : (Cond.methodLink RL 103 yX11_best) ∈ wsL_law := List.mem_of_getElem? (i := 982) rfl
theorem kw_983 : (Cond.instanceMethod yX11_best) ∈ wsL_law := List.mem_of_getElem? (i := 983) rfl
theorem kw_984 : (Cond.selects RX11 yX11_best yX11_best) ∈ wsL_law := List.mem_of_getElem? (i := 984) rfl
theorem kw_985 : (Cond.code yX11_best cX11_best 9 (some .int)) ∈ wsL_law := List.mem_of_getElem? (i := 985) rfl
theorem kw_986 : (Cond.methodLink RX11 305 yX11_rowOf) ∈ wsL_law := List.mem_of_getElem? (i := 986) rfl
theorem kw_987 : (Cond.instanceMethod yX11_rowOf) ∈ wsL_law := List.mem_of_getElem? (i := 987) rfl
theorem kw_988 : (Cond.selects RX11 yX11_rowOf yX11_rowOf) ∈ wsL_law := List.mem_of_getElem? (i := 988) rfl
theorem kw_989 : (Cond.code yX11_rowOf cX11_rowOf 10 none) ∈ wsL_law := List.mem_of_getElem? (i := 989) rfl
theorem kw_990 : (Cond.methodLink RL 104 yX10_keep) ∈ wsL_law := List.mem_of_getElem? (i := 990) rfl
theorem kw_991 : (Cond.instanceMethod yX10_keep) ∈ wsL_law := List.mem_of_getElem? (i := 991) rfl
theorem kw_992 : (Cond.selects RX10 yX10_keep yX10_keep) ∈ wsL_law := List.mem_of_getElem? (i := 992) rfl
theorem kw_993 : (Cond.code yX10_keep cX10_keep 2 (some .int)) ∈ wsL_law := List.mem_of_getElem? (i := 993) rfl
theorem kw_994 : (Cond.methodLink RX10 216 yX3_store) ∈ wsL_law := List.mem_of_getElem? (i := 994) rfl
theorem kw_995 : (Cond.instanceMethod yX3_store) ∈ wsL_law := List.mem_of_getElem? (i := 995) rfl
theorem kw_996 : (Cond.selects RX3 yX3_store yX3_store) ∈ wsL_law := List.mem_of_getElem? (i := 996) rfl
theorem kw_997 : (Cond.code yX3_store cX3_store 2 none) ∈ wsL_law := List.mem_of_getElem? (i := 997) rfl
theorem kw_998 : (Cond.methodLink RX3 93 arraycopyName) ∈ wsL_law := List.mem_of_getElem? (i := 998) rfl
theorem kw_999 : (Cond.methodLink RL 107 yX11_keep) ∈ wsL_law := List.mem_of_getElem? (i := 999) rfl
theorem kw_1000 : (Cond.instanceMethod yX11_keep) ∈ wsL_law := List.mem_of_getElem? (i := 1000) rfl
theorem kw_1001 : (Cond.selects RX11 yX11_keep yX11_keep) ∈ wsL_law := List.mem_of_getElem? (i := 1001) rfl
theorem kw_1002 : (Cond.code yX11_keep cX11_keep 3 (some .int)) ∈ wsL_law := List.mem_of_getElem? (i := 1002) rfl
theorem kw_1003 : (Cond.methodLink RL 108 yX10_take) ∈ wsL_law := List.mem_of_getElem? (i := 1003) rfl
theorem kw_1004 : (Cond.instanceMethod yX10_take) ∈ wsL_law := List.mem_of_getElem? (i := 1004) rfl
theorem kw_1005 : (Cond.selects RX10 yX10_take yX10_take) ∈ wsL_law := List.mem_of_getElem? (i := 1005) rfl
theorem kw_1006 : (Cond.code yX10_take cX10_take 2 (some .int)) ∈ wsL_law := List.mem_of_getElem? (i := 1006) rfl
theorem kw_1007 : (Cond.methodLink RX10 219 yX3_canRecall) ∈ wsL_law := List.mem_of_getElem? (i := 1007) rfl
theorem kw_1008 : (Cond.instanceMethod yX3_canRecall) ∈ wsL_law := List.mem_of_getElem? (i := 1008) rfl
theorem kw_1009 : (Cond.selects RX3 yX3_canRecall yX3_canRecall) ∈ wsL_law := List.mem_of_getElem? (i := 1009) rfl
theorem kw_1010 : (Cond.code yX3_canRecall cX3_canRecall 4 (some .boolean)) ∈ wsL_law := List.mem_of_getElem? (i := 1010) rfl
theorem kw_1011 : (Cond.methodLink RX10 222 yX3_recall) ∈ wsL_law := List.mem_of_getElem? (i := 1011) rfl
theorem kw_1012 : (Cond.instanceMethod yX3_recall) ∈ wsL_law := List.mem_of_getElem? (i := 1012) rfl
theorem kw_1013 : (Cond.selects RX3 yX3_recall yX3_recall) ∈ wsL_law := List.mem_of_getElem? (i := 1013) rfl
theorem kw_1014 : (Cond.code yX3_recall cX3_recall 3 none) ∈ wsL_law := List.mem_of_getElem? (i := 1014) rfl
theorem kw_1015 : (Cond.methodLink RL 111 yX11_take_) ∈ wsL_law := List.mem_of_getElem? (i := 1015) rfl
theorem kw_1016 : (Cond.instanceMethod yX11_take_) ∈ wsL_law := List.mem_of_getElem? (i := 1016) rfl
theorem kw_1017 : (Cond.selects RX11 yX11_take_ yX11_take_) ∈ wsL_law := List.mem_of_getElem? (i := 1017) rfl
theorem kw_1018 : (Cond.code yX11_take_ cX11_take_ 3 (some .int)) ∈ wsL_law := List.mem_of_getElem? (i := 1018) rfl
theorem kw_1019 : (Cond.methodLink RL 112 yX10_longest) ∈ wsL_law := List.mem_of_getElem? (i := 1019) rfl
theorem kw_1020 : (Cond.instanceMethod yX10_longest) ∈ wsL_law := List.mem_of_getElem? (i := 1020) rfl
theorem kw_1021 : (Cond.selects RX10 yX10_longest yX10_longest) ∈ wsL_law := List.mem_of_getElem? (i := 1021) rfl
theorem kw_1022 : (Cond.code yX10_longest cX10_longest 10 (some .int)) ∈ wsL_law := List.mem_of_getElem? (i := 1022) rfl
theorem kw_1023 : (Cond.constantLong RX10 225 (100)) ∈ wsL_law := List.mem_of_getElem? (i := 1023) rfl
theorem kw_1024 : (Cond.fieldLink RX10 227 "DrumCoder$Course" "ending" "I") ∈ wsL_law := List.mem_of_getElem? (i := 1024) rfl
theorem kw_1025 : (Cond.methodLink RL 116 yX11_longest) ∈ wsL_law := List.mem_of_getElem? (i := 1025) rfl
theorem kw_1026 : (Cond.instanceMethod yX11_longest) ∈ wsL_law := List.mem_of_getElem? (i := 1026) rfl
theorem kw_1027 : (Cond.selects RX11 yX11_longest yX11_longest) ∈ wsL_law := List.mem_of_getElem? (i := 1027) rfl
theorem kw_1028 : (Cond.code yX11_longest cX11_longest 10 (some .int)) ∈ wsL_law := List.mem_of_getElem? (i := 1028) rfl
theorem kw_1029 : (Cond.constantLong RX11 309 (100)) ∈ wsL_law := List.mem_of_getElem? (i := 1029) rfl
theorem kw_1030 : (Cond.methodLink RL 117 yX10_step) ∈ wsL_law := List.mem_of_getElem? (i := 1030) rfl
theorem kw_1031 : (Cond.instanceMethod yX10_step) ∈ wsL_law := List.mem_of_getElem? (i := 1031) rfl
theorem kw_1032 : (Cond.selects RX10 yX10_step yX10_step) ∈ wsL_law := List.mem_of_getElem? (i := 1032) rfl
theorem kw_1033 : (Cond.code yX10_step cX10_step 3 (some .int)) ∈ wsL_law := List.mem_of_getElem? (i := 1033) rfl
theorem kw_1034 : (Cond.methodLink RX10 230 yX1_tableStep) ∈ wsL_law := List.mem_of_getElem? (i := 1034) rfl
theorem kw_1035 : (Cond.instanceMethod yX1_tableStep) ∈ wsL_law := List.mem_of_getElem? (i := 1035) rfl
theorem kw_1036 : (Cond.selects RX1 yX1_tableStep yX1_tableStep) ∈ wsL_law := List.mem_of_getElem? (i := 1036) rfl
theorem kw_1037 : (Cond.code yX1_tableStep cX1_tableStep 7 (some .int)) ∈ wsL_law := List.mem_of_getElem? (i := 1037) rfl
theorem kw_1038 : (Cond.methodLink RX1 42 yJ9_floorMod_7cf53) ∈ wsL_law := List.mem_of_getElem? (i := 1038) rfl
theorem kw_1039 : (Cond.methodLink RX1 45 yX1_unlikePlaces) ∈ wsL_law := List.mem_of_getElem? (i := 1039) rfl
theorem kw_1040 : (Cond.instanceMethod yX1_unlikePlaces) ∈ wsL_law := List.mem_of_getElem? (i := 1040) rfl
theorem kw_1041 : (Cond.selects RX1 yX1_unlikePlaces yX1_unlikePlaces) ∈ wsL_law := List.mem_of_getElem? (i := 1041) rfl
theorem kw_1042 : (Cond.code yX1_unlikePlaces cX1_unlikePlaces 4 (some .int)) ∈ wsL_law := List.mem_of_getElem? (i := 1042) rfl
theorem kw_1043 : (Cond.methodLink RL 120 yX11_step) ∈ wsL_law := List.mem_of_getElem? (i := 1043) rfl
theorem kw_1044 : (Cond.instanceMethod yX11_step) ∈ wsL_law := List.mem_of_getElem? (i := 1044) rfl
theorem kw_1045 : (Cond.selects RX11 yX11_step yX11_step) ∈ wsL_law := List.mem_of_getElem? (i := 1045) rfl
theorem kw_1046 : (Cond.code yX11_step cX11_step 10 (some .int)) ∈ wsL_law := List.mem_of_getElem? (i := 1046) rfl
theorem kw_1047 : (Cond.methodLink RL 121 yX10_known) ∈ wsL_law := List.mem_of_getElem? (i := 1047) rfl
theorem kw_1048 : (Cond.instanceMethod yX10_known) ∈ wsL_law := List.mem_of_getElem? (i := 1048) rfl
theorem kw_1049 : (Cond.selects RX10 yX10_known yX10_known) ∈ wsL_law := List.mem_of_getElem? (i := 1049) rfl
theorem kw_1050 : (Cond.code yX10_known cX10_known 2 (some .int)) ∈ wsL_law := List.mem_of_getElem? (i := 1050) rfl
theorem kw_1051 : (Cond.methodLink RX10 233 yX5_kindOf) ∈ wsL_law := List.mem_of_getElem? (i := 1051) rfl
theorem kw_1052 : (Cond.instanceMethod yX5_kindOf) ∈ wsL_law := List.mem_of_getElem? (i := 1052) rfl
theorem kw_1053 : (Cond.selects RX5 yX5_kindOf yX5_kindOf) ∈ wsL_law := List.mem_of_getElem? (i := 1053) rfl
theorem kw_1054 : (Cond.code yX5_kindOf cX5_kindOf 3 (some .int)) ∈ wsL_law := List.mem_of_getElem? (i := 1054) rfl
theorem kw_1055 : (Cond.fieldLink RX5 54 "DrumCoder$Program" "reachedCount" "I") ∈ wsL_law := List.mem_of_getElem? (i := 1055) rfl
theorem kw_1056 : (Cond.methodLink RX5 48 yJ7_fill_53178) ∈ wsL_law := List.mem_of_getElem? (i := 1056) rfl
theorem kw_1057 : (Cond.methodLink RX5 57 yX5_reach) ∈ wsL_law := List.mem_of_getElem? (i := 1057) rfl
theorem kw_1058 : (Cond.instanceMethod yX5_reach) ∈ wsL_law := List.mem_of_getElem? (i := 1058) rfl
theorem kw_1059 : (Cond.selects RX5 yX5_reach yX5_reach) ∈ wsL_law := List.mem_of_getElem? (i := 1059) rfl
theorem kw_1060 : (Cond.code yX5_reach cX5_reach 2 none) ∈ wsL_law := List.mem_of_getElem? (i := 1060) rfl
theorem kw_1061 : (Cond.methodLink RX5 67 yX5_isOrder) ∈ wsL_law := List.mem_of_getElem? (i := 1061) rfl
theorem kw_1062 : (Cond.methodLink RX5 61 yX5_followOrder) ∈ wsL_law := List.mem_of_getElem? (i := 1062) rfl
theorem kw_1063 : (Cond.instanceMethod yX5_followOrder) ∈ wsL_law := List.mem_of_getElem? (i := 1063) rfl
theorem kw_1064 : (Cond.selects RX5 yX5_followOrder yX5_followOrder) ∈ wsL_law := List.mem_of_getElem? (i := 1064) rfl
theorem kw_1065 : (Cond.code yX5_followOrder cX5_followOrder 4 none) ∈ wsL_law := List.mem_of_getElem? (i := 1065) rfl
theorem kw_1066 : (Cond.methodLink RX5 64 yX5_readsWord) ∈ wsL_law := List.mem_of_getElem? (i := 1066) rfl
theorem kw_1067 : (Cond.methodLink RL 124 yX11_known) ∈ wsL_law := List.mem_of_getElem? (i := 1067) rfl
theorem kw_1068 : (Cond.instanceMethod yX11_known) ∈ wsL_law := List.mem_of_getElem? (i := 1068) rfl
theorem kw_1069 : (Cond.selects RX11 yX11_known yX11_known) ∈ wsL_law := List.mem_of_getElem? (i := 1069) rfl
theorem kw_1070 : (Cond.code yX11_known cX11_known 7 (some .int)) ∈ wsL_law := List.mem_of_getElem? (i := 1070) rfl
theorem kw_1071 : (Cond.methodLink RX11 311 yX11_reach) ∈ wsL_law := List.mem_of_getElem? (i := 1071) rfl
theorem kw_1072 : (Cond.instanceMethod yX11_reach) ∈ wsL_law := List.mem_of_getElem? (i := 1072) rfl
theorem kw_1073 : (Cond.selects RX11 yX11_reach yX11_reach) ∈ wsL_law := List.mem_of_getElem? (i := 1073) rfl
theorem kw_1074 : (Cond.code yX11_reach cX11_reach 3 (some .int)) ∈ wsL_law := List.mem_of_getElem? (i := 1074) rfl
theorem kw_1075 : (Cond.methodLink RL 125 yX10_job) ∈ wsL_law := List.mem_of_getElem? (i := 1075) rfl
theorem kw_1076 : (Cond.instanceMethod yX10_job) ∈ wsL_law := List.mem_of_getElem? (i := 1076) rfl
theorem kw_1077 : (Cond.selects RX10 yX10_job yX10_job) ∈ wsL_law := List.mem_of_getElem? (i := 1077) rfl
theorem kw_1078 : (Cond.code yX10_job cX10_job 3 (some .int)) ∈ wsL_law := List.mem_of_getElem? (i := 1078) rfl
theorem kw_1079 : (Cond.constant RX10 236 (99999)) ∈ wsL_law := List.mem_of_getElem? (i := 1079) rfl
theorem kw_1080 : (Cond.methodLink RX10 237 yX4_append) ∈ wsL_law := List.mem_of_getElem? (i := 1080) rfl
theorem kw_1081 : (Cond.instanceMethod yX4_append) ∈ wsL_law := List.mem_of_getElem? (i := 1081) rfl
theorem kw_1082 : (Cond.selects RX4 yX4_append yX4_append) ∈ wsL_law := List.mem_of_getElem? (i := 1082) rfl
theorem kw_1083 : (Cond.code yX4_append cX4_append 4 (some .int)) ∈ wsL_law := List.mem_of_getElem? (i := 1083) rfl
theorem kw_1084 : (Cond.fieldLink RX4 21 "DrumCoder$Night" "count" "I") ∈ wsL_law := List.mem_of_getElem? (i := 1084) rfl
theorem kw_1085 : (Cond.methodLink RL 128 yX11_job) ∈ wsL_law := List.mem_of_getElem? (i := 1085) rfl
theorem kw_1086 : (Cond.instanceMethod yX11_job) ∈ wsL_law := List.mem_of_getElem? (i := 1086) rfl
theorem kw_1087 : (Cond.selects RX11 yX11_job yX11_job) ∈ wsL_law := List.mem_of_getElem? (i := 1087) rfl
theorem kw_1088 : (Cond.code yX11_job cX11_job 3 (some .int)) ∈ wsL_law := List.mem_of_getElem? (i := 1088) rfl
theorem kw_1089 : (Cond.constant RX11 314 (99999)) ∈ wsL_law := List.mem_of_getElem? (i := 1089) rfl
theorem kw_1090 : (Cond.methodLink RL 129 yX10_night) ∈ wsL_law := List.mem_of_getElem? (i := 1090) rfl
theorem kw_1091 : (Cond.instanceMethod yX10_night) ∈ wsL_law := List.mem_of_getElem? (i := 1091) rfl
theorem kw_1092 : (Cond.selects RX10 yX10_night yX10_night) ∈ wsL_law := List.mem_of_getElem? (i := 1092) rfl
theorem kw_1093 : (Cond.code yX10_night cX10_night 1 (some .int)) ∈ wsL_law := List.mem_of_getElem? (i := 1093) rfl
theorem kw_1094 : (Cond.methodLink RX10 239 yX4_bestSet) ∈ wsL_law := List.mem_of_getElem? (i := 1094) rfl
theorem kw_1095 : (Cond.instanceMethod yX4_bestSet) ∈ wsL_law := List.mem_of_getElem? (i := 1095) rfl
theorem kw_1096 : (Cond.selects RX4 yX4_bestSet yX4_bestSet) ∈ wsL_law := List.mem_of_getElem? (i := 1096) rfl
theorem kw_1097 : (Cond.code yX4_bestSet cX4_bestSet 8 (some .int)) ∈ wsL_law := List.mem_of_getElem? (i := 1097) rfl
theorem kw_1098 : (Cond.methodLink RX4 25 Lib.Math.min.name) ∈ wsL_law := List.mem_of_getElem? (i := 1098) rfl
theorem kw_1099 : (Cond.methodLink RX4 31 yJ6_bitCount_0f7a4) ∈ wsL_law := List.mem_of_getElem? (i := 1099) rfl
theorem kw_1100 : (Cond.methodLink RX4 37 yX4_timeIfDone) ∈ wsL_law := List.mem_of_getElem? (i := 1100) rfl
theorem kw_1101 : (Cond.instanceMethod yX4_timeIfDone) ∈ wsL_law := List.mem_of_getElem? (i := 1101) rfl
theorem kw_1102 : (Cond.selects RX4 yX4_timeIfDone yX4_timeIfDone) ∈ wsL_law := List.mem_of_getElem? (i := 1102) rfl
theorem kw_1103 : (Cond.code yX4_timeIfDone cX4_timeIfDone 5 (some .int)) ∈ wsL_law := List.mem_of_getElem? (i := 1103) rfl
theorem kw_1104 : (Cond.methodLink RL 132 yX11_night) ∈ wsL_law := List.mem_of_getElem? (i := 1104) rfl
theorem kw_1105 : (Cond.instanceMethod yX11_night) ∈ wsL_law := List.mem_of_getElem? (i := 1105) rfl
theorem kw_1106 : (Cond.selects RX11 yX11_night yX11_night) ∈ wsL_law := List.mem_of_getElem? (i := 1106) rfl
theorem kw_1107 : (Cond.code yX11_night cX11_night 8 (some .int)) ∈ wsL_law := List.mem_of_getElem? (i := 1107) rfl
theorem kw_1108 : (Cond.methodLink RX11 315 yX11_timeOf) ∈ wsL_law := List.mem_of_getElem? (i := 1108) rfl
theorem kw_1109 : (Cond.instanceMethod yX11_timeOf) ∈ wsL_law := List.mem_of_getElem? (i := 1109) rfl
theorem kw_1110 : (Cond.selects RX11 yX11_timeOf yX11_timeOf) ∈ wsL_law := List.mem_of_getElem? (i := 1110) rfl
theorem kw_1111 : (Cond.code yX11_timeOf cX11_timeOf 6 (some .int)) ∈ wsL_law := List.mem_of_getElem? (i := 1111) rfl
set_option maxRecDepth 20000 in
theorem good_L : wsL_law.all goodWord = true := by decide +kernel
theorem gd_V {own C : String} {idx : Nat} {y : MethodName} {cd : Cond} (h1 : Cond.methodLink own idx y ∈ wsL_law) (h2 : Cond.instanceMethod y ∈ wsL_law) (h3 : Cond.selects C y y ∈ wsL_law) (h4 : Cond.initialized C ∈ wsL_law) (h5 : cd ∈ wsL_law) : GoodIn wsL_law (wsV own idx C y (cd :: wsL_law)) := by
  refine goodIn_sub (fun w hw => ?_) ?_
  · rcases List.mem_append.mp hw with h | h
    · rcases List.mem_cons.mp h with rfl | h
      · exact h1
      rcases List.mem_cons.mp h with rfl | h
      · exact h2
      rcases List.mem_cons.mp h with rfl | h
      · exact h3
      rcases List.mem_cons.mp h with rfl | h
      · exact h4
      cases h
    · rcases List.mem_cons.mp h with rfl | h
      · exact h5
      · exact h
  · have g := List.all_eq_true.mp good_L
    refine List.all_eq_true.mpr (fun w hw => ?_)
    rcases List.mem_append.mp hw with h | h
    · rcases List.mem_cons.mp h with rfl | h
      · exact g _ h1
      rcases List.mem_cons.mp h with rfl | h
      · exact g _ h2
      rcases List.mem_cons.mp h with rfl | h
      · exact g _ h3
      rcases List.mem_cons.mp h with rfl | h
      · exact g _ h4
      cases h
    · rcases List.mem_cons.mp h with rfl | h
      · exact g _ h5
      · exact g _ h
theorem gd_S {own : String} {idx : Nat} {y : MethodName} {cd : Cond} (h1 : Cond.methodLink own idx y ∈ wsL_law) (h2 : Cond.static y ∈ wsL_law) (h3 : Cond.initialized y.cls ∈ wsL_law) (h5 : cd ∈ wsL_law) : GoodIn wsL_law (va_wsS own idx y (cd :: wsL_law)) := by
  refine goodIn_sub (fun w hw => ?_) ?_
  · rcases List.mem_append.mp hw with h | h
    · rcases List.mem_cons.mp h with rfl | h
      · exact h1
      rcases List.mem_cons.mp h with rfl | h
      · exact h2
      rcases List.mem_cons.mp h with rfl | h
      · exact h3
      cases h
    · rcases List.mem_cons.mp h with rfl | h
      · exact h5
      · exact h
  · have g := List.all_eq_true.mp good_L
    refine List.all_eq_true.mpr (fun w hw => ?_)
    rcases List.mem_append.mp hw with h | h
    · rcases List.mem_cons.mp h with rfl | h
      · exact g _ h1
      rcases List.mem_cons.mp h with rfl | h
      · exact g _ h2
      rcases List.mem_cons.mp h with rfl | h
      · exact g _ h3
      cases h
    · rcases List.mem_cons.mp h with rfl | h
      · exact g _ h5
      · exact g _ h
theorem gd_I {cd : Cond} (h5 : cd ∈ wsL_law) : GoodIn wsL_law (cd :: wsL_law) := by
  have g := List.all_eq_true.mp good_L
  refine goodIn_sub (fun w hw => ?_) (List.all_eq_true.mpr (fun w hw => ?_))
  · rcases List.mem_cons.mp hw with rfl | h
    · exact h5
    · exact h
  · rcases List.mem_cons.mp hw with rfl | h
    · exact g _ h5
    · exact g _ h
-- the texts, by their places
def sOwn : List String := [RX2, RX2, RX2, RX2, RX6, RX6, RX6, RX6, RX6, RX6, RX6, RX6, RX6, RX6, RX6, RX11, RX11]
def sIdx : List Nat := [41, 69, 71, 73, 103, 105, 107, 109, 111, 113, 115, 117, 119, 121, 97, 175, 230]
def sTx : List String := ["words", "many", "quick", "long", "stop", "load", "add", "less", "times", "store", "neg", "zero", "print", "halve", "to", "words long many quick to ", "stop load add less times store neg zero print halve "]
def sLen : List Nat := [5, 4, 5, 4, 4, 4, 3, 4, 5, 5, 3, 4, 5, 5, 2, 25, 52]
def sByt : List (List Int32) := [[119, 111, 114, 100, 115], [109, 97, 110, 121], [113, 117, 105, 99, 107], [108, 111, 110, 103], [115, 116, 111, 112], [108, 111, 97, 100], [97, 100, 100], [108, 101, 115, 115], [116, 105, 109, 101, 115], [115, 116, 111, 114, 101], [110, 101, 103], [122, 101, 114, 111], [112, 114, 105, 110, 116], [104, 97, 108, 118, 101], [116, 111], [119, 111, 114, 100, 115, 32, 108, 111, 110, 103, 32, 109, 97, 110, 121, 32, 113, 117, 105, 99, 107, 32, 116, 111, 32], [115, 116, 111, 112, 32, 108, 111, 97, 100, 32, 97, 100, 100, 32, 108, 101, 115, 115, 32, 116, 105, 109, 101, 115, 32, 115, 116, 111, 114, 101, 32, 110, 101, 103, 32, 122, 101, 114, 111, 32, 112, 114, 105, 110, 116, 32, 104, 97, 108, 118, 101, 32]]
def Zs (adK adV : Nat → Nat) (fr : Nat → Prop) (U : State) (H : Heap) : Prop := vk_S 17 sLen sByt adK adV fr U H ∧ (∀ i : Nat, i < 17 → vk_R (sOwn.getD i "") (sIdx.getD i 0) (sTx.getD i "") (adK i) U) ∧ va_Z "java/lang/String" "COMPACT_STRINGS" "Z" (.int 1) fr U H ∧ va_Zq "jdk/internal/util/Preconditions" "SIOOBE_FORMATTER" "Ljava/util/function/BiFunction;" fr U H
theorem Zs.go {adK adV : Nat → Nat} {fr : Nat → Prop} {s U : State} {H : Heap} {locs : List Loc} (h : Zs adK adV fr s s.heap) (hS : va_S fr s.heap H locs) (hU : U.heap = H) (hW : s.WarmedH U.vm) : Zs adK adV fr U U.heap := by
  rw [hU]
  refine ⟨(h.1.kept hS.2.1).moved hW.alike, fun i hi => (h.2.1 i hi).warm hW, (h.2.2.1.kept hS.2.1).moved hW.alike, ?_⟩
  rcases h.2.2.2 with z | ⟨t, z⟩
  · exact Or.inl ((z.kept hS.2.1).moved hW.alike)
  · exact Or.inr ⟨t, (z.kept hS.2.1).moved hW.alike⟩
theorem Zs.calling {adK adV : Nat → Nat} {fr : Nat → Prop} {U : State} (h : Zs adK adV fr U U.heap) (g : JFrame) (mk : MethodId) (a : Array Value) : Zs adK adV fr (U.calling g mk a) (U.calling g mk a).heap := by
  refine ⟨h.1.moved (U := U.calling g mk a) (Vm.Alike.refl U.vm), fun i hi => (h.2.1 i hi).same (U := U.calling g mk a) rfl, h.2.2.1.moved (U := U.calling g mk a) (Vm.Alike.refl U.vm), ?_⟩
  rcases h.2.2.2 with z | ⟨t, z⟩
  · exact Or.inl (z.moved (U := U.calling g mk a) (Vm.Alike.refl U.vm))
  · exact Or.inr ⟨t, z.moved (U := U.calling g mk a) (Vm.Alike.refl U.vm)⟩
/-- a method's start over a world: its arguments, the world at σ, classes, texts -/
def Pcx (D : va_G) (C : Nat → ClassId) (wf : St → va_W) (adK adV : Nat → Nat) (fr : Nat → Prop) (av : List Value) (σ : St) : Array Value → State → Prop := fun v U => v = av.toArray ∧ va_P D vwCl (wf σ) U.heap ∧ va_K D vwCl (tyL C) U ∧ Zs adK adV fr U U.heap
/-- its end: its answer, the world at σ', nothing else changed -/
def Qcx (D : va_G) (wf : St → va_W) (fr : Nat → Prop) (r : Option Value) (σ : St) : Array Value → State → Outcome → State → Prop := fun _ st oc t => oc = .returned r ∧ va_P D vwCl (wf σ) t.heap ∧ va_F fr st t
theorem Pcx.blind {D : va_G} {C : Nat → ClassId} {wf : St → va_W} {adK adV : Nat → Nat} {fr : Nat → Prop} {av : List Value} {σ : St} : FrameBlind (Pcx D C wf adK adV fr av σ) := by
  intro a U g mk q
  obtain ⟨q0, qP, qK, qZ⟩ := q
  exact ⟨q0, qP, va_K.moved (u := U) (U := U.calling g mk a) (Vm.Alike.refl U.vm) qK, qZ.calling g mk a⟩
section CALLS
variable {p : Program} {l : Launch} {e : Env} {R : Room} {s : State} {m : MethodId} {args : Array Value} {below : List Frame} {meth : Method} {c : Code} {H : Heap} {locs : List Loc} {cells slots : Nat} {Q : State → Prop}
variable {cc : ByteArray} {pc : Nat} {ls : Array Slot} {rest st0 : List Value} {D : va_G} {C : Nat → ClassId} {wf : St → va_W} {adK adV : Nat → Nat} {fr : Nat → Prop} {σ σ' : St} {r : Option Value} {a : Array Value}
theorem cx_run {H0 : Heap} (hr : va_Run p l e R s m args below meth c H locs cells slots 0 0 (F0 m pc ls st0) rest (Qcx D wf fr r σ' a) fr) (hS : va_S fr H0 H locs)
    (kk : ∀ (H1 : Heap) (locs1 : List Loc), va_P D vwCl (wf σ') H1 → va_S fr H0 H1 locs1 → W p l e R s m args below meth c H1 locs1 cells slots Q (F0 m (pc + 3) ls (r.toList ++ rest))) : W p l e R s m args below meth c H locs cells slots Q (F0 m pc ls st0) := by
  intro T hT X
  obtain ⟨v, st₀, t, T', L, h0, X', hL, e1, e2, ⟨hv, hp, hz, hk⟩, st⟩ := hr T hT X
  cases hv
  rw [h0] at hz hk
  obtain ⟨t2, a1, b1⟩ := kk T'.heap (locs ++ L) (by rw [e1]; exact hp)
    ⟨Nat.le_trans hS.1 (by rw [e1]; exact hz), fun q h1 h2 => by rw [e1, hk q (Nat.lt_of_lt_of_le h1 hS.1) h2]; exact hS.2.1 q h1 h2, fun q hq => by
      rcases List.mem_append.mp hq with h | h
      · exact hS.2.2 q h
      · exact hL q h⟩ T' rfl X'
  exact ⟨t2, st t2 a1, b1⟩
variable {own Cn : String} {index n maxL nL : Nat} {y : MethodName} {bytes : ByteArray} {ret : Option FieldType} {ws : List Cond} {rm : Room} {b : Addr} {As : List Value}
/-- what holds in a method's body: the machine, its code, its class, the words, the classes, its answer's kind, the texts -/
def Cxx (D : va_G) (C : Nat → ClassId) (adK adV : Nat → Nat) (fr : Nat → Prop) (p : Program) (s : State) (m : MethodId) (args : Array Value) (meth : Method) (c : Code) (cc : ByteArray) (nL : Nat) (own : String) (ret : Option FieldType) : Prop :=
  p.tables.exec = Jvm.exec ∧ c.code = cc ∧ c.maxLocals = nL ∧ s.vm.findClass own = some m.cls ∧ (∀ w ∈ wsL_law, w.before args s = true) ∧ va_K D vwCl (tyL C) s ∧ meth.sig.returnType = ret ∧ meth.locks = false ∧ Zs adK adV fr s s.heap
theorem Cxx.fix (h : Cxx D C adK adV fr p s m args meth c cc nL own ret) : CallFix p m c cc nL s args wsL_law own := ⟨h.1, h.2.1, h.2.2.1, h.2.2.2.1, h.2.2.2.2.1⟩
theorem cx_V {ret0 : Option FieldType} {ls : Array Slot} (cx : Cxx D C adK adV fr p s m args meth c cc nL own ret0) (hM : Met l y ws rm (Pcx D C wf adK adV fr (Value.ref b :: As) σ) (Qcx D wf fr r σ') 0 0 fr) (cw : CallW R s args own Cn index y bytes maxL ret ws rm 0 0 n)
    (hrec : ∃ cell : Cell, H[b]? = some cell ∧ cell.vm.isStatics = false ∧ s.vm.findClass Cn = some cell.cls) (hP : va_P D vwCl (wf σ) H) (hS : va_S fr s.heap H locs) (hn : As.length = n) (hsize : ls.size = nL) (hstack : st0 = As.reverse ++ .ref b :: rest) (hW : (rest.map fun v => v.category).sum ≤ 8) (hdg : decode cc pc = .ok (.invokevirtual index, 3)) (hc : cells ≤ R.cells ∧ slots ≤ R.slots)
    (kk : ∀ (H1 : Heap) (locs1 : List Loc), va_P D vwCl (wf σ') H1 → va_S fr s.heap H1 locs1 → W p l e R s m args below meth c H1 locs1 cells slots Q (F0 m (pc + 3) ls (r.toList ++ rest))) : W p l e R s m args below meth c H locs cells slots Q (F0 m pc ls st0) :=
  cx_run (va_runV (As := As) (rest := rest) cx.fix hM cw ⟨Pcx.blind, hrec, fun U hU hW9 => ⟨rfl, by rw [hU]; exact hP, va_K.moved hW9.alike cx.2.2.2.2.2.1, cx.2.2.2.2.2.2.2.2.go hS hU hW9⟩⟩ rfl hn hsize hstack (lv_room hW) hdg hc) hS kk
theorem cx_S {ret0 : Option FieldType} {ls : Array Slot} (cx : Cxx D C adK adV fr p s m args meth c cc nL own ret0) (hM : Met l y ws rm (Pcx D C wf adK adV fr As σ) (Qcx D wf fr r σ') 0 0 fr) (cw : CallB R s args own index y bytes maxL ret ws rm 0 0 n ∧ (Cond.static y).before args s = true)
    (hP : va_P D vwCl (wf σ) H) (hS : va_S fr s.heap H locs) (hn : As.length = n) (hsize : ls.size = nL) (hstack : st0 = As.reverse ++ rest) (hW : (rest.map fun v => v.category).sum ≤ 8) (hdg : decode cc pc = .ok (.invokestatic index, 3)) (hc : cells ≤ R.cells ∧ slots ≤ R.slots)
    (kk : ∀ (H1 : Heap) (locs1 : List Loc), va_P D vwCl (wf σ') H1 → va_S fr s.heap H1 locs1 → W p l e R s m args below meth c H1 locs1 cells slots Q (F0 m (pc + 3) ls (r.toList ++ rest))) : W p l e R s m args below meth c H locs cells slots Q (F0 m pc ls st0) :=
  cx_run (va_runS (As := As) (rest := rest) cx.fix hM cw ⟨Pcx.blind, fun U hU hW9 => ⟨rfl, by rw [hU]; exact hP, va_K.moved hW9.alike cx.2.2.2.2.2.1, cx.2.2.2.2.2.2.2.2.go hS hU hW9⟩⟩ rfl hn hsize hstack (lv_room hW) hdg hc) hS kk
theorem cx_iret {ls : Array Slot} {v : Int32} {res : Int32 × St} (cx : Cxx D C adK adV fr p s m args meth c cc nL own (some .int)) (hP : va_P D vwCl (wf σ) H) (hS : va_S fr s.heap H locs) (hf : some (v, σ) = some res) (hdg : decode cc pc = .ok (.ireturn, 1)) : W p l e R s m args below meth c H locs 0 0 (MQ below (Qcx D wf fr (some (.int res.1)) res.2) args s 0 0 fr) (F0 m pc ls [.int v]) := by
  cases hf
  exact W.iret cx.1 cx.2.1 cx.2.2.2.2.2.2.1 (fun t ht _ => ⟨rfl, by rw [ht]; exact hP, hS.F ht⟩) hS.2.2 hdg cx.2.2.2.2.2.2.2.1
theorem cx_zret {ls : Array Slot} {v : Int32} {res : Int32 × St} (cx : Cxx D C adK adV fr p s m args meth c cc nL own (some .boolean)) (hn : narrow .boolean (.int v) = .int v) (hP : va_P D vwCl (wf σ) H) (hS : va_S fr s.heap H locs) (hf : some (v, σ) = some res) (hdg : decode cc pc = .ok (.ireturn, 1)) : W p l e R s m args below meth c H locs 0 0 (MQ below (Qcx D wf fr (some (.int res.1)) res.2) args s 0 0 fr) (F0 m pc ls [.int v]) := by
  cases hf
  exact W.zret cx.1 cx.2.1 cx.2.2.2.2.2.2.1 hn (fun t ht _ => ⟨rfl, by rw [ht]; exact hP, hS.F ht⟩) hS.2.2 hdg cx.2.2.2.2.2.2.2.1
theorem cx_vret {ls : Array Slot} {res : St} (cx : Cxx D C adK adV fr p s m args meth c cc nL own none) (hP : va_P D vwCl (wf σ) H) (hS : va_S fr s.heap H locs) (hf : some σ = some res) (hdg : decode cc pc = .ok (.return_, 1)) : W p l e R s m args below meth c H locs 0 0 (MQ below (Qcx D wf fr none res) args s 0 0 fr) (F0 m pc ls []) := by
  cases hf
  exact W.vret cx.1 cx.2.1 cx.2.2.2.2.2.2.1 (fun t ht _ => ⟨rfl, by rw [ht]; exact hP, hS.F ht⟩) hS.2.2 hdg cx.2.2.2.2.2.2.2.1
end CALLS
