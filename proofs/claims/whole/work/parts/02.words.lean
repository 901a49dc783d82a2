def wsL_law : List Cond := lw_tbl.filter goodWord
theorem wmk {w : Cond} (h : w ∈ tables_1) (hg : goodWord w = true) : w ∈ wsL_law := List.mem_filter.mpr ⟨List.mem_append_right _ h, hg⟩
theorem wms {w : Cond} (h : w ∈ k2_sels lw_privs) (hg : goodWord w = true) : w ∈ wsL_law := List.mem_filter.mpr ⟨List.mem_append_left _ h, hg⟩
theorem wm1 {w : Cond} (h : w ∈ tables_1_1) (hg : goodWord w = true) : w ∈ wsL_law := wmk (List.mem_append_left _ h) hg
theorem wm2 {w : Cond} (h : w ∈ tables_1_2) (hg : goodWord w = true) : w ∈ wsL_law := wmk (List.mem_append_right _ (List.mem_append_left _ h)) hg
theorem wm3 {w : Cond} (h : w ∈ tables_1_3) (hg : goodWord w = true) : w ∈ wsL_law := wmk (List.mem_append_right _ (List.mem_append_right _ h)) hg
theorem wsL_in : ∀ w ∈ wsL_law, w ∈ lw_tbl := fun w h => (List.mem_filter.mp h).1
theorem wsL_good {w : Cond} (h : w ∈ wsL_law) : (w.onTables && w.keeps) = true ∨ ∃ ty, w = .arrayClass ty := good_of_word (List.mem_filter.mp h).2
theorem w1_0 : Cond.initialized RL ∈ wsL_law := wm1 (List.mem_of_getElem? (i := 0) rfl) rfl
theorem w1_1 : Cond.initialized RX5 ∈ wsL_law := wm1 (List.mem_of_getElem? (i := 1) rfl) rfl
theorem w1_2 : Cond.initialized RX0 ∈ wsL_law := wm1 (List.mem_of_getElem? (i := 2) rfl) rfl
theorem w1_3 : Cond.initialized RX4 ∈ wsL_law := wm1 (List.mem_of_getElem? (i := 3) rfl) rfl
theorem w1_4 : Cond.initialized RX1 ∈ wsL_law := wm1 (List.mem_of_getElem? (i := 4) rfl) rfl
theorem w1_5 : Cond.initialized "java/lang/Math" ∈ wsL_law := wm1 (List.mem_of_getElem? (i := 5) rfl) rfl
theorem w1_6 : Cond.initialized RJ7 ∈ wsL_law := wm1 (List.mem_of_getElem? (i := 6) rfl) rfl
theorem w1_7 : Cond.initialized "java/lang/System" ∈ wsL_law := wm1 (List.mem_of_getElem? (i := 7) rfl) rfl
theorem w1_8 : Cond.initialized RX3 ∈ wsL_law := wm1 (List.mem_of_getElem? (i := 8) rfl) rfl
theorem w1_9 : Cond.initialized RX2 ∈ wsL_law := wm1 (List.mem_of_getElem? (i := 9) rfl) rfl
theorem w1_10 : Cond.initialized RX6 ∈ wsL_law := wm1 (List.mem_of_getElem? (i := 10) rfl) rfl
theorem w1_11 : Cond.initialized RJ13 ∈ wsL_law := wm1 (List.mem_of_getElem? (i := 11) rfl) rfl
theorem w1_12 : Cond.classLink RL 7 RX5 ∈ wsL_law := wm1 (List.mem_of_getElem? (i := 12) rfl) rfl
theorem w1_13 : Cond.instantiable RX5 5 ∈ wsL_law := wm1 (List.mem_of_getElem? (i := 13) rfl) rfl
theorem w1_14 : Cond.methodLink RL 9 yX5_init ∈ wsL_law := wm1 (List.mem_of_getElem? (i := 14) rfl) rfl
theorem w1_15 : Cond.instanceMethod yX5_init ∈ wsL_law := wm1 (List.mem_of_getElem? (i := 15) rfl) rfl
theorem w1_16 : Cond.code yX5_init cX5_init 2 none ∈ wsL_law := wm1 (List.mem_of_getElem? (i := 16) rfl) rfl
theorem w1_17 : Cond.methodLink RX5 3 objectInit ∈ wsL_law := wm1 (List.mem_of_getElem? (i := 17) rfl) rfl
theorem w1_18 : Cond.instanceMethod objectInit ∈ wsL_law := wm1 (List.mem_of_getElem? (i := 18) rfl) rfl
theorem w1_19 : Cond.code objectInit ⟨#[0xb1]⟩ 1 none ∈ wsL_law := wm1 (List.mem_of_getElem? (i := 19) rfl) rfl
theorem w1_20 : Cond.classLink RX5 9 RX3 ∈ wsL_law := wm1 (List.mem_of_getElem? (i := 20) rfl) rfl
theorem w1_22 : Cond.classLink RX5 15 RX1 ∈ wsL_law := wm1 (List.mem_of_getElem? (i := 22) rfl) rfl
theorem w1_24 : Cond.classLink RX5 21 RX0 ∈ wsL_law := wm1 (List.mem_of_getElem? (i := 24) rfl) rfl
theorem w1_25 : Cond.instantiable RX0 3 ∈ wsL_law := wm1 (List.mem_of_getElem? (i := 25) rfl) rfl
theorem w1_27 : Cond.instanceMethod yX0_init ∈ wsL_law := wm1 (List.mem_of_getElem? (i := 27) rfl) rfl
theorem w1_28 : Cond.code yX0_init cX0_init 1 none ∈ wsL_law := wm1 (List.mem_of_getElem? (i := 28) rfl) rfl
theorem w1_29 : Cond.methodLink RX0 3 objectInit ∈ wsL_law := wm1 (List.mem_of_getElem? (i := 29) rfl) rfl
theorem w1_30 : Cond.fieldLink RX0 9 "NumberMachines$Draft" "row" "[J" ∈ wsL_law := wm1 (List.mem_of_getElem? (i := 30) rfl) rfl
theorem w1_35 : Cond.fieldLink RX0 21 "NumberMachines$Draft" "start" "I" ∈ wsL_law := wm1 (List.mem_of_getElem? (i := 35) rfl) rfl
theorem w1_38 : Cond.fieldLink RX0 25 "NumberMachines$Draft" "period" "I" ∈ wsL_law := wm1 (List.mem_of_getElem? (i := 38) rfl) rfl
theorem w1_39 : Cond.laysFinal RX0 "NumberMachines$Draft" "row" "[J" ∈ wsL_law := wm1 (List.mem_of_getElem? (i := 39) rfl) rfl
theorem w1_41 : Cond.lays RX0 "NumberMachines$Draft" "start" "I" ∈ wsL_law := wm1 (List.mem_of_getElem? (i := 41) rfl) rfl
theorem w1_43 : Cond.lays RX0 "NumberMachines$Draft" "period" "I" ∈ wsL_law := wm1 (List.mem_of_getElem? (i := 43) rfl) rfl
theorem w1_46 : Cond.arrayClass FieldType.long ∈ wsL_law := wm1 (List.mem_of_getElem? (i := 46) rfl) rfl
theorem w1_47 : Cond.classLink RX5 28 RX4 ∈ wsL_law := wm1 (List.mem_of_getElem? (i := 47) rfl) rfl
theorem w1_48 : Cond.instantiable RX4 6 ∈ wsL_law := wm1 (List.mem_of_getElem? (i := 48) rfl) rfl
theorem w1_50 : Cond.instanceMethod yX4_init ∈ wsL_law := wm1 (List.mem_of_getElem? (i := 50) rfl) rfl
theorem w1_51 : Cond.code yX4_init cX4_init 1 none ∈ wsL_law := wm1 (List.mem_of_getElem? (i := 51) rfl) rfl
theorem w1_52 : Cond.methodLink RX4 3 objectInit ∈ wsL_law := wm1 (List.mem_of_getElem? (i := 52) rfl) rfl
theorem w1_53 : Cond.fieldLink RX4 9 "NumberMachines$Tracer" "rows" "[J" ∈ wsL_law := wm1 (List.mem_of_getElem? (i := 53) rfl) rfl
theorem w1_54 : Cond.fieldLink RX4 15 "NumberMachines$Tracer" "goes" "[I" ∈ wsL_law := wm1 (List.mem_of_getElem? (i := 54) rfl) rfl
theorem w1_55 : Cond.fieldLink RX4 34 "NumberMachines$Tracer" "base" "I" ∈ wsL_law := wm1 (List.mem_of_getElem? (i := 55) rfl) rfl
theorem w1_56 : Cond.fieldLink RX4 37 "NumberMachines$Tracer" "start" "I" ∈ wsL_law := wm1 (List.mem_of_getElem? (i := 56) rfl) rfl
theorem w1_57 : Cond.fieldLink RX4 38 "NumberMachines$Tracer" "period" "I" ∈ wsL_law := wm1 (List.mem_of_getElem? (i := 57) rfl) rfl
theorem w1_58 : Cond.fieldLink RX4 48 "NumberMachines$Tracer" "found" "I" ∈ wsL_law := wm1 (List.mem_of_getElem? (i := 58) rfl) rfl
theorem w1_59 : Cond.laysFinal RX4 "NumberMachines$Tracer" "rows" "[J" ∈ wsL_law := wm1 (List.mem_of_getElem? (i := 59) rfl) rfl
theorem w1_61 : Cond.laysFinal RX4 "NumberMachines$Tracer" "goes" "[I" ∈ wsL_law := wm1 (List.mem_of_getElem? (i := 61) rfl) rfl
theorem w1_63 : Cond.lays RX4 "NumberMachines$Tracer" "base" "I" ∈ wsL_law := wm1 (List.mem_of_getElem? (i := 63) rfl) rfl
theorem w1_65 : Cond.lays RX4 "NumberMachines$Tracer" "start" "I" ∈ wsL_law := wm1 (List.mem_of_getElem? (i := 65) rfl) rfl
theorem w1_67 : Cond.lays RX4 "NumberMachines$Tracer" "period" "I" ∈ wsL_law := wm1 (List.mem_of_getElem? (i := 67) rfl) rfl
theorem w1_69 : Cond.lays RX4 "NumberMachines$Tracer" "found" "I" ∈ wsL_law := wm1 (List.mem_of_getElem? (i := 69) rfl) rfl
theorem w1_72 : Cond.arrayClass FieldType.int ∈ wsL_law := wm1 (List.mem_of_getElem? (i := 72) rfl) rfl
theorem w1_73 : Cond.instantiable RX1 3 ∈ wsL_law := wm1 (List.mem_of_getElem? (i := 73) rfl) rfl
theorem w1_75 : Cond.instanceMethod yX1_init ∈ wsL_law := wm1 (List.mem_of_getElem? (i := 75) rfl) rfl
theorem w1_76 : Cond.code yX1_init cX1_init 1 none ∈ wsL_law := wm1 (List.mem_of_getElem? (i := 76) rfl) rfl
theorem w1_77 : Cond.methodLink RX1 3 objectInit ∈ wsL_law := wm1 (List.mem_of_getElem? (i := 77) rfl) rfl
theorem w1_78 : Cond.classLink RX1 9 RX3 ∈ wsL_law := wm1 (List.mem_of_getElem? (i := 78) rfl) rfl
theorem w1_79 : Cond.fieldLink RX1 11 "NumberMachines$Image" "sets" "[LNumberMachines$Round;" ∈ wsL_law := wm1 (List.mem_of_getElem? (i := 79) rfl) rfl
theorem w1_80 : Cond.fieldLink RX1 17 "NumberMachines$Image" "keptBase" "I" ∈ wsL_law := wm1 (List.mem_of_getElem? (i := 80) rfl) rfl
theorem w1_81 : Cond.fieldLink RX1 21 "NumberMachines$Image" "kept" "Z" ∈ wsL_law := wm1 (List.mem_of_getElem? (i := 81) rfl) rfl
theorem w1_83 : Cond.laysFinal RX1 "NumberMachines$Image" "sets" "[LNumberMachines$Round;" ∈ wsL_law := wm1 (List.mem_of_getElem? (i := 83) rfl) rfl
theorem w1_85 : Cond.lays RX1 "NumberMachines$Image" "keptBase" "I" ∈ wsL_law := wm1 (List.mem_of_getElem? (i := 85) rfl) rfl
theorem w1_87 : Cond.lays RX1 "NumberMachines$Image" "kept" "Z" ∈ wsL_law := wm1 (List.mem_of_getElem? (i := 87) rfl) rfl
theorem w1_90 : Cond.methodLink RX5 36 yX5_emptyAll ∈ wsL_law := wm1 (List.mem_of_getElem? (i := 90) rfl) rfl
theorem w1_92 : Cond.instanceMethod yX5_emptyAll ∈ wsL_law := wm1 (List.mem_of_getElem? (i := 92) rfl) rfl
theorem w1_93 : Cond.code yX5_emptyAll cX5_emptyAll 4 none ∈ wsL_law := wm1 (List.mem_of_getElem? (i := 93) rfl) rfl
theorem w1_94 : Cond.methodLink RX5 168 yX0_open ∈ wsL_law := wm1 (List.mem_of_getElem? (i := 94) rfl) rfl
theorem w1_95 : Cond.instanceMethod yX0_open ∈ wsL_law := wm1 (List.mem_of_getElem? (i := 95) rfl) rfl
theorem w1_96 : Cond.selects RX0 yX0_open yX0_open ∈ wsL_law := wm1 (List.mem_of_getElem? (i := 96) rfl) rfl
theorem w1_97 : Cond.code yX0_open cX0_open 3 none ∈ wsL_law := wm1 (List.mem_of_getElem? (i := 97) rfl) rfl
theorem w1_98 : Cond.methodLink RX0 15 Lib.Math.max.name ∈ wsL_law := wm1 (List.mem_of_getElem? (i := 98) rfl) rfl
theorem w1_99 : Cond.static Lib.Math.max.name ∈ wsL_law := wm1 (List.mem_of_getElem? (i := 99) rfl) rfl
theorem w1_100 : Cond.code Lib.Math.max.name Lib.Math.max.code 2 (Option.some FieldType.int) ∈ wsL_law := wm1 (List.mem_of_getElem? (i := 100) rfl) rfl
theorem w1_101 : Cond.methodLink RX0 28 yJ7_fill_d0a16 ∈ wsL_law := wm1 (List.mem_of_getElem? (i := 101) rfl) rfl
theorem w1_102 : Cond.static yJ7_fill_d0a16 ∈ wsL_law := wm1 (List.mem_of_getElem? (i := 102) rfl) rfl
theorem w1_103 : Cond.code yJ7_fill_d0a16 cJ7_fill_d0a16 5 none ∈ wsL_law := wm1 (List.mem_of_getElem? (i := 103) rfl) rfl
theorem w1_104 : Cond.methodLink RX5 172 yX5_drafted ∈ wsL_law := wm1 (List.mem_of_getElem? (i := 104) rfl) rfl
theorem w1_106 : Cond.instanceMethod yX5_drafted ∈ wsL_law := wm1 (List.mem_of_getElem? (i := 106) rfl) rfl
theorem w1_107 : Cond.code yX5_drafted cX5_drafted 1 (Option.some (FieldType.object "NumberMachines$Round")) ∈ wsL_law := wm1 (List.mem_of_getElem? (i := 107) rfl) rfl
theorem w1_108 : Cond.methodLink RX5 176 yX0_reduce ∈ wsL_law := wm1 (List.mem_of_getElem? (i := 108) rfl) rfl
theorem w1_109 : Cond.instanceMethod yX0_reduce ∈ wsL_law := wm1 (List.mem_of_getElem? (i := 109) rfl) rfl
theorem w1_110 : Cond.selects RX0 yX0_reduce yX0_reduce ∈ wsL_law := wm1 (List.mem_of_getElem? (i := 110) rfl) rfl
theorem w1_111 : Cond.code yX0_reduce cX0_reduce 2 (Option.some FieldType.boolean) ∈ wsL_law := wm1 (List.mem_of_getElem? (i := 111) rfl) rfl
theorem w1_112 : Cond.methodLink RX0 38 yX0_leastPeriod ∈ wsL_law := wm1 (List.mem_of_getElem? (i := 112) rfl) rfl
theorem w1_114 : Cond.instanceMethod yX0_leastPeriod ∈ wsL_law := wm1 (List.mem_of_getElem? (i := 114) rfl) rfl
theorem w1_115 : Cond.code yX0_leastPeriod cX0_leastPeriod 2 (Option.some FieldType.int) ∈ wsL_law := wm1 (List.mem_of_getElem? (i := 115) rfl) rfl
theorem w1_116 : Cond.methodLink RX0 48 yX0_comesRoundBy ∈ wsL_law := wm1 (List.mem_of_getElem? (i := 116) rfl) rfl
theorem w1_118 : Cond.instanceMethod yX0_comesRoundBy ∈ wsL_law := wm1 (List.mem_of_getElem? (i := 118) rfl) rfl
theorem w1_119 : Cond.code yX0_comesRoundBy cX0_comesRoundBy 3 (Option.some FieldType.boolean) ∈ wsL_law := wm1 (List.mem_of_getElem? (i := 119) rfl) rfl
theorem w1_120 : Cond.methodLink RX0 52 yX0_length ∈ wsL_law := wm1 (List.mem_of_getElem? (i := 120) rfl) rfl
theorem w1_121 : Cond.instanceMethod yX0_length ∈ wsL_law := wm1 (List.mem_of_getElem? (i := 121) rfl) rfl
theorem w1_122 : Cond.selects RX0 yX0_length yX0_length ∈ wsL_law := wm1 (List.mem_of_getElem? (i := 122) rfl) rfl
theorem w1_123 : Cond.code yX0_length cX0_length 1 (Option.some FieldType.int) ∈ wsL_law := wm1 (List.mem_of_getElem? (i := 123) rfl) rfl
theorem w1_125 : Cond.static yX5_bit ∈ wsL_law := wm1 (List.mem_of_getElem? (i := 125) rfl) rfl
theorem w1_126 : Cond.code yX5_bit cX5_bit 3 (Option.some FieldType.boolean) ∈ wsL_law := wm1 (List.mem_of_getElem? (i := 126) rfl) rfl
theorem w1_127 : Cond.methodLink RX0 42 yX0_leastStart ∈ wsL_law := wm1 (List.mem_of_getElem? (i := 127) rfl) rfl
theorem w1_129 : Cond.instanceMethod yX0_leastStart ∈ wsL_law := wm1 (List.mem_of_getElem? (i := 129) rfl) rfl
theorem w1_130 : Cond.code yX0_leastStart cX0_leastStart 2 (Option.some FieldType.int) ∈ wsL_law := wm1 (List.mem_of_getElem? (i := 130) rfl) rfl
theorem w1_131 : Cond.methodLink RX0 45 yX0_clearBehind ∈ wsL_law := wm1 (List.mem_of_getElem? (i := 131) rfl) rfl
theorem w1_133 : Cond.instanceMethod yX0_clearBehind ∈ wsL_law := wm1 (List.mem_of_getElem? (i := 133) rfl) rfl
theorem w1_134 : Cond.code yX0_clearBehind cX0_clearBehind 2 none ∈ wsL_law := wm1 (List.mem_of_getElem? (i := 134) rfl) rfl
theorem w1_136 : Cond.static yX5_clearBit ∈ wsL_law := wm1 (List.mem_of_getElem? (i := 136) rfl) rfl
theorem w1_137 : Cond.code yX5_clearBit cX5_clearBit 3 none ∈ wsL_law := wm1 (List.mem_of_getElem? (i := 137) rfl) rfl
theorem w1_138 : Cond.constantLong RX5 217 (-1 : Int64) ∈ wsL_law := wm1 (List.mem_of_getElem? (i := 138) rfl) rfl
theorem w1_139 : Cond.methodLink RX5 180 yX4_trace ∈ wsL_law := wm1 (List.mem_of_getElem? (i := 139) rfl) rfl
theorem w1_140 : Cond.instanceMethod yX4_trace ∈ wsL_law := wm1 (List.mem_of_getElem? (i := 140) rfl) rfl
theorem w1_141 : Cond.selects RX4 yX4_trace yX4_trace ∈ wsL_law := wm1 (List.mem_of_getElem? (i := 141) rfl) rfl
theorem w1_142 : Cond.code yX4_trace cX4_trace 6 (Option.some FieldType.boolean) ∈ wsL_law := wm1 (List.mem_of_getElem? (i := 142) rfl) rfl
theorem w1_143 : Cond.methodLink RX4 28 Lib.Math.min.name ∈ wsL_law := wm1 (List.mem_of_getElem? (i := 143) rfl) rfl
theorem w1_144 : Cond.static Lib.Math.min.name ∈ wsL_law := wm1 (List.mem_of_getElem? (i := 144) rfl) rfl
theorem w1_145 : Cond.code Lib.Math.min.name Lib.Math.min.code 2 (Option.some FieldType.int) ∈ wsL_law := wm1 (List.mem_of_getElem? (i := 145) rfl) rfl
theorem w1_146 : Cond.methodLink RX4 42 arraycopyName ∈ wsL_law := wm1 (List.mem_of_getElem? (i := 146) rfl) rfl
theorem w1_147 : Cond.static arraycopyName ∈ wsL_law := wm1 (List.mem_of_getElem? (i := 147) rfl) rfl
theorem w1_148 : Cond.native arraycopyName ∈ wsL_law := wm1 (List.mem_of_getElem? (i := 148) rfl) rfl
theorem w1_149 : Cond.methodLink RX4 51 yX4_writeRest ∈ wsL_law := wm1 (List.mem_of_getElem? (i := 149) rfl) rfl
theorem w1_151 : Cond.instanceMethod yX4_writeRest ∈ wsL_law := wm1 (List.mem_of_getElem? (i := 151) rfl) rfl
theorem w1_152 : Cond.code yX4_writeRest cX4_writeRest 7 none ∈ wsL_law := wm1 (List.mem_of_getElem? (i := 152) rfl) rfl
theorem w1_154 : Cond.static yX5_folded ∈ wsL_law := wm1 (List.mem_of_getElem? (i := 154) rfl) rfl
theorem w1_155 : Cond.code yX5_folded cX5_folded 3 (Option.some FieldType.int) ∈ wsL_law := wm1 (List.mem_of_getElem? (i := 155) rfl) rfl
theorem w1_156 : Cond.methodLink RX4 55 yX4_metAs ∈ wsL_law := wm1 (List.mem_of_getElem? (i := 156) rfl) rfl
theorem w1_158 : Cond.instanceMethod yX4_metAs ∈ wsL_law := wm1 (List.mem_of_getElem? (i := 158) rfl) rfl
theorem w1_159 : Cond.code yX4_metAs cX4_metAs 2 (Option.some FieldType.int) ∈ wsL_law := wm1 (List.mem_of_getElem? (i := 159) rfl) rfl
theorem w1_160 : Cond.methodLink RX4 77 yX4_sameRows ∈ wsL_law := wm1 (List.mem_of_getElem? (i := 160) rfl) rfl
theorem w1_162 : Cond.instanceMethod yX4_sameRows ∈ wsL_law := wm1 (List.mem_of_getElem? (i := 162) rfl) rfl
theorem w1_163 : Cond.code yX4_sameRows cX4_sameRows 4 (Option.some FieldType.boolean) ∈ wsL_law := wm1 (List.mem_of_getElem? (i := 163) rfl) rfl
theorem w1_164 : Cond.methodLink RX4 59 Lib.Math.max.name ∈ wsL_law := wm1 (List.mem_of_getElem? (i := 164) rfl) rfl
theorem w1_165 : Cond.instantiable RX3 4 ∈ wsL_law := wm1 (List.mem_of_getElem? (i := 165) rfl) rfl
theorem w1_166 : Cond.methodLink RX5 184 yX4_machine ∈ wsL_law := wm1 (List.mem_of_getElem? (i := 166) rfl) rfl
theorem w1_167 : Cond.instanceMethod yX4_machine ∈ wsL_law := wm1 (List.mem_of_getElem? (i := 167) rfl) rfl
theorem w1_168 : Cond.selects RX4 yX4_machine yX4_machine ∈ wsL_law := wm1 (List.mem_of_getElem? (i := 168) rfl) rfl
theorem w1_169 : Cond.code yX4_machine cX4_machine 4 (Option.some (FieldType.object "NumberMachines$Machine")) ∈ wsL_law := wm1 (List.mem_of_getElem? (i := 169) rfl) rfl
theorem w1_170 : Cond.classLink RX4 62 RX2 ∈ wsL_law := wm1 (List.mem_of_getElem? (i := 170) rfl) rfl
theorem w1_171 : Cond.instantiable RX2 4 ∈ wsL_law := wm1 (List.mem_of_getElem? (i := 171) rfl) rfl
theorem w1_172 : Cond.methodLink RX4 64 yJ7_copyOf_59c91 ∈ wsL_law := wm1 (List.mem_of_getElem? (i := 172) rfl) rfl
theorem w1_173 : Cond.static yJ7_copyOf_59c91 ∈ wsL_law := wm1 (List.mem_of_getElem? (i := 173) rfl) rfl
theorem w1_174 : Cond.code yJ7_copyOf_59c91 cJ7_copyOf_59c91 3 (Option.some (FieldType.array FieldType.int)) ∈ wsL_law := wm1 (List.mem_of_getElem? (i := 174) rfl) rfl
theorem w1_175 : Cond.methodLink RJ7 316 ⟨"[I", "clone", "()Ljava/lang/Object;"⟩ ∈ wsL_law := wm1 (List.mem_of_getElem? (i := 175) rfl) rfl
theorem w1_176 : Cond.sameMethod "[I" "java/lang/Object" "clone" "()Ljava/lang/Object;" ∈ wsL_law := wm1 (List.mem_of_getElem? (i := 176) rfl) rfl
theorem w1_177 : Cond.native ⟨"java/lang/Object", "clone", "()Ljava/lang/Object;"⟩ ∈ wsL_law := wm1 (List.mem_of_getElem? (i := 177) rfl) rfl
theorem w1_178 : Cond.instanceMethod ⟨"java/lang/Object", "clone", "()Ljava/lang/Object;"⟩ ∈ wsL_law := wm1 (List.mem_of_getElem? (i := 178) rfl) rfl
theorem w1_179 : Cond.selects "[I" ⟨"[I", "clone", "()Ljava/lang/Object;"⟩ ⟨"java/lang/Object", "clone", "()Ljava/lang/Object;"⟩ ∈ wsL_law := wm1 (List.mem_of_getElem? (i := 179) rfl) rfl
theorem w1_181 : Cond.classLink RJ7 317 "[I" ∈ wsL_law := wm1 (List.mem_of_getElem? (i := 181) rfl) rfl
theorem w1_182 : Cond.methodLink RJ7 304 Lib.Math.min.name ∈ wsL_law := wm1 (List.mem_of_getElem? (i := 182) rfl) rfl
theorem w1_183 : Cond.methodLink RJ7 150 arraycopyName ∈ wsL_law := wm1 (List.mem_of_getElem? (i := 183) rfl) rfl
theorem w1_184 : Cond.methodLink RX4 70 yX2_init ∈ wsL_law := wm1 (List.mem_of_getElem? (i := 184) rfl) rfl
theorem w1_185 : Cond.instanceMethod yX2_init ∈ wsL_law := wm1 (List.mem_of_getElem? (i := 185) rfl) rfl
theorem w1_186 : Cond.code yX2_init cX2_init 6 none ∈ wsL_law := wm1 (List.mem_of_getElem? (i := 186) rfl) rfl
theorem w1_187 : Cond.methodLink RX2 3 objectInit ∈ wsL_law := wm1 (List.mem_of_getElem? (i := 187) rfl) rfl
theorem w1_188 : Cond.fieldLink RX2 9 "NumberMachines$Machine" "base" "I" ∈ wsL_law := wm1 (List.mem_of_getElem? (i := 188) rfl) rfl
theorem w1_189 : Cond.fieldLink RX2 15 "NumberMachines$Machine" "states" "I" ∈ wsL_law := wm1 (List.mem_of_getElem? (i := 189) rfl) rfl
theorem w1_191 : Cond.fieldLink RX2 18 "NumberMachines$Machine" "goes" "[I" ∈ wsL_law := wm1 (List.mem_of_getElem? (i := 191) rfl) rfl
theorem w1_192 : Cond.fieldLink RX2 22 "NumberMachines$Machine" "good" "J" ∈ wsL_law := wm1 (List.mem_of_getElem? (i := 192) rfl) rfl
theorem w1_194 : Cond.laysFinal RX2 "NumberMachines$Machine" "base" "I" ∈ wsL_law := wm1 (List.mem_of_getElem? (i := 194) rfl) rfl
theorem w1_196 : Cond.laysFinal RX2 "NumberMachines$Machine" "states" "I" ∈ wsL_law := wm1 (List.mem_of_getElem? (i := 196) rfl) rfl
theorem w1_198 : Cond.laysFinal RX2 "NumberMachines$Machine" "goes" "[I" ∈ wsL_law := wm1 (List.mem_of_getElem? (i := 198) rfl) rfl
theorem w1_200 : Cond.laysFinal RX2 "NumberMachines$Machine" "good" "J" ∈ wsL_law := wm1 (List.mem_of_getElem? (i := 200) rfl) rfl
theorem w1_203 : Cond.methodLink RX5 187 yX3_init ∈ wsL_law := wm1 (List.mem_of_getElem? (i := 203) rfl) rfl
theorem w1_204 : Cond.instanceMethod yX3_init ∈ wsL_law := wm1 (List.mem_of_getElem? (i := 204) rfl) rfl
theorem w1_205 : Cond.code yX3_init cX3_init 3 none ∈ wsL_law := wm1 (List.mem_of_getElem? (i := 205) rfl) rfl
theorem w1_206 : Cond.methodLink RX3 3 objectInit ∈ wsL_law := wm1 (List.mem_of_getElem? (i := 206) rfl) rfl
theorem w1_207 : Cond.methodLink RX3 26 yJ7_copyOf_c38d5 ∈ wsL_law := wm1 (List.mem_of_getElem? (i := 207) rfl) rfl
theorem w1_208 : Cond.static yJ7_copyOf_c38d5 ∈ wsL_law := wm1 (List.mem_of_getElem? (i := 208) rfl) rfl
theorem w1_209 : Cond.code yJ7_copyOf_c38d5 cJ7_copyOf_c38d5 3 (Option.some (FieldType.array FieldType.long)) ∈ wsL_law := wm1 (List.mem_of_getElem? (i := 209) rfl) rfl
theorem w1_210 : Cond.methodLink RJ7 319 ⟨"[J", "clone", "()Ljava/lang/Object;"⟩ ∈ wsL_law := wm1 (List.mem_of_getElem? (i := 210) rfl) rfl
theorem w1_211 : Cond.sameMethod "[J" "java/lang/Object" "clone" "()Ljava/lang/Object;" ∈ wsL_law := wm1 (List.mem_of_getElem? (i := 211) rfl) rfl
theorem w1_212 : Cond.selects "[J" ⟨"[J", "clone", "()Ljava/lang/Object;"⟩ ⟨"java/lang/Object", "clone", "()Ljava/lang/Object;"⟩ ∈ wsL_law := wm1 (List.mem_of_getElem? (i := 212) rfl) rfl
theorem w1_214 : Cond.classLink RJ7 320 "[J" ∈ wsL_law := wm1 (List.mem_of_getElem? (i := 214) rfl) rfl
theorem w1_215 : Cond.fieldLink RX3 15 "NumberMachines$Round" "start" "I" ∈ wsL_law := wm1 (List.mem_of_getElem? (i := 215) rfl) rfl
theorem w1_217 : Cond.fieldLink RX3 21 "NumberMachines$Round" "period" "I" ∈ wsL_law := wm1 (List.mem_of_getElem? (i := 217) rfl) rfl
theorem w1_219 : Cond.fieldLink RX3 32 "NumberMachines$Round" "row" "[J" ∈ wsL_law := wm1 (List.mem_of_getElem? (i := 219) rfl) rfl
theorem w1_220 : Cond.fieldLink RX3 33 "NumberMachines$Round" "machine" "LNumberMachines$Machine;" ∈ wsL_law := wm1 (List.mem_of_getElem? (i := 220) rfl) rfl
theorem w1_222 : Cond.laysFinal RX3 "NumberMachines$Round" "start" "I" ∈ wsL_law := wm1 (List.mem_of_getElem? (i := 222) rfl) rfl
theorem w1_224 : Cond.laysFinal RX3 "NumberMachines$Round" "period" "I" ∈ wsL_law := wm1 (List.mem_of_getElem? (i := 224) rfl) rfl
theorem w1_226 : Cond.laysFinal RX3 "NumberMachines$Round" "row" "[J" ∈ wsL_law := wm1 (List.mem_of_getElem? (i := 226) rfl) rfl
theorem w1_228 : Cond.laysFinal RX3 "NumberMachines$Round" "machine" "LNumberMachines$Machine;" ∈ wsL_law := wm1 (List.mem_of_getElem? (i := 228) rfl) rfl
theorem w1_231 : Cond.fieldLink RX5 11 "NumberMachines" "slots" "[LNumberMachines$Round;" ∈ wsL_law := wm1 (List.mem_of_getElem? (i := 231) rfl) rfl
theorem w1_232 : Cond.fieldLink RX5 17 "NumberMachines" "images" "[LNumberMachines$Image;" ∈ wsL_law := wm1 (List.mem_of_getElem? (i := 232) rfl) rfl
theorem w1_233 : Cond.fieldLink RX5 24 "NumberMachines" "draft" "LNumberMachines$Draft;" ∈ wsL_law := wm1 (List.mem_of_getElem? (i := 233) rfl) rfl
theorem w1_234 : Cond.fieldLink RX5 31 "NumberMachines" "tracer" "LNumberMachines$Tracer;" ∈ wsL_law := wm1 (List.mem_of_getElem? (i := 234) rfl) rfl
theorem w1_235 : Cond.fieldLink RX5 40 "NumberMachines" "base" "I" ∈ wsL_law := wm1 (List.mem_of_getElem? (i := 235) rfl) rfl
theorem w1_236 : Cond.laysFinal RX5 "NumberMachines" "slots" "[LNumberMachines$Round;" ∈ wsL_law := wm1 (List.mem_of_getElem? (i := 236) rfl) rfl
theorem w1_238 : Cond.laysFinal RX5 "NumberMachines" "images" "[LNumberMachines$Image;" ∈ wsL_law := wm1 (List.mem_of_getElem? (i := 238) rfl) rfl
theorem w2_0 : Cond.laysFinal RX5 "NumberMachines" "draft" "LNumberMachines$Draft;" ∈ wsL_law := wm2 (List.mem_of_getElem? (i := 0) rfl) rfl
theorem w2_2 : Cond.laysFinal RX5 "NumberMachines" "tracer" "LNumberMachines$Tracer;" ∈ wsL_law := wm2 (List.mem_of_getElem? (i := 2) rfl) rfl
theorem w2_4 : Cond.lays RX5 "NumberMachines" "base" "I" ∈ wsL_law := wm2 (List.mem_of_getElem? (i := 4) rfl) rfl
theorem w2_7 : Cond.methodLink RL 13 yX5_base ∈ wsL_law := wm2 (List.mem_of_getElem? (i := 7) rfl) rfl
theorem w2_8 : Cond.instanceMethod yX5_base ∈ wsL_law := wm2 (List.mem_of_getElem? (i := 8) rfl) rfl
theorem w2_9 : Cond.selects RX5 yX5_base yX5_base ∈ wsL_law := wm2 (List.mem_of_getElem? (i := 9) rfl) rfl
theorem w2_10 : Cond.code yX5_base cX5_base 3 (Option.some FieldType.int) ∈ wsL_law := wm2 (List.mem_of_getElem? (i := 10) rfl) rfl
theorem w2_11 : Cond.methodLink RL 18 yX5_put ∈ wsL_law := wm2 (List.mem_of_getElem? (i := 11) rfl) rfl
theorem w2_12 : Cond.instanceMethod yX5_put ∈ wsL_law := wm2 (List.mem_of_getElem? (i := 12) rfl) rfl
theorem w2_13 : Cond.selects RX5 yX5_put yX5_put ∈ wsL_law := wm2 (List.mem_of_getElem? (i := 13) rfl) rfl
theorem w2_14 : Cond.code yX5_put cX5_put 5 (Option.some FieldType.int) ∈ wsL_law := wm2 (List.mem_of_getElem? (i := 14) rfl) rfl
theorem w2_15 : Cond.methodLink RX5 44 yX5_unknown ∈ wsL_law := wm2 (List.mem_of_getElem? (i := 15) rfl) rfl
theorem w2_17 : Cond.instanceMethod yX5_unknown ∈ wsL_law := wm2 (List.mem_of_getElem? (i := 17) rfl) rfl
theorem w2_18 : Cond.code yX5_unknown cX5_unknown 2 (Option.some FieldType.boolean) ∈ wsL_law := wm2 (List.mem_of_getElem? (i := 18) rfl) rfl
theorem w2_19 : Cond.methodLink RX5 48 yX5_within ∈ wsL_law := wm2 (List.mem_of_getElem? (i := 19) rfl) rfl
theorem w2_20 : Cond.static yX5_within ∈ wsL_law := wm2 (List.mem_of_getElem? (i := 20) rfl) rfl
theorem w2_21 : Cond.code yX5_within cX5_within 3 (Option.some FieldType.boolean) ∈ wsL_law := wm2 (List.mem_of_getElem? (i := 21) rfl) rfl
theorem w2_22 : Cond.methodLink RX5 52 yX5_draftKind ∈ wsL_law := wm2 (List.mem_of_getElem? (i := 22) rfl) rfl
theorem w2_24 : Cond.instanceMethod yX5_draftKind ∈ wsL_law := wm2 (List.mem_of_getElem? (i := 24) rfl) rfl
theorem w2_25 : Cond.code yX5_draftKind cX5_draftKind 4 none ∈ wsL_law := wm2 (List.mem_of_getElem? (i := 25) rfl) rfl
theorem w2_26 : Cond.methodLink RX5 190 yX0_mark ∈ wsL_law := wm2 (List.mem_of_getElem? (i := 26) rfl) rfl
theorem w2_27 : Cond.instanceMethod yX0_mark ∈ wsL_law := wm2 (List.mem_of_getElem? (i := 27) rfl) rfl
theorem w2_28 : Cond.selects RX0 yX0_mark yX0_mark ∈ wsL_law := wm2 (List.mem_of_getElem? (i := 28) rfl) rfl
theorem w2_29 : Cond.code yX0_mark cX0_mark 2 none ∈ wsL_law := wm2 (List.mem_of_getElem? (i := 29) rfl) rfl
theorem w2_31 : Cond.static yX5_setBit ∈ wsL_law := wm2 (List.mem_of_getElem? (i := 31) rfl) rfl
theorem w2_32 : Cond.code yX5_setBit cX5_setBit 3 none ∈ wsL_law := wm2 (List.mem_of_getElem? (i := 32) rfl) rfl
theorem w2_33 : Cond.methodLink RX5 56 yX5_hold ∈ wsL_law := wm2 (List.mem_of_getElem? (i := 33) rfl) rfl
theorem w2_35 : Cond.instanceMethod yX5_hold ∈ wsL_law := wm2 (List.mem_of_getElem? (i := 35) rfl) rfl
theorem w2_36 : Cond.code yX5_hold cX5_hold 3 (Option.some FieldType.int) ∈ wsL_law := wm2 (List.mem_of_getElem? (i := 36) rfl) rfl
theorem w2_37 : Cond.methodLink RL 23 yX5_join ∈ wsL_law := wm2 (List.mem_of_getElem? (i := 37) rfl) rfl
theorem w2_38 : Cond.instanceMethod yX5_join ∈ wsL_law := wm2 (List.mem_of_getElem? (i := 38) rfl) rfl
theorem w2_39 : Cond.selects RX5 yX5_join yX5_join ∈ wsL_law := wm2 (List.mem_of_getElem? (i := 39) rfl) rfl
theorem w2_40 : Cond.code yX5_join cX5_join 5 (Option.some FieldType.int) ∈ wsL_law := wm2 (List.mem_of_getElem? (i := 40) rfl) rfl
theorem w2_41 : Cond.methodLink RX5 60 yX5_draftJoin ∈ wsL_law := wm2 (List.mem_of_getElem? (i := 41) rfl) rfl
theorem w2_43 : Cond.instanceMethod yX5_draftJoin ∈ wsL_law := wm2 (List.mem_of_getElem? (i := 43) rfl) rfl
theorem w2_44 : Cond.code yX5_draftJoin cX5_draftJoin 7 none ∈ wsL_law := wm2 (List.mem_of_getElem? (i := 44) rfl) rfl
theorem w2_45 : Cond.methodLink RX5 193 Lib.Math.max.name ∈ wsL_law := wm2 (List.mem_of_getElem? (i := 45) rfl) rfl
theorem w2_46 : Cond.methodLink RX5 198 yX5_leastCommon ∈ wsL_law := wm2 (List.mem_of_getElem? (i := 46) rfl) rfl
theorem w2_47 : Cond.static yX5_leastCommon ∈ wsL_law := wm2 (List.mem_of_getElem? (i := 47) rfl) rfl
theorem w2_48 : Cond.code yX5_leastCommon cX5_leastCommon 3 (Option.some FieldType.int) ∈ wsL_law := wm2 (List.mem_of_getElem? (i := 48) rfl) rfl
theorem w2_49 : Cond.methodLink RX5 201 yX0_length ∈ wsL_law := wm2 (List.mem_of_getElem? (i := 49) rfl) rfl
theorem w2_50 : Cond.methodLink RX5 204 yX3_at ∈ wsL_law := wm2 (List.mem_of_getElem? (i := 50) rfl) rfl
theorem w2_51 : Cond.instanceMethod yX3_at ∈ wsL_law := wm2 (List.mem_of_getElem? (i := 51) rfl) rfl
theorem w2_52 : Cond.selects RX3 yX3_at yX3_at ∈ wsL_law := wm2 (List.mem_of_getElem? (i := 52) rfl) rfl
theorem w2_53 : Cond.code yX3_at cX3_at 2 (Option.some FieldType.boolean) ∈ wsL_law := wm2 (List.mem_of_getElem? (i := 53) rfl) rfl
theorem w2_55 : Cond.methodLink RX5 207 yX5_joined ∈ wsL_law := wm2 (List.mem_of_getElem? (i := 55) rfl) rfl
theorem w2_56 : Cond.static yX5_joined ∈ wsL_law := wm2 (List.mem_of_getElem? (i := 56) rfl) rfl
theorem w2_57 : Cond.code yX5_joined cX5_joined 3 (Option.some FieldType.boolean) ∈ wsL_law := wm2 (List.mem_of_getElem? (i := 57) rfl) rfl
theorem w2_58 : Cond.methodLink RX5 211 yX3_placeAfter ∈ wsL_law := wm2 (List.mem_of_getElem? (i := 58) rfl) rfl
theorem w2_59 : Cond.instanceMethod yX3_placeAfter ∈ wsL_law := wm2 (List.mem_of_getElem? (i := 59) rfl) rfl
theorem w2_60 : Cond.selects RX3 yX3_placeAfter yX3_placeAfter ∈ wsL_law := wm2 (List.mem_of_getElem? (i := 60) rfl) rfl
theorem w2_61 : Cond.code yX3_placeAfter cX3_placeAfter 2 (Option.some FieldType.int) ∈ wsL_law := wm2 (List.mem_of_getElem? (i := 61) rfl) rfl
theorem w2_62 : Cond.methodLink RL 27 yX5_turn ∈ wsL_law := wm2 (List.mem_of_getElem? (i := 62) rfl) rfl
theorem w2_63 : Cond.instanceMethod yX5_turn ∈ wsL_law := wm2 (List.mem_of_getElem? (i := 63) rfl) rfl
theorem w2_64 : Cond.selects RX5 yX5_turn yX5_turn ∈ wsL_law := wm2 (List.mem_of_getElem? (i := 64) rfl) rfl
theorem w2_65 : Cond.code yX5_turn cX5_turn 3 (Option.some FieldType.int) ∈ wsL_law := wm2 (List.mem_of_getElem? (i := 65) rfl) rfl
theorem w2_66 : Cond.methodLink RX5 64 yX5_draftTurn ∈ wsL_law := wm2 (List.mem_of_getElem? (i := 66) rfl) rfl
theorem w2_68 : Cond.instanceMethod yX5_draftTurn ∈ wsL_law := wm2 (List.mem_of_getElem? (i := 68) rfl) rfl
theorem w2_69 : Cond.code yX5_draftTurn cX5_draftTurn 3 none ∈ wsL_law := wm2 (List.mem_of_getElem? (i := 69) rfl) rfl
theorem w2_70 : Cond.methodLink RL 32 yX5_shift ∈ wsL_law := wm2 (List.mem_of_getElem? (i := 70) rfl) rfl
theorem w2_71 : Cond.instanceMethod yX5_shift ∈ wsL_law := wm2 (List.mem_of_getElem? (i := 71) rfl) rfl
theorem w2_72 : Cond.selects RX5 yX5_shift yX5_shift ∈ wsL_law := wm2 (List.mem_of_getElem? (i := 72) rfl) rfl
theorem w2_73 : Cond.code yX5_shift cX5_shift 4 (Option.some FieldType.int) ∈ wsL_law := wm2 (List.mem_of_getElem? (i := 73) rfl) rfl
theorem w2_74 : Cond.methodLink RX5 68 yX5_draftShift ∈ wsL_law := wm2 (List.mem_of_getElem? (i := 74) rfl) rfl
theorem w2_76 : Cond.instanceMethod yX5_draftShift ∈ wsL_law := wm2 (List.mem_of_getElem? (i := 76) rfl) rfl
theorem w2_77 : Cond.code yX5_draftShift cX5_draftShift 4 none ∈ wsL_law := wm2 (List.mem_of_getElem? (i := 77) rfl) rfl
theorem w2_78 : Cond.methodLink RX5 126 yX3_holds ∈ wsL_law := wm2 (List.mem_of_getElem? (i := 78) rfl) rfl
theorem w2_79 : Cond.instanceMethod yX3_holds ∈ wsL_law := wm2 (List.mem_of_getElem? (i := 79) rfl) rfl
theorem w2_80 : Cond.selects RX3 yX3_holds yX3_holds ∈ wsL_law := wm2 (List.mem_of_getElem? (i := 80) rfl) rfl
theorem w2_81 : Cond.code yX3_holds cX3_holds 2 (Option.some FieldType.boolean) ∈ wsL_law := wm2 (List.mem_of_getElem? (i := 81) rfl) rfl
theorem w2_83 : Cond.methodLink RX3 41 yX3_at ∈ wsL_law := wm2 (List.mem_of_getElem? (i := 83) rfl) rfl
theorem w2_84 : Cond.methodLink RL 37 yX5_stretch ∈ wsL_law := wm2 (List.mem_of_getElem? (i := 84) rfl) rfl
theorem w2_85 : Cond.instanceMethod yX5_stretch ∈ wsL_law := wm2 (List.mem_of_getElem? (i := 85) rfl) rfl
theorem w2_86 : Cond.selects RX5 yX5_stretch yX5_stretch ∈ wsL_law := wm2 (List.mem_of_getElem? (i := 86) rfl) rfl
theorem w2_87 : Cond.code yX5_stretch cX5_stretch 5 (Option.some FieldType.int) ∈ wsL_law := wm2 (List.mem_of_getElem? (i := 87) rfl) rfl
theorem w2_88 : Cond.methodLink RX5 72 yX5_draftStretch ∈ wsL_law := wm2 (List.mem_of_getElem? (i := 88) rfl) rfl
theorem w2_90 : Cond.instanceMethod yX5_draftStretch ∈ wsL_law := wm2 (List.mem_of_getElem? (i := 90) rfl) rfl
theorem w2_91 : Cond.code yX5_draftStretch cX5_draftStretch 5 none ∈ wsL_law := wm2 (List.mem_of_getElem? (i := 91) rfl) rfl
theorem w2_92 : Cond.methodLink RL 41 yX5_shrink ∈ wsL_law := wm2 (List.mem_of_getElem? (i := 92) rfl) rfl
theorem w2_93 : Cond.instanceMethod yX5_shrink ∈ wsL_law := wm2 (List.mem_of_getElem? (i := 93) rfl) rfl
theorem w2_94 : Cond.selects RX5 yX5_shrink yX5_shrink ∈ wsL_law := wm2 (List.mem_of_getElem? (i := 94) rfl) rfl
theorem w2_95 : Cond.code yX5_shrink cX5_shrink 5 (Option.some FieldType.int) ∈ wsL_law := wm2 (List.mem_of_getElem? (i := 95) rfl) rfl
theorem w2_96 : Cond.methodLink RX5 76 yX5_draftShrink ∈ wsL_law := wm2 (List.mem_of_getElem? (i := 96) rfl) rfl
theorem w2_98 : Cond.instanceMethod yX5_draftShrink ∈ wsL_law := wm2 (List.mem_of_getElem? (i := 98) rfl) rfl
theorem w2_99 : Cond.code yX5_draftShrink cX5_draftShrink 5 none ∈ wsL_law := wm2 (List.mem_of_getElem? (i := 99) rfl) rfl
theorem w2_100 : Cond.methodLink RL 45 yX5_told ∈ wsL_law := wm2 (List.mem_of_getElem? (i := 100) rfl) rfl
theorem w2_101 : Cond.instanceMethod yX5_told ∈ wsL_law := wm2 (List.mem_of_getElem? (i := 101) rfl) rfl
theorem w2_102 : Cond.selects RX5 yX5_told yX5_told ∈ wsL_law := wm2 (List.mem_of_getElem? (i := 102) rfl) rfl
theorem w2_103 : Cond.code yX5_told cX5_told 4 (Option.some FieldType.int) ∈ wsL_law := wm2 (List.mem_of_getElem? (i := 103) rfl) rfl
theorem w2_104 : Cond.methodLink RX5 98 yJ13_bitCount_95d88 ∈ wsL_law := wm2 (List.mem_of_getElem? (i := 104) rfl) rfl
theorem w2_105 : Cond.static yJ13_bitCount_95d88 ∈ wsL_law := wm2 (List.mem_of_getElem? (i := 105) rfl) rfl
theorem w2_106 : Cond.code yJ13_bitCount_95d88 cJ13_bitCount_95d88 2 (Option.some FieldType.int) ∈ wsL_law := wm2 (List.mem_of_getElem? (i := 106) rfl) rfl
theorem w2_107 : Cond.constantLong RJ13 314 (6148914691236517205 : Int64) ∈ wsL_law := wm2 (List.mem_of_getElem? (i := 107) rfl) rfl
theorem w2_108 : Cond.constantLong RJ13 316 (3689348814741910323 : Int64) ∈ wsL_law := wm2 (List.mem_of_getElem? (i := 108) rfl) rfl
theorem w2_109 : Cond.constantLong RJ13 318 (1085102592571150095 : Int64) ∈ wsL_law := wm2 (List.mem_of_getElem? (i := 109) rfl) rfl
theorem w2_110 : Cond.methodLink RX5 104 yX3_numbersBefore ∈ wsL_law := wm2 (List.mem_of_getElem? (i := 110) rfl) rfl
theorem w2_111 : Cond.instanceMethod yX3_numbersBefore ∈ wsL_law := wm2 (List.mem_of_getElem? (i := 111) rfl) rfl
theorem w2_112 : Cond.selects RX3 yX3_numbersBefore yX3_numbersBefore ∈ wsL_law := wm2 (List.mem_of_getElem? (i := 112) rfl) rfl
theorem w2_113 : Cond.code yX3_numbersBefore cX3_numbersBefore 4 (Option.some FieldType.int) ∈ wsL_law := wm2 (List.mem_of_getElem? (i := 113) rfl) rfl
theorem w2_114 : Cond.methodLink RX3 52 yX3_placesBefore ∈ wsL_law := wm2 (List.mem_of_getElem? (i := 114) rfl) rfl
theorem w2_116 : Cond.instanceMethod yX3_placesBefore ∈ wsL_law := wm2 (List.mem_of_getElem? (i := 116) rfl) rfl
theorem w2_117 : Cond.code yX3_placesBefore cX3_placesBefore 4 (Option.some FieldType.int) ∈ wsL_law := wm2 (List.mem_of_getElem? (i := 117) rfl) rfl
theorem w2_118 : Cond.methodLink RL 49 yX5_state ∈ wsL_law := wm2 (List.mem_of_getElem? (i := 118) rfl) rfl
theorem w2_119 : Cond.instanceMethod yX5_state ∈ wsL_law := wm2 (List.mem_of_getElem? (i := 119) rfl) rfl
theorem w2_120 : Cond.selects RX5 yX5_state yX5_state ∈ wsL_law := wm2 (List.mem_of_getElem? (i := 120) rfl) rfl
theorem w2_121 : Cond.code yX5_state cX5_state 5 (Option.some FieldType.int) ∈ wsL_law := wm2 (List.mem_of_getElem? (i := 121) rfl) rfl
theorem w2_122 : Cond.methodLink RX5 107 yX2_after ∈ wsL_law := wm2 (List.mem_of_getElem? (i := 122) rfl) rfl
theorem w2_123 : Cond.instanceMethod yX2_after ∈ wsL_law := wm2 (List.mem_of_getElem? (i := 123) rfl) rfl
theorem w2_124 : Cond.selects RX2 yX2_after yX2_after ∈ wsL_law := wm2 (List.mem_of_getElem? (i := 124) rfl) rfl
theorem w2_125 : Cond.code yX2_after cX2_after 4 (Option.some FieldType.int) ∈ wsL_law := wm2 (List.mem_of_getElem? (i := 125) rfl) rfl
theorem w2_126 : Cond.methodLink RX5 111 yX2_isGood ∈ wsL_law := wm2 (List.mem_of_getElem? (i := 126) rfl) rfl
theorem w2_127 : Cond.instanceMethod yX2_isGood ∈ wsL_law := wm2 (List.mem_of_getElem? (i := 127) rfl) rfl
theorem w2_128 : Cond.selects RX2 yX2_isGood yX2_isGood ∈ wsL_law := wm2 (List.mem_of_getElem? (i := 128) rfl) rfl
theorem w2_129 : Cond.code yX2_isGood cX2_isGood 2 (Option.some FieldType.boolean) ∈ wsL_law := wm2 (List.mem_of_getElem? (i := 129) rfl) rfl
theorem w2_130 : Cond.methodLink RX5 114 yX5_truth ∈ wsL_law := wm2 (List.mem_of_getElem? (i := 130) rfl) rfl
theorem w2_131 : Cond.static yX5_truth ∈ wsL_law := wm2 (List.mem_of_getElem? (i := 131) rfl) rfl
theorem w2_132 : Cond.code yX5_truth cX5_truth 1 (Option.some FieldType.int) ∈ wsL_law := wm2 (List.mem_of_getElem? (i := 132) rfl) rfl
theorem w2_133 : Cond.methodLink RX5 118 yX2_steps ∈ wsL_law := wm2 (List.mem_of_getElem? (i := 133) rfl) rfl
theorem w2_134 : Cond.instanceMethod yX2_steps ∈ wsL_law := wm2 (List.mem_of_getElem? (i := 134) rfl) rfl
theorem w2_135 : Cond.selects RX2 yX2_steps yX2_steps ∈ wsL_law := wm2 (List.mem_of_getElem? (i := 135) rfl) rfl
theorem w2_136 : Cond.code yX2_steps cX2_steps 8 (Option.some FieldType.int) ∈ wsL_law := wm2 (List.mem_of_getElem? (i := 136) rfl) rfl
theorem w2_137 : Cond.methodLink RX2 30 yX2_afterAnyOf ∈ wsL_law := wm2 (List.mem_of_getElem? (i := 137) rfl) rfl
theorem w2_139 : Cond.instanceMethod yX2_afterAnyOf ∈ wsL_law := wm2 (List.mem_of_getElem? (i := 139) rfl) rfl
theorem w2_140 : Cond.code yX2_afterAnyOf cX2_afterAnyOf 7 (Option.some FieldType.long) ∈ wsL_law := wm2 (List.mem_of_getElem? (i := 140) rfl) rfl
theorem w2_141 : Cond.methodLink RX2 26 yX2_after ∈ wsL_law := wm2 (List.mem_of_getElem? (i := 141) rfl) rfl
theorem w2_142 : Cond.methodLink RL 53 yX5_walk ∈ wsL_law := wm2 (List.mem_of_getElem? (i := 142) rfl) rfl
theorem w2_143 : Cond.instanceMethod yX5_walk ∈ wsL_law := wm2 (List.mem_of_getElem? (i := 143) rfl) rfl
theorem w2_144 : Cond.selects RX5 yX5_walk yX5_walk ∈ wsL_law := wm2 (List.mem_of_getElem? (i := 144) rfl) rfl
theorem w2_145 : Cond.code yX5_walk cX5_walk 4 (Option.some FieldType.int) ∈ wsL_law := wm2 (List.mem_of_getElem? (i := 145) rfl) rfl
theorem w2_146 : Cond.methodLink RX5 122 yX2_read ∈ wsL_law := wm2 (List.mem_of_getElem? (i := 146) rfl) rfl
theorem w2_147 : Cond.instanceMethod yX2_read ∈ wsL_law := wm2 (List.mem_of_getElem? (i := 147) rfl) rfl
theorem w2_148 : Cond.selects RX2 yX2_read yX2_read ∈ wsL_law := wm2 (List.mem_of_getElem? (i := 148) rfl) rfl
theorem w2_149 : Cond.code yX2_read cX2_read 6 (Option.some FieldType.int) ∈ wsL_law := wm2 (List.mem_of_getElem? (i := 149) rfl) rfl
theorem w2_150 : Cond.methodLink RL 57 yX5_has ∈ wsL_law := wm2 (List.mem_of_getElem? (i := 150) rfl) rfl
theorem w2_151 : Cond.instanceMethod yX5_has ∈ wsL_law := wm2 (List.mem_of_getElem? (i := 151) rfl) rfl
theorem w2_152 : Cond.selects RX5 yX5_has yX5_has ∈ wsL_law := wm2 (List.mem_of_getElem? (i := 152) rfl) rfl
theorem w2_153 : Cond.code yX5_has cX5_has 3 (Option.some FieldType.int) ∈ wsL_law := wm2 (List.mem_of_getElem? (i := 153) rfl) rfl
theorem w2_154 : Cond.constant RX5 125 (1000000000 : Int32) ∈ wsL_law := wm2 (List.mem_of_getElem? (i := 154) rfl) rfl
theorem w2_155 : Cond.methodLink RL 61 yX5_next ∈ wsL_law := wm2 (List.mem_of_getElem? (i := 155) rfl) rfl
theorem w2_156 : Cond.instanceMethod yX5_next ∈ wsL_law := wm2 (List.mem_of_getElem? (i := 156) rfl) rfl
theorem w2_157 : Cond.selects RX5 yX5_next yX5_next ∈ wsL_law := wm2 (List.mem_of_getElem? (i := 157) rfl) rfl
theorem w2_158 : Cond.code yX5_next cX5_next 3 (Option.some FieldType.int) ∈ wsL_law := wm2 (List.mem_of_getElem? (i := 158) rfl) rfl
theorem w2_159 : Cond.methodLink RX5 129 yX3_leastFrom ∈ wsL_law := wm2 (List.mem_of_getElem? (i := 159) rfl) rfl
theorem w2_160 : Cond.instanceMethod yX3_leastFrom ∈ wsL_law := wm2 (List.mem_of_getElem? (i := 160) rfl) rfl
theorem w2_161 : Cond.selects RX3 yX3_leastFrom yX3_leastFrom ∈ wsL_law := wm2 (List.mem_of_getElem? (i := 161) rfl) rfl
theorem w2_162 : Cond.code yX3_leastFrom cX3_leastFrom 3 (Option.some FieldType.int) ∈ wsL_law := wm2 (List.mem_of_getElem? (i := 162) rfl) rfl
theorem w2_163 : Cond.methodLink RX3 49 yX3_holds ∈ wsL_law := wm2 (List.mem_of_getElem? (i := 163) rfl) rfl
theorem w2_164 : Cond.methodLink RL 65 yX5_below ∈ wsL_law := wm2 (List.mem_of_getElem? (i := 164) rfl) rfl
theorem w2_165 : Cond.instanceMethod yX5_below ∈ wsL_law := wm2 (List.mem_of_getElem? (i := 165) rfl) rfl
theorem w2_166 : Cond.selects RX5 yX5_below yX5_below ∈ wsL_law := wm2 (List.mem_of_getElem? (i := 166) rfl) rfl
theorem w2_167 : Cond.code yX5_below cX5_below 3 (Option.some FieldType.int) ∈ wsL_law := wm2 (List.mem_of_getElem? (i := 167) rfl) rfl
theorem w2_168 : Cond.methodLink RL 69 yX5_alike ∈ wsL_law := wm2 (List.mem_of_getElem? (i := 168) rfl) rfl
theorem w2_169 : Cond.instanceMethod yX5_alike ∈ wsL_law := wm2 (List.mem_of_getElem? (i := 169) rfl) rfl
theorem w2_170 : Cond.selects RX5 yX5_alike yX5_alike ∈ wsL_law := wm2 (List.mem_of_getElem? (i := 170) rfl) rfl
theorem w2_171 : Cond.code yX5_alike cX5_alike 6 (Option.some FieldType.int) ∈ wsL_law := wm2 (List.mem_of_getElem? (i := 171) rfl) rfl
theorem w2_172 : Cond.methodLink RX5 132 yX3_sameAs ∈ wsL_law := wm2 (List.mem_of_getElem? (i := 172) rfl) rfl
theorem w2_173 : Cond.instanceMethod yX3_sameAs ∈ wsL_law := wm2 (List.mem_of_getElem? (i := 173) rfl) rfl
theorem w2_174 : Cond.selects RX3 yX3_sameAs yX3_sameAs ∈ wsL_law := wm2 (List.mem_of_getElem? (i := 174) rfl) rfl
theorem w2_175 : Cond.code yX3_sameAs cX3_sameAs 3 (Option.some FieldType.boolean) ∈ wsL_law := wm2 (List.mem_of_getElem? (i := 175) rfl) rfl
theorem w2_176 : Cond.methodLink RX5 136 yX5_leastJoined ∈ wsL_law := wm2 (List.mem_of_getElem? (i := 176) rfl) rfl
theorem w2_177 : Cond.static yX5_leastJoined ∈ wsL_law := wm2 (List.mem_of_getElem? (i := 177) rfl) rfl
theorem w2_178 : Cond.code yX5_leastJoined cX5_leastJoined 7 (Option.some FieldType.int) ∈ wsL_law := wm2 (List.mem_of_getElem? (i := 178) rfl) rfl
theorem w2_179 : Cond.methodLink RL 73 yX5_image ∈ wsL_law := wm2 (List.mem_of_getElem? (i := 179) rfl) rfl
theorem w2_180 : Cond.instanceMethod yX5_image ∈ wsL_law := wm2 (List.mem_of_getElem? (i := 180) rfl) rfl
theorem w2_181 : Cond.selects RX5 yX5_image yX5_image ∈ wsL_law := wm2 (List.mem_of_getElem? (i := 181) rfl) rfl
theorem w2_182 : Cond.code yX5_image cX5_image 2 (Option.some FieldType.int) ∈ wsL_law := wm2 (List.mem_of_getElem? (i := 182) rfl) rfl
theorem w2_183 : Cond.methodLink RX5 140 yX5_noImage ∈ wsL_law := wm2 (List.mem_of_getElem? (i := 183) rfl) rfl
theorem w2_185 : Cond.instanceMethod yX5_noImage ∈ wsL_law := wm2 (List.mem_of_getElem? (i := 185) rfl) rfl
theorem w2_186 : Cond.code yX5_noImage cX5_noImage 2 (Option.some FieldType.boolean) ∈ wsL_law := wm2 (List.mem_of_getElem? (i := 186) rfl) rfl
theorem w2_187 : Cond.methodLink RX5 143 yX1_keep ∈ wsL_law := wm2 (List.mem_of_getElem? (i := 187) rfl) rfl
theorem w2_188 : Cond.instanceMethod yX1_keep ∈ wsL_law := wm2 (List.mem_of_getElem? (i := 188) rfl) rfl
theorem w2_189 : Cond.selects RX1 yX1_keep yX1_keep ∈ wsL_law := wm2 (List.mem_of_getElem? (i := 189) rfl) rfl
theorem w2_190 : Cond.code yX1_keep cX1_keep 3 none ∈ wsL_law := wm2 (List.mem_of_getElem? (i := 190) rfl) rfl
theorem w2_191 : Cond.methodLink RX1 25 yX1_copySets ∈ wsL_law := wm2 (List.mem_of_getElem? (i := 191) rfl) rfl
theorem w2_192 : Cond.static yX1_copySets ∈ wsL_law := wm2 (List.mem_of_getElem? (i := 192) rfl) rfl
theorem w2_193 : Cond.code yX1_copySets cX1_copySets 3 none ∈ wsL_law := wm2 (List.mem_of_getElem? (i := 193) rfl) rfl
theorem w2_194 : Cond.methodLink RL 77 yX5_restore ∈ wsL_law := wm2 (List.mem_of_getElem? (i := 194) rfl) rfl
theorem w2_195 : Cond.instanceMethod yX5_restore ∈ wsL_law := wm2 (List.mem_of_getElem? (i := 195) rfl) rfl
theorem w2_196 : Cond.selects RX5 yX5_restore yX5_restore ∈ wsL_law := wm2 (List.mem_of_getElem? (i := 196) rfl) rfl
theorem w2_197 : Cond.code yX5_restore cX5_restore 2 (Option.some FieldType.int) ∈ wsL_law := wm2 (List.mem_of_getElem? (i := 197) rfl) rfl
theorem w2_198 : Cond.methodLink RX5 151 yX1_giveBack ∈ wsL_law := wm2 (List.mem_of_getElem? (i := 198) rfl) rfl
theorem w2_199 : Cond.instanceMethod yX1_giveBack ∈ wsL_law := wm2 (List.mem_of_getElem? (i := 199) rfl) rfl
theorem w2_200 : Cond.selects RX1 yX1_giveBack yX1_giveBack ∈ wsL_law := wm2 (List.mem_of_getElem? (i := 200) rfl) rfl
theorem w2_201 : Cond.code yX1_giveBack cX1_giveBack 2 (Option.some FieldType.int) ∈ wsL_law := wm2 (List.mem_of_getElem? (i := 201) rfl) rfl
theorem w2_202 : Cond.methodLink RL 81 yX5_count ∈ wsL_law := wm2 (List.mem_of_getElem? (i := 202) rfl) rfl
theorem w2_203 : Cond.instanceMethod yX5_count ∈ wsL_law := wm2 (List.mem_of_getElem? (i := 203) rfl) rfl
theorem w2_204 : Cond.selects RX5 yX5_count yX5_count ∈ wsL_law := wm2 (List.mem_of_getElem? (i := 204) rfl) rfl
theorem w2_205 : Cond.code yX5_count cX5_count 2 (Option.some FieldType.int) ∈ wsL_law := wm2 (List.mem_of_getElem? (i := 205) rfl) rfl
theorem w2_206 : Cond.methodLink RX5 155 yX5_slotsWithNumbers ∈ wsL_law := wm2 (List.mem_of_getElem? (i := 206) rfl) rfl
theorem w2_208 : Cond.instanceMethod yX5_slotsWithNumbers ∈ wsL_law := wm2 (List.mem_of_getElem? (i := 208) rfl) rfl
theorem w2_209 : Cond.code yX5_slotsWithNumbers cX5_slotsWithNumbers 3 (Option.some FieldType.int) ∈ wsL_law := wm2 (List.mem_of_getElem? (i := 209) rfl) rfl
theorem w2_210 : Cond.methodLink RX5 159 yX5_unlikeSets ∈ wsL_law := wm2 (List.mem_of_getElem? (i := 210) rfl) rfl
theorem w2_212 : Cond.instanceMethod yX5_unlikeSets ∈ wsL_law := wm2 (List.mem_of_getElem? (i := 212) rfl) rfl
theorem w2_213 : Cond.code yX5_unlikeSets cX5_unlikeSets 3 (Option.some FieldType.int) ∈ wsL_law := wm2 (List.mem_of_getElem? (i := 213) rfl) rfl
theorem w2_214 : Cond.methodLink RX5 214 yX5_heldBefore ∈ wsL_law := wm2 (List.mem_of_getElem? (i := 214) rfl) rfl
theorem w2_216 : Cond.instanceMethod yX5_heldBefore ∈ wsL_law := wm2 (List.mem_of_getElem? (i := 216) rfl) rfl
theorem w2_217 : Cond.code yX5_heldBefore cX5_heldBefore 3 (Option.some FieldType.boolean) ∈ wsL_law := wm2 (List.mem_of_getElem? (i := 217) rfl) rfl
theorem w2_218 : Cond.methodLink RX5 162 yX5_statesOfAll ∈ wsL_law := wm2 (List.mem_of_getElem? (i := 218) rfl) rfl
theorem w2_220 : Cond.instanceMethod yX5_statesOfAll ∈ wsL_law := wm2 (List.mem_of_getElem? (i := 220) rfl) rfl
theorem w2_221 : Cond.code yX5_statesOfAll cX5_statesOfAll 3 (Option.some FieldType.int) ∈ wsL_law := wm2 (List.mem_of_getElem? (i := 221) rfl) rfl
theorem w2_222 : Cond.methodLink RX5 165 yX5_imagesKept ∈ wsL_law := wm2 (List.mem_of_getElem? (i := 222) rfl) rfl
theorem w2_224 : Cond.instanceMethod yX5_imagesKept ∈ wsL_law := wm2 (List.mem_of_getElem? (i := 224) rfl) rfl
theorem w2_225 : Cond.code yX5_imagesKept cX5_imagesKept 3 (Option.some FieldType.int) ∈ wsL_law := wm2 (List.mem_of_getElem? (i := 225) rfl) rfl
theorem w2_226 : Cond.classLink RL 10 RX6 ∈ wsL_law := wm2 (List.mem_of_getElem? (i := 226) rfl) rfl
theorem w2_227 : Cond.instantiable RX6 12 ∈ wsL_law := wm2 (List.mem_of_getElem? (i := 227) rfl) rfl
theorem w2_228 : Cond.methodLink RL 12 yX6_init ∈ wsL_law := wm2 (List.mem_of_getElem? (i := 228) rfl) rfl
theorem w2_229 : Cond.instanceMethod yX6_init ∈ wsL_law := wm2 (List.mem_of_getElem? (i := 229) rfl) rfl
theorem w2_230 : Cond.code yX6_init cX6_init 2 none ∈ wsL_law := wm2 (List.mem_of_getElem? (i := 230) rfl) rfl
theorem w2_231 : Cond.methodLink RX6 1 objectInit ∈ wsL_law := wm2 (List.mem_of_getElem? (i := 231) rfl) rfl
theorem w2_232 : Cond.fieldLink RX6 7 "NumberMachinesModel" "base" "I" ∈ wsL_law := wm2 (List.mem_of_getElem? (i := 232) rfl) rfl
theorem w2_233 : Cond.fieldLink RX6 13 "NumberMachinesModel" "starts" "[I" ∈ wsL_law := wm2 (List.mem_of_getElem? (i := 233) rfl) rfl
theorem w2_234 : Cond.fieldLink RX6 17 "NumberMachinesModel" "periods" "[I" ∈ wsL_law := wm2 (List.mem_of_getElem? (i := 234) rfl) rfl
theorem w2_235 : Cond.fieldLink RX6 20 "NumberMachinesModel" "bits" "[J" ∈ wsL_law := wm2 (List.mem_of_getElem? (i := 235) rfl) rfl
theorem w2_236 : Cond.fieldLink RX6 24 "NumberMachinesModel" "row" "[Z" ∈ wsL_law := wm2 (List.mem_of_getElem? (i := 236) rfl) rfl
theorem w2_237 : Cond.fieldLink RX6 44 "NumberMachinesModel" "from" "I" ∈ wsL_law := wm2 (List.mem_of_getElem? (i := 237) rfl) rfl
theorem w2_238 : Cond.fieldLink RX6 47 "NumberMachinesModel" "by" "I" ∈ wsL_law := wm2 (List.mem_of_getElem? (i := 238) rfl) rfl
theorem w2_239 : Cond.fieldLink RX6 28 "NumberMachinesModel" "goes" "[I" ∈ wsL_law := wm2 (List.mem_of_getElem? (i := 239) rfl) rfl
theorem w3_0 : Cond.fieldLink RX6 71 "NumberMachinesModel" "states" "I" ∈ wsL_law := wm3 (List.mem_of_getElem? (i := 0) rfl) rfl
theorem w3_1 : Cond.fieldLink RX6 31 "NumberMachinesModel" "far" "[I" ∈ wsL_law := wm3 (List.mem_of_getElem? (i := 1) rfl) rfl
theorem w3_2 : Cond.fieldLink RX6 34 "NumberMachinesModel" "bases" "[I" ∈ wsL_law := wm3 (List.mem_of_getElem? (i := 2) rfl) rfl
theorem w3_3 : Cond.fieldLink RX6 37 "NumberMachinesModel" "isThere" "[Z" ∈ wsL_law := wm3 (List.mem_of_getElem? (i := 3) rfl) rfl
theorem w3_4 : Cond.lays RX6 "NumberMachinesModel" "base" "I" ∈ wsL_law := wm3 (List.mem_of_getElem? (i := 4) rfl) rfl
theorem w3_6 : Cond.laysFinal RX6 "NumberMachinesModel" "starts" "[I" ∈ wsL_law := wm3 (List.mem_of_getElem? (i := 6) rfl) rfl
theorem w3_8 : Cond.laysFinal RX6 "NumberMachinesModel" "periods" "[I" ∈ wsL_law := wm3 (List.mem_of_getElem? (i := 8) rfl) rfl
theorem w3_10 : Cond.laysFinal RX6 "NumberMachinesModel" "bits" "[J" ∈ wsL_law := wm3 (List.mem_of_getElem? (i := 10) rfl) rfl
theorem w3_12 : Cond.laysFinal RX6 "NumberMachinesModel" "row" "[Z" ∈ wsL_law := wm3 (List.mem_of_getElem? (i := 12) rfl) rfl
theorem w3_14 : Cond.lays RX6 "NumberMachinesModel" "from" "I" ∈ wsL_law := wm3 (List.mem_of_getElem? (i := 14) rfl) rfl
theorem w3_16 : Cond.lays RX6 "NumberMachinesModel" "by" "I" ∈ wsL_law := wm3 (List.mem_of_getElem? (i := 16) rfl) rfl
theorem w3_18 : Cond.laysFinal RX6 "NumberMachinesModel" "goes" "[I" ∈ wsL_law := wm3 (List.mem_of_getElem? (i := 18) rfl) rfl
theorem w3_20 : Cond.lays RX6 "NumberMachinesModel" "states" "I" ∈ wsL_law := wm3 (List.mem_of_getElem? (i := 20) rfl) rfl
theorem w3_22 : Cond.laysFinal RX6 "NumberMachinesModel" "far" "[I" ∈ wsL_law := wm3 (List.mem_of_getElem? (i := 22) rfl) rfl
theorem w3_24 : Cond.laysFinal RX6 "NumberMachinesModel" "bases" "[I" ∈ wsL_law := wm3 (List.mem_of_getElem? (i := 24) rfl) rfl
theorem w3_26 : Cond.laysFinal RX6 "NumberMachinesModel" "isThere" "[Z" ∈ wsL_law := wm3 (List.mem_of_getElem? (i := 26) rfl) rfl
theorem w3_29 : Cond.arrayClass FieldType.boolean ∈ wsL_law := wm3 (List.mem_of_getElem? (i := 29) rfl) rfl
theorem w3_30 : Cond.methodLink RL 17 yX6_base ∈ wsL_law := wm3 (List.mem_of_getElem? (i := 30) rfl) rfl
theorem w3_31 : Cond.instanceMethod yX6_base ∈ wsL_law := wm3 (List.mem_of_getElem? (i := 31) rfl) rfl
theorem w3_32 : Cond.selects RX6 yX6_base yX6_base ∈ wsL_law := wm3 (List.mem_of_getElem? (i := 32) rfl) rfl
theorem w3_33 : Cond.code yX6_base cX6_base 5 (Option.some FieldType.int) ∈ wsL_law := wm3 (List.mem_of_getElem? (i := 33) rfl) rfl
theorem w3_34 : Cond.methodLink RL 22 yX6_put ∈ wsL_law := wm3 (List.mem_of_getElem? (i := 34) rfl) rfl
theorem w3_35 : Cond.instanceMethod yX6_put ∈ wsL_law := wm3 (List.mem_of_getElem? (i := 35) rfl) rfl
theorem w3_36 : Cond.selects RX6 yX6_put yX6_put ∈ wsL_law := wm3 (List.mem_of_getElem? (i := 36) rfl) rfl
theorem w3_37 : Cond.code yX6_put cX6_put 6 (Option.some FieldType.int) ∈ wsL_law := wm3 (List.mem_of_getElem? (i := 37) rfl) rfl
theorem w3_38 : Cond.methodLink RX6 85 yX6_isSlot ∈ wsL_law := wm3 (List.mem_of_getElem? (i := 38) rfl) rfl
theorem w3_39 : Cond.static yX6_isSlot ∈ wsL_law := wm3 (List.mem_of_getElem? (i := 39) rfl) rfl
theorem w3_40 : Cond.code yX6_isSlot cX6_isSlot 1 (Option.some FieldType.boolean) ∈ wsL_law := wm3 (List.mem_of_getElem? (i := 40) rfl) rfl
theorem w3_41 : Cond.methodLink RX6 40 yX6_in ∈ wsL_law := wm3 (List.mem_of_getElem? (i := 41) rfl) rfl
theorem w3_42 : Cond.static yX6_in ∈ wsL_law := wm3 (List.mem_of_getElem? (i := 42) rfl) rfl
theorem w3_43 : Cond.code yX6_in cX6_in 3 (Option.some FieldType.boolean) ∈ wsL_law := wm3 (List.mem_of_getElem? (i := 43) rfl) rfl
theorem w3_44 : Cond.methodLink RX6 88 yX6_keep ∈ wsL_law := wm3 (List.mem_of_getElem? (i := 44) rfl) rfl
theorem w3_46 : Cond.instanceMethod yX6_keep ∈ wsL_law := wm3 (List.mem_of_getElem? (i := 46) rfl) rfl
theorem w3_47 : Cond.code yX6_keep cX6_keep 2 (Option.some FieldType.int) ∈ wsL_law := wm3 (List.mem_of_getElem? (i := 47) rfl) rfl
theorem w3_48 : Cond.methodLink RX6 64 yX6_isKept ∈ wsL_law := wm3 (List.mem_of_getElem? (i := 48) rfl) rfl
theorem w3_50 : Cond.instanceMethod yX6_isKept ∈ wsL_law := wm3 (List.mem_of_getElem? (i := 50) rfl) rfl
theorem w3_51 : Cond.code yX6_isKept cX6_isKept 3 (Option.some FieldType.boolean) ∈ wsL_law := wm3 (List.mem_of_getElem? (i := 51) rfl) rfl
theorem w3_52 : Cond.methodLink RX6 57 yX6_shorten ∈ wsL_law := wm3 (List.mem_of_getElem? (i := 52) rfl) rfl
theorem w3_54 : Cond.instanceMethod yX6_shorten ∈ wsL_law := wm3 (List.mem_of_getElem? (i := 54) rfl) rfl
theorem w3_55 : Cond.code yX6_shorten cX6_shorten 3 none ∈ wsL_law := wm3 (List.mem_of_getElem? (i := 55) rfl) rfl
theorem w3_56 : Cond.methodLink RX6 50 yX6_comesRound ∈ wsL_law := wm3 (List.mem_of_getElem? (i := 56) rfl) rfl
theorem w3_58 : Cond.instanceMethod yX6_comesRound ∈ wsL_law := wm3 (List.mem_of_getElem? (i := 58) rfl) rfl
theorem w3_59 : Cond.code yX6_comesRound cX6_comesRound 4 (Option.some FieldType.boolean) ∈ wsL_law := wm3 (List.mem_of_getElem? (i := 59) rfl) rfl
theorem w3_60 : Cond.methodLink RX6 54 yX6_inRow ∈ wsL_law := wm3 (List.mem_of_getElem? (i := 60) rfl) rfl
theorem w3_62 : Cond.instanceMethod yX6_inRow ∈ wsL_law := wm3 (List.mem_of_getElem? (i := 62) rfl) rfl
theorem w3_63 : Cond.code yX6_inRow cX6_inRow 2 (Option.some FieldType.boolean) ∈ wsL_law := wm3 (List.mem_of_getElem? (i := 63) rfl) rfl
theorem w3_64 : Cond.methodLink RX6 67 yX6_copy ∈ wsL_law := wm3 (List.mem_of_getElem? (i := 64) rfl) rfl
theorem w3_66 : Cond.instanceMethod yX6_copy ∈ wsL_law := wm3 (List.mem_of_getElem? (i := 66) rfl) rfl
theorem w3_67 : Cond.code yX6_copy cX6_copy 4 none ∈ wsL_law := wm3 (List.mem_of_getElem? (i := 67) rfl) rfl
theorem w3_68 : Cond.methodLink RX6 81 yX6_layMachine ∈ wsL_law := wm3 (List.mem_of_getElem? (i := 68) rfl) rfl
theorem w3_70 : Cond.instanceMethod yX6_layMachine ∈ wsL_law := wm3 (List.mem_of_getElem? (i := 70) rfl) rfl
theorem w3_71 : Cond.code yX6_layMachine cX6_layMachine 5 none ∈ wsL_law := wm3 (List.mem_of_getElem? (i := 71) rfl) rfl
theorem w3_72 : Cond.methodLink RX6 74 yX6_layRest ∈ wsL_law := wm3 (List.mem_of_getElem? (i := 72) rfl) rfl
theorem w3_74 : Cond.instanceMethod yX6_layRest ∈ wsL_law := wm3 (List.mem_of_getElem? (i := 74) rfl) rfl
theorem w3_75 : Cond.code yX6_layRest cX6_layRest 5 none ∈ wsL_law := wm3 (List.mem_of_getElem? (i := 75) rfl) rfl
theorem w3_76 : Cond.methodLink RX6 60 yX6_isIn ∈ wsL_law := wm3 (List.mem_of_getElem? (i := 76) rfl) rfl
theorem w3_78 : Cond.instanceMethod yX6_isIn ∈ wsL_law := wm3 (List.mem_of_getElem? (i := 78) rfl) rfl
theorem w3_79 : Cond.code yX6_isIn cX6_isIn 6 (Option.some FieldType.boolean) ∈ wsL_law := wm3 (List.mem_of_getElem? (i := 79) rfl) rfl
theorem w3_80 : Cond.methodLink RX6 78 yX6_areSame ∈ wsL_law := wm3 (List.mem_of_getElem? (i := 80) rfl) rfl
theorem w3_82 : Cond.instanceMethod yX6_areSame ∈ wsL_law := wm3 (List.mem_of_getElem? (i := 82) rfl) rfl
theorem w3_83 : Cond.code yX6_areSame cX6_areSame 5 (Option.some FieldType.boolean) ∈ wsL_law := wm3 (List.mem_of_getElem? (i := 83) rfl) rfl
theorem w3_84 : Cond.methodLink RL 26 yX6_join ∈ wsL_law := wm3 (List.mem_of_getElem? (i := 84) rfl) rfl
theorem w3_85 : Cond.instanceMethod yX6_join ∈ wsL_law := wm3 (List.mem_of_getElem? (i := 85) rfl) rfl
theorem w3_86 : Cond.selects RX6 yX6_join yX6_join ∈ wsL_law := wm3 (List.mem_of_getElem? (i := 86) rfl) rfl
theorem w3_87 : Cond.code yX6_join cX6_join 8 (Option.some FieldType.int) ∈ wsL_law := wm3 (List.mem_of_getElem? (i := 87) rfl) rfl
theorem w3_88 : Cond.methodLink RX6 96 yX6_later ∈ wsL_law := wm3 (List.mem_of_getElem? (i := 88) rfl) rfl
theorem w3_90 : Cond.instanceMethod yX6_later ∈ wsL_law := wm3 (List.mem_of_getElem? (i := 90) rfl) rfl
theorem w3_91 : Cond.code yX6_later cX6_later 3 (Option.some FieldType.int) ∈ wsL_law := wm3 (List.mem_of_getElem? (i := 91) rfl) rfl
theorem w3_92 : Cond.methodLink RX6 99 yX6_together ∈ wsL_law := wm3 (List.mem_of_getElem? (i := 92) rfl) rfl
theorem w3_94 : Cond.instanceMethod yX6_together ∈ wsL_law := wm3 (List.mem_of_getElem? (i := 94) rfl) rfl
theorem w3_95 : Cond.code yX6_together cX6_together 3 (Option.some FieldType.int) ∈ wsL_law := wm3 (List.mem_of_getElem? (i := 95) rfl) rfl
theorem w3_96 : Cond.methodLink RX6 92 yX6_common ∈ wsL_law := wm3 (List.mem_of_getElem? (i := 96) rfl) rfl
theorem w3_97 : Cond.static yX6_common ∈ wsL_law := wm3 (List.mem_of_getElem? (i := 97) rfl) rfl
theorem w3_98 : Cond.code yX6_common cX6_common 6 (Option.some FieldType.int) ∈ wsL_law := wm3 (List.mem_of_getElem? (i := 98) rfl) rfl
theorem w3_99 : Cond.methodLink RL 31 yX6_turn ∈ wsL_law := wm3 (List.mem_of_getElem? (i := 99) rfl) rfl
theorem w3_100 : Cond.instanceMethod yX6_turn ∈ wsL_law := wm3 (List.mem_of_getElem? (i := 100) rfl) rfl
theorem w3_101 : Cond.selects RX6 yX6_turn yX6_turn ∈ wsL_law := wm3 (List.mem_of_getElem? (i := 101) rfl) rfl
theorem w3_102 : Cond.code yX6_turn cX6_turn 4 (Option.some FieldType.int) ∈ wsL_law := wm3 (List.mem_of_getElem? (i := 102) rfl) rfl
theorem w3_103 : Cond.methodLink RL 36 yX6_shift ∈ wsL_law := wm3 (List.mem_of_getElem? (i := 103) rfl) rfl
theorem w3_104 : Cond.instanceMethod yX6_shift ∈ wsL_law := wm3 (List.mem_of_getElem? (i := 104) rfl) rfl
theorem w3_105 : Cond.selects RX6 yX6_shift yX6_shift ∈ wsL_law := wm3 (List.mem_of_getElem? (i := 105) rfl) rfl
theorem w3_106 : Cond.code yX6_shift cX6_shift 5 (Option.some FieldType.int) ∈ wsL_law := wm3 (List.mem_of_getElem? (i := 106) rfl) rfl
theorem w3_107 : Cond.methodLink RL 40 yX6_stretch ∈ wsL_law := wm3 (List.mem_of_getElem? (i := 107) rfl) rfl
theorem w3_108 : Cond.instanceMethod yX6_stretch ∈ wsL_law := wm3 (List.mem_of_getElem? (i := 108) rfl) rfl
theorem w3_109 : Cond.selects RX6 yX6_stretch yX6_stretch ∈ wsL_law := wm3 (List.mem_of_getElem? (i := 109) rfl) rfl
theorem w3_110 : Cond.code yX6_stretch cX6_stretch 6 (Option.some FieldType.int) ∈ wsL_law := wm3 (List.mem_of_getElem? (i := 110) rfl) rfl
theorem w3_111 : Cond.methodLink RL 44 yX6_shrink ∈ wsL_law := wm3 (List.mem_of_getElem? (i := 111) rfl) rfl
theorem w3_112 : Cond.instanceMethod yX6_shrink ∈ wsL_law := wm3 (List.mem_of_getElem? (i := 112) rfl) rfl
theorem w3_113 : Cond.selects RX6 yX6_shrink yX6_shrink ∈ wsL_law := wm3 (List.mem_of_getElem? (i := 113) rfl) rfl
theorem w3_114 : Cond.code yX6_shrink cX6_shrink 6 (Option.some FieldType.int) ∈ wsL_law := wm3 (List.mem_of_getElem? (i := 114) rfl) rfl
theorem w3_115 : Cond.methodLink RL 48 yX6_told ∈ wsL_law := wm3 (List.mem_of_getElem? (i := 115) rfl) rfl
theorem w3_116 : Cond.instanceMethod yX6_told ∈ wsL_law := wm3 (List.mem_of_getElem? (i := 116) rfl) rfl
theorem w3_117 : Cond.selects RX6 yX6_told yX6_told ∈ wsL_law := wm3 (List.mem_of_getElem? (i := 117) rfl) rfl
theorem w3_118 : Cond.code yX6_told cX6_told 7 (Option.some FieldType.int) ∈ wsL_law := wm3 (List.mem_of_getElem? (i := 118) rfl) rfl
theorem w3_119 : Cond.methodLink RX6 102 yX6_isGood ∈ wsL_law := wm3 (List.mem_of_getElem? (i := 119) rfl) rfl
theorem w3_121 : Cond.instanceMethod yX6_isGood ∈ wsL_law := wm3 (List.mem_of_getElem? (i := 121) rfl) rfl
theorem w3_122 : Cond.code yX6_isGood cX6_isGood 2 (Option.some FieldType.boolean) ∈ wsL_law := wm3 (List.mem_of_getElem? (i := 122) rfl) rfl
theorem w3_123 : Cond.methodLink RX6 105 yX6_countUpTo ∈ wsL_law := wm3 (List.mem_of_getElem? (i := 123) rfl) rfl
theorem w3_125 : Cond.instanceMethod yX6_countUpTo ∈ wsL_law := wm3 (List.mem_of_getElem? (i := 125) rfl) rfl
theorem w3_126 : Cond.code yX6_countUpTo cX6_countUpTo 6 (Option.some FieldType.int) ∈ wsL_law := wm3 (List.mem_of_getElem? (i := 126) rfl) rfl
theorem w3_127 : Cond.methodLink RL 52 yX6_state ∈ wsL_law := wm3 (List.mem_of_getElem? (i := 127) rfl) rfl
theorem w3_128 : Cond.instanceMethod yX6_state ∈ wsL_law := wm3 (List.mem_of_getElem? (i := 128) rfl) rfl
theorem w3_129 : Cond.selects RX6 yX6_state yX6_state ∈ wsL_law := wm3 (List.mem_of_getElem? (i := 129) rfl) rfl
theorem w3_130 : Cond.code yX6_state cX6_state 4 (Option.some FieldType.int) ∈ wsL_law := wm3 (List.mem_of_getElem? (i := 130) rfl) rfl
theorem w3_131 : Cond.methodLink RX6 109 yX6_layFar ∈ wsL_law := wm3 (List.mem_of_getElem? (i := 131) rfl) rfl
theorem w3_133 : Cond.instanceMethod yX6_layFar ∈ wsL_law := wm3 (List.mem_of_getElem? (i := 133) rfl) rfl
theorem w3_134 : Cond.code yX6_layFar cX6_layFar 8 none ∈ wsL_law := wm3 (List.mem_of_getElem? (i := 134) rfl) rfl
theorem w3_135 : Cond.methodLink RL 56 yX6_walk ∈ wsL_law := wm3 (List.mem_of_getElem? (i := 135) rfl) rfl
theorem w3_136 : Cond.instanceMethod yX6_walk ∈ wsL_law := wm3 (List.mem_of_getElem? (i := 136) rfl) rfl
theorem w3_137 : Cond.selects RX6 yX6_walk yX6_walk ∈ wsL_law := wm3 (List.mem_of_getElem? (i := 137) rfl) rfl
theorem w3_138 : Cond.code yX6_walk cX6_walk 7 (Option.some FieldType.int) ∈ wsL_law := wm3 (List.mem_of_getElem? (i := 138) rfl) rfl
theorem w3_139 : Cond.methodLink RL 60 yX6_has ∈ wsL_law := wm3 (List.mem_of_getElem? (i := 139) rfl) rfl
theorem w3_140 : Cond.instanceMethod yX6_has ∈ wsL_law := wm3 (List.mem_of_getElem? (i := 140) rfl) rfl
theorem w3_141 : Cond.selects RX6 yX6_has yX6_has ∈ wsL_law := wm3 (List.mem_of_getElem? (i := 141) rfl) rfl
theorem w3_142 : Cond.code yX6_has cX6_has 3 (Option.some FieldType.int) ∈ wsL_law := wm3 (List.mem_of_getElem? (i := 142) rfl) rfl
theorem w3_143 : Cond.constant RX6 113 (1000000000 : Int32) ∈ wsL_law := wm3 (List.mem_of_getElem? (i := 143) rfl) rfl
theorem w3_144 : Cond.methodLink RL 64 yX6_next ∈ wsL_law := wm3 (List.mem_of_getElem? (i := 144) rfl) rfl
theorem w3_145 : Cond.instanceMethod yX6_next ∈ wsL_law := wm3 (List.mem_of_getElem? (i := 145) rfl) rfl
theorem w3_146 : Cond.selects RX6 yX6_next yX6_next ∈ wsL_law := wm3 (List.mem_of_getElem? (i := 146) rfl) rfl
theorem w3_147 : Cond.code yX6_next cX6_next 4 (Option.some FieldType.int) ∈ wsL_law := wm3 (List.mem_of_getElem? (i := 147) rfl) rfl
theorem w3_148 : Cond.methodLink RL 68 yX6_below ∈ wsL_law := wm3 (List.mem_of_getElem? (i := 148) rfl) rfl
theorem w3_149 : Cond.instanceMethod yX6_below ∈ wsL_law := wm3 (List.mem_of_getElem? (i := 149) rfl) rfl
theorem w3_150 : Cond.selects RX6 yX6_below yX6_below ∈ wsL_law := wm3 (List.mem_of_getElem? (i := 150) rfl) rfl
theorem w3_151 : Cond.code yX6_below cX6_below 6 (Option.some FieldType.int) ∈ wsL_law := wm3 (List.mem_of_getElem? (i := 151) rfl) rfl
theorem w3_152 : Cond.methodLink RL 72 yX6_alike ∈ wsL_law := wm3 (List.mem_of_getElem? (i := 152) rfl) rfl
theorem w3_153 : Cond.instanceMethod yX6_alike ∈ wsL_law := wm3 (List.mem_of_getElem? (i := 153) rfl) rfl
theorem w3_154 : Cond.selects RX6 yX6_alike yX6_alike ∈ wsL_law := wm3 (List.mem_of_getElem? (i := 154) rfl) rfl
theorem w3_155 : Cond.code yX6_alike cX6_alike 10 (Option.some FieldType.int) ∈ wsL_law := wm3 (List.mem_of_getElem? (i := 155) rfl) rfl
theorem w3_156 : Cond.methodLink RL 76 yX6_image ∈ wsL_law := wm3 (List.mem_of_getElem? (i := 156) rfl) rfl
theorem w3_157 : Cond.instanceMethod yX6_image ∈ wsL_law := wm3 (List.mem_of_getElem? (i := 157) rfl) rfl
theorem w3_158 : Cond.selects RX6 yX6_image yX6_image ∈ wsL_law := wm3 (List.mem_of_getElem? (i := 158) rfl) rfl
theorem w3_159 : Cond.code yX6_image cX6_image 3 (Option.some FieldType.int) ∈ wsL_law := wm3 (List.mem_of_getElem? (i := 159) rfl) rfl
theorem w3_160 : Cond.methodLink RL 80 yX6_restore ∈ wsL_law := wm3 (List.mem_of_getElem? (i := 160) rfl) rfl
theorem w3_161 : Cond.instanceMethod yX6_restore ∈ wsL_law := wm3 (List.mem_of_getElem? (i := 161) rfl) rfl
theorem w3_162 : Cond.selects RX6 yX6_restore yX6_restore ∈ wsL_law := wm3 (List.mem_of_getElem? (i := 162) rfl) rfl
theorem w3_163 : Cond.code yX6_restore cX6_restore 3 (Option.some FieldType.int) ∈ wsL_law := wm3 (List.mem_of_getElem? (i := 163) rfl) rfl
theorem w3_164 : Cond.methodLink RL 84 yX6_count ∈ wsL_law := wm3 (List.mem_of_getElem? (i := 164) rfl) rfl
theorem w3_165 : Cond.instanceMethod yX6_count ∈ wsL_law := wm3 (List.mem_of_getElem? (i := 165) rfl) rfl
theorem w3_166 : Cond.selects RX6 yX6_count yX6_count ∈ wsL_law := wm3 (List.mem_of_getElem? (i := 166) rfl) rfl
theorem w3_167 : Cond.code yX6_count cX6_count 7 (Option.some FieldType.int) ∈ wsL_law := wm3 (List.mem_of_getElem? (i := 167) rfl) rfl
theorem w3_168 : Cond.methodLink RX6 114 yX6_allStates ∈ wsL_law := wm3 (List.mem_of_getElem? (i := 168) rfl) rfl
theorem w3_170 : Cond.instanceMethod yX6_allStates ∈ wsL_law := wm3 (List.mem_of_getElem? (i := 170) rfl) rfl
theorem w3_171 : Cond.code yX6_allStates cX6_allStates 3 (Option.some FieldType.int) ∈ wsL_law := wm3 (List.mem_of_getElem? (i := 171) rfl) rfl
theorem ws_0 : Cond.selects RX5 yX5_emptyAll yX5_emptyAll ∈ wsL_law := wms (List.mem_of_getElem? (i := 0) rfl) rfl
theorem ws_1 : Cond.selects RX5 yX5_drafted yX5_drafted ∈ wsL_law := wms (List.mem_of_getElem? (i := 1) rfl) rfl
theorem ws_2 : Cond.selects RX0 yX0_leastPeriod yX0_leastPeriod ∈ wsL_law := wms (List.mem_of_getElem? (i := 2) rfl) rfl
theorem ws_3 : Cond.selects RX0 yX0_comesRoundBy yX0_comesRoundBy ∈ wsL_law := wms (List.mem_of_getElem? (i := 3) rfl) rfl
theorem ws_4 : Cond.selects RX0 yX0_leastStart yX0_leastStart ∈ wsL_law := wms (List.mem_of_getElem? (i := 4) rfl) rfl
theorem ws_5 : Cond.selects RX0 yX0_clearBehind yX0_clearBehind ∈ wsL_law := wms (List.mem_of_getElem? (i := 5) rfl) rfl
theorem ws_6 : Cond.selects RX4 yX4_writeRest yX4_writeRest ∈ wsL_law := wms (List.mem_of_getElem? (i := 6) rfl) rfl
theorem ws_7 : Cond.selects RX4 yX4_metAs yX4_metAs ∈ wsL_law := wms (List.mem_of_getElem? (i := 7) rfl) rfl
theorem ws_8 : Cond.selects RX4 yX4_sameRows yX4_sameRows ∈ wsL_law := wms (List.mem_of_getElem? (i := 8) rfl) rfl
theorem ws_9 : Cond.selects RX5 yX5_unknown yX5_unknown ∈ wsL_law := wms (List.mem_of_getElem? (i := 9) rfl) rfl
theorem ws_10 : Cond.selects RX5 yX5_draftKind yX5_draftKind ∈ wsL_law := wms (List.mem_of_getElem? (i := 10) rfl) rfl
theorem ws_11 : Cond.selects RX5 yX5_hold yX5_hold ∈ wsL_law := wms (List.mem_of_getElem? (i := 11) rfl) rfl
theorem ws_12 : Cond.selects RX5 yX5_draftJoin yX5_draftJoin ∈ wsL_law := wms (List.mem_of_getElem? (i := 12) rfl) rfl
theorem ws_13 : Cond.selects RX5 yX5_draftTurn yX5_draftTurn ∈ wsL_law := wms (List.mem_of_getElem? (i := 13) rfl) rfl
theorem ws_14 : Cond.selects RX5 yX5_draftShift yX5_draftShift ∈ wsL_law := wms (List.mem_of_getElem? (i := 14) rfl) rfl
theorem ws_15 : Cond.selects RX5 yX5_draftStretch yX5_draftStretch ∈ wsL_law := wms (List.mem_of_getElem? (i := 15) rfl) rfl
theorem ws_16 : Cond.selects RX5 yX5_draftShrink yX5_draftShrink ∈ wsL_law := wms (List.mem_of_getElem? (i := 16) rfl) rfl
theorem ws_17 : Cond.selects RX3 yX3_placesBefore yX3_placesBefore ∈ wsL_law := wms (List.mem_of_getElem? (i := 17) rfl) rfl
theorem ws_18 : Cond.selects RX2 yX2_afterAnyOf yX2_afterAnyOf ∈ wsL_law := wms (List.mem_of_getElem? (i := 18) rfl) rfl
theorem ws_19 : Cond.selects RX5 yX5_noImage yX5_noImage ∈ wsL_law := wms (List.mem_of_getElem? (i := 19) rfl) rfl
theorem ws_20 : Cond.selects RX5 yX5_slotsWithNumbers yX5_slotsWithNumbers ∈ wsL_law := wms (List.mem_of_getElem? (i := 20) rfl) rfl
theorem ws_21 : Cond.selects RX5 yX5_unlikeSets yX5_unlikeSets ∈ wsL_law := wms (List.mem_of_getElem? (i := 21) rfl) rfl
theorem ws_22 : Cond.selects RX5 yX5_heldBefore yX5_heldBefore ∈ wsL_law := wms (List.mem_of_getElem? (i := 22) rfl) rfl
theorem ws_23 : Cond.selects RX5 yX5_statesOfAll yX5_statesOfAll ∈ wsL_law := wms (List.mem_of_getElem? (i := 23) rfl) rfl
theorem ws_24 : Cond.selects RX5 yX5_imagesKept yX5_imagesKept ∈ wsL_law := wms (List.mem_of_getElem? (i := 24) rfl) rfl
theorem ws_25 : Cond.selects RX6 yX6_keep yX6_keep ∈ wsL_law := wms (List.mem_of_getElem? (i := 25) rfl) rfl
theorem ws_26 : Cond.selects RX6 yX6_isKept yX6_isKept ∈ wsL_law := wms (List.mem_of_getElem? (i := 26) rfl) rfl
theorem ws_27 : Cond.selects RX6 yX6_shorten yX6_shorten ∈ wsL_law := wms (List.mem_of_getElem? (i := 27) rfl) rfl
theorem ws_28 : Cond.selects RX6 yX6_comesRound yX6_comesRound ∈ wsL_law := wms (List.mem_of_getElem? (i := 28) rfl) rfl
theorem ws_29 : Cond.selects RX6 yX6_inRow yX6_inRow ∈ wsL_law := wms (List.mem_of_getElem? (i := 29) rfl) rfl
theorem ws_30 : Cond.selects RX6 yX6_copy yX6_copy ∈ wsL_law := wms (List.mem_of_getElem? (i := 30) rfl) rfl
theorem ws_31 : Cond.selects RX6 yX6_layMachine yX6_layMachine ∈ wsL_law := wms (List.mem_of_getElem? (i := 31) rfl) rfl
theorem ws_32 : Cond.selects RX6 yX6_layRest yX6_layRest ∈ wsL_law := wms (List.mem_of_getElem? (i := 32) rfl) rfl
theorem ws_33 : Cond.selects RX6 yX6_isIn yX6_isIn ∈ wsL_law := wms (List.mem_of_getElem? (i := 33) rfl) rfl
theorem ws_34 : Cond.selects RX6 yX6_areSame yX6_areSame ∈ wsL_law := wms (List.mem_of_getElem? (i := 34) rfl) rfl
theorem ws_35 : Cond.selects RX6 yX6_later yX6_later ∈ wsL_law := wms (List.mem_of_getElem? (i := 35) rfl) rfl
theorem ws_36 : Cond.selects RX6 yX6_together yX6_together ∈ wsL_law := wms (List.mem_of_getElem? (i := 36) rfl) rfl
theorem ws_37 : Cond.selects RX6 yX6_isGood yX6_isGood ∈ wsL_law := wms (List.mem_of_getElem? (i := 37) rfl) rfl
theorem ws_38 : Cond.selects RX6 yX6_countUpTo yX6_countUpTo ∈ wsL_law := wms (List.mem_of_getElem? (i := 38) rfl) rfl
theorem ws_39 : Cond.selects RX6 yX6_layFar yX6_layFar ∈ wsL_law := wms (List.mem_of_getElem? (i := 39) rfl) rfl
theorem ws_40 : Cond.selects RX6 yX6_allStates yX6_allStates ∈ wsL_law := wms (List.mem_of_getElem? (i := 40) rfl) rfl
theorem inlX0 : ∀ w ∈ wsX00, w ∈ wsL_law := by
  intro w h
  obtain ⟨k, hk, rfl⟩ := List.mem_map.mp h
  have hk := List.mem_range.mp hk
  match k, hk with
  | 0, _ => exact w1_39
  | 1, _ => exact w1_41
  | 2, _ => exact w1_43
  | k + 3, hk => exact absurd hk (by omega)
theorem inlX1 : ∀ w ∈ wsX10, w ∈ wsL_law := by
  intro w h
  obtain ⟨k, hk, rfl⟩ := List.mem_map.mp h
  have hk := List.mem_range.mp hk
  match k, hk with
  | 0, _ => exact w1_83
  | 1, _ => exact w1_85
  | 2, _ => exact w1_87
  | k + 3, hk => exact absurd hk (by omega)
theorem inlX2 : ∀ w ∈ wsX20, w ∈ wsL_law := by
  intro w h
  obtain ⟨k, hk, rfl⟩ := List.mem_map.mp h
  have hk := List.mem_range.mp hk
  match k, hk with
  | 0, _ => exact w1_194
  | 1, _ => exact w1_196
  | 2, _ => exact w1_198
  | 3, _ => exact w1_200
  | k + 4, hk => exact absurd hk (by omega)
theorem inlX3 : ∀ w ∈ wsX30, w ∈ wsL_law := by
  intro w h
  obtain ⟨k, hk, rfl⟩ := List.mem_map.mp h
  have hk := List.mem_range.mp hk
  match k, hk with
  | 0, _ => exact w1_222
  | 1, _ => exact w1_224
  | 2, _ => exact w1_226
  | 3, _ => exact w1_228
  | k + 4, hk => exact absurd hk (by omega)
theorem inlX4 : ∀ w ∈ wsX40, w ∈ wsL_law := by
  intro w h
  obtain ⟨k, hk, rfl⟩ := List.mem_map.mp h
  have hk := List.mem_range.mp hk
  match k, hk with
  | 0, _ => exact w1_59
  | 1, _ => exact w1_61
  | 2, _ => exact w1_63
  | 3, _ => exact w1_65
  | 4, _ => exact w1_67
  | 5, _ => exact w1_69
  | k + 6, hk => exact absurd hk (by omega)
theorem inlX5 : ∀ w ∈ wsX50, w ∈ wsL_law := by
  intro w h
  obtain ⟨k, hk, rfl⟩ := List.mem_map.mp h
  have hk := List.mem_range.mp hk
  match k, hk with
  | 0, _ => exact w1_236
  | 1, _ => exact w1_238
  | 2, _ => exact w2_0
  | 3, _ => exact w2_2
  | 4, _ => exact w2_4
  | k + 5, hk => exact absurd hk (by omega)
theorem inlX6 : ∀ w ∈ wsX60, w ∈ wsL_law := by
  intro w h
  obtain ⟨k, hk, rfl⟩ := List.mem_map.mp h
  have hk := List.mem_range.mp hk
  match k, hk with
  | 0, _ => exact w3_4
  | 1, _ => exact w3_6
  | 2, _ => exact w3_8
  | 3, _ => exact w3_10
  | 4, _ => exact w3_12
  | 5, _ => exact w3_14
  | 6, _ => exact w3_16
  | 7, _ => exact w3_18
  | 8, _ => exact w3_20
  | 9, _ => exact w3_22
  | 10, _ => exact w3_24
  | 11, _ => exact w3_26
  | k + 12, hk => exact absurd hk (by omega)
