def gwL : List Cond := lw_tbl.filter goodWord
theorem gw_in {w : Cond} (h : w ∈ lw_tbl) (g : goodWord w = true) : w ∈ gwL := List.mem_filter.mpr ⟨h, g⟩
theorem tk_1 : ∀ w ∈ tables_1_1, w ∈ lw_tbl := fun w h => List.mem_append_right _ (List.mem_append_left _ h)
theorem tk_2 : ∀ w ∈ tables_1_2, w ∈ lw_tbl := fun w h => List.mem_append_right _ (List.mem_append_right _ (List.mem_append_left _ h))
theorem tk_3 : ∀ w ∈ tables_1_3, w ∈ lw_tbl := fun w h => List.mem_append_right _ (List.mem_append_right _ (List.mem_append_right _ (List.mem_append_left _ h)))
theorem tk_4 : ∀ w ∈ tables_1_4, w ∈ lw_tbl := fun w h => List.mem_append_right _ (List.mem_append_right _ (List.mem_append_right _ (List.mem_append_right _ (List.mem_append_left _ h))))
theorem tk_5 : ∀ w ∈ tables_1_5, w ∈ lw_tbl := fun w h => List.mem_append_right _ (List.mem_append_right _ (List.mem_append_right _ (List.mem_append_right _ (List.mem_append_right _ (List.mem_append_left _ h)))))
theorem tk_6 : ∀ w ∈ tables_1_6, w ∈ lw_tbl := fun w h => List.mem_append_right _ (List.mem_append_right _ (List.mem_append_right _ (List.mem_append_right _ (List.mem_append_right _ (List.mem_append_right _ h)))))
theorem tw_0 : Cond.initialized RL ∈ gwL := gw_in (tk_1 _ (List.mem_of_getElem? (i := 0) (by decide +kernel))) rfl
theorem tw_1 : Cond.initialized RX11 ∈ gwL := gw_in (tk_1 _ (List.mem_of_getElem? (i := 1) (by decide +kernel))) rfl
theorem tw_2 : Cond.initialized RX3 ∈ gwL := gw_in (tk_1 _ (List.mem_of_getElem? (i := 2) (by decide +kernel))) rfl
theorem tw_3 : Cond.initialized RX10 ∈ gwL := gw_in (tk_1 _ (List.mem_of_getElem? (i := 3) (by decide +kernel))) rfl
theorem tw_4 : Cond.initialized RX8 ∈ gwL := gw_in (tk_1 _ (List.mem_of_getElem? (i := 4) (by decide +kernel))) rfl
theorem tw_5 : Cond.initialized RJ9 ∈ gwL := gw_in (tk_1 _ (List.mem_of_getElem? (i := 5) (by decide +kernel))) rfl
theorem tw_6 : Cond.initialized RX0 ∈ gwL := gw_in (tk_1 _ (List.mem_of_getElem? (i := 6) (by decide +kernel))) rfl
theorem tw_7 : Cond.initialized RX2 ∈ gwL := gw_in (tk_1 _ (List.mem_of_getElem? (i := 7) (by decide +kernel))) rfl
theorem tw_8 : Cond.initialized RX5 ∈ gwL := gw_in (tk_1 _ (List.mem_of_getElem? (i := 8) (by decide +kernel))) rfl
theorem tw_9 : Cond.initialized RX1 ∈ gwL := gw_in (tk_1 _ (List.mem_of_getElem? (i := 9) (by decide +kernel))) rfl
theorem tw_10 : Cond.initialized RX6 ∈ gwL := gw_in (tk_1 _ (List.mem_of_getElem? (i := 10) (by decide +kernel))) rfl
theorem tw_11 : Cond.initialized RX4 ∈ gwL := gw_in (tk_1 _ (List.mem_of_getElem? (i := 11) (by decide +kernel))) rfl
theorem tw_12 : Cond.initialized RX9 ∈ gwL := gw_in (tk_1 _ (List.mem_of_getElem? (i := 12) (by decide +kernel))) rfl
theorem tw_13 : Cond.initialized RX7 ∈ gwL := gw_in (tk_1 _ (List.mem_of_getElem? (i := 13) (by decide +kernel))) rfl
theorem tw_14 : Cond.initialized RX12 ∈ gwL := gw_in (tk_1 _ (List.mem_of_getElem? (i := 14) (by decide +kernel))) rfl
theorem tw_15 : Cond.initialized RJ7 ∈ gwL := gw_in (tk_1 _ (List.mem_of_getElem? (i := 15) (by decide +kernel))) rfl
theorem tw_16 : Cond.initialized RJ10 ∈ gwL := gw_in (tk_1 _ (List.mem_of_getElem? (i := 16) (by decide +kernel))) rfl
theorem tw_17 : Cond.initialized RJ6 ∈ gwL := gw_in (tk_1 _ (List.mem_of_getElem? (i := 17) (by decide +kernel))) rfl
theorem tw_18 : Cond.classLink RL 7 RX11 ∈ gwL := gw_in (tk_1 _ (List.mem_of_getElem? (i := 18) (by decide +kernel))) rfl
theorem tw_19 : Cond.instantiable RX11 13 ∈ gwL := gw_in (tk_1 _ (List.mem_of_getElem? (i := 19) (by decide +kernel))) rfl
theorem tw_20 : Cond.methodLink RL 9 yX11_init ∈ gwL := gw_in (tk_1 _ (List.mem_of_getElem? (i := 20) (by decide +kernel))) rfl
theorem tw_21 : Cond.instanceMethod yX11_init ∈ gwL := gw_in (tk_1 _ (List.mem_of_getElem? (i := 21) (by decide +kernel))) rfl
theorem tw_22 : Cond.code yX11_init cX11_init 2 none ∈ gwL := gw_in (tk_1 _ (List.mem_of_getElem? (i := 22) (by decide +kernel))) rfl
theorem tw_23 : Cond.methodLink RX11 1 (⟨"java/lang/Object", "<init>", "()V"⟩ : MethodName) ∈ gwL := gw_in (tk_1 _ (List.mem_of_getElem? (i := 23) (by decide +kernel))) rfl
theorem tw_24 : Cond.instanceMethod (⟨"java/lang/Object", "<init>", "()V"⟩ : MethodName) ∈ gwL := gw_in (tk_1 _ (List.mem_of_getElem? (i := 24) (by decide +kernel))) rfl
theorem tw_25 : Cond.code (⟨"java/lang/Object", "<init>", "()V"⟩ : MethodName) object_method_1_code 1 none ∈ gwL := gw_in (tk_1 _ (List.mem_of_getElem? (i := 25) (by decide +kernel))) rfl
theorem tw_26 : Cond.classLink RX11 7 RX3 ∈ gwL := gw_in (tk_1 _ (List.mem_of_getElem? (i := 26) (by decide +kernel))) rfl
theorem tw_27 : Cond.instantiable RX3 6 ∈ gwL := gw_in (tk_1 _ (List.mem_of_getElem? (i := 27) (by decide +kernel))) rfl
theorem tw_28 : Cond.methodLinkNest RX11 9 yX3_init RX11 ∈ lw_tbl := tk_1 _ (List.mem_of_getElem? (i := 28) (by decide +kernel))
theorem tw_29 : Cond.instanceMethod yX3_init ∈ gwL := gw_in (tk_1 _ (List.mem_of_getElem? (i := 29) (by decide +kernel))) rfl
theorem tw_30 : Cond.code yX3_init cX3_init 1 none ∈ gwL := gw_in (tk_1 _ (List.mem_of_getElem? (i := 30) (by decide +kernel))) rfl
theorem tw_31 : Cond.methodLink RX3 3 (⟨"java/lang/Object", "<init>", "()V"⟩ : MethodName) ∈ gwL := gw_in (tk_1 _ (List.mem_of_getElem? (i := 31) (by decide +kernel))) rfl
theorem tw_32 : Cond.classLink RX3 11 "[I" ∈ gwL := gw_in (tk_1 _ (List.mem_of_getElem? (i := 32) (by decide +kernel))) rfl
theorem tw_33 : Cond.arrayOver (.array .int) ∈ lw_tbl := tk_1 _ (List.mem_of_getElem? (i := 33) (by decide +kernel))
theorem tw_34 : Cond.fieldLink RX3 13 "LoadBourse$Journal" "rows" "[[I" ∈ gwL := gw_in (tk_1 _ (List.mem_of_getElem? (i := 34) (by decide +kernel))) rfl
theorem tw_35 : Cond.fieldLink RX3 17 "LoadBourse$Journal" "olds" "[[I" ∈ gwL := gw_in (tk_1 _ (List.mem_of_getElem? (i := 35) (by decide +kernel))) rfl
theorem tw_36 : Cond.fieldLink RX3 20 "LoadBourse$Journal" "places" "[I" ∈ gwL := gw_in (tk_1 _ (List.mem_of_getElem? (i := 36) (by decide +kernel))) rfl
theorem tw_37 : Cond.fieldLink RX3 36 "LoadBourse$Journal" "kept" "I" ∈ gwL := gw_in (tk_1 _ (List.mem_of_getElem? (i := 37) (by decide +kernel))) rfl
theorem tw_38 : Cond.fieldLink RX3 27 "LoadBourse$Journal" "next" "I" ∈ gwL := gw_in (tk_1 _ (List.mem_of_getElem? (i := 38) (by decide +kernel))) rfl
theorem tw_39 : Cond.fieldLink RX3 23 "LoadBourse$Journal" "changes" "I" ∈ gwL := gw_in (tk_1 _ (List.mem_of_getElem? (i := 39) (by decide +kernel))) rfl
theorem tw_53 : Cond.arrayClass .int ∈ gwL := gw_in (tk_1 _ (List.mem_of_getElem? (i := 53) (by decide +kernel))) rfl
theorem tw_54 : Cond.classLink RX11 16 RX10 ∈ gwL := gw_in (tk_1 _ (List.mem_of_getElem? (i := 54) (by decide +kernel))) rfl
theorem tw_55 : Cond.instantiable RX10 4 ∈ gwL := gw_in (tk_1 _ (List.mem_of_getElem? (i := 55) (by decide +kernel))) rfl
theorem tw_56 : Cond.methodLink RX11 18 yX10_init ∈ gwL := gw_in (tk_1 _ (List.mem_of_getElem? (i := 56) (by decide +kernel))) rfl
theorem tw_57 : Cond.instanceMethod yX10_init ∈ gwL := gw_in (tk_1 _ (List.mem_of_getElem? (i := 57) (by decide +kernel))) rfl
theorem tw_58 : Cond.code yX10_init cX10_init 2 none ∈ gwL := gw_in (tk_1 _ (List.mem_of_getElem? (i := 58) (by decide +kernel))) rfl
theorem tw_59 : Cond.methodLink RX10 3 (⟨"java/lang/Object", "<init>", "()V"⟩ : MethodName) ∈ gwL := gw_in (tk_1 _ (List.mem_of_getElem? (i := 59) (by decide +kernel))) rfl
theorem tw_60 : Cond.fieldLink RX10 22 "LoadBourse$Towns" "journal" "LLoadBourse$Journal;" ∈ gwL := gw_in (tk_1 _ (List.mem_of_getElem? (i := 60) (by decide +kernel))) rfl
theorem tw_61 : Cond.fieldLink RX10 9 "LoadBourse$Towns" "roads" "[I" ∈ gwL := gw_in (tk_1 _ (List.mem_of_getElem? (i := 61) (by decide +kernel))) rfl
theorem tw_62 : Cond.fieldLink RX10 15 "LoadBourse$Towns" "ways" "[I" ∈ gwL := gw_in (tk_1 _ (List.mem_of_getElem? (i := 62) (by decide +kernel))) rfl
theorem tw_63 : Cond.fieldLink RX10 18 "LoadBourse$Towns" "measuredAt" "I" ∈ gwL := gw_in (tk_1 _ (List.mem_of_getElem? (i := 63) (by decide +kernel))) rfl
theorem tw_73 : Cond.classLink RX11 25 RX8 ∈ gwL := gw_in (tk_1 _ (List.mem_of_getElem? (i := 73) (by decide +kernel))) rfl
theorem tw_74 : Cond.instantiable RX8 4 ∈ gwL := gw_in (tk_1 _ (List.mem_of_getElem? (i := 74) (by decide +kernel))) rfl
theorem tw_75 : Cond.methodLink RX11 27 yX8_init ∈ gwL := gw_in (tk_1 _ (List.mem_of_getElem? (i := 75) (by decide +kernel))) rfl
theorem tw_76 : Cond.instanceMethod yX8_init ∈ gwL := gw_in (tk_1 _ (List.mem_of_getElem? (i := 76) (by decide +kernel))) rfl
theorem tw_77 : Cond.code yX8_init cX8_init 4 none ∈ gwL := gw_in (tk_1 _ (List.mem_of_getElem? (i := 77) (by decide +kernel))) rfl
theorem tw_78 : Cond.methodLink RX8 3 (⟨"java/lang/Object", "<init>", "()V"⟩ : MethodName) ∈ gwL := gw_in (tk_1 _ (List.mem_of_getElem? (i := 78) (by decide +kernel))) rfl
theorem tw_79 : Cond.methodLink RX8 22 yJ9_max_7cf53 ∈ gwL := gw_in (tk_1 _ (List.mem_of_getElem? (i := 79) (by decide +kernel))) rfl
theorem tw_80 : Cond.static yJ9_max_7cf53 ∈ gwL := gw_in (tk_1 _ (List.mem_of_getElem? (i := 80) (by decide +kernel))) rfl
theorem tw_81 : Cond.code yJ9_max_7cf53 cJ9_max_7cf53 2 (some .int) ∈ gwL := gw_in (tk_1 _ (List.mem_of_getElem? (i := 81) (by decide +kernel))) rfl
theorem tw_82 : Cond.fieldLink RX8 9 "LoadBourse$Table" "journal" "LLoadBourse$Journal;" ∈ gwL := gw_in (tk_1 _ (List.mem_of_getElem? (i := 82) (by decide +kernel))) rfl
theorem tw_83 : Cond.fieldLink RX8 15 "LoadBourse$Table" "columns" "I" ∈ gwL := gw_in (tk_1 _ (List.mem_of_getElem? (i := 83) (by decide +kernel))) rfl
theorem tw_84 : Cond.fieldLink RX8 19 "LoadBourse$Table" "most" "I" ∈ gwL := gw_in (tk_1 _ (List.mem_of_getElem? (i := 84) (by decide +kernel))) rfl
theorem tw_85 : Cond.fieldLink RX8 28 "LoadBourse$Table" "cells" "[I" ∈ gwL := gw_in (tk_1 _ (List.mem_of_getElem? (i := 85) (by decide +kernel))) rfl
theorem tw_95 : Cond.classLink RX11 37 RX0 ∈ gwL := gw_in (tk_1 _ (List.mem_of_getElem? (i := 95) (by decide +kernel))) rfl
theorem tw_96 : Cond.instantiable RX0 12 ∈ gwL := gw_in (tk_1 _ (List.mem_of_getElem? (i := 96) (by decide +kernel))) rfl
theorem tw_97 : Cond.methodLink RX11 39 yX0_init ∈ gwL := gw_in (tk_1 _ (List.mem_of_getElem? (i := 97) (by decide +kernel))) rfl
theorem tw_98 : Cond.instanceMethod yX0_init ∈ gwL := gw_in (tk_1 _ (List.mem_of_getElem? (i := 98) (by decide +kernel))) rfl
theorem tw_99 : Cond.code yX0_init cX0_init 4 none ∈ gwL := gw_in (tk_1 _ (List.mem_of_getElem? (i := 99) (by decide +kernel))) rfl
theorem tw_100 : Cond.methodLink RX0 3 (⟨"java/lang/Object", "<init>", "()V"⟩ : MethodName) ∈ gwL := gw_in (tk_1 _ (List.mem_of_getElem? (i := 100) (by decide +kernel))) rfl
theorem tw_101 : Cond.fieldLink RX0 9 "LoadBourse$Drive" "towns" "LLoadBourse$Towns;" ∈ gwL := gw_in (tk_1 _ (List.mem_of_getElem? (i := 101) (by decide +kernel))) rfl
theorem tw_102 : Cond.fieldLink RX0 15 "LoadBourse$Drive" "lorries" "LLoadBourse$Table;" ∈ gwL := gw_in (tk_1 _ (List.mem_of_getElem? (i := 102) (by decide +kernel))) rfl
theorem tw_103 : Cond.fieldLink RX0 19 "LoadBourse$Drive" "loads" "LLoadBourse$Table;" ∈ gwL := gw_in (tk_1 _ (List.mem_of_getElem? (i := 103) (by decide +kernel))) rfl
theorem tw_104 : Cond.fieldLink RX0 37 "LoadBourse$Drive" "town" "I" ∈ gwL := gw_in (tk_1 _ (List.mem_of_getElem? (i := 104) (by decide +kernel))) rfl
theorem tw_105 : Cond.fieldLink RX0 41 "LoadBourse$Drive" "minute" "I" ∈ gwL := gw_in (tk_1 _ (List.mem_of_getElem? (i := 105) (by decide +kernel))) rfl
theorem tw_106 : Cond.fieldLink RX0 44 "LoadBourse$Drive" "sinceRest" "I" ∈ gwL := gw_in (tk_1 _ (List.mem_of_getElem? (i := 106) (by decide +kernel))) rfl
theorem tw_107 : Cond.fieldLink RX0 47 "LoadBourse$Drive" "driven" "I" ∈ gwL := gw_in (tk_1 _ (List.mem_of_getElem? (i := 107) (by decide +kernel))) rfl
theorem tw_108 : Cond.fieldLink RX0 50 "LoadBourse$Drive" "withoutLoad" "I" ∈ gwL := gw_in (tk_1 _ (List.mem_of_getElem? (i := 108) (by decide +kernel))) rfl
theorem tw_109 : Cond.fieldLink RX0 53 "LoadBourse$Drive" "rests" "I" ∈ gwL := gw_in (tk_1 _ (List.mem_of_getElem? (i := 109) (by decide +kernel))) rfl
theorem tw_110 : Cond.fieldLink RX0 56 "LoadBourse$Drive" "waited" "I" ∈ gwL := gw_in (tk_1 _ (List.mem_of_getElem? (i := 110) (by decide +kernel))) rfl
theorem tw_111 : Cond.fieldLink RX0 59 "LoadBourse$Drive" "earned" "I" ∈ gwL := gw_in (tk_1 _ (List.mem_of_getElem? (i := 111) (by decide +kernel))) rfl
theorem tw_112 : Cond.fieldLink RX0 62 "LoadBourse$Drive" "fault" "I" ∈ gwL := gw_in (tk_1 _ (List.mem_of_getElem? (i := 112) (by decide +kernel))) rfl
theorem tw_138 : Cond.classLink RX11 46 RX2 ∈ gwL := gw_in (tk_1 _ (List.mem_of_getElem? (i := 138) (by decide +kernel))) rfl
theorem tw_139 : Cond.instantiable RX2 13 ∈ gwL := gw_in (tk_1 _ (List.mem_of_getElem? (i := 139) (by decide +kernel))) rfl
theorem tw_140 : Cond.methodLink RX11 48 yX2_init ∈ gwL := gw_in (tk_1 _ (List.mem_of_getElem? (i := 140) (by decide +kernel))) rfl
theorem tw_141 : Cond.instanceMethod yX2_init ∈ gwL := gw_in (tk_1 _ (List.mem_of_getElem? (i := 141) (by decide +kernel))) rfl
theorem tw_142 : Cond.code yX2_init cX2_init 5 none ∈ gwL := gw_in (tk_1 _ (List.mem_of_getElem? (i := 142) (by decide +kernel))) rfl
theorem tw_143 : Cond.methodLink RX2 3 (⟨"java/lang/Object", "<init>", "()V"⟩ : MethodName) ∈ gwL := gw_in (tk_1 _ (List.mem_of_getElem? (i := 143) (by decide +kernel))) rfl
theorem tw_144 : Cond.fieldLink RX2 34 "LoadBourse$Giving" "journal" "LLoadBourse$Journal;" ∈ gwL := gw_in (tk_1 _ (List.mem_of_getElem? (i := 144) (by decide +kernel))) rfl
theorem tw_145 : Cond.fieldLink RX2 38 "LoadBourse$Giving" "lorries" "LLoadBourse$Table;" ∈ gwL := gw_in (tk_1 _ (List.mem_of_getElem? (i := 145) (by decide +kernel))) rfl
theorem tw_146 : Cond.fieldLink RX2 42 "LoadBourse$Giving" "loads" "LLoadBourse$Table;" ∈ gwL := gw_in (tk_1 _ (List.mem_of_getElem? (i := 146) (by decide +kernel))) rfl
theorem tw_147 : Cond.fieldLink RX2 45 "LoadBourse$Giving" "drive" "LLoadBourse$Drive;" ∈ gwL := gw_in (tk_1 _ (List.mem_of_getElem? (i := 147) (by decide +kernel))) rfl
theorem tw_148 : Cond.fieldLink RX2 11 "LoadBourse$Giving" "most" "[I" ∈ gwL := gw_in (tk_1 _ (List.mem_of_getElem? (i := 148) (by decide +kernel))) rfl
theorem tw_149 : Cond.fieldLink RX2 15 "LoadBourse$Giving" "choices" "[I" ∈ gwL := gw_in (tk_1 _ (List.mem_of_getElem? (i := 149) (by decide +kernel))) rfl
theorem tw_150 : Cond.fieldLink RX2 18 "LoadBourse$Giving" "rowsGiven" "[I" ∈ gwL := gw_in (tk_1 _ (List.mem_of_getElem? (i := 150) (by decide +kernel))) rfl
theorem tw_151 : Cond.fieldLink RX2 21 "LoadBourse$Giving" "rows" "[I" ∈ gwL := gw_in (tk_1 _ (List.mem_of_getElem? (i := 151) (by decide +kernel))) rfl
theorem tw_152 : Cond.fieldLink RX2 24 "LoadBourse$Giving" "takes" "[I" ∈ gwL := gw_in (tk_1 _ (List.mem_of_getElem? (i := 152) (by decide +kernel))) rfl
theorem tw_153 : Cond.fieldLink RX2 27 "LoadBourse$Giving" "values" "[I" ∈ gwL := gw_in (tk_1 _ (List.mem_of_getElem? (i := 153) (by decide +kernel))) rfl
theorem tw_154 : Cond.fieldLink RX2 110 "LoadBourse$Giving" "rowCount" "I" ∈ gwL := gw_in (tk_1 _ (List.mem_of_getElem? (i := 154) (by decide +kernel))) rfl
theorem tw_155 : Cond.fieldLink RX2 65 "LoadBourse$Giving" "free" "I" ∈ gwL := gw_in (tk_1 _ (List.mem_of_getElem? (i := 155) (by decide +kernel))) rfl
theorem tw_156 : Cond.fieldLink RX2 30 "LoadBourse$Giving" "workedAt" "I" ∈ gwL := gw_in (tk_1 _ (List.mem_of_getElem? (i := 156) (by decide +kernel))) rfl
theorem tw_184 : Cond.classLink RX11 55 RX5 ∈ gwL := gw_in (tk_1 _ (List.mem_of_getElem? (i := 184) (by decide +kernel))) rfl
theorem tw_185 : Cond.instantiable RX5 2 ∈ gwL := gw_in (tk_1 _ (List.mem_of_getElem? (i := 185) (by decide +kernel))) rfl
theorem tw_186 : Cond.methodLink RX11 57 yX5_init ∈ gwL := gw_in (tk_1 _ (List.mem_of_getElem? (i := 186) (by decide +kernel))) rfl
theorem tw_187 : Cond.instanceMethod yX5_init ∈ gwL := gw_in (tk_1 _ (List.mem_of_getElem? (i := 187) (by decide +kernel))) rfl
theorem tw_188 : Cond.code yX5_init cX5_init 2 none ∈ gwL := gw_in (tk_1 _ (List.mem_of_getElem? (i := 188) (by decide +kernel))) rfl
theorem tw_189 : Cond.methodLink RX5 3 (⟨"java/lang/Object", "<init>", "()V"⟩ : MethodName) ∈ gwL := gw_in (tk_1 _ (List.mem_of_getElem? (i := 189) (by decide +kernel))) rfl
theorem tw_190 : Cond.classLink RX5 15 RX8 ∈ gwL := gw_in (tk_1 _ (List.mem_of_getElem? (i := 190) (by decide +kernel))) rfl
theorem tw_191 : Cond.methodLink RX5 17 yX8_init ∈ gwL := gw_in (tk_1 _ (List.mem_of_getElem? (i := 191) (by decide +kernel))) rfl
theorem tw_192 : Cond.fieldLink RX5 20 "LoadBourse$Prices" "paid" "LLoadBourse$Table;" ∈ gwL := gw_in (tk_1 _ (List.mem_of_getElem? (i := 192) (by decide +kernel))) rfl
theorem tw_193 : Cond.fieldLink RX5 11 "LoadBourse$Prices" "sorted" "[I" ∈ gwL := gw_in (tk_1 _ (List.mem_of_getElem? (i := 193) (by decide +kernel))) rfl
theorem tw_199 : Cond.classLink RX11 62 RX1 ∈ gwL := gw_in (tk_1 _ (List.mem_of_getElem? (i := 199) (by decide +kernel))) rfl
theorem tw_200 : Cond.instantiable RX1 5 ∈ gwL := gw_in (tk_1 _ (List.mem_of_getElem? (i := 200) (by decide +kernel))) rfl
theorem tw_201 : Cond.methodLink RX11 64 yX1_init ∈ gwL := gw_in (tk_1 _ (List.mem_of_getElem? (i := 201) (by decide +kernel))) rfl
theorem tw_202 : Cond.instanceMethod yX1_init ∈ gwL := gw_in (tk_1 _ (List.mem_of_getElem? (i := 202) (by decide +kernel))) rfl
theorem tw_203 : Cond.code yX1_init cX1_init 2 none ∈ gwL := gw_in (tk_1 _ (List.mem_of_getElem? (i := 203) (by decide +kernel))) rfl
theorem tw_204 : Cond.methodLink RX1 3 (⟨"java/lang/Object", "<init>", "()V"⟩ : MethodName) ∈ gwL := gw_in (tk_1 _ (List.mem_of_getElem? (i := 204) (by decide +kernel))) rfl
theorem tw_205 : Cond.classLink RX1 19 RX8 ∈ gwL := gw_in (tk_1 _ (List.mem_of_getElem? (i := 205) (by decide +kernel))) rfl
theorem tw_206 : Cond.methodLink RX1 21 yX8_init ∈ gwL := gw_in (tk_1 _ (List.mem_of_getElem? (i := 206) (by decide +kernel))) rfl
theorem tw_207 : Cond.fieldLink RX1 15 "LoadBourse$Firms" "journal" "LLoadBourse$Journal;" ∈ gwL := gw_in (tk_1 _ (List.mem_of_getElem? (i := 207) (by decide +kernel))) rfl
theorem tw_208 : Cond.fieldLink RX1 24 "LoadBourse$Firms" "handed" "LLoadBourse$Table;" ∈ gwL := gw_in (tk_1 _ (List.mem_of_getElem? (i := 208) (by decide +kernel))) rfl
theorem tw_209 : Cond.fieldLink RX1 9 "LoadBourse$Firms" "judged" "[I" ∈ gwL := gw_in (tk_1 _ (List.mem_of_getElem? (i := 209) (by decide +kernel))) rfl
theorem tw_210 : Cond.fieldLink RX1 40 "LoadBourse$Firms" "links" "I" ∈ gwL := gw_in (tk_1 _ (List.mem_of_getElem? (i := 210) (by decide +kernel))) rfl
theorem tw_211 : Cond.fieldLink RX1 44 "LoadBourse$Firms" "carrier" "I" ∈ gwL := gw_in (tk_1 _ (List.mem_of_getElem? (i := 211) (by decide +kernel))) rfl
theorem tw_223 : Cond.classLink RX11 69 RX6 ∈ gwL := gw_in (tk_1 _ (List.mem_of_getElem? (i := 223) (by decide +kernel))) rfl
theorem tw_224 : Cond.instantiable RX6 4 ∈ gwL := gw_in (tk_1 _ (List.mem_of_getElem? (i := 224) (by decide +kernel))) rfl
theorem tw_225 : Cond.methodLink RX11 71 yX6_init ∈ gwL := gw_in (tk_1 _ (List.mem_of_getElem? (i := 225) (by decide +kernel))) rfl
theorem tw_226 : Cond.instanceMethod yX6_init ∈ gwL := gw_in (tk_1 _ (List.mem_of_getElem? (i := 226) (by decide +kernel))) rfl
theorem tw_227 : Cond.code yX6_init cX6_init 3 none ∈ gwL := gw_in (tk_1 _ (List.mem_of_getElem? (i := 227) (by decide +kernel))) rfl
theorem tw_228 : Cond.methodLink RX6 3 (⟨"java/lang/Object", "<init>", "()V"⟩ : MethodName) ∈ gwL := gw_in (tk_1 _ (List.mem_of_getElem? (i := 228) (by decide +kernel))) rfl
theorem tw_229 : Cond.classLink RX6 15 RX8 ∈ gwL := gw_in (tk_1 _ (List.mem_of_getElem? (i := 229) (by decide +kernel))) rfl
theorem tw_230 : Cond.methodLink RX6 17 yX8_init ∈ gwL := gw_in (tk_1 _ (List.mem_of_getElem? (i := 230) (by decide +kernel))) rfl
theorem tw_231 : Cond.fieldLink RX6 9 "LoadBourse$Reports" "towns" "LLoadBourse$Towns;" ∈ gwL := gw_in (tk_1 _ (List.mem_of_getElem? (i := 231) (by decide +kernel))) rfl
theorem tw_232 : Cond.fieldLink RX6 20 "LoadBourse$Reports" "told" "LLoadBourse$Table;" ∈ gwL := gw_in (tk_1 _ (List.mem_of_getElem? (i := 232) (by decide +kernel))) rfl
theorem tw_233 : Cond.fieldLink RX6 37 "LoadBourse$Reports" "pairs" "I" ∈ gwL := gw_in (tk_1 _ (List.mem_of_getElem? (i := 233) (by decide +kernel))) rfl
theorem tw_234 : Cond.fieldLink RX6 42 "LoadBourse$Reports" "firstPair" "I" ∈ gwL := gw_in (tk_1 _ (List.mem_of_getElem? (i := 234) (by decide +kernel))) rfl
theorem tw_244 : Cond.classLink RX11 78 RX4 ∈ gwL := gw_in (tk_2 _ (List.mem_of_getElem? (i := 4) (by decide +kernel))) rfl
theorem tw_245 : Cond.instantiable RX4 5 ∈ gwL := gw_in (tk_2 _ (List.mem_of_getElem? (i := 5) (by decide +kernel))) rfl
theorem tw_246 : Cond.methodLink RX11 80 yX4_init ∈ gwL := gw_in (tk_2 _ (List.mem_of_getElem? (i := 6) (by decide +kernel))) rfl
theorem tw_247 : Cond.instanceMethod yX4_init ∈ gwL := gw_in (tk_2 _ (List.mem_of_getElem? (i := 7) (by decide +kernel))) rfl
theorem tw_248 : Cond.code yX4_init cX4_init 2 none ∈ gwL := gw_in (tk_2 _ (List.mem_of_getElem? (i := 8) (by decide +kernel))) rfl
theorem tw_249 : Cond.methodLink RX4 3 (⟨"java/lang/Object", "<init>", "()V"⟩ : MethodName) ∈ gwL := gw_in (tk_2 _ (List.mem_of_getElem? (i := 9) (by decide +kernel))) rfl
theorem tw_250 : Cond.fieldLink RX4 21 "LoadBourse$Pallets" "journal" "LLoadBourse$Journal;" ∈ gwL := gw_in (tk_2 _ (List.mem_of_getElem? (i := 10) (by decide +kernel))) rfl
theorem tw_251 : Cond.fieldLink RX4 9 "LoadBourse$Pallets" "owed" "[I" ∈ gwL := gw_in (tk_2 _ (List.mem_of_getElem? (i := 11) (by decide +kernel))) rfl
theorem tw_252 : Cond.fieldLink RX4 15 "LoadBourse$Pallets" "sums" "[I" ∈ gwL := gw_in (tk_2 _ (List.mem_of_getElem? (i := 12) (by decide +kernel))) rfl
theorem tw_253 : Cond.fieldLink RX4 18 "LoadBourse$Pallets" "payments" "[I" ∈ gwL := gw_in (tk_2 _ (List.mem_of_getElem? (i := 13) (by decide +kernel))) rfl
theorem tw_254 : Cond.fieldLink RX4 45 "LoadBourse$Pallets" "paymentCount" "I" ∈ gwL := gw_in (tk_2 _ (List.mem_of_getElem? (i := 14) (by decide +kernel))) rfl
theorem tw_266 : Cond.classLink RX11 85 RX9 ∈ gwL := gw_in (tk_2 _ (List.mem_of_getElem? (i := 26) (by decide +kernel))) rfl
theorem tw_267 : Cond.instantiable RX9 4 ∈ gwL := gw_in (tk_2 _ (List.mem_of_getElem? (i := 27) (by decide +kernel))) rfl
theorem tw_268 : Cond.methodLink RX11 87 yX9_init ∈ gwL := gw_in (tk_2 _ (List.mem_of_getElem? (i := 28) (by decide +kernel))) rfl
theorem tw_269 : Cond.instanceMethod yX9_init ∈ gwL := gw_in (tk_2 _ (List.mem_of_getElem? (i := 29) (by decide +kernel))) rfl
theorem tw_270 : Cond.code yX9_init cX9_init 2 none ∈ gwL := gw_in (tk_2 _ (List.mem_of_getElem? (i := 30) (by decide +kernel))) rfl
theorem tw_271 : Cond.methodLink RX9 3 (⟨"java/lang/Object", "<init>", "()V"⟩ : MethodName) ∈ gwL := gw_in (tk_2 _ (List.mem_of_getElem? (i := 31) (by decide +kernel))) rfl
theorem tw_272 : Cond.fieldLink RX9 21 "LoadBourse$Terms" "journal" "LLoadBourse$Journal;" ∈ gwL := gw_in (tk_2 _ (List.mem_of_getElem? (i := 32) (by decide +kernel))) rfl
theorem tw_273 : Cond.fieldLink RX9 11 "LoadBourse$Terms" "signs" "[I" ∈ gwL := gw_in (tk_2 _ (List.mem_of_getElem? (i := 33) (by decide +kernel))) rfl
theorem tw_274 : Cond.fieldLink RX9 15 "LoadBourse$Terms" "facts" "[I" ∈ gwL := gw_in (tk_2 _ (List.mem_of_getElem? (i := 34) (by decide +kernel))) rfl
theorem tw_275 : Cond.fieldLink RX9 18 "LoadBourse$Terms" "numbers" "[I" ∈ gwL := gw_in (tk_2 _ (List.mem_of_getElem? (i := 35) (by decide +kernel))) rfl
theorem tw_285 : Cond.classLink RX11 92 RX7 ∈ gwL := gw_in (tk_2 _ (List.mem_of_getElem? (i := 45) (by decide +kernel))) rfl
theorem tw_286 : Cond.arrayOver (.object "LoadBourse$Sheet") ∈ lw_tbl := tk_2 _ (List.mem_of_getElem? (i := 46) (by decide +kernel))
theorem tw_287 : Cond.instantiable RX7 3 ∈ gwL := gw_in (tk_2 _ (List.mem_of_getElem? (i := 47) (by decide +kernel))) rfl
theorem tw_288 : Cond.methodLinkNest RX11 98 yX7_init RX11 ∈ lw_tbl := tk_2 _ (List.mem_of_getElem? (i := 48) (by decide +kernel))
theorem tw_289 : Cond.instanceMethod yX7_init ∈ gwL := gw_in (tk_2 _ (List.mem_of_getElem? (i := 49) (by decide +kernel))) rfl
theorem tw_290 : Cond.code yX7_init cX7_init 1 none ∈ gwL := gw_in (tk_2 _ (List.mem_of_getElem? (i := 50) (by decide +kernel))) rfl
theorem tw_291 : Cond.methodLink RX7 3 (⟨"java/lang/Object", "<init>", "()V"⟩ : MethodName) ∈ gwL := gw_in (tk_2 _ (List.mem_of_getElem? (i := 51) (by decide +kernel))) rfl
theorem tw_292 : Cond.fieldLink RX7 9 "LoadBourse$Sheet" "numbers" "[I" ∈ gwL := gw_in (tk_2 _ (List.mem_of_getElem? (i := 52) (by decide +kernel))) rfl
theorem tw_293 : Cond.fieldLink RX7 15 "LoadBourse$Sheet" "bits" "I" ∈ gwL := gw_in (tk_2 _ (List.mem_of_getElem? (i := 53) (by decide +kernel))) rfl
theorem tw_294 : Cond.fieldLink RX7 28 "LoadBourse$Sheet" "count" "I" ∈ gwL := gw_in (tk_2 _ (List.mem_of_getElem? (i := 54) (by decide +kernel))) rfl
theorem tw_302 : Cond.fieldLink RX11 10 "LoadBourse" "journal" "LLoadBourse$Journal;" ∈ gwL := gw_in (tk_2 _ (List.mem_of_getElem? (i := 62) (by decide +kernel))) rfl
theorem tw_303 : Cond.fieldLink RX11 21 "LoadBourse" "towns" "LLoadBourse$Towns;" ∈ gwL := gw_in (tk_2 _ (List.mem_of_getElem? (i := 63) (by decide +kernel))) rfl
theorem tw_304 : Cond.fieldLink RX11 30 "LoadBourse" "lorries" "LLoadBourse$Table;" ∈ gwL := gw_in (tk_2 _ (List.mem_of_getElem? (i := 64) (by decide +kernel))) rfl
theorem tw_305 : Cond.fieldLink RX11 34 "LoadBourse" "loads" "LLoadBourse$Table;" ∈ gwL := gw_in (tk_2 _ (List.mem_of_getElem? (i := 65) (by decide +kernel))) rfl
theorem tw_306 : Cond.fieldLink RX11 42 "LoadBourse" "driving" "LLoadBourse$Drive;" ∈ gwL := gw_in (tk_2 _ (List.mem_of_getElem? (i := 66) (by decide +kernel))) rfl
theorem tw_307 : Cond.fieldLink RX11 51 "LoadBourse" "giving" "LLoadBourse$Giving;" ∈ gwL := gw_in (tk_2 _ (List.mem_of_getElem? (i := 67) (by decide +kernel))) rfl
theorem tw_308 : Cond.fieldLink RX11 58 "LoadBourse" "prices" "LLoadBourse$Prices;" ∈ gwL := gw_in (tk_2 _ (List.mem_of_getElem? (i := 68) (by decide +kernel))) rfl
theorem tw_309 : Cond.fieldLink RX11 65 "LoadBourse" "firms" "LLoadBourse$Firms;" ∈ gwL := gw_in (tk_2 _ (List.mem_of_getElem? (i := 69) (by decide +kernel))) rfl
theorem tw_310 : Cond.fieldLink RX11 74 "LoadBourse" "reports" "LLoadBourse$Reports;" ∈ gwL := gw_in (tk_2 _ (List.mem_of_getElem? (i := 70) (by decide +kernel))) rfl
theorem tw_311 : Cond.fieldLink RX11 81 "LoadBourse" "pallets" "LLoadBourse$Pallets;" ∈ gwL := gw_in (tk_2 _ (List.mem_of_getElem? (i := 71) (by decide +kernel))) rfl
theorem tw_312 : Cond.fieldLink RX11 88 "LoadBourse" "terms" "LLoadBourse$Terms;" ∈ gwL := gw_in (tk_2 _ (List.mem_of_getElem? (i := 72) (by decide +kernel))) rfl
theorem tw_313 : Cond.fieldLink RX11 94 "LoadBourse" "sheets" "[LLoadBourse$Sheet;" ∈ gwL := gw_in (tk_2 _ (List.mem_of_getElem? (i := 73) (by decide +kernel))) rfl
theorem tw_314 : Cond.fieldLink RX11 308 "LoadBourse" "findings" "I" ∈ gwL := gw_in (tk_2 _ (List.mem_of_getElem? (i := 74) (by decide +kernel))) rfl
theorem tw_342 : Cond.methodLink RL 13 yX11_road ∈ gwL := gw_in (tk_2 _ (List.mem_of_getElem? (i := 102) (by decide +kernel))) rfl
theorem tw_343 : Cond.instanceMethod yX11_road ∈ gwL := gw_in (tk_2 _ (List.mem_of_getElem? (i := 103) (by decide +kernel))) rfl
theorem tw_344 : Cond.selects RX11 yX11_road yX11_road ∈ gwL := gw_in (tk_2 _ (List.mem_of_getElem? (i := 104) (by decide +kernel))) rfl
theorem tw_345 : Cond.code yX11_road cX11_road 4 (some .int) ∈ gwL := gw_in (tk_2 _ (List.mem_of_getElem? (i := 105) (by decide +kernel))) rfl
theorem tw_346 : Cond.methodLink RX11 99 yX11_isTown ∈ gwL := gw_in (tk_2 _ (List.mem_of_getElem? (i := 106) (by decide +kernel))) rfl
theorem tw_347 : Cond.static yX11_isTown ∈ gwL := gw_in (tk_2 _ (List.mem_of_getElem? (i := 107) (by decide +kernel))) rfl
theorem tw_348 : Cond.code yX11_isTown cX11_isTown 1 (some .boolean) ∈ gwL := gw_in (tk_2 _ (List.mem_of_getElem? (i := 108) (by decide +kernel))) rfl
theorem tw_349 : Cond.methodLink RX11 103 yX11_within ∈ gwL := gw_in (tk_2 _ (List.mem_of_getElem? (i := 109) (by decide +kernel))) rfl
theorem tw_350 : Cond.static yX11_within ∈ gwL := gw_in (tk_2 _ (List.mem_of_getElem? (i := 110) (by decide +kernel))) rfl
theorem tw_351 : Cond.code yX11_within cX11_within 3 (some .boolean) ∈ gwL := gw_in (tk_2 _ (List.mem_of_getElem? (i := 111) (by decide +kernel))) rfl
theorem tw_352 : Cond.constant RX11 107 (-100001) ∈ gwL := gw_in (tk_2 _ (List.mem_of_getElem? (i := 112) (by decide +kernel))) rfl
theorem tw_353 : Cond.methodLink RX11 108 yX11_told ∈ gwL := gw_in (tk_2 _ (List.mem_of_getElem? (i := 113) (by decide +kernel))) rfl
theorem tw_355 : Cond.instanceMethod yX11_told ∈ gwL := gw_in (tk_2 _ (List.mem_of_getElem? (i := 115) (by decide +kernel))) rfl
theorem tw_356 : Cond.code yX11_told cX11_told 2 (some .int) ∈ gwL := gw_in (tk_2 _ (List.mem_of_getElem? (i := 116) (by decide +kernel))) rfl
theorem tw_357 : Cond.constant RX11 273 (-99999) ∈ gwL := gw_in (tk_2 _ (List.mem_of_getElem? (i := 117) (by decide +kernel))) rfl
theorem tw_358 : Cond.methodLink RX11 112 yX10_join ∈ gwL := gw_in (tk_2 _ (List.mem_of_getElem? (i := 118) (by decide +kernel))) rfl
theorem tw_359 : Cond.instanceMethod yX10_join ∈ gwL := gw_in (tk_2 _ (List.mem_of_getElem? (i := 119) (by decide +kernel))) rfl
theorem tw_360 : Cond.selects RX10 yX10_join yX10_join ∈ gwL := gw_in (tk_2 _ (List.mem_of_getElem? (i := 120) (by decide +kernel))) rfl
theorem tw_361 : Cond.code yX10_join cX10_join 6 (some .int) ∈ gwL := gw_in (tk_2 _ (List.mem_of_getElem? (i := 121) (by decide +kernel))) rfl
theorem tw_362 : Cond.methodLinkNest RX10 26 yX11_isTown RX11 ∈ lw_tbl := tk_2 _ (List.mem_of_getElem? (i := 122) (by decide +kernel))
theorem tw_363 : Cond.methodLink RX10 30 yJ9_min_7cf53 ∈ gwL := gw_in (tk_2 _ (List.mem_of_getElem? (i := 123) (by decide +kernel))) rfl
theorem tw_364 : Cond.static yJ9_min_7cf53 ∈ gwL := gw_in (tk_2 _ (List.mem_of_getElem? (i := 124) (by decide +kernel))) rfl
theorem tw_365 : Cond.code yJ9_min_7cf53 cJ9_min_7cf53 2 (some .int) ∈ gwL := gw_in (tk_2 _ (List.mem_of_getElem? (i := 125) (by decide +kernel))) rfl
theorem tw_366 : Cond.methodLink RX10 36 yJ9_max_7cf53 ∈ gwL := gw_in (tk_2 _ (List.mem_of_getElem? (i := 126) (by decide +kernel))) rfl
theorem tw_367 : Cond.methodLink RX10 39 yX3_keep ∈ gwL := gw_in (tk_2 _ (List.mem_of_getElem? (i := 127) (by decide +kernel))) rfl
theorem tw_368 : Cond.instanceMethod yX3_keep ∈ gwL := gw_in (tk_2 _ (List.mem_of_getElem? (i := 128) (by decide +kernel))) rfl
theorem tw_369 : Cond.selects RX3 yX3_keep yX3_keep ∈ gwL := gw_in (tk_2 _ (List.mem_of_getElem? (i := 129) (by decide +kernel))) rfl
theorem tw_370 : Cond.code yX3_keep cX3_keep 4 none ∈ gwL := gw_in (tk_2 _ (List.mem_of_getElem? (i := 130) (by decide +kernel))) rfl
theorem tw_371 : Cond.methodLink RX3 30 yJ7_copyOfRange_feecc ∈ gwL := gw_in (tk_2 _ (List.mem_of_getElem? (i := 131) (by decide +kernel))) rfl
theorem tw_372 : Cond.static yJ7_copyOfRange_feecc ∈ gwL := gw_in (tk_2 _ (List.mem_of_getElem? (i := 132) (by decide +kernel))) rfl
theorem tw_373 : Cond.code yJ7_copyOfRange_feecc cJ7_copyOfRange_feecc 3 (some (.array .int)) ∈ gwL := gw_in (tk_2 _ (List.mem_of_getElem? (i := 133) (by decide +kernel))) rfl
theorem tw_374 : Cond.methodLink RJ7 351 yJ7_copyOfRangeInt_feecc ∈ gwL := gw_in (tk_2 _ (List.mem_of_getElem? (i := 134) (by decide +kernel))) rfl
theorem tw_375 : Cond.static yJ7_copyOfRangeInt_feecc ∈ gwL := gw_in (tk_2 _ (List.mem_of_getElem? (i := 135) (by decide +kernel))) rfl
theorem tw_376 : Cond.code yJ7_copyOfRangeInt_feecc cJ7_copyOfRangeInt_feecc 5 (some (.array .int)) ∈ gwL := gw_in (tk_2 _ (List.mem_of_getElem? (i := 136) (by decide +kernel))) rfl
theorem tw_377 : Cond.methodLink RJ7 343 yJ7_checkLength_df160 ∈ gwL := gw_in (tk_2 _ (List.mem_of_getElem? (i := 137) (by decide +kernel))) rfl
theorem tw_378 : Cond.static yJ7_checkLength_df160 ∈ gwL := gw_in (tk_2 _ (List.mem_of_getElem? (i := 138) (by decide +kernel))) rfl
theorem tw_379 : Cond.code yJ7_checkLength_df160 cJ7_checkLength_df160 2 none ∈ gwL := gw_in (tk_2 _ (List.mem_of_getElem? (i := 139) (by decide +kernel))) rfl
theorem tw_380 : Cond.methodLink RJ7 304 yJ9_min_7cf53 ∈ gwL := gw_in (tk_2 _ (List.mem_of_getElem? (i := 140) (by decide +kernel))) rfl
theorem tw_381 : Cond.methodLink RJ7 150 (⟨"java/lang/System", "arraycopy", "(Ljava/lang/Object;ILjava/lang/Object;II)V"⟩ : MethodName) ∈ gwL := gw_in (tk_2 _ (List.mem_of_getElem? (i := 141) (by decide +kernel))) rfl
theorem tw_382 : Cond.static (⟨"java/lang/System", "arraycopy", "(Ljava/lang/Object;ILjava/lang/Object;II)V"⟩ : MethodName) ∈ gwL := gw_in (tk_2 _ (List.mem_of_getElem? (i := 142) (by decide +kernel))) rfl
theorem tw_383 : Cond.native (⟨"java/lang/System", "arraycopy", "(Ljava/lang/Object;ILjava/lang/Object;II)V"⟩ : MethodName) ∈ gwL := gw_in (tk_2 _ (List.mem_of_getElem? (i := 143) (by decide +kernel))) rfl
theorem tw_384 : Cond.methodLink RJ7 316 (⟨"[I", "clone", "()Ljava/lang/Object;"⟩ : MethodName) ∈ gwL := gw_in (tk_2 _ (List.mem_of_getElem? (i := 144) (by decide +kernel))) rfl
theorem tw_385 : Cond.sameMethod "[I" "java/lang/Object" "clone" "()Ljava/lang/Object;" ∈ gwL := gw_in (tk_2 _ (List.mem_of_getElem? (i := 145) (by decide +kernel))) rfl
theorem tw_386 : Cond.native (⟨"java/lang/Object", "clone", "()Ljava/lang/Object;"⟩ : MethodName) ∈ gwL := gw_in (tk_2 _ (List.mem_of_getElem? (i := 146) (by decide +kernel))) rfl
theorem tw_387 : Cond.instanceMethod (⟨"java/lang/Object", "clone", "()Ljava/lang/Object;"⟩ : MethodName) ∈ gwL := gw_in (tk_2 _ (List.mem_of_getElem? (i := 147) (by decide +kernel))) rfl
theorem tw_388 : Cond.selects "[I" (⟨"[I", "clone", "()Ljava/lang/Object;"⟩ : MethodName) (⟨"java/lang/Object", "clone", "()Ljava/lang/Object;"⟩ : MethodName) ∈ gwL := gw_in (tk_2 _ (List.mem_of_getElem? (i := 148) (by decide +kernel))) rfl
theorem tw_389 : Cond.castable "[I" "java/lang/Cloneable" ∈ lw_tbl := tk_2 _ (List.mem_of_getElem? (i := 149) (by decide +kernel))
theorem tw_390 : Cond.classLink RJ7 317 "[I" ∈ gwL := gw_in (tk_2 _ (List.mem_of_getElem? (i := 150) (by decide +kernel))) rfl
theorem tw_391 : Cond.methodLink RX3 39 yJ9_min_7cf53 ∈ gwL := gw_in (tk_2 _ (List.mem_of_getElem? (i := 151) (by decide +kernel))) rfl
theorem tw_392 : Cond.methodLink RL 18 yX11_far ∈ gwL := gw_in (tk_2 _ (List.mem_of_getElem? (i := 152) (by decide +kernel))) rfl
theorem tw_393 : Cond.instanceMethod yX11_far ∈ gwL := gw_in (tk_2 _ (List.mem_of_getElem? (i := 153) (by decide +kernel))) rfl
theorem tw_394 : Cond.selects RX11 yX11_far yX11_far ∈ gwL := gw_in (tk_2 _ (List.mem_of_getElem? (i := 154) (by decide +kernel))) rfl
theorem tw_395 : Cond.code yX11_far cX11_far 4 (some .int) ∈ gwL := gw_in (tk_2 _ (List.mem_of_getElem? (i := 155) (by decide +kernel))) rfl
theorem tw_396 : Cond.methodLink RX11 116 yX10_measure ∈ gwL := gw_in (tk_2 _ (List.mem_of_getElem? (i := 156) (by decide +kernel))) rfl
theorem tw_397 : Cond.instanceMethod yX10_measure ∈ gwL := gw_in (tk_2 _ (List.mem_of_getElem? (i := 157) (by decide +kernel))) rfl
theorem tw_398 : Cond.selects RX10 yX10_measure yX10_measure ∈ gwL := gw_in (tk_2 _ (List.mem_of_getElem? (i := 158) (by decide +kernel))) rfl
theorem tw_399 : Cond.code yX10_measure cX10_measure 4 none ∈ gwL := gw_in (tk_2 _ (List.mem_of_getElem? (i := 159) (by decide +kernel))) rfl
theorem tw_400 : Cond.methodLink RX10 45 yX3_changes ∈ gwL := gw_in (tk_2 _ (List.mem_of_getElem? (i := 160) (by decide +kernel))) rfl
theorem tw_401 : Cond.instanceMethod yX3_changes ∈ gwL := gw_in (tk_2 _ (List.mem_of_getElem? (i := 161) (by decide +kernel))) rfl
theorem tw_402 : Cond.selects RX3 yX3_changes yX3_changes ∈ gwL := gw_in (tk_2 _ (List.mem_of_getElem? (i := 162) (by decide +kernel))) rfl
theorem tw_403 : Cond.code yX3_changes cX3_changes 1 (some .int) ∈ gwL := gw_in (tk_2 _ (List.mem_of_getElem? (i := 163) (by decide +kernel))) rfl
theorem tw_404 : Cond.constant RX10 49 (1000000) ∈ gwL := gw_in (tk_2 _ (List.mem_of_getElem? (i := 164) (by decide +kernel))) rfl
theorem tw_405 : Cond.methodLink RX10 50 yX10_shortenBy ∈ gwL := gw_in (tk_2 _ (List.mem_of_getElem? (i := 165) (by decide +kernel))) rfl
theorem tw_407 : Cond.instanceMethod yX10_shortenBy ∈ gwL := gw_in (tk_2 _ (List.mem_of_getElem? (i := 167) (by decide +kernel))) rfl
theorem tw_408 : Cond.code yX10_shortenBy cX10_shortenBy 5 none ∈ gwL := gw_in (tk_2 _ (List.mem_of_getElem? (i := 168) (by decide +kernel))) rfl
theorem tw_409 : Cond.methodLink RX11 119 yX10_between ∈ gwL := gw_in (tk_2 _ (List.mem_of_getElem? (i := 169) (by decide +kernel))) rfl
theorem tw_410 : Cond.instanceMethod yX10_between ∈ gwL := gw_in (tk_2 _ (List.mem_of_getElem? (i := 170) (by decide +kernel))) rfl
theorem tw_411 : Cond.selects RX10 yX10_between yX10_between ∈ gwL := gw_in (tk_2 _ (List.mem_of_getElem? (i := 171) (by decide +kernel))) rfl
theorem tw_412 : Cond.code yX10_between cX10_between 4 (some .int) ∈ gwL := gw_in (tk_2 _ (List.mem_of_getElem? (i := 172) (by decide +kernel))) rfl
theorem tw_413 : Cond.constant RX11 123 (1000000) ∈ gwL := gw_in (tk_2 _ (List.mem_of_getElem? (i := 173) (by decide +kernel))) rfl
theorem tw_414 : Cond.constant RX11 124 (-100006) ∈ gwL := gw_in (tk_2 _ (List.mem_of_getElem? (i := 174) (by decide +kernel))) rfl
theorem tw_415 : Cond.methodLink RL 23 yX11_lorry ∈ gwL := gw_in (tk_2 _ (List.mem_of_getElem? (i := 175) (by decide +kernel))) rfl
theorem tw_416 : Cond.instanceMethod yX11_lorry ∈ gwL := gw_in (tk_2 _ (List.mem_of_getElem? (i := 176) (by decide +kernel))) rfl
theorem tw_417 : Cond.selects RX11 yX11_lorry yX11_lorry ∈ gwL := gw_in (tk_2 _ (List.mem_of_getElem? (i := 177) (by decide +kernel))) rfl
theorem tw_418 : Cond.code yX11_lorry cX11_lorry 10 (some .int) ∈ gwL := gw_in (tk_2 _ (List.mem_of_getElem? (i := 178) (by decide +kernel))) rfl
theorem tw_419 : Cond.methodLink RX11 125 yX8_add ∈ gwL := gw_in (tk_2 _ (List.mem_of_getElem? (i := 179) (by decide +kernel))) rfl
theorem tw_420 : Cond.instanceMethod yX8_add ∈ gwL := gw_in (tk_2 _ (List.mem_of_getElem? (i := 180) (by decide +kernel))) rfl
theorem tw_421 : Cond.selects RX8 yX8_add yX8_add ∈ gwL := gw_in (tk_2 _ (List.mem_of_getElem? (i := 181) (by decide +kernel))) rfl
theorem tw_422 : Cond.code yX8_add cX8_add 3 (some .int) ∈ gwL := gw_in (tk_2 _ (List.mem_of_getElem? (i := 182) (by decide +kernel))) rfl
theorem tw_423 : Cond.constant RX8 36 (-100005) ∈ gwL := gw_in (tk_2 _ (List.mem_of_getElem? (i := 183) (by decide +kernel))) rfl
theorem tw_424 : Cond.methodLink RX8 37 yX3_keep ∈ gwL := gw_in (tk_2 _ (List.mem_of_getElem? (i := 184) (by decide +kernel))) rfl
theorem tw_425 : Cond.methodLink RX8 43 (⟨"java/lang/System", "arraycopy", "(Ljava/lang/Object;ILjava/lang/Object;II)V"⟩ : MethodName) ∈ gwL := gw_in (tk_2 _ (List.mem_of_getElem? (i := 185) (by decide +kernel))) rfl
theorem tw_426 : Cond.methodLink RL 28 yX11_as ∈ gwL := gw_in (tk_2 _ (List.mem_of_getElem? (i := 186) (by decide +kernel))) rfl
theorem tw_427 : Cond.instanceMethod yX11_as ∈ gwL := gw_in (tk_2 _ (List.mem_of_getElem? (i := 187) (by decide +kernel))) rfl
theorem tw_428 : Cond.selects RX11 yX11_as yX11_as ∈ gwL := gw_in (tk_2 _ (List.mem_of_getElem? (i := 188) (by decide +kernel))) rfl
theorem tw_429 : Cond.code yX11_as cX11_as 4 (some .int) ∈ gwL := gw_in (tk_2 _ (List.mem_of_getElem? (i := 189) (by decide +kernel))) rfl
theorem tw_430 : Cond.methodLink RX11 129 yX8_has ∈ gwL := gw_in (tk_2 _ (List.mem_of_getElem? (i := 190) (by decide +kernel))) rfl
theorem tw_431 : Cond.instanceMethod yX8_has ∈ gwL := gw_in (tk_2 _ (List.mem_of_getElem? (i := 191) (by decide +kernel))) rfl
theorem tw_432 : Cond.selects RX8 yX8_has yX8_has ∈ gwL := gw_in (tk_2 _ (List.mem_of_getElem? (i := 192) (by decide +kernel))) rfl
theorem tw_433 : Cond.code yX8_has cX8_has 2 (some .boolean) ∈ gwL := gw_in (tk_2 _ (List.mem_of_getElem? (i := 193) (by decide +kernel))) rfl
theorem tw_434 : Cond.methodLink RX11 132 yX8_at ∈ gwL := gw_in (tk_2 _ (List.mem_of_getElem? (i := 194) (by decide +kernel))) rfl
theorem tw_435 : Cond.instanceMethod yX8_at ∈ gwL := gw_in (tk_2 _ (List.mem_of_getElem? (i := 195) (by decide +kernel))) rfl
theorem tw_436 : Cond.selects RX8 yX8_at yX8_at ∈ gwL := gw_in (tk_2 _ (List.mem_of_getElem? (i := 196) (by decide +kernel))) rfl
theorem tw_437 : Cond.code yX8_at cX8_at 3 (some .int) ∈ gwL := gw_in (tk_2 _ (List.mem_of_getElem? (i := 197) (by decide +kernel))) rfl
theorem tw_438 : Cond.methodLink RX8 32 yX8_isCell ∈ gwL := gw_in (tk_2 _ (List.mem_of_getElem? (i := 198) (by decide +kernel))) rfl
theorem tw_440 : Cond.instanceMethod yX8_isCell ∈ gwL := gw_in (tk_2 _ (List.mem_of_getElem? (i := 200) (by decide +kernel))) rfl
theorem tw_441 : Cond.code yX8_isCell cX8_isCell 3 (some .boolean) ∈ gwL := gw_in (tk_2 _ (List.mem_of_getElem? (i := 201) (by decide +kernel))) rfl
theorem tw_442 : Cond.constant RX11 135 (-100004) ∈ gwL := gw_in (tk_2 _ (List.mem_of_getElem? (i := 202) (by decide +kernel))) rfl
theorem tw_443 : Cond.methodLink RL 32 yX11_lorryIs ∈ gwL := gw_in (tk_2 _ (List.mem_of_getElem? (i := 203) (by decide +kernel))) rfl
theorem tw_444 : Cond.instanceMethod yX11_lorryIs ∈ gwL := gw_in (tk_2 _ (List.mem_of_getElem? (i := 204) (by decide +kernel))) rfl
theorem tw_445 : Cond.selects RX11 yX11_lorryIs yX11_lorryIs ∈ gwL := gw_in (tk_2 _ (List.mem_of_getElem? (i := 205) (by decide +kernel))) rfl
theorem tw_446 : Cond.code yX11_lorryIs cX11_lorryIs 3 (some .int) ∈ gwL := gw_in (tk_2 _ (List.mem_of_getElem? (i := 206) (by decide +kernel))) rfl
theorem tw_447 : Cond.methodLink RX11 136 yX11_givenTo ∈ gwL := gw_in (tk_2 _ (List.mem_of_getElem? (i := 207) (by decide +kernel))) rfl
theorem tw_449 : Cond.instanceMethod yX11_givenTo ∈ gwL := gw_in (tk_2 _ (List.mem_of_getElem? (i := 209) (by decide +kernel))) rfl
theorem tw_450 : Cond.code yX11_givenTo cX11_givenTo 4 (some .int) ∈ gwL := gw_in (tk_2 _ (List.mem_of_getElem? (i := 210) (by decide +kernel))) rfl
theorem tw_451 : Cond.methodLink RX11 179 yX8_count ∈ gwL := gw_in (tk_2 _ (List.mem_of_getElem? (i := 211) (by decide +kernel))) rfl
theorem tw_452 : Cond.instanceMethod yX8_count ∈ gwL := gw_in (tk_2 _ (List.mem_of_getElem? (i := 212) (by decide +kernel))) rfl
theorem tw_453 : Cond.selects RX8 yX8_count yX8_count ∈ gwL := gw_in (tk_2 _ (List.mem_of_getElem? (i := 213) (by decide +kernel))) rfl
theorem tw_454 : Cond.code yX8_count cX8_count 1 (some .int) ∈ gwL := gw_in (tk_2 _ (List.mem_of_getElem? (i := 214) (by decide +kernel))) rfl
theorem tw_455 : Cond.methodLink RL 36 yX11_load ∈ gwL := gw_in (tk_2 _ (List.mem_of_getElem? (i := 215) (by decide +kernel))) rfl
theorem tw_456 : Cond.instanceMethod yX11_load ∈ gwL := gw_in (tk_2 _ (List.mem_of_getElem? (i := 216) (by decide +kernel))) rfl
theorem tw_457 : Cond.selects RX11 yX11_load yX11_load ∈ gwL := gw_in (tk_2 _ (List.mem_of_getElem? (i := 217) (by decide +kernel))) rfl
theorem tw_458 : Cond.code yX11_load cX11_load 8 (some .int) ∈ gwL := gw_in (tk_2 _ (List.mem_of_getElem? (i := 218) (by decide +kernel))) rfl
theorem tw_459 : Cond.methodLink RX11 139 yX11_isLane ∈ gwL := gw_in (tk_2 _ (List.mem_of_getElem? (i := 219) (by decide +kernel))) rfl
theorem tw_460 : Cond.static yX11_isLane ∈ gwL := gw_in (tk_2 _ (List.mem_of_getElem? (i := 220) (by decide +kernel))) rfl
theorem tw_461 : Cond.code yX11_isLane cX11_isLane 1 (some .boolean) ∈ gwL := gw_in (tk_2 _ (List.mem_of_getElem? (i := 221) (by decide +kernel))) rfl
theorem tw_462 : Cond.constant RX11 142 (-100003) ∈ gwL := gw_in (tk_2 _ (List.mem_of_getElem? (i := 222) (by decide +kernel))) rfl
theorem tw_463 : Cond.methodLink RL 41 yX11_window ∈ gwL := gw_in (tk_2 _ (List.mem_of_getElem? (i := 223) (by decide +kernel))) rfl
theorem tw_464 : Cond.instanceMethod yX11_window ∈ gwL := gw_in (tk_2 _ (List.mem_of_getElem? (i := 224) (by decide +kernel))) rfl
theorem tw_465 : Cond.selects RX11 yX11_window yX11_window ∈ gwL := gw_in (tk_2 _ (List.mem_of_getElem? (i := 225) (by decide +kernel))) rfl
theorem tw_466 : Cond.code yX11_window cX11_window 5 (some .int) ∈ gwL := gw_in (tk_2 _ (List.mem_of_getElem? (i := 226) (by decide +kernel))) rfl
theorem tw_467 : Cond.methodLink RX11 143 yX8_setPair ∈ gwL := gw_in (tk_2 _ (List.mem_of_getElem? (i := 227) (by decide +kernel))) rfl
theorem tw_468 : Cond.instanceMethod yX8_setPair ∈ gwL := gw_in (tk_2 _ (List.mem_of_getElem? (i := 228) (by decide +kernel))) rfl
theorem tw_469 : Cond.selects RX8 yX8_setPair yX8_setPair ∈ gwL := gw_in (tk_2 _ (List.mem_of_getElem? (i := 229) (by decide +kernel))) rfl
theorem tw_470 : Cond.code yX8_setPair cX8_setPair 6 none ∈ gwL := gw_in (tk_2 _ (List.mem_of_getElem? (i := 230) (by decide +kernel))) rfl
theorem tw_471 : Cond.methodLink RL 46 yX11_loadIs ∈ gwL := gw_in (tk_2 _ (List.mem_of_getElem? (i := 231) (by decide +kernel))) rfl
theorem tw_472 : Cond.instanceMethod yX11_loadIs ∈ gwL := gw_in (tk_2 _ (List.mem_of_getElem? (i := 232) (by decide +kernel))) rfl
theorem tw_473 : Cond.selects RX11 yX11_loadIs yX11_loadIs ∈ gwL := gw_in (tk_2 _ (List.mem_of_getElem? (i := 233) (by decide +kernel))) rfl
theorem tw_474 : Cond.code yX11_loadIs cX11_loadIs 3 (some .int) ∈ gwL := gw_in (tk_2 _ (List.mem_of_getElem? (i := 234) (by decide +kernel))) rfl
theorem tw_475 : Cond.methodLink RL 50 yX11_pay ∈ gwL := gw_in (tk_2 _ (List.mem_of_getElem? (i := 235) (by decide +kernel))) rfl
theorem tw_476 : Cond.instanceMethod yX11_pay ∈ gwL := gw_in (tk_2 _ (List.mem_of_getElem? (i := 236) (by decide +kernel))) rfl
theorem tw_477 : Cond.selects RX11 yX11_pay yX11_pay ∈ gwL := gw_in (tk_2 _ (List.mem_of_getElem? (i := 237) (by decide +kernel))) rfl
theorem tw_478 : Cond.code yX11_pay cX11_pay 3 (some .int) ∈ gwL := gw_in (tk_2 _ (List.mem_of_getElem? (i := 238) (by decide +kernel))) rfl
theorem tw_479 : Cond.methodLink RX11 147 yX8_set ∈ gwL := gw_in (tk_2 _ (List.mem_of_getElem? (i := 239) (by decide +kernel))) rfl
theorem tw_480 : Cond.instanceMethod yX8_set ∈ gwL := gw_in (tk_3 _ (List.mem_of_getElem? (i := 0) (by decide +kernel))) rfl
theorem tw_481 : Cond.selects RX8 yX8_set yX8_set ∈ gwL := gw_in (tk_3 _ (List.mem_of_getElem? (i := 1) (by decide +kernel))) rfl
theorem tw_482 : Cond.code yX8_set cX8_set 5 (some .int) ∈ gwL := gw_in (tk_3 _ (List.mem_of_getElem? (i := 2) (by decide +kernel))) rfl
theorem tw_483 : Cond.methodLink RX8 49 yX8_at ∈ gwL := gw_in (tk_3 _ (List.mem_of_getElem? (i := 3) (by decide +kernel))) rfl
theorem tw_484 : Cond.methodLink RL 54 yX11_give ∈ gwL := gw_in (tk_3 _ (List.mem_of_getElem? (i := 4) (by decide +kernel))) rfl
theorem tw_485 : Cond.instanceMethod yX11_give ∈ gwL := gw_in (tk_3 _ (List.mem_of_getElem? (i := 5) (by decide +kernel))) rfl
theorem tw_486 : Cond.selects RX11 yX11_give yX11_give ∈ gwL := gw_in (tk_3 _ (List.mem_of_getElem? (i := 6) (by decide +kernel))) rfl
theorem tw_487 : Cond.code yX11_give cX11_give 3 (some .int) ∈ gwL := gw_in (tk_3 _ (List.mem_of_getElem? (i := 7) (by decide +kernel))) rfl
theorem tw_488 : Cond.methodLink RX11 150 yX0_fits ∈ gwL := gw_in (tk_3 _ (List.mem_of_getElem? (i := 8) (by decide +kernel))) rfl
theorem tw_489 : Cond.instanceMethod yX0_fits ∈ gwL := gw_in (tk_3 _ (List.mem_of_getElem? (i := 9) (by decide +kernel))) rfl
theorem tw_490 : Cond.selects RX0 yX0_fits yX0_fits ∈ gwL := gw_in (tk_3 _ (List.mem_of_getElem? (i := 10) (by decide +kernel))) rfl
theorem tw_491 : Cond.code yX0_fits cX0_fits 3 (some .boolean) ∈ gwL := gw_in (tk_3 _ (List.mem_of_getElem? (i := 11) (by decide +kernel))) rfl
theorem tw_492 : Cond.methodLink RX0 22 yX8_at ∈ gwL := gw_in (tk_3 _ (List.mem_of_getElem? (i := 12) (by decide +kernel))) rfl
theorem tw_493 : Cond.methodLink RX0 28 yX0_takes ∈ gwL := gw_in (tk_3 _ (List.mem_of_getElem? (i := 13) (by decide +kernel))) rfl
theorem tw_494 : Cond.static yX0_takes ∈ gwL := gw_in (tk_3 _ (List.mem_of_getElem? (i := 14) (by decide +kernel))) rfl
theorem tw_495 : Cond.code yX0_takes cX0_takes 2 (some .boolean) ∈ gwL := gw_in (tk_3 _ (List.mem_of_getElem? (i := 15) (by decide +kernel))) rfl
theorem tw_496 : Cond.methodLink RL 58 yX11_why ∈ gwL := gw_in (tk_3 _ (List.mem_of_getElem? (i := 16) (by decide +kernel))) rfl
theorem tw_497 : Cond.instanceMethod yX11_why ∈ gwL := gw_in (tk_3 _ (List.mem_of_getElem? (i := 17) (by decide +kernel))) rfl
theorem tw_498 : Cond.selects RX11 yX11_why yX11_why ∈ gwL := gw_in (tk_3 _ (List.mem_of_getElem? (i := 18) (by decide +kernel))) rfl
theorem tw_499 : Cond.code yX11_why cX11_why 5 (some .int) ∈ gwL := gw_in (tk_3 _ (List.mem_of_getElem? (i := 19) (by decide +kernel))) rfl
theorem tw_500 : Cond.methodLink RX11 154 yX11_findingOfRow ∈ gwL := gw_in (tk_3 _ (List.mem_of_getElem? (i := 20) (by decide +kernel))) rfl
theorem tw_502 : Cond.instanceMethod yX11_findingOfRow ∈ gwL := gw_in (tk_3 _ (List.mem_of_getElem? (i := 22) (by decide +kernel))) rfl
theorem tw_503 : Cond.code yX11_findingOfRow cX11_findingOfRow 4 (some .int) ∈ gwL := gw_in (tk_3 _ (List.mem_of_getElem? (i := 23) (by decide +kernel))) rfl
theorem tw_504 : Cond.methodLink RX11 312 yX11_isLoadOrNone ∈ gwL := gw_in (tk_3 _ (List.mem_of_getElem? (i := 24) (by decide +kernel))) rfl
theorem tw_506 : Cond.instanceMethod yX11_isLoadOrNone ∈ gwL := gw_in (tk_3 _ (List.mem_of_getElem? (i := 26) (by decide +kernel))) rfl
theorem tw_507 : Cond.code yX11_isLoadOrNone cX11_isLoadOrNone 2 (some .boolean) ∈ gwL := gw_in (tk_3 _ (List.mem_of_getElem? (i := 27) (by decide +kernel))) rfl
theorem tw_508 : Cond.methodLink RX11 157 yX0_run ∈ gwL := gw_in (tk_3 _ (List.mem_of_getElem? (i := 28) (by decide +kernel))) rfl
theorem tw_509 : Cond.instanceMethod yX0_run ∈ gwL := gw_in (tk_3 _ (List.mem_of_getElem? (i := 29) (by decide +kernel))) rfl
theorem tw_510 : Cond.selects RX0 yX0_run yX0_run ∈ gwL := gw_in (tk_3 _ (List.mem_of_getElem? (i := 30) (by decide +kernel))) rfl
theorem tw_511 : Cond.code yX0_run cX0_run 4 (some .int) ∈ gwL := gw_in (tk_3 _ (List.mem_of_getElem? (i := 31) (by decide +kernel))) rfl
theorem tw_512 : Cond.methodLink RX0 32 yX10_measure ∈ gwL := gw_in (tk_3 _ (List.mem_of_getElem? (i := 32) (by decide +kernel))) rfl
theorem tw_513 : Cond.methodLink RX0 65 yX0_carry ∈ gwL := gw_in (tk_3 _ (List.mem_of_getElem? (i := 33) (by decide +kernel))) rfl
theorem tw_515 : Cond.instanceMethod yX0_carry ∈ gwL := gw_in (tk_3 _ (List.mem_of_getElem? (i := 35) (by decide +kernel))) rfl
theorem tw_516 : Cond.code yX0_carry cX0_carry 2 none ∈ gwL := gw_in (tk_3 _ (List.mem_of_getElem? (i := 36) (by decide +kernel))) rfl
theorem tw_517 : Cond.methodLink RX0 69 yX0_go ∈ gwL := gw_in (tk_3 _ (List.mem_of_getElem? (i := 37) (by decide +kernel))) rfl
theorem tw_519 : Cond.instanceMethod yX0_go ∈ gwL := gw_in (tk_3 _ (List.mem_of_getElem? (i := 39) (by decide +kernel))) rfl
theorem tw_520 : Cond.code yX0_go cX0_go 4 none ∈ gwL := gw_in (tk_3 _ (List.mem_of_getElem? (i := 40) (by decide +kernel))) rfl
theorem tw_521 : Cond.methodLink RX0 81 yX10_between ∈ gwL := gw_in (tk_3 _ (List.mem_of_getElem? (i := 41) (by decide +kernel))) rfl
theorem tw_522 : Cond.constant RX0 84 (1000000) ∈ gwL := gw_in (tk_3 _ (List.mem_of_getElem? (i := 42) (by decide +kernel))) rfl
theorem tw_523 : Cond.methodLink RX0 85 yX0_roll ∈ gwL := gw_in (tk_3 _ (List.mem_of_getElem? (i := 43) (by decide +kernel))) rfl
theorem tw_525 : Cond.instanceMethod yX0_roll ∈ gwL := gw_in (tk_3 _ (List.mem_of_getElem? (i := 45) (by decide +kernel))) rfl
theorem tw_526 : Cond.code yX0_roll cX0_roll 5 none ∈ gwL := gw_in (tk_3 _ (List.mem_of_getElem? (i := 46) (by decide +kernel))) rfl
theorem tw_527 : Cond.methodLink RX0 77 yX0_dock ∈ gwL := gw_in (tk_3 _ (List.mem_of_getElem? (i := 47) (by decide +kernel))) rfl
theorem tw_529 : Cond.instanceMethod yX0_dock ∈ gwL := gw_in (tk_3 _ (List.mem_of_getElem? (i := 49) (by decide +kernel))) rfl
theorem tw_530 : Cond.code yX0_dock cX0_dock 4 none ∈ gwL := gw_in (tk_3 _ (List.mem_of_getElem? (i := 50) (by decide +kernel))) rfl
theorem tw_531 : Cond.methodLink RX0 88 yJ9_max_7cf53 ∈ gwL := gw_in (tk_3 _ (List.mem_of_getElem? (i := 51) (by decide +kernel))) rfl
theorem tw_532 : Cond.methodLink RL 62 yX11_drive ∈ gwL := gw_in (tk_3 _ (List.mem_of_getElem? (i := 52) (by decide +kernel))) rfl
theorem tw_533 : Cond.instanceMethod yX11_drive ∈ gwL := gw_in (tk_3 _ (List.mem_of_getElem? (i := 53) (by decide +kernel))) rfl
theorem tw_534 : Cond.selects RX11 yX11_drive yX11_drive ∈ gwL := gw_in (tk_3 _ (List.mem_of_getElem? (i := 54) (by decide +kernel))) rfl
theorem tw_535 : Cond.code yX11_drive cX11_drive 7 (some .int) ∈ gwL := gw_in (tk_3 _ (List.mem_of_getElem? (i := 55) (by decide +kernel))) rfl
theorem tw_536 : Cond.methodLink RX11 160 yX0_tells ∈ gwL := gw_in (tk_3 _ (List.mem_of_getElem? (i := 56) (by decide +kernel))) rfl
theorem tw_537 : Cond.instanceMethod yX0_tells ∈ gwL := gw_in (tk_3 _ (List.mem_of_getElem? (i := 57) (by decide +kernel))) rfl
theorem tw_538 : Cond.selects RX0 yX0_tells yX0_tells ∈ gwL := gw_in (tk_3 _ (List.mem_of_getElem? (i := 58) (by decide +kernel))) rfl
theorem tw_539 : Cond.code yX0_tells cX0_tells 2 (some .int) ∈ gwL := gw_in (tk_3 _ (List.mem_of_getElem? (i := 59) (by decide +kernel))) rfl
theorem tw_540 : Cond.methodLink RX0 73 yX0_value ∈ gwL := gw_in (tk_3 _ (List.mem_of_getElem? (i := 60) (by decide +kernel))) rfl
theorem tw_541 : Cond.instanceMethod yX0_value ∈ gwL := gw_in (tk_3 _ (List.mem_of_getElem? (i := 61) (by decide +kernel))) rfl
theorem tw_542 : Cond.selects RX0 yX0_value yX0_value ∈ gwL := gw_in (tk_3 _ (List.mem_of_getElem? (i := 62) (by decide +kernel))) rfl
theorem tw_543 : Cond.code yX0_value cX0_value 1 (some .int) ∈ gwL := gw_in (tk_3 _ (List.mem_of_getElem? (i := 63) (by decide +kernel))) rfl
theorem tw_544 : Cond.methodLink RL 67 yX11_best ∈ gwL := gw_in (tk_3 _ (List.mem_of_getElem? (i := 64) (by decide +kernel))) rfl
theorem tw_545 : Cond.instanceMethod yX11_best ∈ gwL := gw_in (tk_3 _ (List.mem_of_getElem? (i := 65) (by decide +kernel))) rfl
theorem tw_546 : Cond.selects RX11 yX11_best yX11_best ∈ gwL := gw_in (tk_3 _ (List.mem_of_getElem? (i := 66) (by decide +kernel))) rfl
theorem tw_547 : Cond.code yX11_best cX11_best 1 (some .int) ∈ gwL := gw_in (tk_3 _ (List.mem_of_getElem? (i := 67) (by decide +kernel))) rfl
theorem tw_548 : Cond.methodLink RX11 163 yX2_work ∈ gwL := gw_in (tk_3 _ (List.mem_of_getElem? (i := 68) (by decide +kernel))) rfl
theorem tw_549 : Cond.instanceMethod yX2_work ∈ gwL := gw_in (tk_3 _ (List.mem_of_getElem? (i := 69) (by decide +kernel))) rfl
theorem tw_550 : Cond.selects RX2 yX2_work yX2_work ∈ gwL := gw_in (tk_3 _ (List.mem_of_getElem? (i := 70) (by decide +kernel))) rfl
theorem tw_551 : Cond.code yX2_work cX2_work 5 none ∈ gwL := gw_in (tk_3 _ (List.mem_of_getElem? (i := 71) (by decide +kernel))) rfl
theorem tw_552 : Cond.methodLink RX2 59 yX3_changes ∈ gwL := gw_in (tk_3 _ (List.mem_of_getElem? (i := 72) (by decide +kernel))) rfl
theorem tw_553 : Cond.methodLink RX2 68 yX8_count ∈ gwL := gw_in (tk_3 _ (List.mem_of_getElem? (i := 73) (by decide +kernel))) rfl
theorem tw_554 : Cond.methodLink RX2 73 yX8_at ∈ gwL := gw_in (tk_3 _ (List.mem_of_getElem? (i := 74) (by decide +kernel))) rfl
theorem tw_555 : Cond.methodLink RX2 53 yX2_bitOf ∈ gwL := gw_in (tk_3 _ (List.mem_of_getElem? (i := 75) (by decide +kernel))) rfl
theorem tw_556 : Cond.static yX2_bitOf ∈ gwL := gw_in (tk_3 _ (List.mem_of_getElem? (i := 76) (by decide +kernel))) rfl
theorem tw_557 : Cond.code yX2_bitOf cX2_bitOf 1 (some .int) ∈ gwL := gw_in (tk_3 _ (List.mem_of_getElem? (i := 77) (by decide +kernel))) rfl
theorem tw_558 : Cond.methodLink RX2 77 yJ9_min_7cf53 ∈ gwL := gw_in (tk_3 _ (List.mem_of_getElem? (i := 78) (by decide +kernel))) rfl
theorem tw_559 : Cond.methodLink RX2 82 yX2_gatherRows ∈ gwL := gw_in (tk_3 _ (List.mem_of_getElem? (i := 79) (by decide +kernel))) rfl
theorem tw_561 : Cond.instanceMethod yX2_gatherRows ∈ gwL := gw_in (tk_3 _ (List.mem_of_getElem? (i := 81) (by decide +kernel))) rfl
theorem tw_562 : Cond.code yX2_gatherRows cX2_gatherRows 6 none ∈ gwL := gw_in (tk_3 _ (List.mem_of_getElem? (i := 82) (by decide +kernel))) rfl
theorem tw_563 : Cond.methodLink RX2 98 yX2_fitting ∈ gwL := gw_in (tk_3 _ (List.mem_of_getElem? (i := 83) (by decide +kernel))) rfl
theorem tw_565 : Cond.instanceMethod yX2_fitting ∈ gwL := gw_in (tk_3 _ (List.mem_of_getElem? (i := 85) (by decide +kernel))) rfl
theorem tw_566 : Cond.code yX2_fitting cX2_fitting 4 (some .int) ∈ gwL := gw_in (tk_3 _ (List.mem_of_getElem? (i := 86) (by decide +kernel))) rfl
theorem tw_567 : Cond.methodLink RX2 119 yX0_fits ∈ gwL := gw_in (tk_3 _ (List.mem_of_getElem? (i := 87) (by decide +kernel))) rfl
theorem tw_568 : Cond.methodLink RX2 101 yX0_run ∈ gwL := gw_in (tk_3 _ (List.mem_of_getElem? (i := 88) (by decide +kernel))) rfl
theorem tw_569 : Cond.methodLink RX2 107 yX0_value ∈ gwL := gw_in (tk_3 _ (List.mem_of_getElem? (i := 89) (by decide +kernel))) rfl
theorem tw_570 : Cond.methodLink RX2 113 yX2_addRow ∈ gwL := gw_in (tk_3 _ (List.mem_of_getElem? (i := 90) (by decide +kernel))) rfl
theorem tw_572 : Cond.instanceMethod yX2_addRow ∈ gwL := gw_in (tk_3 _ (List.mem_of_getElem? (i := 92) (by decide +kernel))) rfl
theorem tw_573 : Cond.code yX2_addRow cX2_addRow 3 none ∈ gwL := gw_in (tk_3 _ (List.mem_of_getElem? (i := 93) (by decide +kernel))) rfl
theorem tw_574 : Cond.methodLink RX2 123 yX2_loadsOf ∈ gwL := gw_in (tk_3 _ (List.mem_of_getElem? (i := 94) (by decide +kernel))) rfl
theorem tw_575 : Cond.static yX2_loadsOf ∈ gwL := gw_in (tk_3 _ (List.mem_of_getElem? (i := 95) (by decide +kernel))) rfl
theorem tw_576 : Cond.code yX2_loadsOf cX2_loadsOf 1 (some .int) ∈ gwL := gw_in (tk_3 _ (List.mem_of_getElem? (i := 96) (by decide +kernel))) rfl
theorem tw_577 : Cond.methodLink RX2 49 yX2_firstOf ∈ gwL := gw_in (tk_3 _ (List.mem_of_getElem? (i := 97) (by decide +kernel))) rfl
theorem tw_578 : Cond.static yX2_firstOf ∈ gwL := gw_in (tk_3 _ (List.mem_of_getElem? (i := 98) (by decide +kernel))) rfl
theorem tw_579 : Cond.code yX2_firstOf cX2_firstOf 1 (some .int) ∈ gwL := gw_in (tk_3 _ (List.mem_of_getElem? (i := 99) (by decide +kernel))) rfl
theorem tw_580 : Cond.methodLink RX2 56 yX2_secondOf ∈ gwL := gw_in (tk_3 _ (List.mem_of_getElem? (i := 100) (by decide +kernel))) rfl
theorem tw_581 : Cond.static yX2_secondOf ∈ gwL := gw_in (tk_3 _ (List.mem_of_getElem? (i := 101) (by decide +kernel))) rfl
theorem tw_582 : Cond.code yX2_secondOf cX2_secondOf 1 (some .int) ∈ gwL := gw_in (tk_3 _ (List.mem_of_getElem? (i := 102) (by decide +kernel))) rfl
theorem tw_583 : Cond.methodLink RX2 116 yX2_rowBy ∈ gwL := gw_in (tk_3 _ (List.mem_of_getElem? (i := 103) (by decide +kernel))) rfl
theorem tw_584 : Cond.static yX2_rowBy ∈ gwL := gw_in (tk_3 _ (List.mem_of_getElem? (i := 104) (by decide +kernel))) rfl
theorem tw_585 : Cond.code yX2_rowBy cX2_rowBy 2 (some .int) ∈ gwL := gw_in (tk_3 _ (List.mem_of_getElem? (i := 105) (by decide +kernel))) rfl
theorem tw_586 : Cond.methodLink RX2 86 yJ6_bitCount_0f7a4 ∈ gwL := gw_in (tk_3 _ (List.mem_of_getElem? (i := 106) (by decide +kernel))) rfl
theorem tw_587 : Cond.static yJ6_bitCount_0f7a4 ∈ gwL := gw_in (tk_3 _ (List.mem_of_getElem? (i := 107) (by decide +kernel))) rfl
theorem tw_588 : Cond.code yJ6_bitCount_0f7a4 cJ6_bitCount_0f7a4 1 (some .int) ∈ gwL := gw_in (tk_3 _ (List.mem_of_getElem? (i := 108) (by decide +kernel))) rfl
theorem tw_589 : Cond.constant RJ6 265 (1431655765) ∈ gwL := gw_in (tk_3 _ (List.mem_of_getElem? (i := 109) (by decide +kernel))) rfl
theorem tw_590 : Cond.constant RJ6 266 (858993459) ∈ gwL := gw_in (tk_3 _ (List.mem_of_getElem? (i := 110) (by decide +kernel))) rfl
theorem tw_591 : Cond.constant RJ6 267 (252645135) ∈ gwL := gw_in (tk_3 _ (List.mem_of_getElem? (i := 111) (by decide +kernel))) rfl
theorem tw_592 : Cond.methodLink RX2 91 yX2_choose ∈ gwL := gw_in (tk_3 _ (List.mem_of_getElem? (i := 112) (by decide +kernel))) rfl
theorem tw_594 : Cond.instanceMethod yX2_choose ∈ gwL := gw_in (tk_3 _ (List.mem_of_getElem? (i := 114) (by decide +kernel))) rfl
theorem tw_595 : Cond.code yX2_choose cX2_choose 8 none ∈ gwL := gw_in (tk_3 _ (List.mem_of_getElem? (i := 115) (by decide +kernel))) rfl
theorem tw_596 : Cond.methodLink RX2 95 yX2_handOut ∈ gwL := gw_in (tk_3 _ (List.mem_of_getElem? (i := 116) (by decide +kernel))) rfl
theorem tw_598 : Cond.instanceMethod yX2_handOut ∈ gwL := gw_in (tk_3 _ (List.mem_of_getElem? (i := 118) (by decide +kernel))) rfl
theorem tw_599 : Cond.code yX2_handOut cX2_handOut 4 none ∈ gwL := gw_in (tk_3 _ (List.mem_of_getElem? (i := 119) (by decide +kernel))) rfl
theorem tw_600 : Cond.methodLink RX11 166 yX2_value ∈ gwL := gw_in (tk_3 _ (List.mem_of_getElem? (i := 120) (by decide +kernel))) rfl
theorem tw_601 : Cond.instanceMethod yX2_value ∈ gwL := gw_in (tk_3 _ (List.mem_of_getElem? (i := 121) (by decide +kernel))) rfl
theorem tw_602 : Cond.selects RX2 yX2_value yX2_value ∈ gwL := gw_in (tk_3 _ (List.mem_of_getElem? (i := 122) (by decide +kernel))) rfl
theorem tw_603 : Cond.code yX2_value cX2_value 1 (some .int) ∈ gwL := gw_in (tk_3 _ (List.mem_of_getElem? (i := 123) (by decide +kernel))) rfl
theorem tw_604 : Cond.methodLink RL 72 yX11_gets ∈ gwL := gw_in (tk_3 _ (List.mem_of_getElem? (i := 124) (by decide +kernel))) rfl
theorem tw_605 : Cond.instanceMethod yX11_gets ∈ gwL := gw_in (tk_3 _ (List.mem_of_getElem? (i := 125) (by decide +kernel))) rfl
theorem tw_606 : Cond.selects RX11 yX11_gets yX11_gets ∈ gwL := gw_in (tk_3 _ (List.mem_of_getElem? (i := 126) (by decide +kernel))) rfl
theorem tw_607 : Cond.code yX11_gets cX11_gets 5 (some .int) ∈ gwL := gw_in (tk_3 _ (List.mem_of_getElem? (i := 127) (by decide +kernel))) rfl
theorem tw_608 : Cond.methodLink RX11 170 yX2_rowOf ∈ gwL := gw_in (tk_3 _ (List.mem_of_getElem? (i := 128) (by decide +kernel))) rfl
theorem tw_609 : Cond.instanceMethod yX2_rowOf ∈ gwL := gw_in (tk_3 _ (List.mem_of_getElem? (i := 129) (by decide +kernel))) rfl
theorem tw_610 : Cond.selects RX2 yX2_rowOf yX2_rowOf ∈ gwL := gw_in (tk_3 _ (List.mem_of_getElem? (i := 130) (by decide +kernel))) rfl
theorem tw_611 : Cond.code yX2_rowOf cX2_rowOf 2 (some .int) ∈ gwL := gw_in (tk_3 _ (List.mem_of_getElem? (i := 131) (by decide +kernel))) rfl
theorem tw_612 : Cond.methodLink RX11 173 yX2_firstOf ∈ gwL := gw_in (tk_3 _ (List.mem_of_getElem? (i := 132) (by decide +kernel))) rfl
theorem tw_613 : Cond.methodLink RX11 176 yX2_secondOf ∈ gwL := gw_in (tk_3 _ (List.mem_of_getElem? (i := 133) (by decide +kernel))) rfl
theorem tw_614 : Cond.methodLink RL 76 yX11_empty ∈ gwL := gw_in (tk_3 _ (List.mem_of_getElem? (i := 134) (by decide +kernel))) rfl
theorem tw_615 : Cond.instanceMethod yX11_empty ∈ gwL := gw_in (tk_3 _ (List.mem_of_getElem? (i := 135) (by decide +kernel))) rfl
theorem tw_616 : Cond.selects RX11 yX11_empty yX11_empty ∈ gwL := gw_in (tk_3 _ (List.mem_of_getElem? (i := 136) (by decide +kernel))) rfl
theorem tw_617 : Cond.code yX11_empty cX11_empty 4 (some .int) ∈ gwL := gw_in (tk_3 _ (List.mem_of_getElem? (i := 137) (by decide +kernel))) rfl
theorem tw_618 : Cond.methodLink RX11 182 yX2_emptyOf ∈ gwL := gw_in (tk_3 _ (List.mem_of_getElem? (i := 138) (by decide +kernel))) rfl
theorem tw_619 : Cond.instanceMethod yX2_emptyOf ∈ gwL := gw_in (tk_3 _ (List.mem_of_getElem? (i := 139) (by decide +kernel))) rfl
theorem tw_620 : Cond.selects RX2 yX2_emptyOf yX2_emptyOf ∈ gwL := gw_in (tk_3 _ (List.mem_of_getElem? (i := 140) (by decide +kernel))) rfl
theorem tw_621 : Cond.code yX2_emptyOf cX2_emptyOf 4 (some .int) ∈ gwL := gw_in (tk_3 _ (List.mem_of_getElem? (i := 141) (by decide +kernel))) rfl
theorem tw_622 : Cond.methodLink RX2 126 yX0_emptyMinutes ∈ gwL := gw_in (tk_3 _ (List.mem_of_getElem? (i := 142) (by decide +kernel))) rfl
theorem tw_623 : Cond.instanceMethod yX0_emptyMinutes ∈ gwL := gw_in (tk_3 _ (List.mem_of_getElem? (i := 143) (by decide +kernel))) rfl
theorem tw_624 : Cond.selects RX0 yX0_emptyMinutes yX0_emptyMinutes ∈ gwL := gw_in (tk_3 _ (List.mem_of_getElem? (i := 144) (by decide +kernel))) rfl
theorem tw_625 : Cond.code yX0_emptyMinutes cX0_emptyMinutes 1 (some .int) ∈ gwL := gw_in (tk_3 _ (List.mem_of_getElem? (i := 145) (by decide +kernel))) rfl
theorem tw_626 : Cond.methodLink RL 81 yX11_worth ∈ gwL := gw_in (tk_3 _ (List.mem_of_getElem? (i := 146) (by decide +kernel))) rfl
theorem tw_627 : Cond.instanceMethod yX11_worth ∈ gwL := gw_in (tk_3 _ (List.mem_of_getElem? (i := 147) (by decide +kernel))) rfl
theorem tw_628 : Cond.selects RX11 yX11_worth yX11_worth ∈ gwL := gw_in (tk_3 _ (List.mem_of_getElem? (i := 148) (by decide +kernel))) rfl
theorem tw_629 : Cond.code yX11_worth cX11_worth 2 (some .int) ∈ gwL := gw_in (tk_3 _ (List.mem_of_getElem? (i := 149) (by decide +kernel))) rfl
theorem tw_630 : Cond.methodLink RX11 185 yX2_valueWithout ∈ gwL := gw_in (tk_3 _ (List.mem_of_getElem? (i := 150) (by decide +kernel))) rfl
theorem tw_631 : Cond.instanceMethod yX2_valueWithout ∈ gwL := gw_in (tk_3 _ (List.mem_of_getElem? (i := 151) (by decide +kernel))) rfl
theorem tw_632 : Cond.selects RX2 yX2_valueWithout yX2_valueWithout ∈ gwL := gw_in (tk_3 _ (List.mem_of_getElem? (i := 152) (by decide +kernel))) rfl
theorem tw_633 : Cond.code yX2_valueWithout cX2_valueWithout 2 (some .int) ∈ gwL := gw_in (tk_3 _ (List.mem_of_getElem? (i := 153) (by decide +kernel))) rfl
theorem tw_634 : Cond.methodLink RL 86 yX11_paid ∈ gwL := gw_in (tk_3 _ (List.mem_of_getElem? (i := 154) (by decide +kernel))) rfl
theorem tw_635 : Cond.instanceMethod yX11_paid ∈ gwL := gw_in (tk_3 _ (List.mem_of_getElem? (i := 155) (by decide +kernel))) rfl
theorem tw_636 : Cond.selects RX11 yX11_paid yX11_paid ∈ gwL := gw_in (tk_3 _ (List.mem_of_getElem? (i := 156) (by decide +kernel))) rfl
theorem tw_637 : Cond.code yX11_paid cX11_paid 4 (some .int) ∈ gwL := gw_in (tk_3 _ (List.mem_of_getElem? (i := 157) (by decide +kernel))) rfl
theorem tw_638 : Cond.methodLink RX11 188 yX5_enter ∈ gwL := gw_in (tk_3 _ (List.mem_of_getElem? (i := 158) (by decide +kernel))) rfl
theorem tw_639 : Cond.instanceMethod yX5_enter ∈ gwL := gw_in (tk_3 _ (List.mem_of_getElem? (i := 159) (by decide +kernel))) rfl
theorem tw_640 : Cond.selects RX5 yX5_enter yX5_enter ∈ gwL := gw_in (tk_3 _ (List.mem_of_getElem? (i := 160) (by decide +kernel))) rfl
theorem tw_641 : Cond.code yX5_enter cX5_enter 6 (some .int) ∈ gwL := gw_in (tk_3 _ (List.mem_of_getElem? (i := 161) (by decide +kernel))) rfl
theorem tw_642 : Cond.methodLink RX5 28 yX8_add ∈ gwL := gw_in (tk_3 _ (List.mem_of_getElem? (i := 162) (by decide +kernel))) rfl
theorem tw_643 : Cond.constant RX5 32 (-100005) ∈ gwL := gw_in (tk_3 _ (List.mem_of_getElem? (i := 163) (by decide +kernel))) rfl
theorem tw_644 : Cond.methodLink RL 90 yX11_span ∈ gwL := gw_in (tk_3 _ (List.mem_of_getElem? (i := 164) (by decide +kernel))) rfl
theorem tw_645 : Cond.instanceMethod yX11_span ∈ gwL := gw_in (tk_3 _ (List.mem_of_getElem? (i := 165) (by decide +kernel))) rfl
theorem tw_646 : Cond.selects RX11 yX11_span yX11_span ∈ gwL := gw_in (tk_3 _ (List.mem_of_getElem? (i := 166) (by decide +kernel))) rfl
theorem tw_647 : Cond.code yX11_span cX11_span 4 (some .int) ∈ gwL := gw_in (tk_3 _ (List.mem_of_getElem? (i := 167) (by decide +kernel))) rfl
theorem tw_648 : Cond.methodLink RX11 191 yX5_tells ∈ gwL := gw_in (tk_3 _ (List.mem_of_getElem? (i := 168) (by decide +kernel))) rfl
theorem tw_649 : Cond.instanceMethod yX5_tells ∈ gwL := gw_in (tk_3 _ (List.mem_of_getElem? (i := 169) (by decide +kernel))) rfl
theorem tw_650 : Cond.selects RX5 yX5_tells yX5_tells ∈ gwL := gw_in (tk_3 _ (List.mem_of_getElem? (i := 170) (by decide +kernel))) rfl
theorem tw_651 : Cond.code yX5_tells cX5_tells 5 (some .int) ∈ gwL := gw_in (tk_3 _ (List.mem_of_getElem? (i := 171) (by decide +kernel))) rfl
theorem tw_652 : Cond.methodLink RX5 33 yX5_gather ∈ gwL := gw_in (tk_3 _ (List.mem_of_getElem? (i := 172) (by decide +kernel))) rfl
theorem tw_654 : Cond.instanceMethod yX5_gather ∈ gwL := gw_in (tk_3 _ (List.mem_of_getElem? (i := 174) (by decide +kernel))) rfl
theorem tw_655 : Cond.code yX5_gather cX5_gather 6 (some .int) ∈ gwL := gw_in (tk_3 _ (List.mem_of_getElem? (i := 175) (by decide +kernel))) rfl
theorem tw_656 : Cond.methodLink RX5 24 yX8_count ∈ gwL := gw_in (tk_3 _ (List.mem_of_getElem? (i := 176) (by decide +kernel))) rfl
theorem tw_657 : Cond.methodLink RX5 38 yX8_at ∈ gwL := gw_in (tk_3 _ (List.mem_of_getElem? (i := 177) (by decide +kernel))) rfl
theorem tw_658 : Cond.methodLink RX5 41 yX5_insert ∈ gwL := gw_in (tk_3 _ (List.mem_of_getElem? (i := 178) (by decide +kernel))) rfl
theorem tw_660 : Cond.instanceMethod yX5_insert ∈ gwL := gw_in (tk_3 _ (List.mem_of_getElem? (i := 180) (by decide +kernel))) rfl
theorem tw_661 : Cond.code yX5_insert cX5_insert 4 none ∈ gwL := gw_in (tk_3 _ (List.mem_of_getElem? (i := 181) (by decide +kernel))) rfl
theorem tw_662 : Cond.constant RX5 37 (-100006) ∈ gwL := gw_in (tk_3 _ (List.mem_of_getElem? (i := 182) (by decide +kernel))) rfl
theorem tw_663 : Cond.methodLink RL 94 yX11_contract ∈ gwL := gw_in (tk_3 _ (List.mem_of_getElem? (i := 183) (by decide +kernel))) rfl
theorem tw_664 : Cond.instanceMethod yX11_contract ∈ gwL := gw_in (tk_3 _ (List.mem_of_getElem? (i := 184) (by decide +kernel))) rfl
theorem tw_665 : Cond.selects RX11 yX11_contract yX11_contract ∈ gwL := gw_in (tk_3 _ (List.mem_of_getElem? (i := 185) (by decide +kernel))) rfl
theorem tw_666 : Cond.code yX11_contract cX11_contract 4 (some .int) ∈ gwL := gw_in (tk_3 _ (List.mem_of_getElem? (i := 186) (by decide +kernel))) rfl
theorem tw_667 : Cond.methodLink RX11 193 yX11_isFirm ∈ gwL := gw_in (tk_3 _ (List.mem_of_getElem? (i := 187) (by decide +kernel))) rfl
theorem tw_668 : Cond.static yX11_isFirm ∈ gwL := gw_in (tk_3 _ (List.mem_of_getElem? (i := 188) (by decide +kernel))) rfl
theorem tw_669 : Cond.code yX11_isFirm cX11_isFirm 1 (some .boolean) ∈ gwL := gw_in (tk_3 _ (List.mem_of_getElem? (i := 189) (by decide +kernel))) rfl
theorem tw_670 : Cond.methodLink RX11 196 yX1_handOn ∈ gwL := gw_in (tk_3 _ (List.mem_of_getElem? (i := 190) (by decide +kernel))) rfl
theorem tw_671 : Cond.instanceMethod yX1_handOn ∈ gwL := gw_in (tk_3 _ (List.mem_of_getElem? (i := 191) (by decide +kernel))) rfl
theorem tw_672 : Cond.selects RX1 yX1_handOn yX1_handOn ∈ gwL := gw_in (tk_3 _ (List.mem_of_getElem? (i := 192) (by decide +kernel))) rfl
theorem tw_673 : Cond.code yX1_handOn cX1_handOn 5 (some .int) ∈ gwL := gw_in (tk_3 _ (List.mem_of_getElem? (i := 193) (by decide +kernel))) rfl
theorem tw_674 : Cond.methodLink RX1 32 yX8_add ∈ gwL := gw_in (tk_3 _ (List.mem_of_getElem? (i := 194) (by decide +kernel))) rfl
theorem tw_675 : Cond.methodLink RL 98 yX11_chain ∈ gwL := gw_in (tk_3 _ (List.mem_of_getElem? (i := 195) (by decide +kernel))) rfl
theorem tw_676 : Cond.instanceMethod yX11_chain ∈ gwL := gw_in (tk_3 _ (List.mem_of_getElem? (i := 196) (by decide +kernel))) rfl
theorem tw_677 : Cond.selects RX11 yX11_chain yX11_chain ∈ gwL := gw_in (tk_3 _ (List.mem_of_getElem? (i := 197) (by decide +kernel))) rfl
theorem tw_678 : Cond.code yX11_chain cX11_chain 4 (some .int) ∈ gwL := gw_in (tk_3 _ (List.mem_of_getElem? (i := 198) (by decide +kernel))) rfl
theorem tw_679 : Cond.methodLink RX11 199 yX1_follow ∈ gwL := gw_in (tk_3 _ (List.mem_of_getElem? (i := 199) (by decide +kernel))) rfl
theorem tw_680 : Cond.instanceMethod yX1_follow ∈ gwL := gw_in (tk_3 _ (List.mem_of_getElem? (i := 200) (by decide +kernel))) rfl
theorem tw_681 : Cond.selects RX1 yX1_follow yX1_follow ∈ gwL := gw_in (tk_3 _ (List.mem_of_getElem? (i := 201) (by decide +kernel))) rfl
theorem tw_682 : Cond.code yX1_follow cX1_follow 6 none ∈ gwL := gw_in (tk_3 _ (List.mem_of_getElem? (i := 202) (by decide +kernel))) rfl
theorem tw_683 : Cond.methodLink RX1 47 yX1_firstUnused ∈ gwL := gw_in (tk_3 _ (List.mem_of_getElem? (i := 203) (by decide +kernel))) rfl
theorem tw_685 : Cond.instanceMethod yX1_firstUnused ∈ gwL := gw_in (tk_3 _ (List.mem_of_getElem? (i := 205) (by decide +kernel))) rfl
theorem tw_686 : Cond.code yX1_firstUnused cX1_firstUnused 5 (some .int) ∈ gwL := gw_in (tk_3 _ (List.mem_of_getElem? (i := 206) (by decide +kernel))) rfl
theorem tw_687 : Cond.methodLink RX1 28 yX8_count ∈ gwL := gw_in (tk_3 _ (List.mem_of_getElem? (i := 207) (by decide +kernel))) rfl
theorem tw_688 : Cond.methodLink RX1 36 yX8_at ∈ gwL := gw_in (tk_3 _ (List.mem_of_getElem? (i := 208) (by decide +kernel))) rfl
theorem tw_689 : Cond.methodLink RX11 203 yX1_carrier ∈ gwL := gw_in (tk_3 _ (List.mem_of_getElem? (i := 209) (by decide +kernel))) rfl
theorem tw_690 : Cond.instanceMethod yX1_carrier ∈ gwL := gw_in (tk_3 _ (List.mem_of_getElem? (i := 210) (by decide +kernel))) rfl
theorem tw_691 : Cond.selects RX1 yX1_carrier yX1_carrier ∈ gwL := gw_in (tk_3 _ (List.mem_of_getElem? (i := 211) (by decide +kernel))) rfl
theorem tw_692 : Cond.code yX1_carrier cX1_carrier 1 (some .int) ∈ gwL := gw_in (tk_3 _ (List.mem_of_getElem? (i := 212) (by decide +kernel))) rfl
theorem tw_693 : Cond.methodLink RX11 206 yX1_links ∈ gwL := gw_in (tk_3 _ (List.mem_of_getElem? (i := 213) (by decide +kernel))) rfl
theorem tw_694 : Cond.instanceMethod yX1_links ∈ gwL := gw_in (tk_3 _ (List.mem_of_getElem? (i := 214) (by decide +kernel))) rfl
theorem tw_695 : Cond.selects RX1 yX1_links yX1_links ∈ gwL := gw_in (tk_3 _ (List.mem_of_getElem? (i := 215) (by decide +kernel))) rfl
theorem tw_696 : Cond.code yX1_links cX1_links 1 (some .int) ∈ gwL := gw_in (tk_3 _ (List.mem_of_getElem? (i := 216) (by decide +kernel))) rfl
theorem tw_697 : Cond.methodLink RL 103 yX11_doubles ∈ gwL := gw_in (tk_3 _ (List.mem_of_getElem? (i := 217) (by decide +kernel))) rfl
theorem tw_698 : Cond.instanceMethod yX11_doubles ∈ gwL := gw_in (tk_3 _ (List.mem_of_getElem? (i := 218) (by decide +kernel))) rfl
theorem tw_699 : Cond.selects RX11 yX11_doubles yX11_doubles ∈ gwL := gw_in (tk_3 _ (List.mem_of_getElem? (i := 219) (by decide +kernel))) rfl
theorem tw_700 : Cond.code yX11_doubles cX11_doubles 2 (some .int) ∈ gwL := gw_in (tk_3 _ (List.mem_of_getElem? (i := 220) (by decide +kernel))) rfl
theorem tw_701 : Cond.methodLink RX11 209 yX1_doubleGivers ∈ gwL := gw_in (tk_3 _ (List.mem_of_getElem? (i := 221) (by decide +kernel))) rfl
theorem tw_702 : Cond.instanceMethod yX1_doubleGivers ∈ gwL := gw_in (tk_3 _ (List.mem_of_getElem? (i := 222) (by decide +kernel))) rfl
theorem tw_703 : Cond.selects RX1 yX1_doubleGivers yX1_doubleGivers ∈ gwL := gw_in (tk_3 _ (List.mem_of_getElem? (i := 223) (by decide +kernel))) rfl
theorem tw_704 : Cond.code yX1_doubleGivers cX1_doubleGivers 6 (some .int) ∈ gwL := gw_in (tk_3 _ (List.mem_of_getElem? (i := 224) (by decide +kernel))) rfl
theorem tw_705 : Cond.methodLink RX1 51 yJ6_bitCount_0f7a4 ∈ gwL := gw_in (tk_3 _ (List.mem_of_getElem? (i := 225) (by decide +kernel))) rfl
theorem tw_706 : Cond.methodLink RL 107 yX11_report ∈ gwL := gw_in (tk_3 _ (List.mem_of_getElem? (i := 226) (by decide +kernel))) rfl
theorem tw_707 : Cond.instanceMethod yX11_report ∈ gwL := gw_in (tk_3 _ (List.mem_of_getElem? (i := 227) (by decide +kernel))) rfl
theorem tw_708 : Cond.selects RX11 yX11_report yX11_report ∈ gwL := gw_in (tk_3 _ (List.mem_of_getElem? (i := 228) (by decide +kernel))) rfl
theorem tw_709 : Cond.code yX11_report cX11_report 4 (some .int) ∈ gwL := gw_in (tk_3 _ (List.mem_of_getElem? (i := 229) (by decide +kernel))) rfl
theorem tw_710 : Cond.methodLink RX11 212 yX6_enter ∈ gwL := gw_in (tk_3 _ (List.mem_of_getElem? (i := 230) (by decide +kernel))) rfl
theorem tw_711 : Cond.instanceMethod yX6_enter ∈ gwL := gw_in (tk_3 _ (List.mem_of_getElem? (i := 231) (by decide +kernel))) rfl
theorem tw_712 : Cond.selects RX6 yX6_enter yX6_enter ∈ gwL := gw_in (tk_3 _ (List.mem_of_getElem? (i := 232) (by decide +kernel))) rfl
theorem tw_713 : Cond.code yX6_enter cX6_enter 5 (some .int) ∈ gwL := gw_in (tk_3 _ (List.mem_of_getElem? (i := 233) (by decide +kernel))) rfl
theorem tw_714 : Cond.methodLink RX6 28 yX8_add ∈ gwL := gw_in (tk_3 _ (List.mem_of_getElem? (i := 234) (by decide +kernel))) rfl
theorem tw_715 : Cond.methodLink RL 111 yX11_cannot ∈ gwL := gw_in (tk_3 _ (List.mem_of_getElem? (i := 235) (by decide +kernel))) rfl
theorem tw_716 : Cond.instanceMethod yX11_cannot ∈ gwL := gw_in (tk_3 _ (List.mem_of_getElem? (i := 236) (by decide +kernel))) rfl
theorem tw_717 : Cond.selects RX11 yX11_cannot yX11_cannot ∈ gwL := gw_in (tk_3 _ (List.mem_of_getElem? (i := 237) (by decide +kernel))) rfl
theorem tw_718 : Cond.code yX11_cannot cX11_cannot 3 (some .int) ∈ gwL := gw_in (tk_3 _ (List.mem_of_getElem? (i := 238) (by decide +kernel))) rfl
theorem tw_719 : Cond.methodLink RX11 213 yX6_compare ∈ gwL := gw_in (tk_3 _ (List.mem_of_getElem? (i := 239) (by decide +kernel))) rfl
theorem tw_720 : Cond.instanceMethod yX6_compare ∈ gwL := gw_in (tk_4 _ (List.mem_of_getElem? (i := 0) (by decide +kernel))) rfl
theorem tw_721 : Cond.selects RX6 yX6_compare yX6_compare ∈ gwL := gw_in (tk_4 _ (List.mem_of_getElem? (i := 1) (by decide +kernel))) rfl
theorem tw_722 : Cond.code yX6_compare cX6_compare 4 none ∈ gwL := gw_in (tk_4 _ (List.mem_of_getElem? (i := 2) (by decide +kernel))) rfl
theorem tw_723 : Cond.methodLink RX6 32 yX10_measure ∈ gwL := gw_in (tk_4 _ (List.mem_of_getElem? (i := 3) (by decide +kernel))) rfl
theorem tw_724 : Cond.constant RX6 41 (-100006) ∈ gwL := gw_in (tk_4 _ (List.mem_of_getElem? (i := 4) (by decide +kernel))) rfl
theorem tw_725 : Cond.methodLink RX6 24 yX8_count ∈ gwL := gw_in (tk_4 _ (List.mem_of_getElem? (i := 5) (by decide +kernel))) rfl
theorem tw_726 : Cond.methodLink RX6 45 yX8_at ∈ gwL := gw_in (tk_4 _ (List.mem_of_getElem? (i := 6) (by decide +kernel))) rfl
theorem tw_727 : Cond.methodLink RX6 49 yX6_cannotBe ∈ gwL := gw_in (tk_4 _ (List.mem_of_getElem? (i := 7) (by decide +kernel))) rfl
theorem tw_729 : Cond.instanceMethod yX6_cannotBe ∈ gwL := gw_in (tk_4 _ (List.mem_of_getElem? (i := 9) (by decide +kernel))) rfl
theorem tw_730 : Cond.code yX6_cannotBe cX6_cannotBe 4 (some .boolean) ∈ gwL := gw_in (tk_4 _ (List.mem_of_getElem? (i := 10) (by decide +kernel))) rfl
theorem tw_731 : Cond.methodLink RX6 53 yJ9_abs_0f7a4 ∈ gwL := gw_in (tk_4 _ (List.mem_of_getElem? (i := 11) (by decide +kernel))) rfl
theorem tw_732 : Cond.static yJ9_abs_0f7a4 ∈ gwL := gw_in (tk_4 _ (List.mem_of_getElem? (i := 12) (by decide +kernel))) rfl
theorem tw_733 : Cond.code yJ9_abs_0f7a4 cJ9_abs_0f7a4 1 (some .int) ∈ gwL := gw_in (tk_4 _ (List.mem_of_getElem? (i := 13) (by decide +kernel))) rfl
theorem tw_734 : Cond.methodLink RX6 59 yX10_between ∈ gwL := gw_in (tk_4 _ (List.mem_of_getElem? (i := 14) (by decide +kernel))) rfl
theorem tw_735 : Cond.methodLink RX11 217 yX6_firstPair ∈ gwL := gw_in (tk_4 _ (List.mem_of_getElem? (i := 15) (by decide +kernel))) rfl
theorem tw_736 : Cond.instanceMethod yX6_firstPair ∈ gwL := gw_in (tk_4 _ (List.mem_of_getElem? (i := 16) (by decide +kernel))) rfl
theorem tw_737 : Cond.selects RX6 yX6_firstPair yX6_firstPair ∈ gwL := gw_in (tk_4 _ (List.mem_of_getElem? (i := 17) (by decide +kernel))) rfl
theorem tw_738 : Cond.code yX6_firstPair cX6_firstPair 1 (some .int) ∈ gwL := gw_in (tk_4 _ (List.mem_of_getElem? (i := 18) (by decide +kernel))) rfl
theorem tw_739 : Cond.methodLink RX11 220 yX6_pairs ∈ gwL := gw_in (tk_4 _ (List.mem_of_getElem? (i := 19) (by decide +kernel))) rfl
theorem tw_740 : Cond.instanceMethod yX6_pairs ∈ gwL := gw_in (tk_4 _ (List.mem_of_getElem? (i := 20) (by decide +kernel))) rfl
theorem tw_741 : Cond.selects RX6 yX6_pairs yX6_pairs ∈ gwL := gw_in (tk_4 _ (List.mem_of_getElem? (i := 21) (by decide +kernel))) rfl
theorem tw_742 : Cond.code yX6_pairs cX6_pairs 1 (some .int) ∈ gwL := gw_in (tk_4 _ (List.mem_of_getElem? (i := 22) (by decide +kernel))) rfl
theorem tw_743 : Cond.methodLink RL 116 yX11_trusts ∈ gwL := gw_in (tk_4 _ (List.mem_of_getElem? (i := 23) (by decide +kernel))) rfl
theorem tw_744 : Cond.instanceMethod yX11_trusts ∈ gwL := gw_in (tk_4 _ (List.mem_of_getElem? (i := 24) (by decide +kernel))) rfl
theorem tw_745 : Cond.selects RX11 yX11_trusts yX11_trusts ∈ gwL := gw_in (tk_4 _ (List.mem_of_getElem? (i := 25) (by decide +kernel))) rfl
theorem tw_746 : Cond.code yX11_trusts cX11_trusts 3 (some .int) ∈ gwL := gw_in (tk_4 _ (List.mem_of_getElem? (i := 26) (by decide +kernel))) rfl
theorem tw_747 : Cond.methodLink RX11 223 yX1_judge ∈ gwL := gw_in (tk_4 _ (List.mem_of_getElem? (i := 27) (by decide +kernel))) rfl
theorem tw_748 : Cond.instanceMethod yX1_judge ∈ gwL := gw_in (tk_4 _ (List.mem_of_getElem? (i := 28) (by decide +kernel))) rfl
theorem tw_749 : Cond.selects RX1 yX1_judge yX1_judge ∈ gwL := gw_in (tk_4 _ (List.mem_of_getElem? (i := 29) (by decide +kernel))) rfl
theorem tw_750 : Cond.code yX1_judge cX1_judge 5 (some .int) ∈ gwL := gw_in (tk_4 _ (List.mem_of_getElem? (i := 30) (by decide +kernel))) rfl
theorem tw_751 : Cond.methodLinkNest RX1 57 yX11_isFirm RX11 ∈ lw_tbl := tk_4 _ (List.mem_of_getElem? (i := 31) (by decide +kernel))
theorem tw_752 : Cond.constant RX1 61 (-100001) ∈ gwL := gw_in (tk_4 _ (List.mem_of_getElem? (i := 32) (by decide +kernel))) rfl
theorem tw_753 : Cond.methodLink RX1 62 yX1_judgedOf ∈ gwL := gw_in (tk_4 _ (List.mem_of_getElem? (i := 33) (by decide +kernel))) rfl
theorem tw_755 : Cond.instanceMethod yX1_judgedOf ∈ gwL := gw_in (tk_4 _ (List.mem_of_getElem? (i := 35) (by decide +kernel))) rfl
theorem tw_756 : Cond.code yX1_judgedOf cX1_judgedOf 2 (some .int) ∈ gwL := gw_in (tk_4 _ (List.mem_of_getElem? (i := 36) (by decide +kernel))) rfl
theorem tw_757 : Cond.constant RX1 65 (-100005) ∈ gwL := gw_in (tk_4 _ (List.mem_of_getElem? (i := 37) (by decide +kernel))) rfl
theorem tw_758 : Cond.methodLink RX1 66 yX3_keep ∈ gwL := gw_in (tk_4 _ (List.mem_of_getElem? (i := 38) (by decide +kernel))) rfl
theorem tw_759 : Cond.methodLink RL 120 yX11_trust ∈ gwL := gw_in (tk_4 _ (List.mem_of_getElem? (i := 39) (by decide +kernel))) rfl
theorem tw_760 : Cond.instanceMethod yX11_trust ∈ gwL := gw_in (tk_4 _ (List.mem_of_getElem? (i := 40) (by decide +kernel))) rfl
theorem tw_761 : Cond.selects RX11 yX11_trust yX11_trust ∈ gwL := gw_in (tk_4 _ (List.mem_of_getElem? (i := 41) (by decide +kernel))) rfl
theorem tw_762 : Cond.code yX11_trust cX11_trust 3 (some .int) ∈ gwL := gw_in (tk_4 _ (List.mem_of_getElem? (i := 42) (by decide +kernel))) rfl
theorem tw_763 : Cond.methodLink RX11 227 yX1_greatestTrust ∈ gwL := gw_in (tk_4 _ (List.mem_of_getElem? (i := 43) (by decide +kernel))) rfl
theorem tw_764 : Cond.instanceMethod yX1_greatestTrust ∈ gwL := gw_in (tk_4 _ (List.mem_of_getElem? (i := 44) (by decide +kernel))) rfl
theorem tw_765 : Cond.selects RX1 yX1_greatestTrust yX1_greatestTrust ∈ gwL := gw_in (tk_4 _ (List.mem_of_getElem? (i := 45) (by decide +kernel))) rfl
theorem tw_766 : Cond.code yX1_greatestTrust cX1_greatestTrust 2 (some .int) ∈ gwL := gw_in (tk_4 _ (List.mem_of_getElem? (i := 46) (by decide +kernel))) rfl
theorem tw_767 : Cond.methodLink RX1 72 yX1_doneOf ∈ gwL := gw_in (tk_4 _ (List.mem_of_getElem? (i := 47) (by decide +kernel))) rfl
theorem tw_769 : Cond.instanceMethod yX1_doneOf ∈ gwL := gw_in (tk_4 _ (List.mem_of_getElem? (i := 49) (by decide +kernel))) rfl
theorem tw_770 : Cond.code yX1_doneOf cX1_doneOf 2 (some .int) ∈ gwL := gw_in (tk_4 _ (List.mem_of_getElem? (i := 50) (by decide +kernel))) rfl
theorem tw_771 : Cond.methodLink RX11 230 yX1_leastTrust ∈ gwL := gw_in (tk_4 _ (List.mem_of_getElem? (i := 51) (by decide +kernel))) rfl
theorem tw_772 : Cond.instanceMethod yX1_leastTrust ∈ gwL := gw_in (tk_4 _ (List.mem_of_getElem? (i := 52) (by decide +kernel))) rfl
theorem tw_773 : Cond.selects RX1 yX1_leastTrust yX1_leastTrust ∈ gwL := gw_in (tk_4 _ (List.mem_of_getElem? (i := 53) (by decide +kernel))) rfl
theorem tw_774 : Cond.code yX1_leastTrust cX1_leastTrust 2 (some .int) ∈ gwL := gw_in (tk_4 _ (List.mem_of_getElem? (i := 54) (by decide +kernel))) rfl
theorem tw_775 : Cond.methodLink RL 124 yX11_owe ∈ gwL := gw_in (tk_4 _ (List.mem_of_getElem? (i := 55) (by decide +kernel))) rfl
theorem tw_776 : Cond.instanceMethod yX11_owe ∈ gwL := gw_in (tk_4 _ (List.mem_of_getElem? (i := 56) (by decide +kernel))) rfl
theorem tw_777 : Cond.selects RX11 yX11_owe yX11_owe ∈ gwL := gw_in (tk_4 _ (List.mem_of_getElem? (i := 57) (by decide +kernel))) rfl
theorem tw_778 : Cond.code yX11_owe cX11_owe 4 (some .int) ∈ gwL := gw_in (tk_4 _ (List.mem_of_getElem? (i := 58) (by decide +kernel))) rfl
theorem tw_779 : Cond.methodLink RX11 233 yX4_move ∈ gwL := gw_in (tk_4 _ (List.mem_of_getElem? (i := 59) (by decide +kernel))) rfl
theorem tw_780 : Cond.instanceMethod yX4_move ∈ gwL := gw_in (tk_4 _ (List.mem_of_getElem? (i := 60) (by decide +kernel))) rfl
theorem tw_781 : Cond.selects RX4 yX4_move yX4_move ∈ gwL := gw_in (tk_4 _ (List.mem_of_getElem? (i := 61) (by decide +kernel))) rfl
theorem tw_782 : Cond.code yX4_move cX4_move 6 (some .int) ∈ gwL := gw_in (tk_4 _ (List.mem_of_getElem? (i := 62) (by decide +kernel))) rfl
theorem tw_783 : Cond.methodLinkNest RX4 25 yX11_isFirm RX11 ∈ lw_tbl := tk_4 _ (List.mem_of_getElem? (i := 63) (by decide +kernel))
theorem tw_784 : Cond.constant RX4 29 (-100001) ∈ gwL := gw_in (tk_4 _ (List.mem_of_getElem? (i := 64) (by decide +kernel))) rfl
theorem tw_785 : Cond.methodLinkNest RX4 30 yX11_within RX11 ∈ lw_tbl := tk_4 _ (List.mem_of_getElem? (i := 65) (by decide +kernel))
theorem tw_786 : Cond.constant RX4 34 (-100005) ∈ gwL := gw_in (tk_4 _ (List.mem_of_getElem? (i := 66) (by decide +kernel))) rfl
theorem tw_787 : Cond.methodLink RX4 35 yX3_keep ∈ gwL := gw_in (tk_4 _ (List.mem_of_getElem? (i := 67) (by decide +kernel))) rfl
theorem tw_788 : Cond.methodLink RL 128 yX11_net ∈ gwL := gw_in (tk_4 _ (List.mem_of_getElem? (i := 68) (by decide +kernel))) rfl
theorem tw_789 : Cond.instanceMethod yX11_net ∈ gwL := gw_in (tk_4 _ (List.mem_of_getElem? (i := 69) (by decide +kernel))) rfl
theorem tw_790 : Cond.selects RX11 yX11_net yX11_net ∈ gwL := gw_in (tk_4 _ (List.mem_of_getElem? (i := 70) (by decide +kernel))) rfl
theorem tw_791 : Cond.code yX11_net cX11_net 2 (some .int) ∈ gwL := gw_in (tk_4 _ (List.mem_of_getElem? (i := 71) (by decide +kernel))) rfl
theorem tw_792 : Cond.methodLink RX11 236 yX4_sumOf ∈ gwL := gw_in (tk_4 _ (List.mem_of_getElem? (i := 72) (by decide +kernel))) rfl
theorem tw_793 : Cond.instanceMethod yX4_sumOf ∈ gwL := gw_in (tk_4 _ (List.mem_of_getElem? (i := 73) (by decide +kernel))) rfl
theorem tw_794 : Cond.selects RX4 yX4_sumOf yX4_sumOf ∈ gwL := gw_in (tk_4 _ (List.mem_of_getElem? (i := 74) (by decide +kernel))) rfl
theorem tw_795 : Cond.code yX4_sumOf cX4_sumOf 4 (some .int) ∈ gwL := gw_in (tk_4 _ (List.mem_of_getElem? (i := 75) (by decide +kernel))) rfl
theorem tw_796 : Cond.methodLink RL 132 yX11_clearing ∈ gwL := gw_in (tk_4 _ (List.mem_of_getElem? (i := 76) (by decide +kernel))) rfl
theorem tw_797 : Cond.instanceMethod yX11_clearing ∈ gwL := gw_in (tk_4 _ (List.mem_of_getElem? (i := 77) (by decide +kernel))) rfl
theorem tw_798 : Cond.selects RX11 yX11_clearing yX11_clearing ∈ gwL := gw_in (tk_4 _ (List.mem_of_getElem? (i := 78) (by decide +kernel))) rfl
theorem tw_799 : Cond.code yX11_clearing cX11_clearing 3 (some .int) ∈ gwL := gw_in (tk_4 _ (List.mem_of_getElem? (i := 79) (by decide +kernel))) rfl
theorem tw_800 : Cond.methodLink RX11 239 yX4_settle ∈ gwL := gw_in (tk_4 _ (List.mem_of_getElem? (i := 80) (by decide +kernel))) rfl
theorem tw_801 : Cond.instanceMethod yX4_settle ∈ gwL := gw_in (tk_4 _ (List.mem_of_getElem? (i := 81) (by decide +kernel))) rfl
theorem tw_802 : Cond.selects RX4 yX4_settle yX4_settle ∈ gwL := gw_in (tk_4 _ (List.mem_of_getElem? (i := 82) (by decide +kernel))) rfl
theorem tw_803 : Cond.code yX4_settle cX4_settle 2 (some .int) ∈ gwL := gw_in (tk_4 _ (List.mem_of_getElem? (i := 83) (by decide +kernel))) rfl
theorem tw_804 : Cond.methodLink RX4 41 yX4_sumOf ∈ gwL := gw_in (tk_4 _ (List.mem_of_getElem? (i := 84) (by decide +kernel))) rfl
theorem tw_805 : Cond.methodLink RX4 49 yX4_settleOne ∈ gwL := gw_in (tk_4 _ (List.mem_of_getElem? (i := 85) (by decide +kernel))) rfl
theorem tw_807 : Cond.instanceMethod yX4_settleOne ∈ gwL := gw_in (tk_4 _ (List.mem_of_getElem? (i := 87) (by decide +kernel))) rfl
theorem tw_808 : Cond.code yX4_settleOne cX4_settleOne 4 (some .boolean) ∈ gwL := gw_in (tk_4 _ (List.mem_of_getElem? (i := 88) (by decide +kernel))) rfl
theorem tw_809 : Cond.methodLink RX4 53 yJ9_min_7cf53 ∈ gwL := gw_in (tk_4 _ (List.mem_of_getElem? (i := 89) (by decide +kernel))) rfl
theorem tw_810 : Cond.constant RX4 59 (1000000) ∈ gwL := gw_in (tk_4 _ (List.mem_of_getElem? (i := 90) (by decide +kernel))) rfl
theorem tw_811 : Cond.constant RX4 60 (100000) ∈ gwL := gw_in (tk_4 _ (List.mem_of_getElem? (i := 91) (by decide +kernel))) rfl
theorem tw_812 : Cond.methodLink RX11 242 yX4_payment ∈ gwL := gw_in (tk_4 _ (List.mem_of_getElem? (i := 92) (by decide +kernel))) rfl
theorem tw_813 : Cond.instanceMethod yX4_payment ∈ gwL := gw_in (tk_4 _ (List.mem_of_getElem? (i := 93) (by decide +kernel))) rfl
theorem tw_814 : Cond.selects RX4 yX4_payment yX4_payment ∈ gwL := gw_in (tk_4 _ (List.mem_of_getElem? (i := 94) (by decide +kernel))) rfl
theorem tw_815 : Cond.code yX4_payment cX4_payment 2 (some .int) ∈ gwL := gw_in (tk_4 _ (List.mem_of_getElem? (i := 95) (by decide +kernel))) rfl
theorem tw_816 : Cond.constant RX4 61 (-100006) ∈ gwL := gw_in (tk_4 _ (List.mem_of_getElem? (i := 96) (by decide +kernel))) rfl
theorem tw_817 : Cond.methodLink RL 136 yX11_clear ∈ gwL := gw_in (tk_4 _ (List.mem_of_getElem? (i := 97) (by decide +kernel))) rfl
theorem tw_818 : Cond.instanceMethod yX11_clear ∈ gwL := gw_in (tk_4 _ (List.mem_of_getElem? (i := 98) (by decide +kernel))) rfl
theorem tw_819 : Cond.selects RX11 yX11_clear yX11_clear ∈ gwL := gw_in (tk_4 _ (List.mem_of_getElem? (i := 99) (by decide +kernel))) rfl
theorem tw_820 : Cond.code yX11_clear cX11_clear 2 (some .int) ∈ gwL := gw_in (tk_4 _ (List.mem_of_getElem? (i := 100) (by decide +kernel))) rfl
theorem tw_821 : Cond.methodLink RX11 245 yX4_forget ∈ gwL := gw_in (tk_4 _ (List.mem_of_getElem? (i := 101) (by decide +kernel))) rfl
theorem tw_822 : Cond.instanceMethod yX4_forget ∈ gwL := gw_in (tk_4 _ (List.mem_of_getElem? (i := 102) (by decide +kernel))) rfl
theorem tw_823 : Cond.selects RX4 yX4_forget yX4_forget ∈ gwL := gw_in (tk_4 _ (List.mem_of_getElem? (i := 103) (by decide +kernel))) rfl
theorem tw_824 : Cond.code yX4_forget cX4_forget 1 none ∈ gwL := gw_in (tk_4 _ (List.mem_of_getElem? (i := 104) (by decide +kernel))) rfl
theorem tw_825 : Cond.methodLink RX4 62 yJ7_fill_53178 ∈ gwL := gw_in (tk_4 _ (List.mem_of_getElem? (i := 105) (by decide +kernel))) rfl
theorem tw_826 : Cond.static yJ7_fill_53178 ∈ gwL := gw_in (tk_4 _ (List.mem_of_getElem? (i := 106) (by decide +kernel))) rfl
theorem tw_827 : Cond.code yJ7_fill_53178 cJ7_fill_53178 4 none ∈ gwL := gw_in (tk_4 _ (List.mem_of_getElem? (i := 107) (by decide +kernel))) rfl
theorem tw_828 : Cond.methodLink RL 140 yX11_text ∈ gwL := gw_in (tk_4 _ (List.mem_of_getElem? (i := 108) (by decide +kernel))) rfl
theorem tw_829 : Cond.instanceMethod yX11_text ∈ gwL := gw_in (tk_4 _ (List.mem_of_getElem? (i := 109) (by decide +kernel))) rfl
theorem tw_830 : Cond.selects RX11 yX11_text yX11_text ∈ gwL := gw_in (tk_4 _ (List.mem_of_getElem? (i := 110) (by decide +kernel))) rfl
theorem tw_831 : Cond.code yX11_text cX11_text 2 (some .int) ∈ gwL := gw_in (tk_4 _ (List.mem_of_getElem? (i := 111) (by decide +kernel))) rfl
theorem tw_832 : Cond.methodLink RX11 248 yX11_isSheet ∈ gwL := gw_in (tk_4 _ (List.mem_of_getElem? (i := 112) (by decide +kernel))) rfl
theorem tw_833 : Cond.static yX11_isSheet ∈ gwL := gw_in (tk_4 _ (List.mem_of_getElem? (i := 113) (by decide +kernel))) rfl
theorem tw_834 : Cond.code yX11_isSheet cX11_isSheet 1 (some .boolean) ∈ gwL := gw_in (tk_4 _ (List.mem_of_getElem? (i := 114) (by decide +kernel))) rfl
theorem tw_835 : Cond.methodLink RX11 251 yX7_isMissing ∈ gwL := gw_in (tk_4 _ (List.mem_of_getElem? (i := 115) (by decide +kernel))) rfl
theorem tw_836 : Cond.instanceMethod yX7_isMissing ∈ gwL := gw_in (tk_4 _ (List.mem_of_getElem? (i := 116) (by decide +kernel))) rfl
theorem tw_837 : Cond.selects RX7 yX7_isMissing yX7_isMissing ∈ gwL := gw_in (tk_4 _ (List.mem_of_getElem? (i := 117) (by decide +kernel))) rfl
theorem tw_838 : Cond.code yX7_isMissing cX7_isMissing 1 (some .boolean) ∈ gwL := gw_in (tk_4 _ (List.mem_of_getElem? (i := 118) (by decide +kernel))) rfl
theorem tw_839 : Cond.constant RX11 255 (-100002) ∈ gwL := gw_in (tk_4 _ (List.mem_of_getElem? (i := 119) (by decide +kernel))) rfl
theorem tw_840 : Cond.methodLink RX11 256 yX9_read ∈ gwL := gw_in (tk_4 _ (List.mem_of_getElem? (i := 120) (by decide +kernel))) rfl
theorem tw_841 : Cond.instanceMethod yX9_read ∈ gwL := gw_in (tk_4 _ (List.mem_of_getElem? (i := 121) (by decide +kernel))) rfl
theorem tw_842 : Cond.selects RX9 yX9_read yX9_read ∈ gwL := gw_in (tk_4 _ (List.mem_of_getElem? (i := 122) (by decide +kernel))) rfl
theorem tw_843 : Cond.code yX9_read cX9_read 4 (some .int) ∈ gwL := gw_in (tk_4 _ (List.mem_of_getElem? (i := 123) (by decide +kernel))) rfl
theorem tw_844 : Cond.methodLink RX9 25 yX7_count ∈ gwL := gw_in (tk_4 _ (List.mem_of_getElem? (i := 124) (by decide +kernel))) rfl
theorem tw_845 : Cond.instanceMethod yX7_count ∈ gwL := gw_in (tk_4 _ (List.mem_of_getElem? (i := 125) (by decide +kernel))) rfl
theorem tw_846 : Cond.selects RX7 yX7_count yX7_count ∈ gwL := gw_in (tk_4 _ (List.mem_of_getElem? (i := 126) (by decide +kernel))) rfl
theorem tw_847 : Cond.code yX7_count cX7_count 1 (some .int) ∈ gwL := gw_in (tk_4 _ (List.mem_of_getElem? (i := 127) (by decide +kernel))) rfl
theorem tw_848 : Cond.constant RX9 31 (-100003) ∈ gwL := gw_in (tk_4 _ (List.mem_of_getElem? (i := 128) (by decide +kernel))) rfl
theorem tw_849 : Cond.methodLink RX9 32 yX7_at ∈ gwL := gw_in (tk_4 _ (List.mem_of_getElem? (i := 129) (by decide +kernel))) rfl
theorem tw_850 : Cond.instanceMethod yX7_at ∈ gwL := gw_in (tk_4 _ (List.mem_of_getElem? (i := 130) (by decide +kernel))) rfl
theorem tw_851 : Cond.selects RX7 yX7_at yX7_at ∈ gwL := gw_in (tk_4 _ (List.mem_of_getElem? (i := 131) (by decide +kernel))) rfl
theorem tw_852 : Cond.code yX7_at cX7_at 2 (some .int) ∈ gwL := gw_in (tk_4 _ (List.mem_of_getElem? (i := 132) (by decide +kernel))) rfl
theorem tw_853 : Cond.methodLink RX9 36 yX9_isSign ∈ gwL := gw_in (tk_4 _ (List.mem_of_getElem? (i := 133) (by decide +kernel))) rfl
theorem tw_854 : Cond.static yX9_isSign ∈ gwL := gw_in (tk_4 _ (List.mem_of_getElem? (i := 134) (by decide +kernel))) rfl
theorem tw_855 : Cond.code yX9_isSign cX9_isSign 1 (some .boolean) ∈ gwL := gw_in (tk_4 _ (List.mem_of_getElem? (i := 135) (by decide +kernel))) rfl
theorem tw_856 : Cond.methodLinkNest RX9 47 yX11_within RX11 ∈ lw_tbl := tk_4 _ (List.mem_of_getElem? (i := 136) (by decide +kernel))
theorem tw_857 : Cond.constant RX9 40 (-100001) ∈ gwL := gw_in (tk_4 _ (List.mem_of_getElem? (i := 137) (by decide +kernel))) rfl
theorem tw_858 : Cond.methodLink RX9 41 yX3_keep ∈ gwL := gw_in (tk_4 _ (List.mem_of_getElem? (i := 138) (by decide +kernel))) rfl
theorem tw_859 : Cond.methodLink RL 144 yX11_wrong ∈ gwL := gw_in (tk_4 _ (List.mem_of_getElem? (i := 139) (by decide +kernel))) rfl
theorem tw_860 : Cond.instanceMethod yX11_wrong ∈ gwL := gw_in (tk_4 _ (List.mem_of_getElem? (i := 140) (by decide +kernel))) rfl
theorem tw_861 : Cond.selects RX11 yX11_wrong yX11_wrong ∈ gwL := gw_in (tk_4 _ (List.mem_of_getElem? (i := 141) (by decide +kernel))) rfl
theorem tw_862 : Cond.code yX11_wrong cX11_wrong 1 (some .int) ∈ gwL := gw_in (tk_4 _ (List.mem_of_getElem? (i := 142) (by decide +kernel))) rfl
theorem tw_863 : Cond.methodLink RX11 260 yX9_firstFault ∈ gwL := gw_in (tk_4 _ (List.mem_of_getElem? (i := 143) (by decide +kernel))) rfl
theorem tw_864 : Cond.instanceMethod yX9_firstFault ∈ gwL := gw_in (tk_4 _ (List.mem_of_getElem? (i := 144) (by decide +kernel))) rfl
theorem tw_865 : Cond.selects RX9 yX9_firstFault yX9_firstFault ∈ gwL := gw_in (tk_4 _ (List.mem_of_getElem? (i := 145) (by decide +kernel))) rfl
theorem tw_866 : Cond.code yX9_firstFault cX9_firstFault 5 (some .int) ∈ gwL := gw_in (tk_4 _ (List.mem_of_getElem? (i := 146) (by decide +kernel))) rfl
theorem tw_867 : Cond.methodLink RX9 60 yX9_count ∈ gwL := gw_in (tk_4 _ (List.mem_of_getElem? (i := 147) (by decide +kernel))) rfl
theorem tw_869 : Cond.instanceMethod yX9_count ∈ gwL := gw_in (tk_4 _ (List.mem_of_getElem? (i := 149) (by decide +kernel))) rfl
theorem tw_870 : Cond.code yX9_count cX9_count 1 (some .int) ∈ gwL := gw_in (tk_4 _ (List.mem_of_getElem? (i := 150) (by decide +kernel))) rfl
theorem tw_871 : Cond.methodLink RX9 51 yJ9_max_7cf53 ∈ gwL := gw_in (tk_4 _ (List.mem_of_getElem? (i := 151) (by decide +kernel))) rfl
theorem tw_872 : Cond.methodLink RX9 57 yJ9_min_7cf53 ∈ gwL := gw_in (tk_4 _ (List.mem_of_getElem? (i := 152) (by decide +kernel))) rfl
theorem tw_873 : Cond.methodLink RL 148 yX11_claim ∈ gwL := gw_in (tk_4 _ (List.mem_of_getElem? (i := 153) (by decide +kernel))) rfl
theorem tw_874 : Cond.instanceMethod yX11_claim ∈ gwL := gw_in (tk_4 _ (List.mem_of_getElem? (i := 154) (by decide +kernel))) rfl
theorem tw_875 : Cond.selects RX11 yX11_claim yX11_claim ∈ gwL := gw_in (tk_4 _ (List.mem_of_getElem? (i := 155) (by decide +kernel))) rfl
theorem tw_876 : Cond.code yX11_claim cX11_claim 4 (some .int) ∈ gwL := gw_in (tk_4 _ (List.mem_of_getElem? (i := 156) (by decide +kernel))) rfl
theorem tw_877 : Cond.constant RX11 263 (-100008) ∈ gwL := gw_in (tk_4 _ (List.mem_of_getElem? (i := 157) (by decide +kernel))) rfl
theorem tw_878 : Cond.methodLink RX11 264 yX9_know ∈ gwL := gw_in (tk_4 _ (List.mem_of_getElem? (i := 158) (by decide +kernel))) rfl
theorem tw_879 : Cond.instanceMethod yX9_know ∈ gwL := gw_in (tk_4 _ (List.mem_of_getElem? (i := 159) (by decide +kernel))) rfl
theorem tw_880 : Cond.selects RX9 yX9_know yX9_know ∈ gwL := gw_in (tk_4 _ (List.mem_of_getElem? (i := 160) (by decide +kernel))) rfl
theorem tw_881 : Cond.code yX9_know cX9_know 3 none ∈ gwL := gw_in (tk_4 _ (List.mem_of_getElem? (i := 161) (by decide +kernel))) rfl
theorem tw_882 : Cond.methodLink RX11 267 yX1_contractsOf ∈ gwL := gw_in (tk_4 _ (List.mem_of_getElem? (i := 162) (by decide +kernel))) rfl
theorem tw_883 : Cond.instanceMethod yX1_contractsOf ∈ gwL := gw_in (tk_4 _ (List.mem_of_getElem? (i := 163) (by decide +kernel))) rfl
theorem tw_884 : Cond.selects RX1 yX1_contractsOf yX1_contractsOf ∈ gwL := gw_in (tk_4 _ (List.mem_of_getElem? (i := 164) (by decide +kernel))) rfl
theorem tw_885 : Cond.code yX1_contractsOf cX1_contractsOf 4 (some .int) ∈ gwL := gw_in (tk_4 _ (List.mem_of_getElem? (i := 165) (by decide +kernel))) rfl
theorem tw_886 : Cond.methodLink RX11 270 yX9_workOut ∈ gwL := gw_in (tk_4 _ (List.mem_of_getElem? (i := 166) (by decide +kernel))) rfl
theorem tw_887 : Cond.instanceMethod yX9_workOut ∈ gwL := gw_in (tk_4 _ (List.mem_of_getElem? (i := 167) (by decide +kernel))) rfl
theorem tw_888 : Cond.selects RX9 yX9_workOut yX9_workOut ∈ gwL := gw_in (tk_4 _ (List.mem_of_getElem? (i := 168) (by decide +kernel))) rfl
theorem tw_889 : Cond.code yX9_workOut cX9_workOut 5 (some .int) ∈ gwL := gw_in (tk_4 _ (List.mem_of_getElem? (i := 169) (by decide +kernel))) rfl
theorem tw_890 : Cond.methodLink RX9 61 yX9_single ∈ gwL := gw_in (tk_4 _ (List.mem_of_getElem? (i := 170) (by decide +kernel))) rfl
theorem tw_892 : Cond.instanceMethod yX9_single ∈ gwL := gw_in (tk_4 _ (List.mem_of_getElem? (i := 172) (by decide +kernel))) rfl
theorem tw_893 : Cond.code yX9_single cX9_single 2 (some .int) ∈ gwL := gw_in (tk_4 _ (List.mem_of_getElem? (i := 173) (by decide +kernel))) rfl
theorem tw_894 : Cond.methodLink RX9 64 yX9_joined ∈ gwL := gw_in (tk_4 _ (List.mem_of_getElem? (i := 174) (by decide +kernel))) rfl
theorem tw_895 : Cond.static yX9_joined ∈ gwL := gw_in (tk_4 _ (List.mem_of_getElem? (i := 175) (by decide +kernel))) rfl
theorem tw_896 : Cond.code yX9_joined cX9_joined 3 (some .int) ∈ gwL := gw_in (tk_4 _ (List.mem_of_getElem? (i := 176) (by decide +kernel))) rfl
theorem tw_897 : Cond.methodLink RX11 274 yJ9_max_7cf53 ∈ gwL := gw_in (tk_4 _ (List.mem_of_getElem? (i := 177) (by decide +kernel))) rfl
theorem tw_898 : Cond.methodLink RL 152 yX11_proves ∈ gwL := gw_in (tk_4 _ (List.mem_of_getElem? (i := 178) (by decide +kernel))) rfl
theorem tw_899 : Cond.instanceMethod yX11_proves ∈ gwL := gw_in (tk_4 _ (List.mem_of_getElem? (i := 179) (by decide +kernel))) rfl
theorem tw_900 : Cond.selects RX11 yX11_proves yX11_proves ∈ gwL := gw_in (tk_4 _ (List.mem_of_getElem? (i := 180) (by decide +kernel))) rfl
theorem tw_901 : Cond.code yX11_proves cX11_proves 2 (some .int) ∈ gwL := gw_in (tk_4 _ (List.mem_of_getElem? (i := 181) (by decide +kernel))) rfl
theorem tw_902 : Cond.methodLink RX11 279 yX7_count ∈ gwL := gw_in (tk_4 _ (List.mem_of_getElem? (i := 182) (by decide +kernel))) rfl
theorem tw_903 : Cond.methodLink RX11 280 yX2_firstDoubt ∈ gwL := gw_in (tk_4 _ (List.mem_of_getElem? (i := 183) (by decide +kernel))) rfl
theorem tw_904 : Cond.instanceMethod yX2_firstDoubt ∈ gwL := gw_in (tk_4 _ (List.mem_of_getElem? (i := 184) (by decide +kernel))) rfl
theorem tw_905 : Cond.selects RX2 yX2_firstDoubt yX2_firstDoubt ∈ gwL := gw_in (tk_4 _ (List.mem_of_getElem? (i := 185) (by decide +kernel))) rfl
theorem tw_906 : Cond.code yX2_firstDoubt cX2_firstDoubt 7 (some .int) ∈ gwL := gw_in (tk_4 _ (List.mem_of_getElem? (i := 186) (by decide +kernel))) rfl
theorem tw_907 : Cond.methodLink RX2 129 yX7_at ∈ gwL := gw_in (tk_4 _ (List.mem_of_getElem? (i := 187) (by decide +kernel))) rfl
theorem tw_908 : Cond.methodLink RX2 133 yX2_isOfThese ∈ gwL := gw_in (tk_4 _ (List.mem_of_getElem? (i := 188) (by decide +kernel))) rfl
theorem tw_909 : Cond.static yX2_isOfThese ∈ gwL := gw_in (tk_4 _ (List.mem_of_getElem? (i := 189) (by decide +kernel))) rfl
theorem tw_910 : Cond.code yX2_isOfThese cX2_isOfThese 4 (some .boolean) ∈ gwL := gw_in (tk_4 _ (List.mem_of_getElem? (i := 190) (by decide +kernel))) rfl
theorem tw_911 : Cond.methodLink RX2 136 yX2_value ∈ gwL := gw_in (tk_4 _ (List.mem_of_getElem? (i := 191) (by decide +kernel))) rfl
theorem tw_912 : Cond.methodLink RL 156 yX11_sheet ∈ gwL := gw_in (tk_4 _ (List.mem_of_getElem? (i := 192) (by decide +kernel))) rfl
theorem tw_913 : Cond.instanceMethod yX11_sheet ∈ gwL := gw_in (tk_4 _ (List.mem_of_getElem? (i := 193) (by decide +kernel))) rfl
theorem tw_914 : Cond.selects RX11 yX11_sheet yX11_sheet ∈ gwL := gw_in (tk_4 _ (List.mem_of_getElem? (i := 194) (by decide +kernel))) rfl
theorem tw_915 : Cond.code yX11_sheet cX11_sheet 6 (some .int) ∈ gwL := gw_in (tk_4 _ (List.mem_of_getElem? (i := 195) (by decide +kernel))) rfl
theorem tw_916 : Cond.methodLink RX11 283 yX7_begin ∈ gwL := gw_in (tk_4 _ (List.mem_of_getElem? (i := 196) (by decide +kernel))) rfl
theorem tw_917 : Cond.instanceMethod yX7_begin ∈ gwL := gw_in (tk_4 _ (List.mem_of_getElem? (i := 197) (by decide +kernel))) rfl
theorem tw_918 : Cond.selects RX7 yX7_begin yX7_begin ∈ gwL := gw_in (tk_4 _ (List.mem_of_getElem? (i := 198) (by decide +kernel))) rfl
theorem tw_919 : Cond.code yX7_begin cX7_begin 3 none ∈ gwL := gw_in (tk_4 _ (List.mem_of_getElem? (i := 199) (by decide +kernel))) rfl
theorem tw_920 : Cond.methodLink RX7 19 yJ9_max_7cf53 ∈ gwL := gw_in (tk_4 _ (List.mem_of_getElem? (i := 200) (by decide +kernel))) rfl
theorem tw_921 : Cond.methodLink RX7 25 yJ9_min_7cf53 ∈ gwL := gw_in (tk_4 _ (List.mem_of_getElem? (i := 201) (by decide +kernel))) rfl
theorem tw_922 : Cond.methodLink RX7 31 yJ7_fill_53178 ∈ gwL := gw_in (tk_4 _ (List.mem_of_getElem? (i := 202) (by decide +kernel))) rfl
theorem tw_923 : Cond.methodLink RL 160 yX11_put ∈ gwL := gw_in (tk_4 _ (List.mem_of_getElem? (i := 203) (by decide +kernel))) rfl
theorem tw_924 : Cond.instanceMethod yX11_put ∈ gwL := gw_in (tk_4 _ (List.mem_of_getElem? (i := 204) (by decide +kernel))) rfl
theorem tw_925 : Cond.selects RX11 yX11_put yX11_put ∈ gwL := gw_in (tk_4 _ (List.mem_of_getElem? (i := 205) (by decide +kernel))) rfl
theorem tw_926 : Cond.code yX11_put cX11_put 4 (some .int) ∈ gwL := gw_in (tk_4 _ (List.mem_of_getElem? (i := 206) (by decide +kernel))) rfl
theorem tw_927 : Cond.methodLink RX11 286 yX7_reaches ∈ gwL := gw_in (tk_4 _ (List.mem_of_getElem? (i := 207) (by decide +kernel))) rfl
theorem tw_928 : Cond.instanceMethod yX7_reaches ∈ gwL := gw_in (tk_4 _ (List.mem_of_getElem? (i := 208) (by decide +kernel))) rfl
theorem tw_929 : Cond.selects RX7 yX7_reaches yX7_reaches ∈ gwL := gw_in (tk_4 _ (List.mem_of_getElem? (i := 209) (by decide +kernel))) rfl
theorem tw_930 : Cond.code yX7_reaches cX7_reaches 3 (some .boolean) ∈ gwL := gw_in (tk_4 _ (List.mem_of_getElem? (i := 210) (by decide +kernel))) rfl
theorem tw_931 : Cond.methodLink RX11 289 yX7_write ∈ gwL := gw_in (tk_4 _ (List.mem_of_getElem? (i := 211) (by decide +kernel))) rfl
theorem tw_932 : Cond.instanceMethod yX7_write ∈ gwL := gw_in (tk_4 _ (List.mem_of_getElem? (i := 212) (by decide +kernel))) rfl
theorem tw_933 : Cond.selects RX7 yX7_write yX7_write ∈ gwL := gw_in (tk_4 _ (List.mem_of_getElem? (i := 213) (by decide +kernel))) rfl
theorem tw_934 : Cond.code yX7_write cX7_write 3 none ∈ gwL := gw_in (tk_4 _ (List.mem_of_getElem? (i := 214) (by decide +kernel))) rfl
theorem tw_935 : Cond.methodLink RL 164 yX11_copy ∈ gwL := gw_in (tk_4 _ (List.mem_of_getElem? (i := 215) (by decide +kernel))) rfl
theorem tw_936 : Cond.instanceMethod yX11_copy ∈ gwL := gw_in (tk_4 _ (List.mem_of_getElem? (i := 216) (by decide +kernel))) rfl
theorem tw_937 : Cond.selects RX11 yX11_copy yX11_copy ∈ gwL := gw_in (tk_4 _ (List.mem_of_getElem? (i := 217) (by decide +kernel))) rfl
theorem tw_938 : Cond.code yX11_copy cX11_copy 6 (some .int) ∈ gwL := gw_in (tk_4 _ (List.mem_of_getElem? (i := 218) (by decide +kernel))) rfl
theorem tw_939 : Cond.methodLink RX11 292 yX7_isAsWideAs ∈ gwL := gw_in (tk_4 _ (List.mem_of_getElem? (i := 219) (by decide +kernel))) rfl
theorem tw_940 : Cond.instanceMethod yX7_isAsWideAs ∈ gwL := gw_in (tk_4 _ (List.mem_of_getElem? (i := 220) (by decide +kernel))) rfl
theorem tw_941 : Cond.selects RX7 yX7_isAsWideAs yX7_isAsWideAs ∈ gwL := gw_in (tk_4 _ (List.mem_of_getElem? (i := 221) (by decide +kernel))) rfl
theorem tw_942 : Cond.code yX7_isAsWideAs cX7_isAsWideAs 2 (some .boolean) ∈ gwL := gw_in (tk_4 _ (List.mem_of_getElem? (i := 222) (by decide +kernel))) rfl
theorem tw_943 : Cond.methodLink RX11 296 yX7_take ∈ gwL := gw_in (tk_4 _ (List.mem_of_getElem? (i := 223) (by decide +kernel))) rfl
theorem tw_944 : Cond.instanceMethod yX7_take ∈ gwL := gw_in (tk_4 _ (List.mem_of_getElem? (i := 224) (by decide +kernel))) rfl
theorem tw_945 : Cond.selects RX7 yX7_take yX7_take ∈ gwL := gw_in (tk_4 _ (List.mem_of_getElem? (i := 225) (by decide +kernel))) rfl
theorem tw_946 : Cond.code yX7_take cX7_take 5 none ∈ gwL := gw_in (tk_4 _ (List.mem_of_getElem? (i := 226) (by decide +kernel))) rfl
theorem tw_947 : Cond.methodLink RX7 37 yX7_reaches ∈ gwL := gw_in (tk_4 _ (List.mem_of_getElem? (i := 227) (by decide +kernel))) rfl
theorem tw_948 : Cond.methodLink RX7 41 (⟨"java/lang/System", "arraycopy", "(Ljava/lang/Object;ILjava/lang/Object;II)V"⟩ : MethodName) ∈ gwL := gw_in (tk_4 _ (List.mem_of_getElem? (i := 228) (by decide +kernel))) rfl
theorem tw_949 : Cond.methodLink RL 168 yX11_undo ∈ gwL := gw_in (tk_4 _ (List.mem_of_getElem? (i := 229) (by decide +kernel))) rfl
theorem tw_950 : Cond.instanceMethod yX11_undo ∈ gwL := gw_in (tk_4 _ (List.mem_of_getElem? (i := 230) (by decide +kernel))) rfl
theorem tw_951 : Cond.selects RX11 yX11_undo yX11_undo ∈ gwL := gw_in (tk_4 _ (List.mem_of_getElem? (i := 231) (by decide +kernel))) rfl
theorem tw_952 : Cond.code yX11_undo cX11_undo 1 (some .int) ∈ gwL := gw_in (tk_4 _ (List.mem_of_getElem? (i := 232) (by decide +kernel))) rfl
theorem tw_953 : Cond.methodLink RX11 300 yX3_takeBack ∈ gwL := gw_in (tk_4 _ (List.mem_of_getElem? (i := 233) (by decide +kernel))) rfl
theorem tw_954 : Cond.instanceMethod yX3_takeBack ∈ gwL := gw_in (tk_4 _ (List.mem_of_getElem? (i := 234) (by decide +kernel))) rfl
theorem tw_955 : Cond.selects RX3 yX3_takeBack yX3_takeBack ∈ gwL := gw_in (tk_4 _ (List.mem_of_getElem? (i := 235) (by decide +kernel))) rfl
theorem tw_956 : Cond.code yX3_takeBack cX3_takeBack 1 (some .int) ∈ gwL := gw_in (tk_4 _ (List.mem_of_getElem? (i := 236) (by decide +kernel))) rfl
theorem tw_957 : Cond.constant RX3 45 (-100006) ∈ gwL := gw_in (tk_4 _ (List.mem_of_getElem? (i := 237) (by decide +kernel))) rfl
theorem tw_958 : Cond.methodLink RX3 46 yX3_writeAgain ∈ gwL := gw_in (tk_4 _ (List.mem_of_getElem? (i := 238) (by decide +kernel))) rfl
theorem tw_959 : Cond.static yX3_writeAgain ∈ gwL := gw_in (tk_4 _ (List.mem_of_getElem? (i := 239) (by decide +kernel))) rfl
theorem tw_960 : Cond.code yX3_writeAgain cX3_writeAgain 3 none ∈ gwL := gw_in (tk_5 _ (List.mem_of_getElem? (i := 0) (by decide +kernel))) rfl
theorem tw_961 : Cond.methodLink RX3 50 (⟨"java/lang/System", "arraycopy", "(Ljava/lang/Object;ILjava/lang/Object;II)V"⟩ : MethodName) ∈ gwL := gw_in (tk_5 _ (List.mem_of_getElem? (i := 1) (by decide +kernel))) rfl
theorem tw_962 : Cond.methodLink RL 172 yX11_all ∈ gwL := gw_in (tk_5 _ (List.mem_of_getElem? (i := 2) (by decide +kernel))) rfl
theorem tw_963 : Cond.instanceMethod yX11_all ∈ gwL := gw_in (tk_5 _ (List.mem_of_getElem? (i := 3) (by decide +kernel))) rfl
theorem tw_964 : Cond.selects RX11 yX11_all yX11_all ∈ gwL := gw_in (tk_5 _ (List.mem_of_getElem? (i := 4) (by decide +kernel))) rfl
theorem tw_965 : Cond.code yX11_all cX11_all 2 (some .int) ∈ gwL := gw_in (tk_5 _ (List.mem_of_getElem? (i := 5) (by decide +kernel))) rfl
theorem tw_966 : Cond.methodLink RX11 303 yX5_count ∈ gwL := gw_in (tk_5 _ (List.mem_of_getElem? (i := 6) (by decide +kernel))) rfl
theorem tw_967 : Cond.instanceMethod yX5_count ∈ gwL := gw_in (tk_5 _ (List.mem_of_getElem? (i := 7) (by decide +kernel))) rfl
theorem tw_968 : Cond.selects RX5 yX5_count yX5_count ∈ gwL := gw_in (tk_5 _ (List.mem_of_getElem? (i := 8) (by decide +kernel))) rfl
theorem tw_969 : Cond.code yX5_count cX5_count 1 (some .int) ∈ gwL := gw_in (tk_5 _ (List.mem_of_getElem? (i := 9) (by decide +kernel))) rfl
theorem tw_970 : Cond.methodLink RX11 304 yX1_contracts ∈ gwL := gw_in (tk_5 _ (List.mem_of_getElem? (i := 10) (by decide +kernel))) rfl
theorem tw_971 : Cond.instanceMethod yX1_contracts ∈ gwL := gw_in (tk_5 _ (List.mem_of_getElem? (i := 11) (by decide +kernel))) rfl
theorem tw_972 : Cond.selects RX1 yX1_contracts yX1_contracts ∈ gwL := gw_in (tk_5 _ (List.mem_of_getElem? (i := 12) (by decide +kernel))) rfl
theorem tw_973 : Cond.code yX1_contracts cX1_contracts 1 (some .int) ∈ gwL := gw_in (tk_5 _ (List.mem_of_getElem? (i := 13) (by decide +kernel))) rfl
theorem tw_974 : Cond.methodLink RX11 307 yX6_count ∈ gwL := gw_in (tk_5 _ (List.mem_of_getElem? (i := 14) (by decide +kernel))) rfl
theorem tw_975 : Cond.instanceMethod yX6_count ∈ gwL := gw_in (tk_5 _ (List.mem_of_getElem? (i := 15) (by decide +kernel))) rfl
theorem tw_976 : Cond.selects RX6 yX6_count yX6_count ∈ gwL := gw_in (tk_5 _ (List.mem_of_getElem? (i := 16) (by decide +kernel))) rfl
theorem tw_977 : Cond.code yX6_count cX6_count 1 (some .int) ∈ gwL := gw_in (tk_5 _ (List.mem_of_getElem? (i := 17) (by decide +kernel))) rfl
theorem tw_978 : Cond.classLink RL 10 RX12 ∈ gwL := gw_in (tk_5 _ (List.mem_of_getElem? (i := 18) (by decide +kernel))) rfl
theorem tw_979 : Cond.instantiable RX12 26 ∈ gwL := gw_in (tk_5 _ (List.mem_of_getElem? (i := 19) (by decide +kernel))) rfl
theorem tw_980 : Cond.methodLink RL 12 yX12_init ∈ gwL := gw_in (tk_5 _ (List.mem_of_getElem? (i := 20) (by decide +kernel))) rfl
theorem tw_981 : Cond.instanceMethod yX12_init ∈ gwL := gw_in (tk_5 _ (List.mem_of_getElem? (i := 21) (by decide +kernel))) rfl
theorem tw_982 : Cond.code yX12_init cX12_init 1 none ∈ gwL := gw_in (tk_5 _ (List.mem_of_getElem? (i := 22) (by decide +kernel))) rfl
theorem tw_983 : Cond.methodLink RX12 1 (⟨"java/lang/Object", "<init>", "()V"⟩ : MethodName) ∈ gwL := gw_in (tk_5 _ (List.mem_of_getElem? (i := 23) (by decide +kernel))) rfl
theorem tw_984 : Cond.fieldLink RX12 9 "LoadBourseModel" "now" "[I" ∈ gwL := gw_in (tk_5 _ (List.mem_of_getElem? (i := 24) (by decide +kernel))) rfl
theorem tw_985 : Cond.fieldLink RX12 13 "LoadBourseModel" "past" "[I" ∈ gwL := gw_in (tk_5 _ (List.mem_of_getElem? (i := 25) (by decide +kernel))) rfl
theorem tw_986 : Cond.fieldLink RX12 67 "LoadBourseModel" "kept" "I" ∈ gwL := gw_in (tk_5 _ (List.mem_of_getElem? (i := 26) (by decide +kernel))) rfl
theorem tw_987 : Cond.fieldLink RX12 59 "LoadBourseModel" "findings" "I" ∈ gwL := gw_in (tk_5 _ (List.mem_of_getElem? (i := 27) (by decide +kernel))) rfl
theorem tw_988 : Cond.fieldLink RX12 16 "LoadBourseModel" "bits" "[I" ∈ gwL := gw_in (tk_5 _ (List.mem_of_getElem? (i := 28) (by decide +kernel))) rfl
theorem tw_989 : Cond.fieldLink RX12 19 "LoadBourseModel" "sizes" "[I" ∈ gwL := gw_in (tk_5 _ (List.mem_of_getElem? (i := 29) (by decide +kernel))) rfl
theorem tw_990 : Cond.fieldLink RX12 22 "LoadBourseModel" "sheets" "[I" ∈ gwL := gw_in (tk_5 _ (List.mem_of_getElem? (i := 30) (by decide +kernel))) rfl
theorem tw_991 : Cond.fieldLink RX12 25 "LoadBourseModel" "far" "[I" ∈ gwL := gw_in (tk_5 _ (List.mem_of_getElem? (i := 31) (by decide +kernel))) rfl
theorem tw_992 : Cond.fieldLink RX12 127 "LoadBourseModel" "minute" "I" ∈ gwL := gw_in (tk_5 _ (List.mem_of_getElem? (i := 32) (by decide +kernel))) rfl
theorem tw_993 : Cond.fieldLink RX12 124 "LoadBourseModel" "since" "I" ∈ gwL := gw_in (tk_5 _ (List.mem_of_getElem? (i := 33) (by decide +kernel))) rfl
theorem tw_994 : Cond.fieldLink RX12 118 "LoadBourseModel" "driven" "I" ∈ gwL := gw_in (tk_5 _ (List.mem_of_getElem? (i := 34) (by decide +kernel))) rfl
theorem tw_995 : Cond.fieldLink RX12 121 "LoadBourseModel" "emptyOnes" "I" ∈ gwL := gw_in (tk_5 _ (List.mem_of_getElem? (i := 35) (by decide +kernel))) rfl
theorem tw_996 : Cond.fieldLink RX12 130 "LoadBourseModel" "rests" "I" ∈ gwL := gw_in (tk_5 _ (List.mem_of_getElem? (i := 36) (by decide +kernel))) rfl
theorem tw_997 : Cond.fieldLink RX12 133 "LoadBourseModel" "waited" "I" ∈ gwL := gw_in (tk_5 _ (List.mem_of_getElem? (i := 37) (by decide +kernel))) rfl
theorem tw_998 : Cond.fieldLink RX12 115 "LoadBourseModel" "town" "I" ∈ gwL := gw_in (tk_5 _ (List.mem_of_getElem? (i := 38) (by decide +kernel))) rfl
theorem tw_999 : Cond.fieldLink RX12 28 "LoadBourseModel" "may" "[Z" ∈ gwL := gw_in (tk_5 _ (List.mem_of_getElem? (i := 39) (by decide +kernel))) rfl
theorem tw_1000 : Cond.fieldLink RX12 32 "LoadBourseModel" "values" "[I" ∈ gwL := gw_in (tk_5 _ (List.mem_of_getElem? (i := 40) (by decide +kernel))) rfl
theorem tw_1001 : Cond.fieldLink RX12 35 "LoadBourseModel" "empties" "[I" ∈ gwL := gw_in (tk_5 _ (List.mem_of_getElem? (i := 41) (by decide +kernel))) rfl
theorem tw_1002 : Cond.fieldLink RX12 38 "LoadBourseModel" "best" "[I" ∈ gwL := gw_in (tk_5 _ (List.mem_of_getElem? (i := 42) (by decide +kernel))) rfl
theorem tw_1003 : Cond.fieldLink RX12 41 "LoadBourseModel" "chosen" "[I" ∈ gwL := gw_in (tk_5 _ (List.mem_of_getElem? (i := 43) (by decide +kernel))) rfl
theorem tw_1004 : Cond.fieldLink RX12 44 "LoadBourseModel" "sorted" "[I" ∈ gwL := gw_in (tk_5 _ (List.mem_of_getElem? (i := 44) (by decide +kernel))) rfl
theorem tw_1005 : Cond.fieldLink RX12 194 "LoadBourseModel" "links" "I" ∈ gwL := gw_in (tk_5 _ (List.mem_of_getElem? (i := 45) (by decide +kernel))) rfl
theorem tw_1006 : Cond.fieldLink RX12 47 "LoadBourseModel" "sums" "[I" ∈ gwL := gw_in (tk_5 _ (List.mem_of_getElem? (i := 46) (by decide +kernel))) rfl
theorem tw_1007 : Cond.fieldLink RX12 50 "LoadBourseModel" "payments" "[I" ∈ gwL := gw_in (tk_5 _ (List.mem_of_getElem? (i := 47) (by decide +kernel))) rfl
theorem tw_1008 : Cond.fieldLink RX12 53 "LoadBourseModel" "row" "[I" ∈ gwL := gw_in (tk_5 _ (List.mem_of_getElem? (i := 48) (by decide +kernel))) rfl
theorem tw_1009 : Cond.fieldLink RX12 56 "LoadBourseModel" "carried" "[I" ∈ gwL := gw_in (tk_5 _ (List.mem_of_getElem? (i := 49) (by decide +kernel))) rfl
theorem tw_1063 : Cond.arrayClass .boolean ∈ gwL := gw_in (tk_5 _ (List.mem_of_getElem? (i := 103) (by decide +kernel))) rfl
theorem tw_1064 : Cond.methodLink RL 171 yX12_undo ∈ gwL := gw_in (tk_5 _ (List.mem_of_getElem? (i := 104) (by decide +kernel))) rfl
theorem tw_1065 : Cond.instanceMethod yX12_undo ∈ gwL := gw_in (tk_5 _ (List.mem_of_getElem? (i := 105) (by decide +kernel))) rfl
theorem tw_1066 : Cond.selects RX12 yX12_undo yX12_undo ∈ gwL := gw_in (tk_5 _ (List.mem_of_getElem? (i := 106) (by decide +kernel))) rfl
theorem tw_1067 : Cond.code yX12_undo cX12_undo 2 (some .int) ∈ gwL := gw_in (tk_5 _ (List.mem_of_getElem? (i := 107) (by decide +kernel))) rfl
theorem tw_1068 : Cond.constant RX12 70 (-100006) ∈ gwL := gw_in (tk_5 _ (List.mem_of_getElem? (i := 108) (by decide +kernel))) rfl
theorem tw_1069 : Cond.methodLink RX12 71 yX12_finding ∈ gwL := gw_in (tk_5 _ (List.mem_of_getElem? (i := 109) (by decide +kernel))) rfl
theorem tw_1071 : Cond.instanceMethod yX12_finding ∈ gwL := gw_in (tk_5 _ (List.mem_of_getElem? (i := 111) (by decide +kernel))) rfl
theorem tw_1072 : Cond.code yX12_finding cX12_finding 2 (some .int) ∈ gwL := gw_in (tk_5 _ (List.mem_of_getElem? (i := 112) (by decide +kernel))) rfl
theorem tw_1073 : Cond.methodLink RL 17 yX12_road ∈ gwL := gw_in (tk_5 _ (List.mem_of_getElem? (i := 113) (by decide +kernel))) rfl
theorem tw_1074 : Cond.instanceMethod yX12_road ∈ gwL := gw_in (tk_5 _ (List.mem_of_getElem? (i := 114) (by decide +kernel))) rfl
theorem tw_1075 : Cond.selects RX12 yX12_road yX12_road ∈ gwL := gw_in (tk_5 _ (List.mem_of_getElem? (i := 115) (by decide +kernel))) rfl
theorem tw_1076 : Cond.code yX12_road cX12_road 5 (some .int) ∈ gwL := gw_in (tk_5 _ (List.mem_of_getElem? (i := 116) (by decide +kernel))) rfl
theorem tw_1077 : Cond.methodLink RX12 75 yX12_isTown ∈ gwL := gw_in (tk_5 _ (List.mem_of_getElem? (i := 117) (by decide +kernel))) rfl
theorem tw_1078 : Cond.static yX12_isTown ∈ gwL := gw_in (tk_5 _ (List.mem_of_getElem? (i := 118) (by decide +kernel))) rfl
theorem tw_1079 : Cond.code yX12_isTown cX12_isTown 1 (some .boolean) ∈ gwL := gw_in (tk_5 _ (List.mem_of_getElem? (i := 119) (by decide +kernel))) rfl
theorem tw_1080 : Cond.methodLink RX12 63 yX12_within ∈ gwL := gw_in (tk_5 _ (List.mem_of_getElem? (i := 120) (by decide +kernel))) rfl
theorem tw_1081 : Cond.static yX12_within ∈ gwL := gw_in (tk_5 _ (List.mem_of_getElem? (i := 121) (by decide +kernel))) rfl
theorem tw_1082 : Cond.code yX12_within cX12_within 3 (some .boolean) ∈ gwL := gw_in (tk_5 _ (List.mem_of_getElem? (i := 122) (by decide +kernel))) rfl
theorem tw_1083 : Cond.constant RX12 79 (-100001) ∈ gwL := gw_in (tk_5 _ (List.mem_of_getElem? (i := 123) (by decide +kernel))) rfl
theorem tw_1084 : Cond.methodLink RX12 80 yX12_keep ∈ gwL := gw_in (tk_5 _ (List.mem_of_getElem? (i := 124) (by decide +kernel))) rfl
theorem tw_1086 : Cond.instanceMethod yX12_keep ∈ gwL := gw_in (tk_5 _ (List.mem_of_getElem? (i := 126) (by decide +kernel))) rfl
theorem tw_1087 : Cond.code yX12_keep cX12_keep 2 none ∈ gwL := gw_in (tk_5 _ (List.mem_of_getElem? (i := 127) (by decide +kernel))) rfl
theorem tw_1088 : Cond.methodLink RL 22 yX12_far ∈ gwL := gw_in (tk_5 _ (List.mem_of_getElem? (i := 128) (by decide +kernel))) rfl
theorem tw_1089 : Cond.instanceMethod yX12_far ∈ gwL := gw_in (tk_5 _ (List.mem_of_getElem? (i := 129) (by decide +kernel))) rfl
theorem tw_1090 : Cond.selects RX12 yX12_far yX12_far ∈ gwL := gw_in (tk_5 _ (List.mem_of_getElem? (i := 130) (by decide +kernel))) rfl
theorem tw_1091 : Cond.code yX12_far cX12_far 3 (some .int) ∈ gwL := gw_in (tk_5 _ (List.mem_of_getElem? (i := 131) (by decide +kernel))) rfl
theorem tw_1092 : Cond.methodLink RX12 90 yX12_findFar ∈ gwL := gw_in (tk_5 _ (List.mem_of_getElem? (i := 132) (by decide +kernel))) rfl
theorem tw_1094 : Cond.instanceMethod yX12_findFar ∈ gwL := gw_in (tk_5 _ (List.mem_of_getElem? (i := 134) (by decide +kernel))) rfl
theorem tw_1095 : Cond.code yX12_findFar cX12_findFar 3 none ∈ gwL := gw_in (tk_5 _ (List.mem_of_getElem? (i := 135) (by decide +kernel))) rfl
theorem tw_1096 : Cond.constant RX12 83 (1000000) ∈ gwL := gw_in (tk_5 _ (List.mem_of_getElem? (i := 136) (by decide +kernel))) rfl
theorem tw_1097 : Cond.methodLink RX12 84 yJ9_min_7cf53 ∈ gwL := gw_in (tk_5 _ (List.mem_of_getElem? (i := 137) (by decide +kernel))) rfl
theorem tw_1098 : Cond.methodLink RX12 93 yX12_isApart ∈ gwL := gw_in (tk_5 _ (List.mem_of_getElem? (i := 138) (by decide +kernel))) rfl
theorem tw_1100 : Cond.instanceMethod yX12_isApart ∈ gwL := gw_in (tk_5 _ (List.mem_of_getElem? (i := 140) (by decide +kernel))) rfl
theorem tw_1101 : Cond.code yX12_isApart cX12_isApart 3 (some .boolean) ∈ gwL := gw_in (tk_5 _ (List.mem_of_getElem? (i := 141) (by decide +kernel))) rfl
theorem tw_1102 : Cond.methodLink RL 27 yX12_lorry ∈ gwL := gw_in (tk_5 _ (List.mem_of_getElem? (i := 142) (by decide +kernel))) rfl
theorem tw_1103 : Cond.instanceMethod yX12_lorry ∈ gwL := gw_in (tk_5 _ (List.mem_of_getElem? (i := 143) (by decide +kernel))) rfl
theorem tw_1104 : Cond.selects RX12 yX12_lorry yX12_lorry ∈ gwL := gw_in (tk_5 _ (List.mem_of_getElem? (i := 144) (by decide +kernel))) rfl
theorem tw_1105 : Cond.code yX12_lorry cX12_lorry 8 (some .int) ∈ gwL := gw_in (tk_5 _ (List.mem_of_getElem? (i := 145) (by decide +kernel))) rfl
theorem tw_1106 : Cond.constant RX12 97 (-100005) ∈ gwL := gw_in (tk_5 _ (List.mem_of_getElem? (i := 146) (by decide +kernel))) rfl
theorem tw_1107 : Cond.methodLink RX12 98 yX12_ofLorry ∈ gwL := gw_in (tk_5 _ (List.mem_of_getElem? (i := 147) (by decide +kernel))) rfl
theorem tw_1108 : Cond.static yX12_ofLorry ∈ gwL := gw_in (tk_5 _ (List.mem_of_getElem? (i := 148) (by decide +kernel))) rfl
theorem tw_1109 : Cond.code yX12_ofLorry cX12_ofLorry 2 (some .int) ∈ gwL := gw_in (tk_5 _ (List.mem_of_getElem? (i := 149) (by decide +kernel))) rfl
theorem tw_1110 : Cond.methodLink RL 31 yX12_as ∈ gwL := gw_in (tk_5 _ (List.mem_of_getElem? (i := 150) (by decide +kernel))) rfl
theorem tw_1111 : Cond.instanceMethod yX12_as ∈ gwL := gw_in (tk_5 _ (List.mem_of_getElem? (i := 151) (by decide +kernel))) rfl
theorem tw_1112 : Cond.selects RX12 yX12_as yX12_as ∈ gwL := gw_in (tk_5 _ (List.mem_of_getElem? (i := 152) (by decide +kernel))) rfl
theorem tw_1113 : Cond.code yX12_as cX12_as 3 (some .int) ∈ gwL := gw_in (tk_5 _ (List.mem_of_getElem? (i := 153) (by decide +kernel))) rfl
theorem tw_1114 : Cond.methodLink RX12 101 yX12_isLorry ∈ gwL := gw_in (tk_5 _ (List.mem_of_getElem? (i := 154) (by decide +kernel))) rfl
theorem tw_1116 : Cond.instanceMethod yX12_isLorry ∈ gwL := gw_in (tk_5 _ (List.mem_of_getElem? (i := 156) (by decide +kernel))) rfl
theorem tw_1117 : Cond.code yX12_isLorry cX12_isLorry 2 (some .boolean) ∈ gwL := gw_in (tk_5 _ (List.mem_of_getElem? (i := 157) (by decide +kernel))) rfl
theorem tw_1118 : Cond.constant RX12 104 (-100004) ∈ gwL := gw_in (tk_5 _ (List.mem_of_getElem? (i := 158) (by decide +kernel))) rfl
theorem tw_1119 : Cond.methodLink RL 35 yX12_lorryIs ∈ gwL := gw_in (tk_5 _ (List.mem_of_getElem? (i := 159) (by decide +kernel))) rfl
theorem tw_1120 : Cond.instanceMethod yX12_lorryIs ∈ gwL := gw_in (tk_5 _ (List.mem_of_getElem? (i := 160) (by decide +kernel))) rfl
theorem tw_1121 : Cond.selects RX12 yX12_lorryIs yX12_lorryIs ∈ gwL := gw_in (tk_5 _ (List.mem_of_getElem? (i := 161) (by decide +kernel))) rfl
theorem tw_1122 : Cond.code yX12_lorryIs cX12_lorryIs 5 (some .int) ∈ gwL := gw_in (tk_5 _ (List.mem_of_getElem? (i := 162) (by decide +kernel))) rfl
theorem tw_1123 : Cond.methodLink RX12 105 yX12_ofLoad ∈ gwL := gw_in (tk_5 _ (List.mem_of_getElem? (i := 163) (by decide +kernel))) rfl
theorem tw_1124 : Cond.static yX12_ofLoad ∈ gwL := gw_in (tk_5 _ (List.mem_of_getElem? (i := 164) (by decide +kernel))) rfl
theorem tw_1125 : Cond.code yX12_ofLoad cX12_ofLoad 2 (some .int) ∈ gwL := gw_in (tk_5 _ (List.mem_of_getElem? (i := 165) (by decide +kernel))) rfl
theorem tw_1126 : Cond.methodLink RL 40 yX12_load ∈ gwL := gw_in (tk_5 _ (List.mem_of_getElem? (i := 166) (by decide +kernel))) rfl
theorem tw_1127 : Cond.instanceMethod yX12_load ∈ gwL := gw_in (tk_5 _ (List.mem_of_getElem? (i := 167) (by decide +kernel))) rfl
theorem tw_1128 : Cond.selects RX12 yX12_load yX12_load ∈ gwL := gw_in (tk_5 _ (List.mem_of_getElem? (i := 168) (by decide +kernel))) rfl
theorem tw_1129 : Cond.code yX12_load cX12_load 7 (some .int) ∈ gwL := gw_in (tk_5 _ (List.mem_of_getElem? (i := 169) (by decide +kernel))) rfl
theorem tw_1130 : Cond.constant RX12 108 (-100003) ∈ gwL := gw_in (tk_5 _ (List.mem_of_getElem? (i := 170) (by decide +kernel))) rfl
theorem tw_1131 : Cond.methodLink RL 45 yX12_window ∈ gwL := gw_in (tk_5 _ (List.mem_of_getElem? (i := 171) (by decide +kernel))) rfl
theorem tw_1132 : Cond.instanceMethod yX12_window ∈ gwL := gw_in (tk_5 _ (List.mem_of_getElem? (i := 172) (by decide +kernel))) rfl
theorem tw_1133 : Cond.selects RX12 yX12_window yX12_window ∈ gwL := gw_in (tk_5 _ (List.mem_of_getElem? (i := 173) (by decide +kernel))) rfl
theorem tw_1134 : Cond.code yX12_window cX12_window 6 (some .int) ∈ gwL := gw_in (tk_5 _ (List.mem_of_getElem? (i := 174) (by decide +kernel))) rfl
theorem tw_1135 : Cond.methodLink RX12 109 yX12_isLoad ∈ gwL := gw_in (tk_5 _ (List.mem_of_getElem? (i := 175) (by decide +kernel))) rfl
theorem tw_1137 : Cond.instanceMethod yX12_isLoad ∈ gwL := gw_in (tk_5 _ (List.mem_of_getElem? (i := 177) (by decide +kernel))) rfl
theorem tw_1138 : Cond.code yX12_isLoad cX12_isLoad 2 (some .boolean) ∈ gwL := gw_in (tk_5 _ (List.mem_of_getElem? (i := 178) (by decide +kernel))) rfl
theorem tw_1139 : Cond.methodLink RL 49 yX12_loadIs ∈ gwL := gw_in (tk_5 _ (List.mem_of_getElem? (i := 179) (by decide +kernel))) rfl
theorem tw_1140 : Cond.instanceMethod yX12_loadIs ∈ gwL := gw_in (tk_5 _ (List.mem_of_getElem? (i := 180) (by decide +kernel))) rfl
theorem tw_1141 : Cond.selects RX12 yX12_loadIs yX12_loadIs ∈ gwL := gw_in (tk_5 _ (List.mem_of_getElem? (i := 181) (by decide +kernel))) rfl
theorem tw_1142 : Cond.code yX12_loadIs cX12_loadIs 3 (some .int) ∈ gwL := gw_in (tk_5 _ (List.mem_of_getElem? (i := 182) (by decide +kernel))) rfl
theorem tw_1143 : Cond.methodLink RL 53 yX12_pay ∈ gwL := gw_in (tk_5 _ (List.mem_of_getElem? (i := 183) (by decide +kernel))) rfl
theorem tw_1144 : Cond.instanceMethod yX12_pay ∈ gwL := gw_in (tk_5 _ (List.mem_of_getElem? (i := 184) (by decide +kernel))) rfl
theorem tw_1145 : Cond.selects RX12 yX12_pay yX12_pay ∈ gwL := gw_in (tk_5 _ (List.mem_of_getElem? (i := 185) (by decide +kernel))) rfl
theorem tw_1146 : Cond.code yX12_pay cX12_pay 4 (some .int) ∈ gwL := gw_in (tk_5 _ (List.mem_of_getElem? (i := 186) (by decide +kernel))) rfl
theorem tw_1147 : Cond.methodLink RL 57 yX12_give ∈ gwL := gw_in (tk_5 _ (List.mem_of_getElem? (i := 187) (by decide +kernel))) rfl
theorem tw_1148 : Cond.instanceMethod yX12_give ∈ gwL := gw_in (tk_5 _ (List.mem_of_getElem? (i := 188) (by decide +kernel))) rfl
theorem tw_1149 : Cond.selects RX12 yX12_give yX12_give ∈ gwL := gw_in (tk_5 _ (List.mem_of_getElem? (i := 189) (by decide +kernel))) rfl
theorem tw_1150 : Cond.code yX12_give cX12_give 4 (some .int) ∈ gwL := gw_in (tk_5 _ (List.mem_of_getElem? (i := 190) (by decide +kernel))) rfl
theorem tw_1151 : Cond.methodLink RX12 112 yX12_fits ∈ gwL := gw_in (tk_5 _ (List.mem_of_getElem? (i := 191) (by decide +kernel))) rfl
theorem tw_1153 : Cond.instanceMethod yX12_fits ∈ gwL := gw_in (tk_5 _ (List.mem_of_getElem? (i := 193) (by decide +kernel))) rfl
theorem tw_1154 : Cond.code yX12_fits cX12_fits 6 (some .boolean) ∈ gwL := gw_in (tk_5 _ (List.mem_of_getElem? (i := 194) (by decide +kernel))) rfl
theorem tw_1155 : Cond.methodLink RL 61 yX12_why ∈ gwL := gw_in (tk_5 _ (List.mem_of_getElem? (i := 195) (by decide +kernel))) rfl
theorem tw_1156 : Cond.instanceMethod yX12_why ∈ gwL := gw_in (tk_5 _ (List.mem_of_getElem? (i := 196) (by decide +kernel))) rfl
theorem tw_1157 : Cond.selects RX12 yX12_why yX12_why ∈ gwL := gw_in (tk_5 _ (List.mem_of_getElem? (i := 197) (by decide +kernel))) rfl
theorem tw_1158 : Cond.code yX12_why cX12_why 5 (some .int) ∈ gwL := gw_in (tk_5 _ (List.mem_of_getElem? (i := 198) (by decide +kernel))) rfl
theorem tw_1159 : Cond.methodLink RX12 149 yX12_refused ∈ gwL := gw_in (tk_5 _ (List.mem_of_getElem? (i := 199) (by decide +kernel))) rfl
theorem tw_1161 : Cond.instanceMethod yX12_refused ∈ gwL := gw_in (tk_5 _ (List.mem_of_getElem? (i := 201) (by decide +kernel))) rfl
theorem tw_1162 : Cond.code yX12_refused cX12_refused 4 (some .int) ∈ gwL := gw_in (tk_5 _ (List.mem_of_getElem? (i := 202) (by decide +kernel))) rfl
theorem tw_1163 : Cond.methodLink RX12 153 yX12_drives ∈ gwL := gw_in (tk_5 _ (List.mem_of_getElem? (i := 203) (by decide +kernel))) rfl
theorem tw_1165 : Cond.instanceMethod yX12_drives ∈ gwL := gw_in (tk_5 _ (List.mem_of_getElem? (i := 205) (by decide +kernel))) rfl
theorem tw_1166 : Cond.code yX12_drives cX12_drives 5 (some .int) ∈ gwL := gw_in (tk_5 _ (List.mem_of_getElem? (i := 206) (by decide +kernel))) rfl
theorem tw_1167 : Cond.methodLink RX12 143 yX12_carries ∈ gwL := gw_in (tk_5 _ (List.mem_of_getElem? (i := 207) (by decide +kernel))) rfl
theorem tw_1169 : Cond.instanceMethod yX12_carries ∈ gwL := gw_in (tk_5 _ (List.mem_of_getElem? (i := 209) (by decide +kernel))) rfl
theorem tw_1170 : Cond.code yX12_carries cX12_carries 3 (some .int) ∈ gwL := gw_in (tk_5 _ (List.mem_of_getElem? (i := 210) (by decide +kernel))) rfl
theorem tw_1171 : Cond.methodLink RX12 136 yX12_goes ∈ gwL := gw_in (tk_5 _ (List.mem_of_getElem? (i := 211) (by decide +kernel))) rfl
theorem tw_1173 : Cond.instanceMethod yX12_goes ∈ gwL := gw_in (tk_5 _ (List.mem_of_getElem? (i := 213) (by decide +kernel))) rfl
theorem tw_1174 : Cond.code yX12_goes cX12_goes 5 (some .int) ∈ gwL := gw_in (tk_5 _ (List.mem_of_getElem? (i := 214) (by decide +kernel))) rfl
theorem tw_1175 : Cond.methodLink RX12 140 yX12_docks ∈ gwL := gw_in (tk_5 _ (List.mem_of_getElem? (i := 215) (by decide +kernel))) rfl
theorem tw_1177 : Cond.instanceMethod yX12_docks ∈ gwL := gw_in (tk_5 _ (List.mem_of_getElem? (i := 217) (by decide +kernel))) rfl
theorem tw_1178 : Cond.code yX12_docks cX12_docks 4 (some .int) ∈ gwL := gw_in (tk_5 _ (List.mem_of_getElem? (i := 218) (by decide +kernel))) rfl
theorem tw_1179 : Cond.methodLink RL 66 yX12_drive ∈ gwL := gw_in (tk_5 _ (List.mem_of_getElem? (i := 219) (by decide +kernel))) rfl
theorem tw_1180 : Cond.instanceMethod yX12_drive ∈ gwL := gw_in (tk_5 _ (List.mem_of_getElem? (i := 220) (by decide +kernel))) rfl
theorem tw_1181 : Cond.selects RX12 yX12_drive yX12_drive ∈ gwL := gw_in (tk_5 _ (List.mem_of_getElem? (i := 221) (by decide +kernel))) rfl
theorem tw_1182 : Cond.code yX12_drive cX12_drive 6 (some .int) ∈ gwL := gw_in (tk_5 _ (List.mem_of_getElem? (i := 222) (by decide +kernel))) rfl
theorem tw_1183 : Cond.methodLink RX12 156 yX12_valueOf ∈ gwL := gw_in (tk_5 _ (List.mem_of_getElem? (i := 223) (by decide +kernel))) rfl
theorem tw_1185 : Cond.instanceMethod yX12_valueOf ∈ gwL := gw_in (tk_5 _ (List.mem_of_getElem? (i := 225) (by decide +kernel))) rfl
theorem tw_1186 : Cond.code yX12_valueOf cX12_valueOf 3 (some .int) ∈ gwL := gw_in (tk_5 _ (List.mem_of_getElem? (i := 226) (by decide +kernel))) rfl
theorem tw_1187 : Cond.methodLink RX12 146 yX12_payOf ∈ gwL := gw_in (tk_5 _ (List.mem_of_getElem? (i := 227) (by decide +kernel))) rfl
theorem tw_1189 : Cond.instanceMethod yX12_payOf ∈ gwL := gw_in (tk_5 _ (List.mem_of_getElem? (i := 229) (by decide +kernel))) rfl
theorem tw_1190 : Cond.code yX12_payOf cX12_payOf 2 (some .int) ∈ gwL := gw_in (tk_5 _ (List.mem_of_getElem? (i := 230) (by decide +kernel))) rfl
theorem tw_1191 : Cond.methodLink RL 71 yX12_best ∈ gwL := gw_in (tk_5 _ (List.mem_of_getElem? (i := 231) (by decide +kernel))) rfl
theorem tw_1192 : Cond.instanceMethod yX12_best ∈ gwL := gw_in (tk_5 _ (List.mem_of_getElem? (i := 232) (by decide +kernel))) rfl
theorem tw_1193 : Cond.selects RX12 yX12_best yX12_best ∈ gwL := gw_in (tk_5 _ (List.mem_of_getElem? (i := 233) (by decide +kernel))) rfl
theorem tw_1194 : Cond.code yX12_best cX12_best 1 (some .int) ∈ gwL := gw_in (tk_5 _ (List.mem_of_getElem? (i := 234) (by decide +kernel))) rfl
theorem tw_1195 : Cond.methodLink RX12 171 yX12_findRows ∈ gwL := gw_in (tk_5 _ (List.mem_of_getElem? (i := 235) (by decide +kernel))) rfl
theorem tw_1197 : Cond.instanceMethod yX12_findRows ∈ gwL := gw_in (tk_5 _ (List.mem_of_getElem? (i := 237) (by decide +kernel))) rfl
theorem tw_1198 : Cond.code yX12_findRows cX12_findRows 8 none ∈ gwL := gw_in (tk_5 _ (List.mem_of_getElem? (i := 238) (by decide +kernel))) rfl
theorem tw_1199 : Cond.methodLink RX12 174 yX12_given ∈ gwL := gw_in (tk_5 _ (List.mem_of_getElem? (i := 239) (by decide +kernel))) rfl
theorem tw_1201 : Cond.instanceMethod yX12_given ∈ gwL := gw_in (tk_6 _ (List.mem_of_getElem? (i := 1) (by decide +kernel))) rfl
theorem tw_1202 : Cond.code yX12_given cX12_given 3 (some .int) ∈ gwL := gw_in (tk_6 _ (List.mem_of_getElem? (i := 2) (by decide +kernel))) rfl
theorem tw_1203 : Cond.methodLink RX12 178 yX12_findGiving ∈ gwL := gw_in (tk_6 _ (List.mem_of_getElem? (i := 3) (by decide +kernel))) rfl
theorem tw_1205 : Cond.instanceMethod yX12_findGiving ∈ gwL := gw_in (tk_6 _ (List.mem_of_getElem? (i := 5) (by decide +kernel))) rfl
theorem tw_1206 : Cond.code yX12_findGiving cX12_findGiving 7 (some .int) ∈ gwL := gw_in (tk_6 _ (List.mem_of_getElem? (i := 6) (by decide +kernel))) rfl
theorem tw_1207 : Cond.methodLink RX12 162 yX12_with ∈ gwL := gw_in (tk_6 _ (List.mem_of_getElem? (i := 7) (by decide +kernel))) rfl
theorem tw_1209 : Cond.instanceMethod yX12_with ∈ gwL := gw_in (tk_6 _ (List.mem_of_getElem? (i := 9) (by decide +kernel))) rfl
theorem tw_1210 : Cond.code yX12_with cX12_with 4 (some .int) ∈ gwL := gw_in (tk_6 _ (List.mem_of_getElem? (i := 10) (by decide +kernel))) rfl
theorem tw_1211 : Cond.methodLink RX12 159 yX12_setOf ∈ gwL := gw_in (tk_6 _ (List.mem_of_getElem? (i := 11) (by decide +kernel))) rfl
theorem tw_1212 : Cond.static yX12_setOf ∈ gwL := gw_in (tk_6 _ (List.mem_of_getElem? (i := 12) (by decide +kernel))) rfl
theorem tw_1213 : Cond.code yX12_setOf cX12_setOf 1 (some .int) ∈ gwL := gw_in (tk_6 _ (List.mem_of_getElem? (i := 13) (by decide +kernel))) rfl
theorem tw_1214 : Cond.methodLink RX12 165 yX12_isOpen ∈ gwL := gw_in (tk_6 _ (List.mem_of_getElem? (i := 14) (by decide +kernel))) rfl
theorem tw_1216 : Cond.instanceMethod yX12_isOpen ∈ gwL := gw_in (tk_6 _ (List.mem_of_getElem? (i := 16) (by decide +kernel))) rfl
theorem tw_1217 : Cond.code yX12_isOpen cX12_isOpen 4 (some .boolean) ∈ gwL := gw_in (tk_6 _ (List.mem_of_getElem? (i := 17) (by decide +kernel))) rfl
theorem tw_1218 : Cond.methodLink RX12 168 yJ9_max_7cf53 ∈ gwL := gw_in (tk_6 _ (List.mem_of_getElem? (i := 18) (by decide +kernel))) rfl
theorem tw_1219 : Cond.methodLink RL 75 yX12_gets ∈ gwL := gw_in (tk_6 _ (List.mem_of_getElem? (i := 19) (by decide +kernel))) rfl
theorem tw_1220 : Cond.instanceMethod yX12_gets ∈ gwL := gw_in (tk_6 _ (List.mem_of_getElem? (i := 20) (by decide +kernel))) rfl
theorem tw_1221 : Cond.selects RX12 yX12_gets yX12_gets ∈ gwL := gw_in (tk_6 _ (List.mem_of_getElem? (i := 21) (by decide +kernel))) rfl
theorem tw_1222 : Cond.code yX12_gets cX12_gets 5 (some .int) ∈ gwL := gw_in (tk_6 _ (List.mem_of_getElem? (i := 22) (by decide +kernel))) rfl
theorem tw_1223 : Cond.methodLink RL 80 yX12_empty ∈ gwL := gw_in (tk_6 _ (List.mem_of_getElem? (i := 23) (by decide +kernel))) rfl
theorem tw_1224 : Cond.instanceMethod yX12_empty ∈ gwL := gw_in (tk_6 _ (List.mem_of_getElem? (i := 24) (by decide +kernel))) rfl
theorem tw_1225 : Cond.selects RX12 yX12_empty yX12_empty ∈ gwL := gw_in (tk_6 _ (List.mem_of_getElem? (i := 25) (by decide +kernel))) rfl
theorem tw_1226 : Cond.code yX12_empty cX12_empty 5 (some .int) ∈ gwL := gw_in (tk_6 _ (List.mem_of_getElem? (i := 26) (by decide +kernel))) rfl
theorem tw_1227 : Cond.methodLink RL 85 yX12_worth ∈ gwL := gw_in (tk_6 _ (List.mem_of_getElem? (i := 27) (by decide +kernel))) rfl
theorem tw_1228 : Cond.instanceMethod yX12_worth ∈ gwL := gw_in (tk_6 _ (List.mem_of_getElem? (i := 28) (by decide +kernel))) rfl
theorem tw_1229 : Cond.selects RX12 yX12_worth yX12_worth ∈ gwL := gw_in (tk_6 _ (List.mem_of_getElem? (i := 29) (by decide +kernel))) rfl
theorem tw_1230 : Cond.code yX12_worth cX12_worth 2 (some .int) ∈ gwL := gw_in (tk_6 _ (List.mem_of_getElem? (i := 30) (by decide +kernel))) rfl
theorem tw_1231 : Cond.methodLink RL 155 yX12_proves ∈ gwL := gw_in (tk_6 _ (List.mem_of_getElem? (i := 31) (by decide +kernel))) rfl
theorem tw_1232 : Cond.instanceMethod yX12_proves ∈ gwL := gw_in (tk_6 _ (List.mem_of_getElem? (i := 32) (by decide +kernel))) rfl
theorem tw_1233 : Cond.selects RX12 yX12_proves yX12_proves ∈ gwL := gw_in (tk_6 _ (List.mem_of_getElem? (i := 33) (by decide +kernel))) rfl
theorem tw_1234 : Cond.code yX12_proves cX12_proves 9 (some .int) ∈ gwL := gw_in (tk_6 _ (List.mem_of_getElem? (i := 34) (by decide +kernel))) rfl
theorem tw_1235 : Cond.methodLink RX12 181 yX12_isSheet ∈ gwL := gw_in (tk_6 _ (List.mem_of_getElem? (i := 35) (by decide +kernel))) rfl
theorem tw_1236 : Cond.static yX12_isSheet ∈ gwL := gw_in (tk_6 _ (List.mem_of_getElem? (i := 36) (by decide +kernel))) rfl
theorem tw_1237 : Cond.code yX12_isSheet cX12_isSheet 1 (some .boolean) ∈ gwL := gw_in (tk_6 _ (List.mem_of_getElem? (i := 37) (by decide +kernel))) rfl
theorem tw_1238 : Cond.constant RX12 184 (-100002) ∈ gwL := gw_in (tk_6 _ (List.mem_of_getElem? (i := 38) (by decide +kernel))) rfl
theorem tw_1239 : Cond.methodLink RL 89 yX12_paid ∈ gwL := gw_in (tk_6 _ (List.mem_of_getElem? (i := 39) (by decide +kernel))) rfl
theorem tw_1240 : Cond.instanceMethod yX12_paid ∈ gwL := gw_in (tk_6 _ (List.mem_of_getElem? (i := 40) (by decide +kernel))) rfl
theorem tw_1241 : Cond.selects RX12 yX12_paid yX12_paid ∈ gwL := gw_in (tk_6 _ (List.mem_of_getElem? (i := 41) (by decide +kernel))) rfl
theorem tw_1242 : Cond.code yX12_paid cX12_paid 4 (some .int) ∈ gwL := gw_in (tk_6 _ (List.mem_of_getElem? (i := 42) (by decide +kernel))) rfl
theorem tw_1243 : Cond.methodLink RX12 185 yX12_isLane ∈ gwL := gw_in (tk_6 _ (List.mem_of_getElem? (i := 43) (by decide +kernel))) rfl
theorem tw_1244 : Cond.static yX12_isLane ∈ gwL := gw_in (tk_6 _ (List.mem_of_getElem? (i := 44) (by decide +kernel))) rfl
theorem tw_1245 : Cond.code yX12_isLane cX12_isLane 1 (some .boolean) ∈ gwL := gw_in (tk_6 _ (List.mem_of_getElem? (i := 45) (by decide +kernel))) rfl
theorem tw_1246 : Cond.methodLink RX12 188 yX12_isDay ∈ gwL := gw_in (tk_6 _ (List.mem_of_getElem? (i := 46) (by decide +kernel))) rfl
theorem tw_1247 : Cond.static yX12_isDay ∈ gwL := gw_in (tk_6 _ (List.mem_of_getElem? (i := 47) (by decide +kernel))) rfl
theorem tw_1248 : Cond.code yX12_isDay cX12_isDay 1 (some .boolean) ∈ gwL := gw_in (tk_6 _ (List.mem_of_getElem? (i := 48) (by decide +kernel))) rfl
theorem tw_1249 : Cond.methodLink RL 93 yX12_span ∈ gwL := gw_in (tk_6 _ (List.mem_of_getElem? (i := 49) (by decide +kernel))) rfl
theorem tw_1250 : Cond.instanceMethod yX12_span ∈ gwL := gw_in (tk_6 _ (List.mem_of_getElem? (i := 50) (by decide +kernel))) rfl
theorem tw_1251 : Cond.selects RX12 yX12_span yX12_span ∈ gwL := gw_in (tk_6 _ (List.mem_of_getElem? (i := 51) (by decide +kernel))) rfl
theorem tw_1252 : Cond.code yX12_span cX12_span 8 (some .int) ∈ gwL := gw_in (tk_6 _ (List.mem_of_getElem? (i := 52) (by decide +kernel))) rfl
theorem tw_1253 : Cond.methodLink RL 97 yX12_contract ∈ gwL := gw_in (tk_6 _ (List.mem_of_getElem? (i := 53) (by decide +kernel))) rfl
theorem tw_1254 : Cond.instanceMethod yX12_contract ∈ gwL := gw_in (tk_6 _ (List.mem_of_getElem? (i := 54) (by decide +kernel))) rfl
theorem tw_1255 : Cond.selects RX12 yX12_contract yX12_contract ∈ gwL := gw_in (tk_6 _ (List.mem_of_getElem? (i := 55) (by decide +kernel))) rfl
theorem tw_1256 : Cond.code yX12_contract cX12_contract 4 (some .int) ∈ gwL := gw_in (tk_6 _ (List.mem_of_getElem? (i := 56) (by decide +kernel))) rfl
theorem tw_1257 : Cond.methodLink RX12 191 yX12_isFirm ∈ gwL := gw_in (tk_6 _ (List.mem_of_getElem? (i := 57) (by decide +kernel))) rfl
theorem tw_1258 : Cond.static yX12_isFirm ∈ gwL := gw_in (tk_6 _ (List.mem_of_getElem? (i := 58) (by decide +kernel))) rfl
theorem tw_1259 : Cond.code yX12_isFirm cX12_isFirm 1 (some .boolean) ∈ gwL := gw_in (tk_6 _ (List.mem_of_getElem? (i := 59) (by decide +kernel))) rfl
theorem tw_1260 : Cond.methodLink RL 102 yX12_chain ∈ gwL := gw_in (tk_6 _ (List.mem_of_getElem? (i := 60) (by decide +kernel))) rfl
theorem tw_1261 : Cond.instanceMethod yX12_chain ∈ gwL := gw_in (tk_6 _ (List.mem_of_getElem? (i := 61) (by decide +kernel))) rfl
theorem tw_1262 : Cond.selects RX12 yX12_chain yX12_chain ∈ gwL := gw_in (tk_6 _ (List.mem_of_getElem? (i := 62) (by decide +kernel))) rfl
theorem tw_1263 : Cond.code yX12_chain cX12_chain 5 (some .int) ∈ gwL := gw_in (tk_6 _ (List.mem_of_getElem? (i := 63) (by decide +kernel))) rfl
theorem tw_1264 : Cond.methodLink RX12 197 yX12_endOf ∈ gwL := gw_in (tk_6 _ (List.mem_of_getElem? (i := 64) (by decide +kernel))) rfl
theorem tw_1266 : Cond.instanceMethod yX12_endOf ∈ gwL := gw_in (tk_6 _ (List.mem_of_getElem? (i := 66) (by decide +kernel))) rfl
theorem tw_1267 : Cond.code yX12_endOf cX12_endOf 9 (some .int) ∈ gwL := gw_in (tk_6 _ (List.mem_of_getElem? (i := 67) (by decide +kernel))) rfl
theorem tw_1268 : Cond.methodLink RL 106 yX12_doubles ∈ gwL := gw_in (tk_6 _ (List.mem_of_getElem? (i := 68) (by decide +kernel))) rfl
theorem tw_1269 : Cond.instanceMethod yX12_doubles ∈ gwL := gw_in (tk_6 _ (List.mem_of_getElem? (i := 69) (by decide +kernel))) rfl
theorem tw_1270 : Cond.selects RX12 yX12_doubles yX12_doubles ∈ gwL := gw_in (tk_6 _ (List.mem_of_getElem? (i := 70) (by decide +kernel))) rfl
theorem tw_1271 : Cond.code yX12_doubles cX12_doubles 7 (some .int) ∈ gwL := gw_in (tk_6 _ (List.mem_of_getElem? (i := 71) (by decide +kernel))) rfl
theorem tw_1272 : Cond.methodLink RL 110 yX12_report ∈ gwL := gw_in (tk_6 _ (List.mem_of_getElem? (i := 72) (by decide +kernel))) rfl
theorem tw_1273 : Cond.instanceMethod yX12_report ∈ gwL := gw_in (tk_6 _ (List.mem_of_getElem? (i := 73) (by decide +kernel))) rfl
theorem tw_1274 : Cond.selects RX12 yX12_report yX12_report ∈ gwL := gw_in (tk_6 _ (List.mem_of_getElem? (i := 74) (by decide +kernel))) rfl
theorem tw_1275 : Cond.code yX12_report cX12_report 4 (some .int) ∈ gwL := gw_in (tk_6 _ (List.mem_of_getElem? (i := 75) (by decide +kernel))) rfl
theorem tw_1276 : Cond.methodLink RL 115 yX12_cannot ∈ gwL := gw_in (tk_6 _ (List.mem_of_getElem? (i := 76) (by decide +kernel))) rfl
theorem tw_1277 : Cond.instanceMethod yX12_cannot ∈ gwL := gw_in (tk_6 _ (List.mem_of_getElem? (i := 77) (by decide +kernel))) rfl
theorem tw_1278 : Cond.selects RX12 yX12_cannot yX12_cannot ∈ gwL := gw_in (tk_6 _ (List.mem_of_getElem? (i := 78) (by decide +kernel))) rfl
theorem tw_1279 : Cond.code yX12_cannot cX12_cannot 9 (some .int) ∈ gwL := gw_in (tk_6 _ (List.mem_of_getElem? (i := 79) (by decide +kernel))) rfl
theorem tw_1280 : Cond.methodLink RX12 200 yJ9_abs_0f7a4 ∈ gwL := gw_in (tk_6 _ (List.mem_of_getElem? (i := 80) (by decide +kernel))) rfl
theorem tw_1281 : Cond.methodLink RL 119 yX12_trusts ∈ gwL := gw_in (tk_6 _ (List.mem_of_getElem? (i := 81) (by decide +kernel))) rfl
theorem tw_1282 : Cond.instanceMethod yX12_trusts ∈ gwL := gw_in (tk_6 _ (List.mem_of_getElem? (i := 82) (by decide +kernel))) rfl
theorem tw_1283 : Cond.selects RX12 yX12_trusts yX12_trusts ∈ gwL := gw_in (tk_6 _ (List.mem_of_getElem? (i := 83) (by decide +kernel))) rfl
theorem tw_1284 : Cond.code yX12_trusts cX12_trusts 4 (some .int) ∈ gwL := gw_in (tk_6 _ (List.mem_of_getElem? (i := 84) (by decide +kernel))) rfl
theorem tw_1285 : Cond.methodLink RL 123 yX12_trust ∈ gwL := gw_in (tk_6 _ (List.mem_of_getElem? (i := 85) (by decide +kernel))) rfl
theorem tw_1286 : Cond.instanceMethod yX12_trust ∈ gwL := gw_in (tk_6 _ (List.mem_of_getElem? (i := 86) (by decide +kernel))) rfl
theorem tw_1287 : Cond.selects RX12 yX12_trust yX12_trust ∈ gwL := gw_in (tk_6 _ (List.mem_of_getElem? (i := 87) (by decide +kernel))) rfl
theorem tw_1288 : Cond.code yX12_trust cX12_trust 3 (some .int) ∈ gwL := gw_in (tk_6 _ (List.mem_of_getElem? (i := 88) (by decide +kernel))) rfl
theorem tw_1289 : Cond.methodLink RX12 203 yX12_trustOf ∈ gwL := gw_in (tk_6 _ (List.mem_of_getElem? (i := 89) (by decide +kernel))) rfl
theorem tw_1291 : Cond.instanceMethod yX12_trustOf ∈ gwL := gw_in (tk_6 _ (List.mem_of_getElem? (i := 91) (by decide +kernel))) rfl
theorem tw_1292 : Cond.code yX12_trustOf cX12_trustOf 3 (some .int) ∈ gwL := gw_in (tk_6 _ (List.mem_of_getElem? (i := 92) (by decide +kernel))) rfl
theorem tw_1293 : Cond.methodLink RL 127 yX12_owe ∈ gwL := gw_in (tk_6 _ (List.mem_of_getElem? (i := 93) (by decide +kernel))) rfl
theorem tw_1294 : Cond.instanceMethod yX12_owe ∈ gwL := gw_in (tk_6 _ (List.mem_of_getElem? (i := 94) (by decide +kernel))) rfl
theorem tw_1295 : Cond.selects RX12 yX12_owe yX12_owe ∈ gwL := gw_in (tk_6 _ (List.mem_of_getElem? (i := 95) (by decide +kernel))) rfl
theorem tw_1296 : Cond.code yX12_owe cX12_owe 5 (some .int) ∈ gwL := gw_in (tk_6 _ (List.mem_of_getElem? (i := 96) (by decide +kernel))) rfl
theorem tw_1297 : Cond.methodLink RL 131 yX12_net ∈ gwL := gw_in (tk_6 _ (List.mem_of_getElem? (i := 97) (by decide +kernel))) rfl
theorem tw_1298 : Cond.instanceMethod yX12_net ∈ gwL := gw_in (tk_6 _ (List.mem_of_getElem? (i := 98) (by decide +kernel))) rfl
theorem tw_1299 : Cond.selects RX12 yX12_net yX12_net ∈ gwL := gw_in (tk_6 _ (List.mem_of_getElem? (i := 99) (by decide +kernel))) rfl
theorem tw_1300 : Cond.code yX12_net cX12_net 2 (some .int) ∈ gwL := gw_in (tk_6 _ (List.mem_of_getElem? (i := 100) (by decide +kernel))) rfl
theorem tw_1301 : Cond.methodLink RX12 206 yX12_netOf ∈ gwL := gw_in (tk_6 _ (List.mem_of_getElem? (i := 101) (by decide +kernel))) rfl
theorem tw_1303 : Cond.instanceMethod yX12_netOf ∈ gwL := gw_in (tk_6 _ (List.mem_of_getElem? (i := 103) (by decide +kernel))) rfl
theorem tw_1304 : Cond.code yX12_netOf cX12_netOf 4 (some .int) ∈ gwL := gw_in (tk_6 _ (List.mem_of_getElem? (i := 104) (by decide +kernel))) rfl
theorem tw_1305 : Cond.methodLink RL 135 yX12_clearing ∈ gwL := gw_in (tk_6 _ (List.mem_of_getElem? (i := 105) (by decide +kernel))) rfl
theorem tw_1306 : Cond.instanceMethod yX12_clearing ∈ gwL := gw_in (tk_6 _ (List.mem_of_getElem? (i := 106) (by decide +kernel))) rfl
theorem tw_1307 : Cond.selects RX12 yX12_clearing yX12_clearing ∈ gwL := gw_in (tk_6 _ (List.mem_of_getElem? (i := 107) (by decide +kernel))) rfl
theorem tw_1308 : Cond.code yX12_clearing cX12_clearing 3 (some .int) ∈ gwL := gw_in (tk_6 _ (List.mem_of_getElem? (i := 108) (by decide +kernel))) rfl
theorem tw_1309 : Cond.methodLink RX12 210 yX12_findPayments ∈ gwL := gw_in (tk_6 _ (List.mem_of_getElem? (i := 109) (by decide +kernel))) rfl
theorem tw_1311 : Cond.instanceMethod yX12_findPayments ∈ gwL := gw_in (tk_6 _ (List.mem_of_getElem? (i := 111) (by decide +kernel))) rfl
theorem tw_1312 : Cond.code yX12_findPayments cX12_findPayments 6 (some .int) ∈ gwL := gw_in (tk_6 _ (List.mem_of_getElem? (i := 112) (by decide +kernel))) rfl
theorem tw_1313 : Cond.constant RX12 209 (100000) ∈ gwL := gw_in (tk_6 _ (List.mem_of_getElem? (i := 113) (by decide +kernel))) rfl
theorem tw_1314 : Cond.methodLink RL 139 yX12_clear ∈ gwL := gw_in (tk_6 _ (List.mem_of_getElem? (i := 114) (by decide +kernel))) rfl
theorem tw_1315 : Cond.instanceMethod yX12_clear ∈ gwL := gw_in (tk_6 _ (List.mem_of_getElem? (i := 115) (by decide +kernel))) rfl
theorem tw_1316 : Cond.selects RX12 yX12_clear yX12_clear ∈ gwL := gw_in (tk_6 _ (List.mem_of_getElem? (i := 116) (by decide +kernel))) rfl
theorem tw_1317 : Cond.code yX12_clear cX12_clear 3 (some .int) ∈ gwL := gw_in (tk_6 _ (List.mem_of_getElem? (i := 117) (by decide +kernel))) rfl
theorem tw_1318 : Cond.methodLink RL 143 yX12_text ∈ gwL := gw_in (tk_6 _ (List.mem_of_getElem? (i := 118) (by decide +kernel))) rfl
theorem tw_1319 : Cond.instanceMethod yX12_text ∈ gwL := gw_in (tk_6 _ (List.mem_of_getElem? (i := 119) (by decide +kernel))) rfl
theorem tw_1320 : Cond.selects RX12 yX12_text yX12_text ∈ gwL := gw_in (tk_6 _ (List.mem_of_getElem? (i := 120) (by decide +kernel))) rfl
theorem tw_1321 : Cond.code yX12_text cX12_text 3 (some .int) ∈ gwL := gw_in (tk_6 _ (List.mem_of_getElem? (i := 121) (by decide +kernel))) rfl
theorem tw_1322 : Cond.methodLink RX12 213 yX12_isSign ∈ gwL := gw_in (tk_6 _ (List.mem_of_getElem? (i := 122) (by decide +kernel))) rfl
theorem tw_1323 : Cond.static yX12_isSign ∈ gwL := gw_in (tk_6 _ (List.mem_of_getElem? (i := 123) (by decide +kernel))) rfl
theorem tw_1324 : Cond.code yX12_isSign cX12_isSign 1 (some .boolean) ∈ gwL := gw_in (tk_6 _ (List.mem_of_getElem? (i := 124) (by decide +kernel))) rfl
theorem tw_1325 : Cond.methodLink RL 147 yX12_wrong ∈ gwL := gw_in (tk_6 _ (List.mem_of_getElem? (i := 125) (by decide +kernel))) rfl
theorem tw_1326 : Cond.instanceMethod yX12_wrong ∈ gwL := gw_in (tk_6 _ (List.mem_of_getElem? (i := 126) (by decide +kernel))) rfl
theorem tw_1327 : Cond.selects RX12 yX12_wrong yX12_wrong ∈ gwL := gw_in (tk_6 _ (List.mem_of_getElem? (i := 127) (by decide +kernel))) rfl
theorem tw_1328 : Cond.code yX12_wrong cX12_wrong 1 (some .int) ∈ gwL := gw_in (tk_6 _ (List.mem_of_getElem? (i := 128) (by decide +kernel))) rfl
theorem tw_1329 : Cond.methodLink RX12 216 yX12_wrongAt ∈ gwL := gw_in (tk_6 _ (List.mem_of_getElem? (i := 129) (by decide +kernel))) rfl
theorem tw_1331 : Cond.instanceMethod yX12_wrongAt ∈ gwL := gw_in (tk_6 _ (List.mem_of_getElem? (i := 131) (by decide +kernel))) rfl
theorem tw_1332 : Cond.code yX12_wrongAt cX12_wrongAt 4 (some .int) ∈ gwL := gw_in (tk_6 _ (List.mem_of_getElem? (i := 132) (by decide +kernel))) rfl
theorem tw_1333 : Cond.methodLink RL 151 yX12_claim ∈ gwL := gw_in (tk_6 _ (List.mem_of_getElem? (i := 133) (by decide +kernel))) rfl
theorem tw_1334 : Cond.instanceMethod yX12_claim ∈ gwL := gw_in (tk_6 _ (List.mem_of_getElem? (i := 134) (by decide +kernel))) rfl
theorem tw_1335 : Cond.selects RX12 yX12_claim yX12_claim ∈ gwL := gw_in (tk_6 _ (List.mem_of_getElem? (i := 135) (by decide +kernel))) rfl
theorem tw_1336 : Cond.code yX12_claim cX12_claim 7 (some .int) ∈ gwL := gw_in (tk_6 _ (List.mem_of_getElem? (i := 136) (by decide +kernel))) rfl
theorem tw_1337 : Cond.constant RX12 222 (-100008) ∈ gwL := gw_in (tk_6 _ (List.mem_of_getElem? (i := 137) (by decide +kernel))) rfl
theorem tw_1338 : Cond.methodLink RX12 223 yX12_readBy ∈ gwL := gw_in (tk_6 _ (List.mem_of_getElem? (i := 138) (by decide +kernel))) rfl
theorem tw_1340 : Cond.instanceMethod yX12_readBy ∈ gwL := gw_in (tk_6 _ (List.mem_of_getElem? (i := 140) (by decide +kernel))) rfl
theorem tw_1341 : Cond.code yX12_readBy cX12_readBy 5 (some .int) ∈ gwL := gw_in (tk_6 _ (List.mem_of_getElem? (i := 141) (by decide +kernel))) rfl
theorem tw_1342 : Cond.methodLink RX12 219 yX12_contractsOf ∈ gwL := gw_in (tk_6 _ (List.mem_of_getElem? (i := 142) (by decide +kernel))) rfl
theorem tw_1344 : Cond.instanceMethod yX12_contractsOf ∈ gwL := gw_in (tk_6 _ (List.mem_of_getElem? (i := 144) (by decide +kernel))) rfl
theorem tw_1345 : Cond.code yX12_contractsOf cX12_contractsOf 4 (some .int) ∈ gwL := gw_in (tk_6 _ (List.mem_of_getElem? (i := 145) (by decide +kernel))) rfl
theorem tw_1346 : Cond.methodLink RX12 227 yX12_joined ∈ gwL := gw_in (tk_6 _ (List.mem_of_getElem? (i := 146) (by decide +kernel))) rfl
theorem tw_1347 : Cond.static yX12_joined ∈ gwL := gw_in (tk_6 _ (List.mem_of_getElem? (i := 147) (by decide +kernel))) rfl
theorem tw_1348 : Cond.code yX12_joined cX12_joined 3 (some .int) ∈ gwL := gw_in (tk_6 _ (List.mem_of_getElem? (i := 148) (by decide +kernel))) rfl
theorem tw_1349 : Cond.constant RX12 230 (-99999) ∈ gwL := gw_in (tk_6 _ (List.mem_of_getElem? (i := 149) (by decide +kernel))) rfl
theorem tw_1350 : Cond.methodLink RL 159 yX12_sheet ∈ gwL := gw_in (tk_6 _ (List.mem_of_getElem? (i := 150) (by decide +kernel))) rfl
theorem tw_1351 : Cond.instanceMethod yX12_sheet ∈ gwL := gw_in (tk_6 _ (List.mem_of_getElem? (i := 151) (by decide +kernel))) rfl
theorem tw_1352 : Cond.selects RX12 yX12_sheet yX12_sheet ∈ gwL := gw_in (tk_6 _ (List.mem_of_getElem? (i := 152) (by decide +kernel))) rfl
theorem tw_1353 : Cond.code yX12_sheet cX12_sheet 5 (some .int) ∈ gwL := gw_in (tk_6 _ (List.mem_of_getElem? (i := 153) (by decide +kernel))) rfl
theorem tw_1354 : Cond.methodLink RL 163 yX12_put ∈ gwL := gw_in (tk_6 _ (List.mem_of_getElem? (i := 154) (by decide +kernel))) rfl
theorem tw_1355 : Cond.instanceMethod yX12_put ∈ gwL := gw_in (tk_6 _ (List.mem_of_getElem? (i := 155) (by decide +kernel))) rfl
theorem tw_1356 : Cond.selects RX12 yX12_put yX12_put ∈ gwL := gw_in (tk_6 _ (List.mem_of_getElem? (i := 156) (by decide +kernel))) rfl
theorem tw_1357 : Cond.code yX12_put cX12_put 5 (some .int) ∈ gwL := gw_in (tk_6 _ (List.mem_of_getElem? (i := 157) (by decide +kernel))) rfl
theorem tw_1358 : Cond.methodLink RL 167 yX12_copy ∈ gwL := gw_in (tk_6 _ (List.mem_of_getElem? (i := 158) (by decide +kernel))) rfl
theorem tw_1359 : Cond.instanceMethod yX12_copy ∈ gwL := gw_in (tk_6 _ (List.mem_of_getElem? (i := 159) (by decide +kernel))) rfl
theorem tw_1360 : Cond.selects RX12 yX12_copy yX12_copy ∈ gwL := gw_in (tk_6 _ (List.mem_of_getElem? (i := 160) (by decide +kernel))) rfl
theorem tw_1361 : Cond.code yX12_copy cX12_copy 7 (some .int) ∈ gwL := gw_in (tk_6 _ (List.mem_of_getElem? (i := 161) (by decide +kernel))) rfl
theorem tw_1362 : Cond.methodLink RL 175 yX12_all ∈ gwL := gw_in (tk_6 _ (List.mem_of_getElem? (i := 162) (by decide +kernel))) rfl
theorem tw_1363 : Cond.instanceMethod yX12_all ∈ gwL := gw_in (tk_6 _ (List.mem_of_getElem? (i := 163) (by decide +kernel))) rfl
theorem tw_1364 : Cond.selects RX12 yX12_all yX12_all ∈ gwL := gw_in (tk_6 _ (List.mem_of_getElem? (i := 164) (by decide +kernel))) rfl
theorem tw_1365 : Cond.code yX12_all cX12_all 2 (some .int) ∈ gwL := gw_in (tk_6 _ (List.mem_of_getElem? (i := 165) (by decide +kernel))) rfl
theorem ts_0 : Cond.selects RX11 yX11_told yX11_told ∈ gwL := gw_in (List.mem_append_left _ (List.mem_of_getElem? (i := 0) (by decide +kernel))) rfl
theorem ts_1 : Cond.selects RX10 yX10_shortenBy yX10_shortenBy ∈ gwL := gw_in (List.mem_append_left _ (List.mem_of_getElem? (i := 1) (by decide +kernel))) rfl
theorem ts_2 : Cond.selects RX8 yX8_isCell yX8_isCell ∈ gwL := gw_in (List.mem_append_left _ (List.mem_of_getElem? (i := 2) (by decide +kernel))) rfl
theorem ts_3 : Cond.selects RX11 yX11_givenTo yX11_givenTo ∈ gwL := gw_in (List.mem_append_left _ (List.mem_of_getElem? (i := 3) (by decide +kernel))) rfl
theorem ts_4 : Cond.selects RX11 yX11_findingOfRow yX11_findingOfRow ∈ gwL := gw_in (List.mem_append_left _ (List.mem_of_getElem? (i := 4) (by decide +kernel))) rfl
theorem ts_5 : Cond.selects RX11 yX11_isLoadOrNone yX11_isLoadOrNone ∈ gwL := gw_in (List.mem_append_left _ (List.mem_of_getElem? (i := 5) (by decide +kernel))) rfl
theorem ts_6 : Cond.selects RX0 yX0_carry yX0_carry ∈ gwL := gw_in (List.mem_append_left _ (List.mem_of_getElem? (i := 6) (by decide +kernel))) rfl
theorem ts_7 : Cond.selects RX0 yX0_go yX0_go ∈ gwL := gw_in (List.mem_append_left _ (List.mem_of_getElem? (i := 7) (by decide +kernel))) rfl
theorem ts_8 : Cond.selects RX0 yX0_roll yX0_roll ∈ gwL := gw_in (List.mem_append_left _ (List.mem_of_getElem? (i := 8) (by decide +kernel))) rfl
theorem ts_9 : Cond.selects RX0 yX0_dock yX0_dock ∈ gwL := gw_in (List.mem_append_left _ (List.mem_of_getElem? (i := 9) (by decide +kernel))) rfl
theorem ts_10 : Cond.selects RX2 yX2_gatherRows yX2_gatherRows ∈ gwL := gw_in (List.mem_append_left _ (List.mem_of_getElem? (i := 10) (by decide +kernel))) rfl
theorem ts_11 : Cond.selects RX2 yX2_fitting yX2_fitting ∈ gwL := gw_in (List.mem_append_left _ (List.mem_of_getElem? (i := 11) (by decide +kernel))) rfl
theorem ts_12 : Cond.selects RX2 yX2_addRow yX2_addRow ∈ gwL := gw_in (List.mem_append_left _ (List.mem_of_getElem? (i := 12) (by decide +kernel))) rfl
theorem ts_13 : Cond.selects RX2 yX2_choose yX2_choose ∈ gwL := gw_in (List.mem_append_left _ (List.mem_of_getElem? (i := 13) (by decide +kernel))) rfl
theorem ts_14 : Cond.selects RX2 yX2_handOut yX2_handOut ∈ gwL := gw_in (List.mem_append_left _ (List.mem_of_getElem? (i := 14) (by decide +kernel))) rfl
theorem ts_15 : Cond.selects RX5 yX5_gather yX5_gather ∈ gwL := gw_in (List.mem_append_left _ (List.mem_of_getElem? (i := 15) (by decide +kernel))) rfl
theorem ts_16 : Cond.selects RX5 yX5_insert yX5_insert ∈ gwL := gw_in (List.mem_append_left _ (List.mem_of_getElem? (i := 16) (by decide +kernel))) rfl
theorem ts_17 : Cond.selects RX1 yX1_firstUnused yX1_firstUnused ∈ gwL := gw_in (List.mem_append_left _ (List.mem_of_getElem? (i := 17) (by decide +kernel))) rfl
theorem ts_18 : Cond.selects RX6 yX6_cannotBe yX6_cannotBe ∈ gwL := gw_in (List.mem_append_left _ (List.mem_of_getElem? (i := 18) (by decide +kernel))) rfl
theorem ts_19 : Cond.selects RX1 yX1_judgedOf yX1_judgedOf ∈ gwL := gw_in (List.mem_append_left _ (List.mem_of_getElem? (i := 19) (by decide +kernel))) rfl
theorem ts_20 : Cond.selects RX1 yX1_doneOf yX1_doneOf ∈ gwL := gw_in (List.mem_append_left _ (List.mem_of_getElem? (i := 20) (by decide +kernel))) rfl
theorem ts_21 : Cond.selects RX4 yX4_settleOne yX4_settleOne ∈ gwL := gw_in (List.mem_append_left _ (List.mem_of_getElem? (i := 21) (by decide +kernel))) rfl
theorem ts_22 : Cond.selects RX9 yX9_count yX9_count ∈ gwL := gw_in (List.mem_append_left _ (List.mem_of_getElem? (i := 22) (by decide +kernel))) rfl
theorem ts_23 : Cond.selects RX9 yX9_single yX9_single ∈ gwL := gw_in (List.mem_append_left _ (List.mem_of_getElem? (i := 23) (by decide +kernel))) rfl
theorem ts_24 : Cond.selects RX12 yX12_finding yX12_finding ∈ gwL := gw_in (List.mem_append_left _ (List.mem_of_getElem? (i := 24) (by decide +kernel))) rfl
theorem ts_25 : Cond.selects RX12 yX12_keep yX12_keep ∈ gwL := gw_in (List.mem_append_left _ (List.mem_of_getElem? (i := 25) (by decide +kernel))) rfl
theorem ts_26 : Cond.selects RX12 yX12_findFar yX12_findFar ∈ gwL := gw_in (List.mem_append_left _ (List.mem_of_getElem? (i := 26) (by decide +kernel))) rfl
theorem ts_27 : Cond.selects RX12 yX12_isApart yX12_isApart ∈ gwL := gw_in (List.mem_append_left _ (List.mem_of_getElem? (i := 27) (by decide +kernel))) rfl
theorem ts_28 : Cond.selects RX12 yX12_isLorry yX12_isLorry ∈ gwL := gw_in (List.mem_append_left _ (List.mem_of_getElem? (i := 28) (by decide +kernel))) rfl
theorem ts_29 : Cond.selects RX12 yX12_isLoad yX12_isLoad ∈ gwL := gw_in (List.mem_append_left _ (List.mem_of_getElem? (i := 29) (by decide +kernel))) rfl
theorem ts_30 : Cond.selects RX12 yX12_fits yX12_fits ∈ gwL := gw_in (List.mem_append_left _ (List.mem_of_getElem? (i := 30) (by decide +kernel))) rfl
theorem ts_31 : Cond.selects RX12 yX12_refused yX12_refused ∈ gwL := gw_in (List.mem_append_left _ (List.mem_of_getElem? (i := 31) (by decide +kernel))) rfl
theorem ts_32 : Cond.selects RX12 yX12_drives yX12_drives ∈ gwL := gw_in (List.mem_append_left _ (List.mem_of_getElem? (i := 32) (by decide +kernel))) rfl
theorem ts_33 : Cond.selects RX12 yX12_carries yX12_carries ∈ gwL := gw_in (List.mem_append_left _ (List.mem_of_getElem? (i := 33) (by decide +kernel))) rfl
theorem ts_34 : Cond.selects RX12 yX12_goes yX12_goes ∈ gwL := gw_in (List.mem_append_left _ (List.mem_of_getElem? (i := 34) (by decide +kernel))) rfl
theorem ts_35 : Cond.selects RX12 yX12_docks yX12_docks ∈ gwL := gw_in (List.mem_append_left _ (List.mem_of_getElem? (i := 35) (by decide +kernel))) rfl
theorem ts_36 : Cond.selects RX12 yX12_valueOf yX12_valueOf ∈ gwL := gw_in (List.mem_append_left _ (List.mem_of_getElem? (i := 36) (by decide +kernel))) rfl
theorem ts_37 : Cond.selects RX12 yX12_payOf yX12_payOf ∈ gwL := gw_in (List.mem_append_left _ (List.mem_of_getElem? (i := 37) (by decide +kernel))) rfl
theorem ts_38 : Cond.selects RX12 yX12_findRows yX12_findRows ∈ gwL := gw_in (List.mem_append_left _ (List.mem_of_getElem? (i := 38) (by decide +kernel))) rfl
theorem ts_39 : Cond.selects RX12 yX12_given yX12_given ∈ gwL := gw_in (List.mem_append_left _ (List.mem_of_getElem? (i := 39) (by decide +kernel))) rfl
theorem ts_40 : Cond.selects RX12 yX12_findGiving yX12_findGiving ∈ gwL := gw_in (List.mem_append_left _ (List.mem_of_getElem? (i := 40) (by decide +kernel))) rfl
theorem ts_41 : Cond.selects RX12 yX12_with yX12_with ∈ gwL := gw_in (List.mem_append_left _ (List.mem_of_getElem? (i := 41) (by decide +kernel))) rfl
theorem ts_42 : Cond.selects RX12 yX12_isOpen yX12_isOpen ∈ gwL := gw_in (List.mem_append_left _ (List.mem_of_getElem? (i := 42) (by decide +kernel))) rfl
theorem ts_43 : Cond.selects RX12 yX12_endOf yX12_endOf ∈ gwL := gw_in (List.mem_append_left _ (List.mem_of_getElem? (i := 43) (by decide +kernel))) rfl
theorem ts_44 : Cond.selects RX12 yX12_trustOf yX12_trustOf ∈ gwL := gw_in (List.mem_append_left _ (List.mem_of_getElem? (i := 44) (by decide +kernel))) rfl
theorem ts_45 : Cond.selects RX12 yX12_netOf yX12_netOf ∈ gwL := gw_in (List.mem_append_left _ (List.mem_of_getElem? (i := 45) (by decide +kernel))) rfl
theorem ts_46 : Cond.selects RX12 yX12_findPayments yX12_findPayments ∈ gwL := gw_in (List.mem_append_left _ (List.mem_of_getElem? (i := 46) (by decide +kernel))) rfl
theorem ts_47 : Cond.selects RX12 yX12_wrongAt yX12_wrongAt ∈ gwL := gw_in (List.mem_append_left _ (List.mem_of_getElem? (i := 47) (by decide +kernel))) rfl
theorem ts_48 : Cond.selects RX12 yX12_readBy yX12_readBy ∈ gwL := gw_in (List.mem_append_left _ (List.mem_of_getElem? (i := 48) (by decide +kernel))) rfl
theorem ts_49 : Cond.selects RX12 yX12_contractsOf yX12_contractsOf ∈ gwL := gw_in (List.mem_append_left _ (List.mem_of_getElem? (i := 49) (by decide +kernel))) rfl
theorem gw_goodIn : GoodIn lw_tbl gwL := fun w h => ⟨(List.mem_filter.mp h).1, good_of_word (List.mem_filter.mp h).2⟩
theorem gw_goodIn2 : GoodIn gwL gwL := fun w h => ⟨h, good_of_word (List.mem_filter.mp h).2⟩
def nwL : List Cond := [Cond.methodLinkNest RX11 9 yX3_init RX11, Cond.methodLinkNest RX11 98 yX7_init RX11, Cond.methodLinkNest RX10 26 yX11_isTown RX11, Cond.methodLinkNest RX1 57 yX11_isFirm RX11, Cond.methodLinkNest RX4 25 yX11_isFirm RX11, Cond.methodLinkNest RX4 30 yX11_within RX11, Cond.methodLinkNest RX9 47 yX11_within RX11]
theorem nw_in : ∀ w ∈ nwL, w ∈ lw_tbl := by
  intro w h
  simp only [nwL, List.mem_cons, List.not_mem_nil, or_false] at h
  rcases h with rfl | rfl | rfl | rfl | rfl | rfl | rfl
  · exact tw_28
  · exact tw_288
  · exact tw_362
  · exact tw_751
  · exact tw_783
  · exact tw_785
  · exact tw_856
