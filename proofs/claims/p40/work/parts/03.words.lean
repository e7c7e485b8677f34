def TB : List Cond := lw_tbl.filter goodWord
theorem tb_in {w : Cond} (h : w ∈ lw_tbl) (g : goodWord w = true) : w ∈ TB := List.mem_filter.mpr ⟨h, g⟩
theorem tb_0 {w : Cond} {i : Nat} (h : (k2_sels lw_privs)[i]? = some w) (g : goodWord w = true) : w ∈ TB := tb_in (List.mem_append_left _ (List.mem_of_getElem? h)) g
theorem tb_1 {w : Cond} {i : Nat} (h : tables_1_1[i]? = some w) (g : goodWord w = true) : w ∈ TB := tb_in (List.mem_append_right _ (show w ∈ tables_1 from List.mem_append_left _ (List.mem_of_getElem? h))) g
theorem tb_2 {w : Cond} {i : Nat} (h : tables_1_2[i]? = some w) (g : goodWord w = true) : w ∈ TB := tb_in (List.mem_append_right _ (show w ∈ tables_1 from List.mem_append_right _ (List.mem_append_left _ (List.mem_of_getElem? h)))) g
theorem tb_3 {w : Cond} {i : Nat} (h : tables_1_3[i]? = some w) (g : goodWord w = true) : w ∈ TB := tb_in (List.mem_append_right _ (show w ∈ tables_1 from List.mem_append_right _ (List.mem_append_right _ (List.mem_append_left _ (List.mem_of_getElem? h))))) g
theorem tb_4 {w : Cond} {i : Nat} (h : tables_1_4[i]? = some w) (g : goodWord w = true) : w ∈ TB := tb_in (List.mem_append_right _ (show w ∈ tables_1 from List.mem_append_right _ (List.mem_append_right _ (List.mem_append_right _ (List.mem_append_left _ (List.mem_of_getElem? h)))))) g
theorem tb_5 {w : Cond} {i : Nat} (h : tables_1_5[i]? = some w) (g : goodWord w = true) : w ∈ TB := tb_in (List.mem_append_right _ (show w ∈ tables_1 from List.mem_append_right _ (List.mem_append_right _ (List.mem_append_right _ (List.mem_append_right _ (List.mem_append_left _ (List.mem_of_getElem? h))))))) g
theorem tb_6 {w : Cond} {i : Nat} (h : tables_1_6[i]? = some w) (g : goodWord w = true) : w ∈ TB := tb_in (List.mem_append_right _ (show w ∈ tables_1 from List.mem_append_right _ (List.mem_append_right _ (List.mem_append_right _ (List.mem_append_right _ (List.mem_append_right _ (List.mem_of_getElem? h))))))) g
theorem tb_ws (ws : List Cond) (ps : List Nat) (hp : ws = ps.filterMap (fun i => lw_tbl[i]?)) (h : ws.all goodWord = true) : ∀ w ∈ ws, w ∈ TB := fun w hw => tb_in (goodIn_r ws ps hp h w hw).1 (List.all_eq_true.mp h w hw)
theorem tb_good : ∀ w ∈ TB, goodWord w = true := fun _ h => (List.mem_filter.mp h).2
theorem tb_GoodIn {y : MethodName} {cc : ByteArray} {n : Nat} {r : Option FieldType} (h : Cond.code y cc n r ∈ TB) : GoodIn TB (Cond.code y cc n r :: TB) := fun w hw => by
  have hm : w ∈ TB := by
    rcases List.mem_cons.mp hw with rfl | h1
    · exact h
    · exact h1
  exact ⟨hm, good_of_word (tb_good w hm)⟩
set_option maxRecDepth 100000 in
theorem q_0 : Cond.initialized RL ∈ TB := tb_1 (i := 0) rfl rfl
set_option maxRecDepth 100000 in
theorem q_1 : Cond.initialized RX8 ∈ TB := tb_1 (i := 1) rfl rfl
set_option maxRecDepth 100000 in
theorem q_2 : Cond.initialized RX0 ∈ TB := tb_1 (i := 2) rfl rfl
set_option maxRecDepth 100000 in
theorem q_3 : Cond.initialized RX1 ∈ TB := tb_1 (i := 3) rfl rfl
set_option maxRecDepth 100000 in
theorem q_4 : Cond.initialized RX6 ∈ TB := tb_1 (i := 4) rfl rfl
set_option maxRecDepth 100000 in
theorem q_5 : Cond.initialized RX3 ∈ TB := tb_1 (i := 5) rfl rfl
set_option maxRecDepth 100000 in
theorem q_6 : Cond.initialized RX5 ∈ TB := tb_1 (i := 6) rfl rfl
set_option maxRecDepth 100000 in
theorem q_7 : Cond.initialized RX2 ∈ TB := tb_1 (i := 7) rfl rfl
set_option maxRecDepth 100000 in
theorem q_8 : Cond.initialized RX7 ∈ TB := tb_1 (i := 8) rfl rfl
set_option maxRecDepth 100000 in
theorem q_9 : Cond.initialized RX4 ∈ TB := tb_1 (i := 9) rfl rfl
set_option maxRecDepth 100000 in
theorem q_10 : Cond.initialized RX9 ∈ TB := tb_1 (i := 10) rfl rfl
set_option maxRecDepth 100000 in
theorem q_11 : Cond.initialized RJ9 ∈ TB := tb_1 (i := 11) rfl rfl
set_option maxRecDepth 100000 in
theorem q_12 : Cond.initialized RJ10 ∈ TB := tb_1 (i := 12) rfl rfl
set_option maxRecDepth 100000 in
theorem q_13 : Cond.initialized RJ0 ∈ TB := tb_1 (i := 13) rfl rfl
set_option maxRecDepth 100000 in
theorem q_14 : Cond.initialized RJ1 ∈ TB := tb_1 (i := 14) rfl rfl
set_option maxRecDepth 100000 in
theorem q_15 : Cond.initialized RJ2 ∈ TB := tb_1 (i := 15) rfl rfl
set_option maxRecDepth 100000 in
theorem q_16 : Cond.initialized RJ3 ∈ TB := tb_1 (i := 16) rfl rfl
set_option maxRecDepth 100000 in
theorem q_17 : Cond.initialized RJ11 ∈ TB := tb_1 (i := 17) rfl rfl
set_option maxRecDepth 100000 in
theorem q_18 : Cond.classLink RL 7 RX8 ∈ TB := tb_1 (i := 18) rfl rfl
set_option maxRecDepth 100000 in
theorem q_19 : Cond.instantiable RX8 11 ∈ TB := tb_1 (i := 19) rfl rfl
set_option maxRecDepth 100000 in
theorem q_20 : Cond.methodLink RL 9 yX8_init ∈ TB := tb_1 (i := 20) rfl rfl
set_option maxRecDepth 100000 in
theorem q_21 : Cond.instanceMethod yX8_init ∈ TB := tb_1 (i := 21) rfl rfl
set_option maxRecDepth 100000 in
theorem q_22 : Cond.code yX8_init prog_1_method_1_code 2 (Option.none : Option Jvm.ClassFile.FieldType) ∈ TB := tb_1 (i := 22) rfl rfl
set_option maxRecDepth 100000 in
theorem q_23 : Cond.methodLink RX8 1 objectInit ∈ TB := tb_1 (i := 23) rfl rfl
set_option maxRecDepth 100000 in
theorem q_24 : Cond.instanceMethod objectInit ∈ TB := tb_1 (i := 24) rfl rfl
set_option maxRecDepth 100000 in
theorem q_25 : Cond.code objectInit object_method_1_code 1 (Option.none : Option Jvm.ClassFile.FieldType) ∈ TB := tb_1 (i := 25) rfl rfl
set_option maxRecDepth 100000 in
theorem q_26 : Cond.classLink RX8 7 RX0 ∈ TB := tb_1 (i := 26) rfl rfl
set_option maxRecDepth 100000 in
theorem q_27 : Cond.instantiable RX0 16 ∈ TB := tb_1 (i := 27) rfl rfl
set_option maxRecDepth 100000 in
theorem q_28 : Cond.methodLink RX8 9 yX0_init ∈ TB := tb_1 (i := 28) rfl rfl
set_option maxRecDepth 100000 in
theorem q_29 : Cond.instanceMethod yX0_init ∈ TB := tb_1 (i := 29) rfl rfl
set_option maxRecDepth 100000 in
theorem q_30 : Cond.code yX0_init prog_2_method_1_code 2 (Option.none : Option Jvm.ClassFile.FieldType) ∈ TB := tb_1 (i := 30) rfl rfl
set_option maxRecDepth 100000 in
theorem q_31 : Cond.methodLink RX0 3 objectInit ∈ TB := tb_1 (i := 31) rfl rfl
set_option maxRecDepth 100000 in
theorem q_32 : Cond.classLink RX0 34 RX6 ∈ TB := tb_1 (i := 32) rfl rfl
set_option maxRecDepth 100000 in
theorem q_34 : Cond.classLink RX0 43 RX1 ∈ TB := tb_1 (i := 34) rfl rfl
set_option maxRecDepth 100000 in
theorem q_35 : Cond.instantiable RX1 4 ∈ TB := tb_1 (i := 35) rfl rfl
set_option maxRecDepth 100000 in
theorem q_36 : Cond.methodLink RX0 45 yX1_init ∈ TB := tb_1 (i := 36) rfl rfl
set_option maxRecDepth 100000 in
theorem q_37 : Cond.instanceMethod yX1_init ∈ TB := tb_1 (i := 37) rfl rfl
set_option maxRecDepth 100000 in
theorem q_38 : Cond.code yX1_init prog_3_method_1_code 2 (Option.none : Option Jvm.ClassFile.FieldType) ∈ TB := tb_1 (i := 38) rfl rfl
set_option maxRecDepth 100000 in
theorem q_39 : Cond.methodLink RX1 3 objectInit ∈ TB := tb_1 (i := 39) rfl rfl
set_option maxRecDepth 100000 in
theorem q_40 : Cond.fieldLink RX1 22 RX1 "use" "I" ∈ TB := tb_1 (i := 40) rfl rfl
set_option maxRecDepth 100000 in
theorem q_41 : Cond.fieldLink RX1 9 RX1 "row" "[I" ∈ TB := tb_1 (i := 41) rfl rfl
set_option maxRecDepth 100000 in
theorem q_42 : Cond.fieldLink RX1 15 RX1 "stack" "[I" ∈ TB := tb_1 (i := 42) rfl rfl
set_option maxRecDepth 100000 in
theorem q_43 : Cond.fieldLink RX1 18 RX1 "length" "I" ∈ TB := tb_1 (i := 43) rfl rfl
set_option maxRecDepth 100000 in
theorem q_53 : Cond.arrayClass Jvm.ClassFile.FieldType.int ∈ TB := tb_1 (i := 53) rfl rfl
set_option maxRecDepth 100000 in
theorem q_54 : Cond.instantiable RX6 6 ∈ TB := tb_1 (i := 54) rfl rfl
set_option maxRecDepth 100000 in
theorem q_56 : Cond.instanceMethod yX6_init ∈ TB := tb_1 (i := 56) rfl rfl
set_option maxRecDepth 100000 in
theorem q_57 : Cond.code yX6_init prog_8_method_1_code 1 (Option.none : Option Jvm.ClassFile.FieldType) ∈ TB := tb_1 (i := 57) rfl rfl
set_option maxRecDepth 100000 in
theorem q_58 : Cond.methodLink RX6 3 objectInit ∈ TB := tb_1 (i := 58) rfl rfl
set_option maxRecDepth 100000 in
theorem q_59 : Cond.fieldLink RX6 9 RX6 "kind" "I" ∈ TB := tb_1 (i := 59) rfl rfl
set_option maxRecDepth 100000 in
theorem q_60 : Cond.fieldLink RX7 28 RX6 "kind" "I" ∈ TB := tb_1 (i := 60) rfl rfl
set_option maxRecDepth 100000 in
theorem q_61 : Cond.fieldLink RX8 107 RX6 "kind" "I" ∈ TB := tb_1 (i := 61) rfl rfl
set_option maxRecDepth 100000 in
theorem q_62 : Cond.fieldLink RX6 15 RX6 "m" "I" ∈ TB := tb_1 (i := 62) rfl rfl
set_option maxRecDepth 100000 in
theorem q_63 : Cond.fieldLink RX7 31 RX6 "m" "I" ∈ TB := tb_1 (i := 63) rfl rfl
set_option maxRecDepth 100000 in
theorem q_64 : Cond.fieldLink RX8 110 RX6 "m" "I" ∈ TB := tb_1 (i := 64) rfl rfl
set_option maxRecDepth 100000 in
theorem q_65 : Cond.fieldLink RX6 18 RX6 "side" "I" ∈ TB := tb_1 (i := 65) rfl rfl
set_option maxRecDepth 100000 in
theorem q_66 : Cond.fieldLink RX5 47 RX6 "side" "I" ∈ TB := tb_1 (i := 66) rfl rfl
set_option maxRecDepth 100000 in
theorem q_67 : Cond.fieldLink RX2 88 RX6 "side" "I" ∈ TB := tb_1 (i := 67) rfl rfl
set_option maxRecDepth 100000 in
theorem q_68 : Cond.fieldLink RX8 113 RX6 "side" "I" ∈ TB := tb_1 (i := 68) rfl rfl
set_option maxRecDepth 100000 in
theorem q_69 : Cond.fieldLink RX6 21 RX6 "skill" "I" ∈ TB := tb_1 (i := 69) rfl rfl
set_option maxRecDepth 100000 in
theorem q_70 : Cond.fieldLink RX8 116 RX6 "skill" "I" ∈ TB := tb_1 (i := 70) rfl rfl
set_option maxRecDepth 100000 in
theorem q_71 : Cond.fieldLink RX6 24 RX6 "met" "I" ∈ TB := tb_1 (i := 71) rfl rfl
set_option maxRecDepth 100000 in
theorem q_72 : Cond.fieldLink RX8 119 RX6 "met" "I" ∈ TB := tb_1 (i := 72) rfl rfl
set_option maxRecDepth 100000 in
theorem q_73 : Cond.fieldLink RX6 27 RX6 "lanes" "[I" ∈ TB := tb_1 (i := 73) rfl rfl
set_option maxRecDepth 100000 in
theorem q_74 : Cond.fieldLink RX2 82 RX6 "lanes" "[I" ∈ TB := tb_1 (i := 74) rfl rfl
set_option maxRecDepth 100000 in
theorem q_75 : Cond.fieldLink RX8 125 RX6 "lanes" "[I" ∈ TB := tb_1 (i := 75) rfl rfl
set_option maxRecDepth 100000 in
theorem q_89 : Cond.fieldLink RX0 9 RX0 "currents" "[I" ∈ TB := tb_1 (i := 89) rfl rfl
set_option maxRecDepth 100000 in
theorem q_90 : Cond.fieldLink RX8 80 RX0 "currents" "[I" ∈ TB := tb_1 (i := 90) rfl rfl
set_option maxRecDepth 100000 in
theorem q_91 : Cond.fieldLink RX0 15 RX0 "wind" "I" ∈ TB := tb_1 (i := 91) rfl rfl
set_option maxRecDepth 100000 in
theorem q_92 : Cond.fieldLink RX8 83 RX0 "wind" "I" ∈ TB := tb_1 (i := 92) rfl rfl
set_option maxRecDepth 100000 in
theorem q_93 : Cond.fieldLink RX0 19 RX0 "sight" "I" ∈ TB := tb_1 (i := 93) rfl rfl
set_option maxRecDepth 100000 in
theorem q_94 : Cond.fieldLink RX8 86 RX0 "sight" "I" ∈ TB := tb_1 (i := 94) rfl rfl
set_option maxRecDepth 100000 in
theorem q_95 : Cond.fieldLink RX0 22 RX0 "border" "I" ∈ TB := tb_1 (i := 95) rfl rfl
set_option maxRecDepth 100000 in
theorem q_96 : Cond.fieldLink RX8 89 RX0 "border" "I" ∈ TB := tb_1 (i := 96) rfl rfl
set_option maxRecDepth 100000 in
theorem q_97 : Cond.fieldLink RX0 25 RX0 "year" "I" ∈ TB := tb_1 (i := 97) rfl rfl
set_option maxRecDepth 100000 in
theorem q_98 : Cond.fieldLink RX8 290 RX0 "year" "I" ∈ TB := tb_1 (i := 98) rfl rfl
set_option maxRecDepth 100000 in
theorem q_99 : Cond.fieldLink RX0 28 RX0 "fish" "I" ∈ TB := tb_1 (i := 99) rfl rfl
set_option maxRecDepth 100000 in
theorem q_100 : Cond.fieldLink RX8 299 RX0 "fish" "I" ∈ TB := tb_1 (i := 100) rfl rfl
set_option maxRecDepth 100000 in
theorem q_101 : Cond.fieldLink RX0 31 RX0 "otherFish" "I" ∈ TB := tb_1 (i := 101) rfl rfl
set_option maxRecDepth 100000 in
theorem q_102 : Cond.fieldLink RX8 302 RX0 "otherFish" "I" ∈ TB := tb_1 (i := 102) rfl rfl
set_option maxRecDepth 100000 in
theorem q_103 : Cond.fieldLink RX0 36 RX0 "swimmers" "[LLakeSwimmers$Swimmer;" ∈ TB := tb_1 (i := 103) rfl rfl
set_option maxRecDepth 100000 in
theorem q_104 : Cond.fieldLink RX0 40 RX0 "swimmerCount" "I" ∈ TB := tb_1 (i := 104) rfl rfl
set_option maxRecDepth 100000 in
theorem q_105 : Cond.fieldLink RX8 96 RX0 "swimmerCount" "I" ∈ TB := tb_1 (i := 105) rfl rfl
set_option maxRecDepth 100000 in
theorem q_106 : Cond.fieldLink RX0 48 RX0 "flows" "LLakeSwimmers$Law;" ∈ TB := tb_1 (i := 106) rfl rfl
set_option maxRecDepth 100000 in
theorem q_107 : Cond.fieldLink RX0 52 RX0 "catches" "LLakeSwimmers$Law;" ∈ TB := tb_1 (i := 107) rfl rfl
set_option maxRecDepth 100000 in
theorem q_108 : Cond.fieldLink RX0 55 RX0 "tape" "[I" ∈ TB := tb_1 (i := 108) rfl rfl
set_option maxRecDepth 100000 in
theorem q_109 : Cond.fieldLink RX8 150 RX0 "tape" "[I" ∈ TB := tb_1 (i := 109) rfl rfl
set_option maxRecDepth 100000 in
theorem q_110 : Cond.fieldLink RX0 58 RX0 "tapeLength" "I" ∈ TB := tb_1 (i := 110) rfl rfl
set_option maxRecDepth 100000 in
theorem q_111 : Cond.fieldLink RX8 139 RX0 "tapeLength" "I" ∈ TB := tb_1 (i := 111) rfl rfl
set_option maxRecDepth 100000 in
theorem q_112 : Cond.fieldLink RX0 61 RX0 "waiting" "[I" ∈ TB := tb_1 (i := 112) rfl rfl
set_option maxRecDepth 100000 in
theorem q_113 : Cond.fieldLink RX8 296 RX0 "waiting" "[I" ∈ TB := tb_1 (i := 113) rfl rfl
set_option maxRecDepth 100000 in
theorem q_114 : Cond.fieldLink RX0 64 RX0 "waitingCount" "I" ∈ TB := tb_1 (i := 114) rfl rfl
set_option maxRecDepth 100000 in
theorem q_115 : Cond.fieldLink RX8 293 RX0 "waitingCount" "I" ∈ TB := tb_1 (i := 115) rfl rfl
set_option maxRecDepth 100000 in
theorem q_116 : Cond.fieldLink RX0 67 RX0 "z" "I" ∈ TB := tb_1 (i := 116) rfl rfl
set_option maxRecDepth 100000 in
theorem q_117 : Cond.fieldLink RX8 233 RX0 "z" "I" ∈ TB := tb_1 (i := 117) rfl rfl
set_option maxRecDepth 100000 in
theorem q_151 : Cond.classLink RX8 19 RX3 ∈ TB := tb_1 (i := 151) rfl rfl
set_option maxRecDepth 100000 in
theorem q_152 : Cond.instantiable RX3 6 ∈ TB := tb_1 (i := 152) rfl rfl
set_option maxRecDepth 100000 in
theorem q_154 : Cond.instanceMethod yX3_init ∈ TB := tb_1 (i := 154) rfl rfl
set_option maxRecDepth 100000 in
theorem q_155 : Cond.code yX3_init prog_5_method_1_code 1 (Option.none : Option Jvm.ClassFile.FieldType) ∈ TB := tb_1 (i := 155) rfl rfl
set_option maxRecDepth 100000 in
theorem q_156 : Cond.methodLink RX3 3 objectInit ∈ TB := tb_1 (i := 156) rfl rfl
set_option maxRecDepth 100000 in
theorem q_158 : Cond.fieldLink RX3 9 RX3 "row" "[I" ∈ TB := tb_1 (i := 158) rfl rfl
set_option maxRecDepth 100000 in
theorem q_159 : Cond.fieldLink RX1 30 RX3 "row" "[I" ∈ TB := tb_1 (i := 159) rfl rfl
set_option maxRecDepth 100000 in
theorem q_160 : Cond.fieldLink RX3 15 RX3 "rowLength" "I" ∈ TB := tb_1 (i := 160) rfl rfl
set_option maxRecDepth 100000 in
theorem q_161 : Cond.fieldLink RX1 25 RX3 "rowLength" "I" ∈ TB := tb_1 (i := 161) rfl rfl
set_option maxRecDepth 100000 in
theorem q_162 : Cond.fieldLink RX3 19 RX3 "bytes" "[I" ∈ TB := tb_1 (i := 162) rfl rfl
set_option maxRecDepth 100000 in
theorem q_163 : Cond.fieldLink RX3 22 RX3 "length" "I" ∈ TB := tb_1 (i := 163) rfl rfl
set_option maxRecDepth 100000 in
theorem q_164 : Cond.fieldLink RX3 25 RX3 "place" "I" ∈ TB := tb_1 (i := 164) rfl rfl
set_option maxRecDepth 100000 in
theorem q_165 : Cond.fieldLink RX3 30 RX3 "names" "Ljava/lang/String;" ∈ TB := tb_1 (i := 165) rfl rfl
set_option maxRecDepth 100000 in
theorem q_179 : Cond.arrayClass Jvm.ClassFile.FieldType.byte ∈ TB := tb_1 (i := 179) rfl rfl
set_option maxRecDepth 100000 in
theorem q_180 : Cond.classLink RX8 26 RX5 ∈ TB := tb_1 (i := 180) rfl rfl
set_option maxRecDepth 100000 in
theorem q_181 : Cond.instantiable RX5 6 ∈ TB := tb_1 (i := 181) rfl rfl
set_option maxRecDepth 100000 in
theorem q_183 : Cond.instanceMethod yX5_init ∈ TB := tb_1 (i := 183) rfl rfl
set_option maxRecDepth 100000 in
theorem q_184 : Cond.code yX5_init prog_7_method_1_code 1 (Option.none : Option Jvm.ClassFile.FieldType) ∈ TB := tb_1 (i := 184) rfl rfl
set_option maxRecDepth 100000 in
theorem q_185 : Cond.methodLink RX5 3 objectInit ∈ TB := tb_1 (i := 185) rfl rfl
set_option maxRecDepth 100000 in
theorem q_186 : Cond.fieldLink RX5 9 RX5 "flows" "[I" ∈ TB := tb_1 (i := 186) rfl rfl
set_option maxRecDepth 100000 in
theorem q_187 : Cond.fieldLink RX5 15 RX5 "minute" "I" ∈ TB := tb_1 (i := 187) rfl rfl
set_option maxRecDepth 100000 in
theorem q_188 : Cond.fieldLink RX8 183 RX5 "minute" "I" ∈ TB := tb_1 (i := 188) rfl rfl
set_option maxRecDepth 100000 in
theorem q_189 : Cond.fieldLink RX5 19 RX5 "place" "I" ∈ TB := tb_1 (i := 189) rfl rfl
set_option maxRecDepth 100000 in
theorem q_190 : Cond.fieldLink RX8 186 RX5 "place" "I" ∈ TB := tb_1 (i := 190) rfl rfl
set_option maxRecDepth 100000 in
theorem q_191 : Cond.fieldLink RX5 22 RX5 "lane" "I" ∈ TB := tb_1 (i := 191) rfl rfl
set_option maxRecDepth 100000 in
theorem q_192 : Cond.fieldLink RX8 189 RX5 "lane" "I" ∈ TB := tb_1 (i := 192) rfl rfl
set_option maxRecDepth 100000 in
theorem q_193 : Cond.fieldLink RX5 25 RX5 "oneAt" "I" ∈ TB := tb_1 (i := 193) rfl rfl
set_option maxRecDepth 100000 in
theorem q_194 : Cond.fieldLink RX5 28 RX5 "otherAt" "I" ∈ TB := tb_1 (i := 194) rfl rfl
set_option maxRecDepth 100000 in
theorem q_208 : Cond.classLink RX8 33 RX2 ∈ TB := tb_1 (i := 208) rfl rfl
set_option maxRecDepth 100000 in
theorem q_209 : Cond.instantiable RX2 8 ∈ TB := tb_1 (i := 209) rfl rfl
set_option maxRecDepth 100000 in
theorem q_211 : Cond.instanceMethod yX2_init ∈ TB := tb_1 (i := 211) rfl rfl
set_option maxRecDepth 100000 in
theorem q_212 : Cond.code yX2_init prog_4_method_1_code 1 (Option.none : Option Jvm.ClassFile.FieldType) ∈ TB := tb_1 (i := 212) rfl rfl
set_option maxRecDepth 100000 in
theorem q_213 : Cond.methodLink RX2 3 objectInit ∈ TB := tb_1 (i := 213) rfl rfl
set_option maxRecDepth 100000 in
theorem q_214 : Cond.classLink RX2 23 RX6 ∈ TB := tb_1 (i := 214) rfl rfl
set_option maxRecDepth 100000 in
theorem q_216 : Cond.fieldLink RX2 9 RX2 "found" "Z" ∈ TB := tb_1 (i := 216) rfl rfl
set_option maxRecDepth 100000 in
theorem q_217 : Cond.fieldLink RX8 206 RX2 "found" "Z" ∈ TB := tb_1 (i := 217) rfl rfl
set_option maxRecDepth 100000 in
theorem q_218 : Cond.fieldLink RX2 15 RX2 "place" "I" ∈ TB := tb_1 (i := 218) rfl rfl
set_option maxRecDepth 100000 in
theorem q_219 : Cond.fieldLink RX8 210 RX2 "place" "I" ∈ TB := tb_1 (i := 219) rfl rfl
set_option maxRecDepth 100000 in
theorem q_220 : Cond.fieldLink RX2 19 RX2 "best" "[I" ∈ TB := tb_1 (i := 220) rfl rfl
set_option maxRecDepth 100000 in
theorem q_221 : Cond.fieldLink RX2 26 RX2 "tried" "LLakeSwimmers$Swimmer;" ∈ TB := tb_1 (i := 221) rfl rfl
set_option maxRecDepth 100000 in
theorem q_222 : Cond.fieldLink RX2 30 RX2 "otherPlaces" "[I" ∈ TB := tb_1 (i := 222) rfl rfl
set_option maxRecDepth 100000 in
theorem q_223 : Cond.fieldLink RX2 33 RX2 "swim" "LLakeSwimmers$Swim;" ∈ TB := tb_1 (i := 223) rfl rfl
set_option maxRecDepth 100000 in
theorem q_224 : Cond.fieldLink RX2 37 RX2 "other" "LLakeSwimmers$Swimmer;" ∈ TB := tb_1 (i := 224) rfl rfl
set_option maxRecDepth 100000 in
theorem q_225 : Cond.fieldLink RX2 40 RX2 "sight" "I" ∈ TB := tb_1 (i := 225) rfl rfl
set_option maxRecDepth 100000 in
theorem q_243 : Cond.classLink RX8 40 RX7 ∈ TB := tb_2 (i := 3) rfl rfl
set_option maxRecDepth 100000 in
theorem q_244 : Cond.instantiable RX7 5 ∈ TB := tb_2 (i := 4) rfl rfl
set_option maxRecDepth 100000 in
theorem q_246 : Cond.instanceMethod yX7_init ∈ TB := tb_2 (i := 6) rfl rfl
set_option maxRecDepth 100000 in
theorem q_247 : Cond.code yX7_init prog_9_method_1_code 1 (Option.none : Option Jvm.ClassFile.FieldType) ∈ TB := tb_2 (i := 7) rfl rfl
set_option maxRecDepth 100000 in
theorem q_248 : Cond.methodLink RX7 3 objectInit ∈ TB := tb_2 (i := 8) rfl rfl
set_option maxRecDepth 100000 in
theorem q_249 : Cond.fieldLink RX7 9 RX7 "trace" "[I" ∈ TB := tb_2 (i := 9) rfl rfl
set_option maxRecDepth 100000 in
theorem q_250 : Cond.fieldLink RX8 243 RX7 "trace" "[I" ∈ TB := tb_2 (i := 10) rfl rfl
set_option maxRecDepth 100000 in
theorem q_251 : Cond.fieldLink RX7 15 RX7 "traceLength" "I" ∈ TB := tb_2 (i := 11) rfl rfl
set_option maxRecDepth 100000 in
theorem q_252 : Cond.fieldLink RX8 240 RX7 "traceLength" "I" ∈ TB := tb_2 (i := 12) rfl rfl
set_option maxRecDepth 100000 in
theorem q_253 : Cond.fieldLink RX7 19 RX7 "kind" "I" ∈ TB := tb_2 (i := 13) rfl rfl
set_option maxRecDepth 100000 in
theorem q_254 : Cond.fieldLink RX7 22 RX7 "n" "I" ∈ TB := tb_2 (i := 14) rfl rfl
set_option maxRecDepth 100000 in
theorem q_255 : Cond.fieldLink RX7 25 RX7 "m" "I" ∈ TB := tb_2 (i := 15) rfl rfl
set_option maxRecDepth 100000 in
theorem q_267 : Cond.classLink RX8 47 RX4 ∈ TB := tb_2 (i := 27) rfl rfl
set_option maxRecDepth 100000 in
theorem q_269 : Cond.classLink RX8 57 RX6 ∈ TB := tb_2 (i := 29) rfl rfl
set_option maxRecDepth 100000 in
theorem q_271 : Cond.instantiable RX4 3 ∈ TB := tb_2 (i := 31) rfl rfl
set_option maxRecDepth 100000 in
theorem q_273 : Cond.instanceMethod yX4_init ∈ TB := tb_2 (i := 33) rfl rfl
set_option maxRecDepth 100000 in
theorem q_274 : Cond.code yX4_init prog_6_method_1_code 1 (Option.none : Option Jvm.ClassFile.FieldType) ∈ TB := tb_2 (i := 34) rfl rfl
set_option maxRecDepth 100000 in
theorem q_275 : Cond.methodLink RX4 3 objectInit ∈ TB := tb_2 (i := 35) rfl rfl
set_option maxRecDepth 100000 in
theorem q_276 : Cond.fieldLink RX4 9 RX4 "numbers" "[I" ∈ TB := tb_2 (i := 36) rfl rfl
set_option maxRecDepth 100000 in
theorem q_277 : Cond.fieldLink RX8 269 RX4 "numbers" "[I" ∈ TB := tb_2 (i := 37) rfl rfl
set_option maxRecDepth 100000 in
theorem q_278 : Cond.fieldLink RX4 15 RX4 "length" "I" ∈ TB := tb_2 (i := 38) rfl rfl
set_option maxRecDepth 100000 in
theorem q_279 : Cond.fieldLink RX8 257 RX4 "length" "I" ∈ TB := tb_2 (i := 39) rfl rfl
set_option maxRecDepth 100000 in
theorem q_280 : Cond.fieldLink RX4 19 RX4 "bits" "I" ∈ TB := tb_2 (i := 40) rfl rfl
set_option maxRecDepth 100000 in
theorem q_281 : Cond.fieldLink RX8 263 RX4 "bits" "I" ∈ TB := tb_2 (i := 41) rfl rfl
set_option maxRecDepth 100000 in
theorem q_289 : Cond.fieldLink RX8 10 RX8 "lake" "LLakeSwimmers$Lake;" ∈ TB := tb_2 (i := 49) rfl rfl
set_option maxRecDepth 100000 in
theorem q_290 : Cond.fieldLink RX8 16 RX8 "kept" "LLakeSwimmers$Lake;" ∈ TB := tb_2 (i := 50) rfl rfl
set_option maxRecDepth 100000 in
theorem q_291 : Cond.fieldLink RX8 22 RX8 "reader" "LLakeSwimmers$Reader;" ∈ TB := tb_2 (i := 51) rfl rfl
set_option maxRecDepth 100000 in
theorem q_292 : Cond.fieldLink RX8 29 RX8 "swim" "LLakeSwimmers$Swim;" ∈ TB := tb_2 (i := 52) rfl rfl
set_option maxRecDepth 100000 in
theorem q_293 : Cond.fieldLink RX8 36 RX8 "search" "LLakeSwimmers$PlanSearch;" ∈ TB := tb_2 (i := 53) rfl rfl
set_option maxRecDepth 100000 in
theorem q_294 : Cond.fieldLink RX8 43 RX8 "voices" "LLakeSwimmers$Voices;" ∈ TB := tb_2 (i := 54) rfl rfl
set_option maxRecDepth 100000 in
theorem q_295 : Cond.fieldLink RX8 49 RX8 "sheets" "[LLakeSwimmers$Sheet;" ∈ TB := tb_2 (i := 55) rfl rfl
set_option maxRecDepth 100000 in
theorem q_296 : Cond.fieldLink RX8 53 RX8 "errorCounts" "[I" ∈ TB := tb_2 (i := 56) rfl rfl
set_option maxRecDepth 100000 in
theorem q_297 : Cond.fieldLink RX8 60 RX8 "standIn" "LLakeSwimmers$Swimmer;" ∈ TB := tb_2 (i := 57) rfl rfl
set_option maxRecDepth 100000 in
theorem q_298 : Cond.fieldLink RX8 64 RX8 "otherStandIn" "LLakeSwimmers$Swimmer;" ∈ TB := tb_2 (i := 58) rfl rfl
set_option maxRecDepth 100000 in
theorem q_299 : Cond.fieldLink RX8 67 RX8 "imageCount" "I" ∈ TB := tb_2 (i := 59) rfl rfl
set_option maxRecDepth 100000 in
theorem q_323 : Cond.methodLink RL 13 yX8_current ∈ TB := tb_2 (i := 83) rfl rfl
set_option maxRecDepth 100000 in
theorem q_324 : Cond.instanceMethod yX8_current ∈ TB := tb_2 (i := 84) rfl rfl
set_option maxRecDepth 100000 in
theorem q_325 : Cond.selects RX8 yX8_current yX8_current ∈ TB := tb_2 (i := 85) rfl rfl
set_option maxRecDepth 100000 in
theorem q_326 : Cond.code yX8_current prog_1_method_2_code 4 (Option.some Jvm.ClassFile.FieldType.int) ∈ TB := tb_2 (i := 86) rfl rfl
set_option maxRecDepth 100000 in
theorem q_327 : Cond.methodLink RX8 72 yX8_isOutside ∈ TB := tb_2 (i := 87) rfl rfl
set_option maxRecDepth 100000 in
theorem q_328 : Cond.static yX8_isOutside ∈ TB := tb_2 (i := 88) rfl rfl
set_option maxRecDepth 100000 in
theorem q_329 : Cond.code yX8_isOutside prog_1_method_47_code 3 (Option.some Jvm.ClassFile.FieldType.boolean) ∈ TB := tb_2 (i := 89) rfl rfl
set_option maxRecDepth 100000 in
theorem q_330 : Cond.methodLink RX8 76 yX8_refuse ∈ TB := tb_2 (i := 90) rfl rfl
set_option maxRecDepth 100000 in
theorem q_332 : Cond.instanceMethod yX8_refuse ∈ TB := tb_2 (i := 92) rfl rfl
set_option maxRecDepth 100000 in
theorem q_333 : Cond.code yX8_refuse prog_1_method_41_code 2 (Option.some Jvm.ClassFile.FieldType.int) ∈ TB := tb_2 (i := 93) rfl rfl
set_option maxRecDepth 100000 in
theorem q_334 : Cond.constant RX8 305 (-1000000000) ∈ TB := tb_2 (i := 94) rfl rfl
set_option maxRecDepth 100000 in
theorem q_335 : Cond.methodLink RL 18 yX8_set ∈ TB := tb_2 (i := 95) rfl rfl
set_option maxRecDepth 100000 in
theorem q_336 : Cond.instanceMethod yX8_set ∈ TB := tb_2 (i := 96) rfl rfl
set_option maxRecDepth 100000 in
theorem q_337 : Cond.selects RX8 yX8_set yX8_set ∈ TB := tb_2 (i := 97) rfl rfl
set_option maxRecDepth 100000 in
theorem q_338 : Cond.code yX8_set prog_1_method_3_code 4 (Option.some Jvm.ClassFile.FieldType.int) ∈ TB := tb_2 (i := 98) rfl rfl
set_option maxRecDepth 100000 in
theorem q_339 : Cond.methodLink RL 22 yX8_flow ∈ TB := tb_2 (i := 99) rfl rfl
set_option maxRecDepth 100000 in
theorem q_340 : Cond.instanceMethod yX8_flow ∈ TB := tb_2 (i := 100) rfl rfl
set_option maxRecDepth 100000 in
theorem q_341 : Cond.selects RX8 yX8_flow yX8_flow ∈ TB := tb_2 (i := 101) rfl rfl
set_option maxRecDepth 100000 in
theorem q_342 : Cond.code yX8_flow prog_1_method_4_code 2 (Option.some Jvm.ClassFile.FieldType.int) ∈ TB := tb_2 (i := 102) rfl rfl
set_option maxRecDepth 100000 in
theorem q_343 : Cond.methodLink RX8 92 yX0_flowOf ∈ TB := tb_2 (i := 103) rfl rfl
set_option maxRecDepth 100000 in
theorem q_344 : Cond.instanceMethod yX0_flowOf ∈ TB := tb_2 (i := 104) rfl rfl
set_option maxRecDepth 100000 in
theorem q_345 : Cond.selects RX0 yX0_flowOf yX0_flowOf ∈ TB := tb_2 (i := 105) rfl rfl
set_option maxRecDepth 100000 in
theorem q_346 : Cond.code yX0_flowOf prog_2_method_4_code 3 (Option.some Jvm.ClassFile.FieldType.int) ∈ TB := tb_2 (i := 106) rfl rfl
set_option maxRecDepth 100000 in
theorem q_348 : Cond.methodLink RX0 75 yX1_give ∈ TB := tb_2 (i := 108) rfl rfl
set_option maxRecDepth 100000 in
theorem q_349 : Cond.instanceMethod yX1_give ∈ TB := tb_2 (i := 109) rfl rfl
set_option maxRecDepth 100000 in
theorem q_350 : Cond.selects RX1 yX1_give yX1_give ∈ TB := tb_2 (i := 110) rfl rfl
set_option maxRecDepth 100000 in
theorem q_351 : Cond.code yX1_give prog_3_method_4_code 4 (Option.some Jvm.ClassFile.FieldType.int) ∈ TB := tb_2 (i := 111) rfl rfl
set_option maxRecDepth 100000 in
theorem q_352 : Cond.methodLink RX1 37 yX1_workOut ∈ TB := tb_2 (i := 112) rfl rfl
set_option maxRecDepth 100000 in
theorem q_354 : Cond.instanceMethod yX1_workOut ∈ TB := tb_2 (i := 114) rfl rfl
set_option maxRecDepth 100000 in
theorem q_355 : Cond.code yX1_workOut prog_3_method_5_code 7 (Option.some Jvm.ClassFile.FieldType.int) ∈ TB := tb_2 (i := 115) rfl rfl
set_option maxRecDepth 100000 in
theorem q_356 : Cond.methodLink RX1 44 yX1_valueOf ∈ TB := tb_2 (i := 116) rfl rfl
set_option maxRecDepth 100000 in
theorem q_357 : Cond.static yX1_valueOf ∈ TB := tb_2 (i := 117) rfl rfl
set_option maxRecDepth 100000 in
theorem q_358 : Cond.code yX1_valueOf prog_3_method_6_code 4 (Option.some Jvm.ClassFile.FieldType.int) ∈ TB := tb_2 (i := 118) rfl rfl
set_option maxRecDepth 100000 in
theorem q_359 : Cond.methodLink RX1 48 yX1_joined ∈ TB := tb_2 (i := 119) rfl rfl
set_option maxRecDepth 100000 in
theorem q_360 : Cond.static yX1_joined ∈ TB := tb_2 (i := 120) rfl rfl
set_option maxRecDepth 100000 in
theorem q_361 : Cond.code yX1_joined prog_3_method_7_code 3 (Option.some Jvm.ClassFile.FieldType.int) ∈ TB := tb_2 (i := 121) rfl rfl
set_option maxRecDepth 100000 in
theorem q_363 : Cond.static yX8_heldWithin ∈ TB := tb_2 (i := 123) rfl rfl
set_option maxRecDepth 100000 in
theorem q_364 : Cond.code yX8_heldWithin prog_1_method_48_code 3 (Option.some Jvm.ClassFile.FieldType.int) ∈ TB := tb_2 (i := 124) rfl rfl
set_option maxRecDepth 100000 in
theorem q_365 : Cond.methodLink RX8 306 yJ9_min_7cf53 ∈ TB := tb_2 (i := 125) rfl rfl
set_option maxRecDepth 100000 in
theorem q_366 : Cond.static yJ9_min_7cf53 ∈ TB := tb_2 (i := 126) rfl rfl
set_option maxRecDepth 100000 in
theorem q_367 : Cond.code yJ9_min_7cf53 prog_13_method_69_code 2 (Option.some Jvm.ClassFile.FieldType.int) ∈ TB := tb_2 (i := 127) rfl rfl
set_option maxRecDepth 100000 in
theorem q_368 : Cond.methodLink RX8 317 yJ9_max_7cf53 ∈ TB := tb_2 (i := 128) rfl rfl
set_option maxRecDepth 100000 in
theorem q_369 : Cond.static yJ9_max_7cf53 ∈ TB := tb_2 (i := 129) rfl rfl
set_option maxRecDepth 100000 in
theorem q_370 : Cond.code yJ9_max_7cf53 prog_13_method_65_code 2 (Option.some Jvm.ClassFile.FieldType.int) ∈ TB := tb_2 (i := 130) rfl rfl
set_option maxRecDepth 100000 in
theorem q_371 : Cond.methodLink RL 27 yX8_swimmer ∈ TB := tb_2 (i := 131) rfl rfl
set_option maxRecDepth 100000 in
theorem q_372 : Cond.instanceMethod yX8_swimmer ∈ TB := tb_2 (i := 132) rfl rfl
set_option maxRecDepth 100000 in
theorem q_373 : Cond.selects RX8 yX8_swimmer yX8_swimmer ∈ TB := tb_2 (i := 133) rfl rfl
set_option maxRecDepth 100000 in
theorem q_374 : Cond.code yX8_swimmer prog_1_method_5_code 5 (Option.some Jvm.ClassFile.FieldType.int) ∈ TB := tb_2 (i := 134) rfl rfl
set_option maxRecDepth 100000 in
theorem q_375 : Cond.methodLink RX8 99 yX0_swimmerAt ∈ TB := tb_2 (i := 135) rfl rfl
set_option maxRecDepth 100000 in
theorem q_376 : Cond.instanceMethod yX0_swimmerAt ∈ TB := tb_2 (i := 136) rfl rfl
set_option maxRecDepth 100000 in
theorem q_377 : Cond.selects RX0 yX0_swimmerAt yX0_swimmerAt ∈ TB := tb_2 (i := 137) rfl rfl
set_option maxRecDepth 100000 in
theorem q_378 : Cond.code yX0_swimmerAt prog_2_method_2_code 2 (Option.some (Jvm.ClassFile.FieldType.object RX6)) ∈ TB := tb_2 (i := 138) rfl rfl
set_option maxRecDepth 100000 in
theorem q_379 : Cond.methodLink RX8 103 yX6_begin ∈ TB := tb_2 (i := 139) rfl rfl
set_option maxRecDepth 100000 in
theorem q_380 : Cond.instanceMethod yX6_begin ∈ TB := tb_2 (i := 140) rfl rfl
set_option maxRecDepth 100000 in
theorem q_381 : Cond.selects RX6 yX6_begin yX6_begin ∈ TB := tb_2 (i := 141) rfl rfl
set_option maxRecDepth 100000 in
theorem q_382 : Cond.code yX6_begin prog_8_method_2_code 3 (Option.none : Option Jvm.ClassFile.FieldType) ∈ TB := tb_2 (i := 142) rfl rfl
set_option maxRecDepth 100000 in
theorem q_383 : Cond.methodLink RX6 31 yX6_turnInto ∈ TB := tb_2 (i := 143) rfl rfl
set_option maxRecDepth 100000 in
theorem q_384 : Cond.instanceMethod yX6_turnInto ∈ TB := tb_2 (i := 144) rfl rfl
set_option maxRecDepth 100000 in
theorem q_385 : Cond.selects RX6 yX6_turnInto yX6_turnInto ∈ TB := tb_2 (i := 145) rfl rfl
set_option maxRecDepth 100000 in
theorem q_386 : Cond.code yX6_turnInto prog_8_method_3_code 2 (Option.none : Option Jvm.ClassFile.FieldType) ∈ TB := tb_2 (i := 146) rfl rfl
set_option maxRecDepth 100000 in
theorem q_387 : Cond.methodLink RX6 35 yX6_keepTo ∈ TB := tb_2 (i := 147) rfl rfl
set_option maxRecDepth 100000 in
theorem q_388 : Cond.instanceMethod yX6_keepTo ∈ TB := tb_2 (i := 148) rfl rfl
set_option maxRecDepth 100000 in
theorem q_389 : Cond.selects RX6 yX6_keepTo yX6_keepTo ∈ TB := tb_2 (i := 149) rfl rfl
set_option maxRecDepth 100000 in
theorem q_390 : Cond.code yX6_keepTo prog_8_method_4_code 3 (Option.none : Option Jvm.ClassFile.FieldType) ∈ TB := tb_2 (i := 150) rfl rfl
set_option maxRecDepth 100000 in
theorem q_391 : Cond.methodLink RL 31 yX8_ofSwimmer ∈ TB := tb_2 (i := 151) rfl rfl
set_option maxRecDepth 100000 in
theorem q_392 : Cond.instanceMethod yX8_ofSwimmer ∈ TB := tb_2 (i := 152) rfl rfl
set_option maxRecDepth 100000 in
theorem q_393 : Cond.selects RX8 yX8_ofSwimmer yX8_ofSwimmer ∈ TB := tb_2 (i := 153) rfl rfl
set_option maxRecDepth 100000 in
theorem q_394 : Cond.code yX8_ofSwimmer prog_1_method_6_code 4 (Option.some Jvm.ClassFile.FieldType.int) ∈ TB := tb_2 (i := 154) rfl rfl
set_option maxRecDepth 100000 in
theorem q_395 : Cond.methodLink RX8 122 yX6_laneOf ∈ TB := tb_2 (i := 155) rfl rfl
set_option maxRecDepth 100000 in
theorem q_396 : Cond.instanceMethod yX6_laneOf ∈ TB := tb_2 (i := 156) rfl rfl
set_option maxRecDepth 100000 in
theorem q_397 : Cond.selects RX6 yX6_laneOf yX6_laneOf ∈ TB := tb_2 (i := 157) rfl rfl
set_option maxRecDepth 100000 in
theorem q_398 : Cond.code yX6_laneOf prog_8_method_7_code 2 (Option.some Jvm.ClassFile.FieldType.int) ∈ TB := tb_2 (i := 158) rfl rfl
set_option maxRecDepth 100000 in
theorem q_399 : Cond.methodLink RL 35 yX8_train ∈ TB := tb_2 (i := 159) rfl rfl
set_option maxRecDepth 100000 in
theorem q_400 : Cond.instanceMethod yX8_train ∈ TB := tb_2 (i := 160) rfl rfl
set_option maxRecDepth 100000 in
theorem q_401 : Cond.selects RX8 yX8_train yX8_train ∈ TB := tb_2 (i := 161) rfl rfl
set_option maxRecDepth 100000 in
theorem q_402 : Cond.code yX8_train prog_1_method_7_code 5 (Option.some Jvm.ClassFile.FieldType.int) ∈ TB := tb_2 (i := 162) rfl rfl
set_option maxRecDepth 100000 in
theorem q_403 : Cond.methodLink RL 39 yX8_plan ∈ TB := tb_2 (i := 163) rfl rfl
set_option maxRecDepth 100000 in
theorem q_404 : Cond.instanceMethod yX8_plan ∈ TB := tb_2 (i := 164) rfl rfl
set_option maxRecDepth 100000 in
theorem q_405 : Cond.selects RX8 yX8_plan yX8_plan ∈ TB := tb_2 (i := 165) rfl rfl
set_option maxRecDepth 100000 in
theorem q_406 : Cond.code yX8_plan prog_1_method_8_code 6 (Option.some Jvm.ClassFile.FieldType.int) ∈ TB := tb_2 (i := 166) rfl rfl
set_option maxRecDepth 100000 in
theorem q_407 : Cond.methodLink RL 44 yX8_become ∈ TB := tb_2 (i := 167) rfl rfl
set_option maxRecDepth 100000 in
theorem q_408 : Cond.instanceMethod yX8_become ∈ TB := tb_2 (i := 168) rfl rfl
set_option maxRecDepth 100000 in
theorem q_409 : Cond.selects RX8 yX8_become yX8_become ∈ TB := tb_2 (i := 169) rfl rfl
set_option maxRecDepth 100000 in
theorem q_410 : Cond.code yX8_become prog_1_method_9_code 5 (Option.some Jvm.ClassFile.FieldType.int) ∈ TB := tb_2 (i := 170) rfl rfl
set_option maxRecDepth 100000 in
theorem q_411 : Cond.methodLink RX8 128 yX6_turnInto ∈ TB := tb_2 (i := 171) rfl rfl
set_option maxRecDepth 100000 in
theorem q_412 : Cond.methodLink RL 48 yX8_as ∈ TB := tb_2 (i := 172) rfl rfl
set_option maxRecDepth 100000 in
theorem q_413 : Cond.instanceMethod yX8_as ∈ TB := tb_2 (i := 173) rfl rfl
set_option maxRecDepth 100000 in
theorem q_414 : Cond.selects RX8 yX8_as yX8_as ∈ TB := tb_2 (i := 174) rfl rfl
set_option maxRecDepth 100000 in
theorem q_415 : Cond.code yX8_as prog_1_method_10_code 4 (Option.some Jvm.ClassFile.FieldType.int) ∈ TB := tb_2 (i := 175) rfl rfl
set_option maxRecDepth 100000 in
theorem q_416 : Cond.methodLink RX8 132 yX8_isUnder ∈ TB := tb_2 (i := 176) rfl rfl
set_option maxRecDepth 100000 in
theorem q_417 : Cond.static yX8_isUnder ∈ TB := tb_2 (i := 177) rfl rfl
set_option maxRecDepth 100000 in
theorem q_418 : Cond.code yX8_isUnder prog_1_method_49_code 4 (Option.some Jvm.ClassFile.FieldType.boolean) ∈ TB := tb_2 (i := 178) rfl rfl
set_option maxRecDepth 100000 in
theorem q_419 : Cond.fieldLink RX8 320 RX8 "ABOVE" "[I" ∈ TB := tb_2 (i := 179) rfl rfl
set_option maxRecDepth 100000 in
theorem q_421 : Cond.methodLink RL 52 yX8_pace ∈ TB := tb_2 (i := 181) rfl rfl
set_option maxRecDepth 100000 in
theorem q_422 : Cond.instanceMethod yX8_pace ∈ TB := tb_2 (i := 182) rfl rfl
set_option maxRecDepth 100000 in
theorem q_423 : Cond.selects RX8 yX8_pace yX8_pace ∈ TB := tb_2 (i := 183) rfl rfl
set_option maxRecDepth 100000 in
theorem q_424 : Cond.code yX8_pace prog_1_method_11_code 4 (Option.some Jvm.ClassFile.FieldType.int) ∈ TB := tb_2 (i := 184) rfl rfl
set_option maxRecDepth 100000 in
theorem q_425 : Cond.methodLink RX8 136 yX6_paceIn ∈ TB := tb_2 (i := 185) rfl rfl
set_option maxRecDepth 100000 in
theorem q_426 : Cond.instanceMethod yX6_paceIn ∈ TB := tb_2 (i := 186) rfl rfl
set_option maxRecDepth 100000 in
theorem q_427 : Cond.selects RX6 yX6_paceIn yX6_paceIn ∈ TB := tb_2 (i := 187) rfl rfl
set_option maxRecDepth 100000 in
theorem q_428 : Cond.code yX6_paceIn prog_8_method_9_code 4 (Option.some Jvm.ClassFile.FieldType.int) ∈ TB := tb_2 (i := 188) rfl rfl
set_option maxRecDepth 100000 in
theorem q_429 : Cond.methodLink RX6 48 yX6_plainPace ∈ TB := tb_2 (i := 189) rfl rfl
set_option maxRecDepth 100000 in
theorem q_431 : Cond.instanceMethod yX6_plainPace ∈ TB := tb_2 (i := 191) rfl rfl
set_option maxRecDepth 100000 in
theorem q_432 : Cond.code yX6_plainPace prog_8_method_10_code 3 (Option.some Jvm.ClassFile.FieldType.int) ∈ TB := tb_2 (i := 192) rfl rfl
set_option maxRecDepth 100000 in
theorem q_433 : Cond.methodLink RL 58 yX8_feed ∈ TB := tb_2 (i := 193) rfl rfl
set_option maxRecDepth 100000 in
theorem q_434 : Cond.instanceMethod yX8_feed ∈ TB := tb_2 (i := 194) rfl rfl
set_option maxRecDepth 100000 in
theorem q_435 : Cond.selects RX8 yX8_feed yX8_feed ∈ TB := tb_2 (i := 195) rfl rfl
set_option maxRecDepth 100000 in
theorem q_436 : Cond.code yX8_feed prog_1_method_12_code 4 (Option.some Jvm.ClassFile.FieldType.int) ∈ TB := tb_2 (i := 196) rfl rfl
set_option maxRecDepth 100000 in
theorem q_437 : Cond.methodLink RX8 142 yX0_addToTape ∈ TB := tb_2 (i := 197) rfl rfl
set_option maxRecDepth 100000 in
theorem q_438 : Cond.instanceMethod yX0_addToTape ∈ TB := tb_2 (i := 198) rfl rfl
set_option maxRecDepth 100000 in
theorem q_439 : Cond.selects RX0 yX0_addToTape yX0_addToTape ∈ TB := tb_2 (i := 199) rfl rfl
set_option maxRecDepth 100000 in
theorem q_440 : Cond.code yX0_addToTape prog_2_method_5_code 5 (Option.none : Option Jvm.ClassFile.FieldType) ∈ TB := tb_2 (i := 200) rfl rfl
set_option maxRecDepth 100000 in
theorem q_441 : Cond.methodLink RL 63 yX8_text ∈ TB := tb_2 (i := 201) rfl rfl
set_option maxRecDepth 100000 in
theorem q_442 : Cond.instanceMethod yX8_text ∈ TB := tb_2 (i := 202) rfl rfl
set_option maxRecDepth 100000 in
theorem q_443 : Cond.selects RX8 yX8_text yX8_text ∈ TB := tb_2 (i := 203) rfl rfl
set_option maxRecDepth 100000 in
theorem q_444 : Cond.code yX8_text prog_1_method_13_code 4 (Option.some Jvm.ClassFile.FieldType.int) ∈ TB := tb_2 (i := 204) rfl rfl
set_option maxRecDepth 100000 in
theorem q_445 : Cond.methodLink RX8 146 yX0_lawOf ∈ TB := tb_2 (i := 205) rfl rfl
set_option maxRecDepth 100000 in
theorem q_446 : Cond.instanceMethod yX0_lawOf ∈ TB := tb_2 (i := 206) rfl rfl
set_option maxRecDepth 100000 in
theorem q_447 : Cond.selects RX0 yX0_lawOf yX0_lawOf ∈ TB := tb_2 (i := 207) rfl rfl
set_option maxRecDepth 100000 in
theorem q_448 : Cond.code yX0_lawOf prog_2_method_3_code 2 (Option.some (Jvm.ClassFile.FieldType.object RX1)) ∈ TB := tb_2 (i := 208) rfl rfl
set_option maxRecDepth 100000 in
theorem q_449 : Cond.methodLink RX8 153 yX3_read ∈ TB := tb_2 (i := 209) rfl rfl
set_option maxRecDepth 100000 in
theorem q_450 : Cond.instanceMethod yX3_read ∈ TB := tb_2 (i := 210) rfl rfl
set_option maxRecDepth 100000 in
theorem q_451 : Cond.selects RX3 yX3_read yX3_read ∈ TB := tb_2 (i := 211) rfl rfl
set_option maxRecDepth 100000 in
theorem q_452 : Cond.code yX3_read prog_5_method_2_code 4 (Option.some Jvm.ClassFile.FieldType.int) ∈ TB := tb_2 (i := 212) rfl rfl
set_option maxRecDepth 100000 in
theorem q_453 : Cond.methodLink RX3 34 yJ9_min_7cf53 ∈ TB := tb_2 (i := 213) rfl rfl
set_option maxRecDepth 100000 in
theorem q_454 : Cond.methodLink RX3 40 arraycopyName ∈ TB := tb_2 (i := 214) rfl rfl
set_option maxRecDepth 100000 in
theorem q_455 : Cond.static arraycopyName ∈ TB := tb_2 (i := 215) rfl rfl
set_option maxRecDepth 100000 in
theorem q_456 : Cond.native arraycopyName ∈ TB := tb_2 (i := 216) rfl rfl
set_option maxRecDepth 100000 in
theorem q_459 : Cond.methodLink RX3 50 yX3_readAny ∈ TB := tb_2 (i := 219) rfl rfl
set_option maxRecDepth 100000 in
theorem q_461 : Cond.instanceMethod yX3_readAny ∈ TB := tb_2 (i := 221) rfl rfl
set_option maxRecDepth 100000 in
theorem q_462 : Cond.code yX3_readAny prog_5_method_5_code 2 (Option.some Jvm.ClassFile.FieldType.boolean) ∈ TB := tb_2 (i := 222) rfl rfl
set_option maxRecDepth 100000 in
theorem q_463 : Cond.methodLink RX3 54 yX3_readAll ∈ TB := tb_2 (i := 223) rfl rfl
set_option maxRecDepth 100000 in
theorem q_465 : Cond.instanceMethod yX3_readAll ∈ TB := tb_2 (i := 225) rfl rfl
set_option maxRecDepth 100000 in
theorem q_466 : Cond.code yX3_readAll prog_5_method_6_code 2 (Option.some Jvm.ClassFile.FieldType.boolean) ∈ TB := tb_2 (i := 226) rfl rfl
set_option maxRecDepth 100000 in
theorem q_467 : Cond.methodLink RX3 65 yX3_readComparison ∈ TB := tb_2 (i := 227) rfl rfl
set_option maxRecDepth 100000 in
theorem q_469 : Cond.instanceMethod yX3_readComparison ∈ TB := tb_2 (i := 229) rfl rfl
set_option maxRecDepth 100000 in
theorem q_470 : Cond.code yX3_readComparison prog_5_method_7_code 3 (Option.some Jvm.ClassFile.FieldType.boolean) ∈ TB := tb_2 (i := 230) rfl rfl
set_option maxRecDepth 100000 in
theorem q_471 : Cond.methodLink RX3 68 yX3_readSum ∈ TB := tb_2 (i := 231) rfl rfl
set_option maxRecDepth 100000 in
theorem q_473 : Cond.instanceMethod yX3_readSum ∈ TB := tb_2 (i := 233) rfl rfl
set_option maxRecDepth 100000 in
theorem q_474 : Cond.code yX3_readSum prog_5_method_8_code 3 (Option.some Jvm.ClassFile.FieldType.boolean) ∈ TB := tb_2 (i := 234) rfl rfl
set_option maxRecDepth 100000 in
theorem q_475 : Cond.methodLink RX3 71 yX3_readProduct ∈ TB := tb_2 (i := 235) rfl rfl
set_option maxRecDepth 100000 in
theorem q_477 : Cond.instanceMethod yX3_readProduct ∈ TB := tb_2 (i := 237) rfl rfl
set_option maxRecDepth 100000 in
theorem q_478 : Cond.code yX3_readProduct prog_5_method_9_code 3 (Option.some Jvm.ClassFile.FieldType.boolean) ∈ TB := tb_2 (i := 238) rfl rfl
set_option maxRecDepth 100000 in
theorem q_479 : Cond.methodLink RX3 74 yX3_readPart ∈ TB := tb_2 (i := 239) rfl rfl
set_option maxRecDepth 100000 in
theorem q_481 : Cond.instanceMethod yX3_readPart ∈ TB := tb_3 (i := 1) rfl rfl
set_option maxRecDepth 100000 in
theorem q_482 : Cond.code yX3_readPart prog_5_method_10_code 4 (Option.some Jvm.ClassFile.FieldType.boolean) ∈ TB := tb_3 (i := 2) rfl rfl
set_option maxRecDepth 100000 in
theorem q_483 : Cond.methodLink RX3 57 yX3_next ∈ TB := tb_3 (i := 3) rfl rfl
set_option maxRecDepth 100000 in
theorem q_485 : Cond.instanceMethod yX3_next ∈ TB := tb_3 (i := 5) rfl rfl
set_option maxRecDepth 100000 in
theorem q_486 : Cond.code yX3_next prog_5_method_3_code 1 (Option.some Jvm.ClassFile.FieldType.int) ∈ TB := tb_3 (i := 6) rfl rfl
set_option maxRecDepth 100000 in
theorem q_487 : Cond.methodLink RX3 77 yX3_isDigit ∈ TB := tb_3 (i := 7) rfl rfl
set_option maxRecDepth 100000 in
theorem q_488 : Cond.static yX3_isDigit ∈ TB := tb_3 (i := 8) rfl rfl
set_option maxRecDepth 100000 in
theorem q_489 : Cond.code yX3_isDigit prog_5_method_14_code 1 (Option.some Jvm.ClassFile.FieldType.boolean) ∈ TB := tb_3 (i := 9) rfl rfl
set_option maxRecDepth 100000 in
theorem q_490 : Cond.methodLink RX3 80 yX3_readNumber ∈ TB := tb_3 (i := 10) rfl rfl
set_option maxRecDepth 100000 in
theorem q_492 : Cond.instanceMethod yX3_readNumber ∈ TB := tb_3 (i := 12) rfl rfl
set_option maxRecDepth 100000 in
theorem q_493 : Cond.code yX3_readNumber prog_5_method_13_code 3 (Option.none : Option Jvm.ClassFile.FieldType) ∈ TB := tb_3 (i := 13) rfl rfl
set_option maxRecDepth 100000 in
theorem q_494 : Cond.methodLink RX3 61 yX3_add ∈ TB := tb_3 (i := 14) rfl rfl
set_option maxRecDepth 100000 in
theorem q_496 : Cond.instanceMethod yX3_add ∈ TB := tb_3 (i := 16) rfl rfl
set_option maxRecDepth 100000 in
theorem q_497 : Cond.code yX3_add prog_5_method_4_code 2 (Option.none : Option Jvm.ClassFile.FieldType) ∈ TB := tb_3 (i := 17) rfl rfl
set_option maxRecDepth 100000 in
theorem q_498 : Cond.methodLink RX3 83 yJ0_indexOf_0f7a4 ∈ TB := tb_3 (i := 18) rfl rfl
set_option maxRecDepth 100000 in
theorem q_499 : Cond.instanceMethod yJ0_indexOf_0f7a4 ∈ TB := tb_3 (i := 19) rfl rfl
set_option maxRecDepth 100000 in
theorem q_500 : Cond.selects RJ0 yJ0_indexOf_0f7a4 yJ0_indexOf_0f7a4 ∈ TB := tb_3 (i := 20) rfl rfl
set_option maxRecDepth 100000 in
theorem q_501 : Cond.code yJ0_indexOf_0f7a4 prog_14_method_79_code 2 (Option.some Jvm.ClassFile.FieldType.int) ∈ TB := tb_3 (i := 21) rfl rfl
set_option maxRecDepth 100000 in
theorem q_502 : Cond.methodLink RJ0 633 yJ0_indexOf_7cf53 ∈ TB := tb_3 (i := 22) rfl rfl
set_option maxRecDepth 100000 in
theorem q_503 : Cond.instanceMethod yJ0_indexOf_7cf53 ∈ TB := tb_3 (i := 23) rfl rfl
set_option maxRecDepth 100000 in
theorem q_504 : Cond.selects RJ0 yJ0_indexOf_7cf53 yJ0_indexOf_7cf53 ∈ TB := tb_3 (i := 24) rfl rfl
set_option maxRecDepth 100000 in
theorem q_505 : Cond.code yJ0_indexOf_7cf53 prog_14_method_80_code 3 (Option.some Jvm.ClassFile.FieldType.int) ∈ TB := tb_3 (i := 25) rfl rfl
set_option maxRecDepth 100000 in
theorem q_506 : Cond.methodLink RJ0 492 yJ0_isLatin1_aae02 ∈ TB := tb_3 (i := 26) rfl rfl
set_option maxRecDepth 100000 in
theorem q_507 : Cond.instanceMethod yJ0_isLatin1_aae02 ∈ TB := tb_3 (i := 27) rfl rfl
set_option maxRecDepth 100000 in
theorem q_508 : Cond.selects RJ0 yJ0_isLatin1_aae02 yJ0_isLatin1_aae02 ∈ TB := tb_3 (i := 28) rfl rfl
set_option maxRecDepth 100000 in
theorem q_509 : Cond.code yJ0_isLatin1_aae02 prog_14_method_154_code 1 (Option.some Jvm.ClassFile.FieldType.boolean) ∈ TB := tb_3 (i := 29) rfl rfl
set_option maxRecDepth 100000 in
theorem q_510 : Cond.fieldLink RJ0 38 RJ0 "COMPACT_STRINGS" "Z" ∈ TB := tb_3 (i := 30) rfl rfl
set_option maxRecDepth 100000 in
theorem q_512 : Cond.methodLink RJ0 505 yJ0_length_8abf5 ∈ TB := tb_3 (i := 32) rfl rfl
set_option maxRecDepth 100000 in
theorem q_513 : Cond.instanceMethod yJ0_length_8abf5 ∈ TB := tb_3 (i := 33) rfl rfl
set_option maxRecDepth 100000 in
theorem q_514 : Cond.selects RJ0 yJ0_length_8abf5 yJ0_length_8abf5 ∈ TB := tb_3 (i := 34) rfl rfl
set_option maxRecDepth 100000 in
theorem q_515 : Cond.code yJ0_length_8abf5 prog_14_method_54_code 1 (Option.some Jvm.ClassFile.FieldType.int) ∈ TB := tb_3 (i := 35) rfl rfl
set_option maxRecDepth 100000 in
theorem q_516 : Cond.methodLink RJ0 335 yJ0_coder_7d493 ∈ TB := tb_3 (i := 36) rfl rfl
set_option maxRecDepth 100000 in
theorem q_517 : Cond.instanceMethod yJ0_coder_7d493 ∈ TB := tb_3 (i := 37) rfl rfl
set_option maxRecDepth 100000 in
theorem q_518 : Cond.selects RJ0 yJ0_coder_7d493 yJ0_coder_7d493 ∈ TB := tb_3 (i := 38) rfl rfl
set_option maxRecDepth 100000 in
theorem q_519 : Cond.code yJ0_coder_7d493 prog_14_method_152_code 1 (Option.some Jvm.ClassFile.FieldType.byte) ∈ TB := tb_3 (i := 39) rfl rfl
set_option maxRecDepth 100000 in
theorem q_520 : Cond.methodLink RJ0 637 yJ1_indexOf_4cfef ∈ TB := tb_3 (i := 40) rfl rfl
set_option maxRecDepth 100000 in
theorem q_521 : Cond.static yJ1_indexOf_4cfef ∈ TB := tb_3 (i := 41) rfl rfl
set_option maxRecDepth 100000 in
theorem q_522 : Cond.code yJ1_indexOf_4cfef prog_15_method_22_code 4 (Option.some Jvm.ClassFile.FieldType.int) ∈ TB := tb_3 (i := 42) rfl rfl
set_option maxRecDepth 100000 in
theorem q_523 : Cond.methodLink RJ1 88 yJ1_canEncode_9a6ad ∈ TB := tb_3 (i := 43) rfl rfl
set_option maxRecDepth 100000 in
theorem q_524 : Cond.static yJ1_canEncode_9a6ad ∈ TB := tb_3 (i := 44) rfl rfl
set_option maxRecDepth 100000 in
theorem q_525 : Cond.code yJ1_canEncode_9a6ad prog_15_method_4_code 1 (Option.some Jvm.ClassFile.FieldType.boolean) ∈ TB := tb_3 (i := 45) rfl rfl
set_option maxRecDepth 100000 in
theorem q_526 : Cond.methodLink RJ1 92 yJ9_max_7cf53 ∈ TB := tb_3 (i := 46) rfl rfl
set_option maxRecDepth 100000 in
theorem q_527 : Cond.methodLink RJ1 38 yJ9_min_7cf53 ∈ TB := tb_3 (i := 47) rfl rfl
set_option maxRecDepth 100000 in
theorem q_528 : Cond.methodLink RJ1 95 yJ1_indexOfChar_4cfef ∈ TB := tb_3 (i := 48) rfl rfl
set_option maxRecDepth 100000 in
theorem q_529 : Cond.static yJ1_indexOfChar_4cfef ∈ TB := tb_3 (i := 49) rfl rfl
set_option maxRecDepth 100000 in
theorem q_530 : Cond.code yJ1_indexOfChar_4cfef prog_15_method_23_code 6 (Option.some Jvm.ClassFile.FieldType.int) ∈ TB := tb_3 (i := 50) rfl rfl
set_option maxRecDepth 100000 in
theorem q_531 : Cond.methodLink RJ0 640 yJ2_indexOf_4cfef ∈ TB := tb_3 (i := 51) rfl rfl
set_option maxRecDepth 100000 in
theorem q_532 : Cond.static yJ2_indexOf_4cfef ∈ TB := tb_3 (i := 52) rfl rfl
set_option maxRecDepth 100000 in
theorem q_533 : Cond.code yJ2_indexOf_4cfef prog_16_method_40_code 4 (Option.some Jvm.ClassFile.FieldType.int) ∈ TB := tb_3 (i := 53) rfl rfl
set_option maxRecDepth 100000 in
theorem q_534 : Cond.methodLink RJ2 224 yJ9_max_7cf53 ∈ TB := tb_3 (i := 54) rfl rfl
set_option maxRecDepth 100000 in
theorem q_535 : Cond.methodLink RJ2 183 yJ9_min_7cf53 ∈ TB := tb_3 (i := 55) rfl rfl
set_option maxRecDepth 100000 in
theorem q_536 : Cond.constant RJ2 227 65536 ∈ TB := tb_3 (i := 56) rfl rfl
set_option maxRecDepth 100000 in
theorem q_537 : Cond.methodLink RJ2 228 yJ2_indexOfChar_4cfef ∈ TB := tb_3 (i := 57) rfl rfl
set_option maxRecDepth 100000 in
theorem q_538 : Cond.static yJ2_indexOfChar_4cfef ∈ TB := tb_3 (i := 58) rfl rfl
set_option maxRecDepth 100000 in
theorem q_539 : Cond.code yJ2_indexOfChar_4cfef prog_16_method_47_code 4 (Option.some Jvm.ClassFile.FieldType.int) ∈ TB := tb_3 (i := 59) rfl rfl
set_option maxRecDepth 100000 in
theorem q_540 : Cond.methodLink RJ2 96 yJ2_checkBoundsBeginEnd_d044e ∈ TB := tb_3 (i := 60) rfl rfl
set_option maxRecDepth 100000 in
theorem q_541 : Cond.static yJ2_checkBoundsBeginEnd_d044e ∈ TB := tb_3 (i := 61) rfl rfl
set_option maxRecDepth 100000 in
theorem q_542 : Cond.code yJ2_checkBoundsBeginEnd_d044e prog_16_method_93_code 3 (Option.none : Option Jvm.ClassFile.FieldType) ∈ TB := tb_3 (i := 62) rfl rfl
set_option maxRecDepth 100000 in
theorem q_543 : Cond.methodLink RJ2 48 yJ2_length_9d52b ∈ TB := tb_3 (i := 63) rfl rfl
set_option maxRecDepth 100000 in
theorem q_544 : Cond.static yJ2_length_9d52b ∈ TB := tb_3 (i := 64) rfl rfl
set_option maxRecDepth 100000 in
theorem q_545 : Cond.code yJ2_length_9d52b prog_16_method_6_code 1 (Option.some Jvm.ClassFile.FieldType.int) ∈ TB := tb_3 (i := 65) rfl rfl
set_option maxRecDepth 100000 in
theorem q_546 : Cond.methodLink RJ2 241 yJ0_checkBoundsBeginEnd_23922 ∈ TB := tb_3 (i := 66) rfl rfl
set_option maxRecDepth 100000 in
theorem q_547 : Cond.static yJ0_checkBoundsBeginEnd_23922 ∈ TB := tb_3 (i := 67) rfl rfl
set_option maxRecDepth 100000 in
theorem q_548 : Cond.code yJ0_checkBoundsBeginEnd_23922 prog_14_method_158_code 3 (Option.none : Option Jvm.ClassFile.FieldType) ∈ TB := tb_3 (i := 68) rfl rfl
set_option maxRecDepth 100000 in
theorem q_549 : Cond.fieldLink RJ0 1053 RJ3 "SIOOBE_FORMATTER" "Ljava/util/function/BiFunction;" ∈ TB := tb_3 (i := 69) rfl rfl
set_option maxRecDepth 100000 in
theorem q_551 : Cond.methodLink RJ0 1062 yJ3_checkFromToIndex_8c36e ∈ TB := tb_3 (i := 71) rfl rfl
set_option maxRecDepth 100000 in
theorem q_552 : Cond.static yJ3_checkFromToIndex_8c36e ∈ TB := tb_3 (i := 72) rfl rfl
set_option maxRecDepth 100000 in
theorem q_553 : Cond.code yJ3_checkFromToIndex_8c36e prog_18_method_12_code 4 (Option.some Jvm.ClassFile.FieldType.int) ∈ TB := tb_3 (i := 73) rfl rfl
set_option maxRecDepth 100000 in
theorem q_554 : Cond.methodLink RJ2 244 yJ2_indexOfCharUnsafe_4cfef ∈ TB := tb_3 (i := 74) rfl rfl
set_option maxRecDepth 100000 in
theorem q_555 : Cond.static yJ2_indexOfCharUnsafe_4cfef ∈ TB := tb_3 (i := 75) rfl rfl
set_option maxRecDepth 100000 in
theorem q_556 : Cond.code yJ2_indexOfCharUnsafe_4cfef prog_16_method_48_code 5 (Option.some Jvm.ClassFile.FieldType.int) ∈ TB := tb_3 (i := 76) rfl rfl
set_option maxRecDepth 100000 in
theorem q_557 : Cond.methodLink RJ2 71 yJ2_getChar_3b067 ∈ TB := tb_3 (i := 77) rfl rfl
set_option maxRecDepth 100000 in
theorem q_558 : Cond.static yJ2_getChar_3b067 ∈ TB := tb_3 (i := 78) rfl rfl
set_option maxRecDepth 100000 in
theorem q_559 : Cond.code yJ2_getChar_3b067 prog_16_method_5_code 2 (Option.some Jvm.ClassFile.FieldType.char) ∈ TB := tb_3 (i := 79) rfl rfl
set_option maxRecDepth 100000 in
theorem q_560 : Cond.fieldLink RJ2 44 RJ2 "$assertionsDisabled" "Z" ∈ TB := tb_3 (i := 80) rfl rfl
set_option maxRecDepth 100000 in
theorem q_562 : Cond.fieldLink RJ2 59 RJ2 "HI_BYTE_SHIFT" "I" ∈ TB := tb_3 (i := 82) rfl rfl
set_option maxRecDepth 100000 in
theorem q_564 : Cond.fieldLink RJ2 63 RJ2 "LO_BYTE_SHIFT" "I" ∈ TB := tb_3 (i := 84) rfl rfl
set_option maxRecDepth 100000 in
theorem q_566 : Cond.methodLink RJ2 232 yJ2_indexOfSupplementary_4cfef ∈ TB := tb_3 (i := 86) rfl rfl
set_option maxRecDepth 100000 in
theorem q_567 : Cond.static yJ2_indexOfSupplementary_4cfef ∈ TB := tb_3 (i := 87) rfl rfl
set_option maxRecDepth 100000 in
theorem q_568 : Cond.code yJ2_indexOfSupplementary_4cfef prog_16_method_49_code 7 (Option.some Jvm.ClassFile.FieldType.int) ∈ TB := tb_3 (i := 88) rfl rfl
set_option maxRecDepth 100000 in
theorem q_569 : Cond.methodLink RJ2 164 yJ11_isValidCodePoint_9a6ad ∈ TB := tb_3 (i := 89) rfl rfl
set_option maxRecDepth 100000 in
theorem q_570 : Cond.static yJ11_isValidCodePoint_9a6ad ∈ TB := tb_3 (i := 90) rfl rfl
set_option maxRecDepth 100000 in
theorem q_571 : Cond.code yJ11_isValidCodePoint_9a6ad prog_12_method_11_code 2 (Option.some Jvm.ClassFile.FieldType.boolean) ∈ TB := tb_3 (i := 91) rfl rfl
set_option maxRecDepth 100000 in
theorem q_572 : Cond.methodLink RJ2 157 yJ11_highSurrogate_5068e ∈ TB := tb_3 (i := 92) rfl rfl
set_option maxRecDepth 100000 in
theorem q_573 : Cond.static yJ11_highSurrogate_5068e ∈ TB := tb_3 (i := 93) rfl rfl
set_option maxRecDepth 100000 in
theorem q_574 : Cond.code yJ11_highSurrogate_5068e prog_12_method_28_code 1 (Option.some Jvm.ClassFile.FieldType.char) ∈ TB := tb_3 (i := 94) rfl rfl
set_option maxRecDepth 100000 in
theorem q_575 : Cond.constant RJ11 110 55232 ∈ TB := tb_3 (i := 95) rfl rfl
set_option maxRecDepth 100000 in
theorem q_576 : Cond.methodLink RJ2 161 yJ11_lowSurrogate_5068e ∈ TB := tb_3 (i := 96) rfl rfl
set_option maxRecDepth 100000 in
theorem q_577 : Cond.static yJ11_lowSurrogate_5068e ∈ TB := tb_3 (i := 97) rfl rfl
set_option maxRecDepth 100000 in
theorem q_578 : Cond.code yJ11_lowSurrogate_5068e prog_12_method_29_code 1 (Option.some Jvm.ClassFile.FieldType.char) ∈ TB := tb_3 (i := 98) rfl rfl
set_option maxRecDepth 100000 in
theorem q_579 : Cond.constant RJ11 76 56320 ∈ TB := tb_3 (i := 99) rfl rfl
set_option maxRecDepth 100000 in
theorem q_580 : Cond.methodLink RX3 89 yX3_readNot ∈ TB := tb_3 (i := 100) rfl rfl
set_option maxRecDepth 100000 in
theorem q_582 : Cond.instanceMethod yX3_readNot ∈ TB := tb_3 (i := 102) rfl rfl
set_option maxRecDepth 100000 in
theorem q_583 : Cond.code yX3_readNot prog_5_method_11_code 2 (Option.some Jvm.ClassFile.FieldType.boolean) ∈ TB := tb_3 (i := 103) rfl rfl
set_option maxRecDepth 100000 in
theorem q_584 : Cond.methodLink RX3 92 yX3_readBracket ∈ TB := tb_3 (i := 104) rfl rfl
set_option maxRecDepth 100000 in
theorem q_586 : Cond.instanceMethod yX3_readBracket ∈ TB := tb_3 (i := 106) rfl rfl
set_option maxRecDepth 100000 in
theorem q_587 : Cond.code yX3_readBracket prog_5_method_12_code 2 (Option.some Jvm.ClassFile.FieldType.boolean) ∈ TB := tb_3 (i := 107) rfl rfl
set_option maxRecDepth 100000 in
theorem q_588 : Cond.methodLink RX8 157 yX1_take ∈ TB := tb_3 (i := 108) rfl rfl
set_option maxRecDepth 100000 in
theorem q_589 : Cond.instanceMethod yX1_take ∈ TB := tb_3 (i := 109) rfl rfl
set_option maxRecDepth 100000 in
theorem q_590 : Cond.selects RX1 yX1_take yX1_take ∈ TB := tb_3 (i := 110) rfl rfl
set_option maxRecDepth 100000 in
theorem q_591 : Cond.code yX1_take prog_3_method_2_code 2 (Option.none : Option Jvm.ClassFile.FieldType) ∈ TB := tb_3 (i := 111) rfl rfl
set_option maxRecDepth 100000 in
theorem q_592 : Cond.methodLink RX1 31 arraycopyName ∈ TB := tb_3 (i := 112) rfl rfl
set_option maxRecDepth 100000 in
theorem q_593 : Cond.methodLink RL 67 yX8_law ∈ TB := tb_3 (i := 113) rfl rfl
set_option maxRecDepth 100000 in
theorem q_594 : Cond.instanceMethod yX8_law ∈ TB := tb_3 (i := 114) rfl rfl
set_option maxRecDepth 100000 in
theorem q_595 : Cond.selects RX8 yX8_law yX8_law ∈ TB := tb_3 (i := 115) rfl rfl
set_option maxRecDepth 100000 in
theorem q_596 : Cond.code yX8_law prog_1_method_14_code 6 (Option.some Jvm.ClassFile.FieldType.int) ∈ TB := tb_3 (i := 116) rfl rfl
set_option maxRecDepth 100000 in
theorem q_597 : Cond.methodLink RX8 163 yX1_give ∈ TB := tb_3 (i := 117) rfl rfl
set_option maxRecDepth 100000 in
theorem q_598 : Cond.methodLink RL 72 yX8_where ∈ TB := tb_3 (i := 118) rfl rfl
set_option maxRecDepth 100000 in
theorem q_599 : Cond.instanceMethod yX8_where ∈ TB := tb_3 (i := 119) rfl rfl
set_option maxRecDepth 100000 in
theorem q_600 : Cond.selects RX8 yX8_where yX8_where ∈ TB := tb_3 (i := 120) rfl rfl
set_option maxRecDepth 100000 in
theorem q_601 : Cond.code yX8_where prog_1_method_15_code 4 (Option.some Jvm.ClassFile.FieldType.int) ∈ TB := tb_3 (i := 121) rfl rfl
set_option maxRecDepth 100000 in
theorem q_602 : Cond.methodLink RX8 167 yX5_feel ∈ TB := tb_3 (i := 122) rfl rfl
set_option maxRecDepth 100000 in
theorem q_603 : Cond.instanceMethod yX5_feel ∈ TB := tb_3 (i := 123) rfl rfl
set_option maxRecDepth 100000 in
theorem q_604 : Cond.selects RX5 yX5_feel yX5_feel ∈ TB := tb_3 (i := 124) rfl rfl
set_option maxRecDepth 100000 in
theorem q_605 : Cond.code yX5_feel prog_7_method_2_code 4 (Option.none : Option Jvm.ClassFile.FieldType) ∈ TB := tb_3 (i := 125) rfl rfl
set_option maxRecDepth 100000 in
theorem q_606 : Cond.methodLink RX5 31 yX0_flowOf ∈ TB := tb_3 (i := 126) rfl rfl
set_option maxRecDepth 100000 in
theorem q_607 : Cond.methodLink RX8 171 yX5_placeBehind ∈ TB := tb_3 (i := 127) rfl rfl
set_option maxRecDepth 100000 in
theorem q_608 : Cond.instanceMethod yX5_placeBehind ∈ TB := tb_3 (i := 128) rfl rfl
set_option maxRecDepth 100000 in
theorem q_609 : Cond.selects RX5 yX5_placeBehind yX5_placeBehind ∈ TB := tb_3 (i := 129) rfl rfl
set_option maxRecDepth 100000 in
theorem q_610 : Cond.code yX5_placeBehind prog_7_method_5_code 5 (Option.some Jvm.ClassFile.FieldType.int) ∈ TB := tb_3 (i := 130) rfl rfl
set_option maxRecDepth 100000 in
theorem q_611 : Cond.methodLink RX5 60 yX6_shore ∈ TB := tb_3 (i := 131) rfl rfl
set_option maxRecDepth 100000 in
theorem q_612 : Cond.instanceMethod yX6_shore ∈ TB := tb_3 (i := 132) rfl rfl
set_option maxRecDepth 100000 in
theorem q_613 : Cond.selects RX6 yX6_shore yX6_shore ∈ TB := tb_3 (i := 133) rfl rfl
set_option maxRecDepth 100000 in
theorem q_614 : Cond.code yX6_shore prog_8_method_6_code 1 (Option.some Jvm.ClassFile.FieldType.int) ∈ TB := tb_3 (i := 134) rfl rfl
set_option maxRecDepth 100000 in
theorem q_615 : Cond.methodLink RX5 64 yX5_placeNext ∈ TB := tb_3 (i := 135) rfl rfl
set_option maxRecDepth 100000 in
theorem q_616 : Cond.instanceMethod yX5_placeNext ∈ TB := tb_3 (i := 136) rfl rfl
set_option maxRecDepth 100000 in
theorem q_617 : Cond.selects RX5 yX5_placeNext yX5_placeNext ∈ TB := tb_3 (i := 137) rfl rfl
set_option maxRecDepth 100000 in
theorem q_618 : Cond.code yX5_placeNext prog_7_method_4_code 6 (Option.some Jvm.ClassFile.FieldType.int) ∈ TB := tb_3 (i := 138) rfl rfl
set_option maxRecDepth 100000 in
theorem q_619 : Cond.methodLink RX5 41 yX6_paceIn ∈ TB := tb_3 (i := 139) rfl rfl
set_option maxRecDepth 100000 in
theorem q_620 : Cond.methodLink RX5 50 yX6_laneIn ∈ TB := tb_3 (i := 140) rfl rfl
set_option maxRecDepth 100000 in
theorem q_621 : Cond.instanceMethod yX6_laneIn ∈ TB := tb_3 (i := 141) rfl rfl
set_option maxRecDepth 100000 in
theorem q_622 : Cond.selects RX6 yX6_laneIn yX6_laneIn ∈ TB := tb_3 (i := 142) rfl rfl
set_option maxRecDepth 100000 in
theorem q_623 : Cond.code yX6_laneIn prog_8_method_8_code 3 (Option.some Jvm.ClassFile.FieldType.int) ∈ TB := tb_3 (i := 143) rfl rfl
set_option maxRecDepth 100000 in
theorem q_624 : Cond.methodLink RX6 44 yX6_laneOf ∈ TB := tb_3 (i := 144) rfl rfl
set_option maxRecDepth 100000 in
theorem q_625 : Cond.methodLink RX5 53 yX5_flowIn ∈ TB := tb_3 (i := 145) rfl rfl
set_option maxRecDepth 100000 in
theorem q_626 : Cond.instanceMethod yX5_flowIn ∈ TB := tb_3 (i := 146) rfl rfl
set_option maxRecDepth 100000 in
theorem q_627 : Cond.selects RX5 yX5_flowIn yX5_flowIn ∈ TB := tb_3 (i := 147) rfl rfl
set_option maxRecDepth 100000 in
theorem q_628 : Cond.code yX5_flowIn prog_7_method_3_code 2 (Option.some Jvm.ClassFile.FieldType.int) ∈ TB := tb_3 (i := 148) rfl rfl
set_option maxRecDepth 100000 in
theorem q_631 : Cond.methodLink RL 76 yX8_meet ∈ TB := tb_3 (i := 151) rfl rfl
set_option maxRecDepth 100000 in
theorem q_632 : Cond.instanceMethod yX8_meet ∈ TB := tb_3 (i := 152) rfl rfl
set_option maxRecDepth 100000 in
theorem q_633 : Cond.selects RX8 yX8_meet yX8_meet ∈ TB := tb_3 (i := 153) rfl rfl
set_option maxRecDepth 100000 in
theorem q_634 : Cond.code yX8_meet prog_1_method_16_code 6 (Option.some Jvm.ClassFile.FieldType.int) ∈ TB := tb_3 (i := 154) rfl rfl
set_option maxRecDepth 100000 in
theorem q_635 : Cond.methodLink RX8 175 yX8_areUnlike ∈ TB := tb_3 (i := 155) rfl rfl
set_option maxRecDepth 100000 in
theorem q_636 : Cond.static yX8_areUnlike ∈ TB := tb_3 (i := 156) rfl rfl
set_option maxRecDepth 100000 in
theorem q_637 : Cond.code yX8_areUnlike prog_1_method_50_code 2 (Option.some Jvm.ClassFile.FieldType.boolean) ∈ TB := tb_3 (i := 157) rfl rfl
set_option maxRecDepth 100000 in
theorem q_638 : Cond.methodLink RX8 179 yX5_meets ∈ TB := tb_3 (i := 158) rfl rfl
set_option maxRecDepth 100000 in
theorem q_639 : Cond.instanceMethod yX5_meets ∈ TB := tb_3 (i := 159) rfl rfl
set_option maxRecDepth 100000 in
theorem q_640 : Cond.selects RX5 yX5_meets yX5_meets ∈ TB := tb_3 (i := 160) rfl rfl
set_option maxRecDepth 100000 in
theorem q_641 : Cond.code yX5_meets prog_7_method_6_code 5 (Option.some Jvm.ClassFile.FieldType.boolean) ∈ TB := tb_3 (i := 161) rfl rfl
set_option maxRecDepth 100000 in
theorem q_642 : Cond.methodLink RX5 68 yX5_begin ∈ TB := tb_3 (i := 162) rfl rfl
set_option maxRecDepth 100000 in
theorem q_644 : Cond.instanceMethod yX5_begin ∈ TB := tb_3 (i := 164) rfl rfl
set_option maxRecDepth 100000 in
theorem q_645 : Cond.code yX5_begin prog_7_method_8_code 3 (Option.none : Option Jvm.ClassFile.FieldType) ∈ TB := tb_3 (i := 165) rfl rfl
set_option maxRecDepth 100000 in
theorem q_646 : Cond.methodLink RX5 72 yX5_gap ∈ TB := tb_3 (i := 166) rfl rfl
set_option maxRecDepth 100000 in
theorem q_648 : Cond.instanceMethod yX5_gap ∈ TB := tb_3 (i := 168) rfl rfl
set_option maxRecDepth 100000 in
theorem q_649 : Cond.code yX5_gap prog_7_method_9_code 2 (Option.some Jvm.ClassFile.FieldType.int) ∈ TB := tb_3 (i := 169) rfl rfl
set_option maxRecDepth 100000 in
theorem q_650 : Cond.methodLink RL 80 yX8_year ∈ TB := tb_3 (i := 170) rfl rfl
set_option maxRecDepth 100000 in
theorem q_651 : Cond.instanceMethod yX8_year ∈ TB := tb_3 (i := 171) rfl rfl
set_option maxRecDepth 100000 in
theorem q_652 : Cond.selects RX8 yX8_year yX8_year ∈ TB := tb_3 (i := 172) rfl rfl
set_option maxRecDepth 100000 in
theorem q_653 : Cond.code yX8_year prog_1_method_17_code 4 (Option.some Jvm.ClassFile.FieldType.int) ∈ TB := tb_3 (i := 173) rfl rfl
set_option maxRecDepth 100000 in
theorem q_654 : Cond.methodLink RX8 192 yX8_whyNoYear ∈ TB := tb_3 (i := 174) rfl rfl
set_option maxRecDepth 100000 in
theorem q_656 : Cond.instanceMethod yX8_whyNoYear ∈ TB := tb_3 (i := 176) rfl rfl
set_option maxRecDepth 100000 in
theorem q_657 : Cond.code yX8_whyNoYear prog_1_method_43_code 3 (Option.some Jvm.ClassFile.FieldType.int) ∈ TB := tb_3 (i := 177) rfl rfl
set_option maxRecDepth 100000 in
theorem q_658 : Cond.methodLink RX8 195 yX8_letYearGoBy ∈ TB := tb_3 (i := 178) rfl rfl
set_option maxRecDepth 100000 in
theorem q_660 : Cond.instanceMethod yX8_letYearGoBy ∈ TB := tb_3 (i := 180) rfl rfl
set_option maxRecDepth 100000 in
theorem q_661 : Cond.code yX8_letYearGoBy prog_1_method_44_code 5 (Option.none : Option Jvm.ClassFile.FieldType) ∈ TB := tb_3 (i := 181) rfl rfl
set_option maxRecDepth 100000 in
theorem q_662 : Cond.methodLink RX8 311 yX0_share ∈ TB := tb_3 (i := 182) rfl rfl
set_option maxRecDepth 100000 in
theorem q_663 : Cond.instanceMethod yX0_share ∈ TB := tb_3 (i := 183) rfl rfl
set_option maxRecDepth 100000 in
theorem q_664 : Cond.selects RX0 yX0_share yX0_share ∈ TB := tb_3 (i := 184) rfl rfl
set_option maxRecDepth 100000 in
theorem q_665 : Cond.code yX0_share prog_2_method_7_code 2 (Option.none : Option Jvm.ClassFile.FieldType) ∈ TB := tb_3 (i := 185) rfl rfl
set_option maxRecDepth 100000 in
theorem q_666 : Cond.constant RX0 80 999999 ∈ TB := tb_3 (i := 186) rfl rfl
set_option maxRecDepth 100000 in
theorem q_667 : Cond.methodLink RX0 81 yJ9_min_7cf53 ∈ TB := tb_3 (i := 187) rfl rfl
set_option maxRecDepth 100000 in
theorem q_668 : Cond.methodLink RL 84 yX8_loose ∈ TB := tb_3 (i := 188) rfl rfl
set_option maxRecDepth 100000 in
theorem q_669 : Cond.instanceMethod yX8_loose ∈ TB := tb_3 (i := 189) rfl rfl
set_option maxRecDepth 100000 in
theorem q_670 : Cond.selects RX8 yX8_loose yX8_loose ∈ TB := tb_3 (i := 190) rfl rfl
set_option maxRecDepth 100000 in
theorem q_671 : Cond.code yX8_loose prog_1_method_18_code 4 (Option.some Jvm.ClassFile.FieldType.int) ∈ TB := tb_3 (i := 191) rfl rfl
set_option maxRecDepth 100000 in
theorem q_672 : Cond.methodLink RX8 198 yX0_draw ∈ TB := tb_3 (i := 192) rfl rfl
set_option maxRecDepth 100000 in
theorem q_673 : Cond.instanceMethod yX0_draw ∈ TB := tb_3 (i := 193) rfl rfl
set_option maxRecDepth 100000 in
theorem q_674 : Cond.selects RX0 yX0_draw yX0_draw ∈ TB := tb_3 (i := 194) rfl rfl
set_option maxRecDepth 100000 in
theorem q_675 : Cond.code yX0_draw prog_2_method_6_code 1 (Option.some Jvm.ClassFile.FieldType.int) ∈ TB := tb_3 (i := 195) rfl rfl
set_option maxRecDepth 100000 in
theorem q_676 : Cond.constant RX0 79 1103515245 ∈ TB := tb_3 (i := 196) rfl rfl
set_option maxRecDepth 100000 in
theorem q_677 : Cond.methodLink RL 88 yX8_bestPlan ∈ TB := tb_3 (i := 197) rfl rfl
set_option maxRecDepth 100000 in
theorem q_678 : Cond.instanceMethod yX8_bestPlan ∈ TB := tb_3 (i := 198) rfl rfl
set_option maxRecDepth 100000 in
theorem q_679 : Cond.selects RX8 yX8_bestPlan yX8_bestPlan ∈ TB := tb_3 (i := 199) rfl rfl
set_option maxRecDepth 100000 in
theorem q_680 : Cond.code yX8_bestPlan prog_1_method_19_code 6 (Option.some Jvm.ClassFile.FieldType.int) ∈ TB := tb_3 (i := 200) rfl rfl
set_option maxRecDepth 100000 in
theorem q_681 : Cond.methodLink RX8 202 yX2_seek ∈ TB := tb_3 (i := 201) rfl rfl
set_option maxRecDepth 100000 in
theorem q_682 : Cond.instanceMethod yX2_seek ∈ TB := tb_3 (i := 202) rfl rfl
set_option maxRecDepth 100000 in
theorem q_683 : Cond.selects RX2 yX2_seek yX2_seek ∈ TB := tb_3 (i := 203) rfl rfl
set_option maxRecDepth 100000 in
theorem q_684 : Cond.code yX2_seek prog_4_method_3_code 7 (Option.none : Option Jvm.ClassFile.FieldType) ∈ TB := tb_3 (i := 204) rfl rfl
set_option maxRecDepth 100000 in
theorem q_685 : Cond.methodLink RX2 47 yX6_copy ∈ TB := tb_3 (i := 205) rfl rfl
set_option maxRecDepth 100000 in
theorem q_686 : Cond.instanceMethod yX6_copy ∈ TB := tb_3 (i := 206) rfl rfl
set_option maxRecDepth 100000 in
theorem q_687 : Cond.selects RX6 yX6_copy yX6_copy ∈ TB := tb_3 (i := 207) rfl rfl
set_option maxRecDepth 100000 in
theorem q_688 : Cond.code yX6_copy prog_8_method_5_code 2 (Option.none : Option Jvm.ClassFile.FieldType) ∈ TB := tb_3 (i := 208) rfl rfl
set_option maxRecDepth 100000 in
theorem q_689 : Cond.methodLink RX6 38 arraycopyName ∈ TB := tb_3 (i := 209) rfl rfl
set_option maxRecDepth 100000 in
theorem q_690 : Cond.methodLink RX2 51 yX6_shore ∈ TB := tb_3 (i := 210) rfl rfl
set_option maxRecDepth 100000 in
theorem q_691 : Cond.methodLink RX2 55 yX5_placeNext ∈ TB := tb_3 (i := 211) rfl rfl
set_option maxRecDepth 100000 in
theorem q_692 : Cond.methodLink RX2 61 yX2_tryLanes ∈ TB := tb_3 (i := 212) rfl rfl
set_option maxRecDepth 100000 in
theorem q_694 : Cond.instanceMethod yX2_tryLanes ∈ TB := tb_3 (i := 214) rfl rfl
set_option maxRecDepth 100000 in
theorem q_695 : Cond.code yX2_tryLanes prog_4_method_4_code 9 (Option.none : Option Jvm.ClassFile.FieldType) ∈ TB := tb_3 (i := 215) rfl rfl
set_option maxRecDepth 100000 in
theorem q_697 : Cond.methodLink RX2 65 yX6_laneOf ∈ TB := tb_3 (i := 217) rfl rfl
set_option maxRecDepth 100000 in
theorem q_698 : Cond.methodLink RX2 69 yX2_setLane ∈ TB := tb_3 (i := 218) rfl rfl
set_option maxRecDepth 100000 in
theorem q_700 : Cond.instanceMethod yX2_setLane ∈ TB := tb_3 (i := 220) rfl rfl
set_option maxRecDepth 100000 in
theorem q_701 : Cond.code yX2_setLane prog_4_method_5_code 4 (Option.none : Option Jvm.ClassFile.FieldType) ∈ TB := tb_3 (i := 221) rfl rfl
set_option maxRecDepth 100000 in
theorem q_702 : Cond.methodLink RX2 76 yJ9_max_7cf53 ∈ TB := tb_3 (i := 222) rfl rfl
set_option maxRecDepth 100000 in
theorem q_703 : Cond.methodLink RX2 72 yX2_meetsAt ∈ TB := tb_3 (i := 223) rfl rfl
set_option maxRecDepth 100000 in
theorem q_705 : Cond.instanceMethod yX2_meetsAt ∈ TB := tb_3 (i := 225) rfl rfl
set_option maxRecDepth 100000 in
theorem q_706 : Cond.code yX2_meetsAt prog_4_method_6_code 6 (Option.some Jvm.ClassFile.FieldType.boolean) ∈ TB := tb_3 (i := 226) rfl rfl
set_option maxRecDepth 100000 in
theorem q_707 : Cond.methodLink RX2 85 yX6_laneIn ∈ TB := tb_3 (i := 227) rfl rfl
set_option maxRecDepth 100000 in
theorem q_709 : Cond.static yX8_isBetter ∈ TB := tb_3 (i := 229) rfl rfl
set_option maxRecDepth 100000 in
theorem q_710 : Cond.code yX8_isBetter prog_1_method_51_code 3 (Option.some Jvm.ClassFile.FieldType.boolean) ∈ TB := tb_3 (i := 230) rfl rfl
set_option maxRecDepth 100000 in
theorem q_711 : Cond.methodLink RX2 94 arraycopyName ∈ TB := tb_3 (i := 231) rfl rfl
set_option maxRecDepth 100000 in
theorem q_712 : Cond.methodLink RX8 211 yX2_bestLane ∈ TB := tb_3 (i := 232) rfl rfl
set_option maxRecDepth 100000 in
theorem q_713 : Cond.instanceMethod yX2_bestLane ∈ TB := tb_3 (i := 233) rfl rfl
set_option maxRecDepth 100000 in
theorem q_714 : Cond.selects RX2 yX2_bestLane yX2_bestLane ∈ TB := tb_3 (i := 234) rfl rfl
set_option maxRecDepth 100000 in
theorem q_715 : Cond.code yX2_bestLane prog_4_method_2_code 2 (Option.some Jvm.ClassFile.FieldType.int) ∈ TB := tb_3 (i := 235) rfl rfl
set_option maxRecDepth 100000 in
theorem q_716 : Cond.methodLink RL 92 yX8_hold ∈ TB := tb_3 (i := 236) rfl rfl
set_option maxRecDepth 100000 in
theorem q_717 : Cond.instanceMethod yX8_hold ∈ TB := tb_3 (i := 237) rfl rfl
set_option maxRecDepth 100000 in
theorem q_718 : Cond.selects RX8 yX8_hold yX8_hold ∈ TB := tb_3 (i := 238) rfl rfl
set_option maxRecDepth 100000 in
theorem q_719 : Cond.code yX8_hold prog_1_method_20_code 10 (Option.some Jvm.ClassFile.FieldType.int) ∈ TB := tb_3 (i := 239) rfl rfl
set_option maxRecDepth 100000 in
theorem q_720 : Cond.methodLink RX8 214 yX8_worstPlaceIn ∈ TB := tb_4 (i := 0) rfl rfl
set_option maxRecDepth 100000 in
theorem q_722 : Cond.instanceMethod yX8_worstPlaceIn ∈ TB := tb_4 (i := 2) rfl rfl
set_option maxRecDepth 100000 in
theorem q_723 : Cond.code yX8_worstPlaceIn prog_1_method_46_code 5 (Option.some Jvm.ClassFile.FieldType.int) ∈ TB := tb_4 (i := 3) rfl rfl
set_option maxRecDepth 100000 in
theorem q_724 : Cond.methodLink RX8 225 yX8_meetInLane ∈ TB := tb_4 (i := 4) rfl rfl
set_option maxRecDepth 100000 in
theorem q_726 : Cond.instanceMethod yX8_meetInLane ∈ TB := tb_4 (i := 6) rfl rfl
set_option maxRecDepth 100000 in
theorem q_727 : Cond.code yX8_meetInLane prog_1_method_45_code 4 (Option.some Jvm.ClassFile.FieldType.boolean) ∈ TB := tb_4 (i := 7) rfl rfl
set_option maxRecDepth 100000 in
theorem q_728 : Cond.methodLink RX8 229 yX6_copy ∈ TB := tb_4 (i := 8) rfl rfl
set_option maxRecDepth 100000 in
theorem q_729 : Cond.methodLink RX8 314 yX6_keepTo ∈ TB := tb_4 (i := 9) rfl rfl
set_option maxRecDepth 100000 in
theorem q_730 : Cond.methodLink RX8 218 yX8_isBetter ∈ TB := tb_4 (i := 10) rfl rfl
set_option maxRecDepth 100000 in
theorem q_731 : Cond.methodLink RL 96 yX8_ask ∈ TB := tb_4 (i := 11) rfl rfl
set_option maxRecDepth 100000 in
theorem q_732 : Cond.instanceMethod yX8_ask ∈ TB := tb_4 (i := 12) rfl rfl
set_option maxRecDepth 100000 in
theorem q_733 : Cond.selects RX8 yX8_ask yX8_ask ∈ TB := tb_4 (i := 13) rfl rfl
set_option maxRecDepth 100000 in
theorem q_734 : Cond.code yX8_ask prog_1_method_21_code 9 (Option.some Jvm.ClassFile.FieldType.int) ∈ TB := tb_4 (i := 14) rfl rfl
set_option maxRecDepth 100000 in
theorem q_735 : Cond.methodLink RL 100 yX8_leastSight ∈ TB := tb_4 (i := 15) rfl rfl
set_option maxRecDepth 100000 in
theorem q_736 : Cond.instanceMethod yX8_leastSight ∈ TB := tb_4 (i := 16) rfl rfl
set_option maxRecDepth 100000 in
theorem q_737 : Cond.selects RX8 yX8_leastSight yX8_leastSight ∈ TB := tb_4 (i := 17) rfl rfl
set_option maxRecDepth 100000 in
theorem q_738 : Cond.code yX8_leastSight prog_1_method_22_code 6 (Option.some Jvm.ClassFile.FieldType.int) ∈ TB := tb_4 (i := 18) rfl rfl
set_option maxRecDepth 100000 in
theorem q_739 : Cond.methodLink RX8 221 yX5_leastGap ∈ TB := tb_4 (i := 19) rfl rfl
set_option maxRecDepth 100000 in
theorem q_740 : Cond.instanceMethod yX5_leastGap ∈ TB := tb_4 (i := 20) rfl rfl
set_option maxRecDepth 100000 in
theorem q_741 : Cond.selects RX5 yX5_leastGap yX5_leastGap ∈ TB := tb_4 (i := 21) rfl rfl
set_option maxRecDepth 100000 in
theorem q_742 : Cond.code yX5_leastGap prog_7_method_7_code 5 (Option.some Jvm.ClassFile.FieldType.int) ∈ TB := tb_4 (i := 22) rfl rfl
set_option maxRecDepth 100000 in
theorem q_743 : Cond.methodLink RX5 76 yJ9_max_7cf53 ∈ TB := tb_4 (i := 23) rfl rfl
set_option maxRecDepth 100000 in
theorem q_744 : Cond.methodLink RX5 81 yJ9_min_7cf53 ∈ TB := tb_4 (i := 24) rfl rfl
set_option maxRecDepth 100000 in
theorem q_745 : Cond.methodLink RL 104 yX8_send ∈ TB := tb_4 (i := 25) rfl rfl
set_option maxRecDepth 100000 in
theorem q_746 : Cond.instanceMethod yX8_send ∈ TB := tb_4 (i := 26) rfl rfl
set_option maxRecDepth 100000 in
theorem q_747 : Cond.selects RX8 yX8_send yX8_send ∈ TB := tb_4 (i := 27) rfl rfl
set_option maxRecDepth 100000 in
theorem q_748 : Cond.code yX8_send prog_1_method_23_code 7 (Option.some Jvm.ClassFile.FieldType.int) ∈ TB := tb_4 (i := 28) rfl rfl
set_option maxRecDepth 100000 in
theorem q_749 : Cond.methodLink RL 108 yX8_diary ∈ TB := tb_4 (i := 29) rfl rfl
set_option maxRecDepth 100000 in
theorem q_750 : Cond.instanceMethod yX8_diary ∈ TB := tb_4 (i := 30) rfl rfl
set_option maxRecDepth 100000 in
theorem q_751 : Cond.selects RX8 yX8_diary yX8_diary ∈ TB := tb_4 (i := 31) rfl rfl
set_option maxRecDepth 100000 in
theorem q_752 : Cond.code yX8_diary prog_1_method_24_code 11 (Option.some Jvm.ClassFile.FieldType.int) ∈ TB := tb_4 (i := 32) rfl rfl
set_option maxRecDepth 100000 in
theorem q_753 : Cond.methodLink RL 113 yX8_training ∈ TB := tb_4 (i := 33) rfl rfl
set_option maxRecDepth 100000 in
theorem q_754 : Cond.instanceMethod yX8_training ∈ TB := tb_4 (i := 34) rfl rfl
set_option maxRecDepth 100000 in
theorem q_755 : Cond.selects RX8 yX8_training yX8_training ∈ TB := tb_4 (i := 35) rfl rfl
set_option maxRecDepth 100000 in
theorem q_756 : Cond.code yX8_training prog_1_method_25_code 7 (Option.some Jvm.ClassFile.FieldType.int) ∈ TB := tb_4 (i := 36) rfl rfl
set_option maxRecDepth 100000 in
theorem q_757 : Cond.methodLink RL 117 yX8_fair ∈ TB := tb_4 (i := 37) rfl rfl
set_option maxRecDepth 100000 in
theorem q_758 : Cond.instanceMethod yX8_fair ∈ TB := tb_4 (i := 38) rfl rfl
set_option maxRecDepth 100000 in
theorem q_759 : Cond.selects RX8 yX8_fair yX8_fair ∈ TB := tb_4 (i := 39) rfl rfl
set_option maxRecDepth 100000 in
theorem q_760 : Cond.code yX8_fair prog_1_method_26_code 6 (Option.some Jvm.ClassFile.FieldType.int) ∈ TB := tb_4 (i := 40) rfl rfl
set_option maxRecDepth 100000 in
theorem q_761 : Cond.methodLink RL 121 yX8_seed ∈ TB := tb_4 (i := 41) rfl rfl
set_option maxRecDepth 100000 in
theorem q_762 : Cond.instanceMethod yX8_seed ∈ TB := tb_4 (i := 42) rfl rfl
set_option maxRecDepth 100000 in
theorem q_763 : Cond.selects RX8 yX8_seed yX8_seed ∈ TB := tb_4 (i := 43) rfl rfl
set_option maxRecDepth 100000 in
theorem q_764 : Cond.code yX8_seed prog_1_method_27_code 3 (Option.some Jvm.ClassFile.FieldType.int) ∈ TB := tb_4 (i := 44) rfl rfl
set_option maxRecDepth 100000 in
theorem q_765 : Cond.methodLink RL 125 yX8_voice ∈ TB := tb_4 (i := 45) rfl rfl
set_option maxRecDepth 100000 in
theorem q_766 : Cond.instanceMethod yX8_voice ∈ TB := tb_4 (i := 46) rfl rfl
set_option maxRecDepth 100000 in
theorem q_767 : Cond.selects RX8 yX8_voice yX8_voice ∈ TB := tb_4 (i := 47) rfl rfl
set_option maxRecDepth 100000 in
theorem q_768 : Cond.code yX8_voice prog_1_method_28_code 5 (Option.some Jvm.ClassFile.FieldType.int) ∈ TB := tb_4 (i := 48) rfl rfl
set_option maxRecDepth 100000 in
theorem q_769 : Cond.methodLink RX8 236 yX7_speak ∈ TB := tb_4 (i := 49) rfl rfl
set_option maxRecDepth 100000 in
theorem q_770 : Cond.instanceMethod yX7_speak ∈ TB := tb_4 (i := 50) rfl rfl
set_option maxRecDepth 100000 in
theorem q_771 : Cond.selects RX7 yX7_speak yX7_speak ∈ TB := tb_4 (i := 51) rfl rfl
set_option maxRecDepth 100000 in
theorem q_772 : Cond.code yX7_speak prog_9_method_2_code 5 (Option.some Jvm.ClassFile.FieldType.int) ∈ TB := tb_4 (i := 52) rfl rfl
set_option maxRecDepth 100000 in
theorem q_773 : Cond.methodLink RX7 32 yX7_say ∈ TB := tb_4 (i := 53) rfl rfl
set_option maxRecDepth 100000 in
theorem q_775 : Cond.instanceMethod yX7_say ∈ TB := tb_4 (i := 55) rfl rfl
set_option maxRecDepth 100000 in
theorem q_776 : Cond.code yX7_say prog_9_method_3_code 7 (Option.some Jvm.ClassFile.FieldType.int) ∈ TB := tb_4 (i := 56) rfl rfl
set_option maxRecDepth 100000 in
theorem q_777 : Cond.methodLink RX7 36 yX7_bodyOf ∈ TB := tb_4 (i := 57) rfl rfl
set_option maxRecDepth 100000 in
theorem q_778 : Cond.static yX7_bodyOf ∈ TB := tb_4 (i := 58) rfl rfl
set_option maxRecDepth 100000 in
theorem q_779 : Cond.code yX7_bodyOf prog_9_method_4_code 5 (Option.some Jvm.ClassFile.FieldType.int) ∈ TB := tb_4 (i := 59) rfl rfl
set_option maxRecDepth 100000 in
theorem q_781 : Cond.fieldLink RX7 48 RX7 "BODIES" "[I" ∈ TB := tb_4 (i := 61) rfl rfl
set_option maxRecDepth 100000 in
theorem q_784 : Cond.methodLink RX7 40 yX7_note ∈ TB := tb_4 (i := 64) rfl rfl
set_option maxRecDepth 100000 in
theorem q_786 : Cond.instanceMethod yX7_note ∈ TB := tb_4 (i := 66) rfl rfl
set_option maxRecDepth 100000 in
theorem q_787 : Cond.code yX7_note prog_9_method_5_code 2 (Option.none : Option Jvm.ClassFile.FieldType) ∈ TB := tb_4 (i := 67) rfl rfl
set_option maxRecDepth 100000 in
theorem q_788 : Cond.methodLink RL 129 yX8_trace ∈ TB := tb_4 (i := 68) rfl rfl
set_option maxRecDepth 100000 in
theorem q_789 : Cond.instanceMethod yX8_trace ∈ TB := tb_4 (i := 69) rfl rfl
set_option maxRecDepth 100000 in
theorem q_790 : Cond.selects RX8 yX8_trace yX8_trace ∈ TB := tb_4 (i := 70) rfl rfl
set_option maxRecDepth 100000 in
theorem q_791 : Cond.code yX8_trace prog_1_method_29_code 2 (Option.some Jvm.ClassFile.FieldType.int) ∈ TB := tb_4 (i := 71) rfl rfl
set_option maxRecDepth 100000 in
theorem q_792 : Cond.methodLink RL 133 yX8_sheet ∈ TB := tb_4 (i := 72) rfl rfl
set_option maxRecDepth 100000 in
theorem q_793 : Cond.instanceMethod yX8_sheet ∈ TB := tb_4 (i := 73) rfl rfl
set_option maxRecDepth 100000 in
theorem q_794 : Cond.selects RX8 yX8_sheet yX8_sheet ∈ TB := tb_4 (i := 74) rfl rfl
set_option maxRecDepth 100000 in
theorem q_795 : Cond.code yX8_sheet prog_1_method_30_code 5 (Option.some Jvm.ClassFile.FieldType.int) ∈ TB := tb_4 (i := 75) rfl rfl
set_option maxRecDepth 100000 in
theorem q_796 : Cond.methodLink RX8 246 yX8_sheetAt ∈ TB := tb_4 (i := 76) rfl rfl
set_option maxRecDepth 100000 in
theorem q_798 : Cond.instanceMethod yX8_sheetAt ∈ TB := tb_4 (i := 78) rfl rfl
set_option maxRecDepth 100000 in
theorem q_799 : Cond.code yX8_sheetAt prog_1_method_42_code 2 (Option.some (Jvm.ClassFile.FieldType.object RX4)) ∈ TB := tb_4 (i := 79) rfl rfl
set_option maxRecDepth 100000 in
theorem q_800 : Cond.methodLink RX8 250 yX4_clear ∈ TB := tb_4 (i := 80) rfl rfl
set_option maxRecDepth 100000 in
theorem q_801 : Cond.instanceMethod yX4_clear ∈ TB := tb_4 (i := 81) rfl rfl
set_option maxRecDepth 100000 in
theorem q_802 : Cond.selects RX4 yX4_clear yX4_clear ∈ TB := tb_4 (i := 82) rfl rfl
set_option maxRecDepth 100000 in
theorem q_803 : Cond.code yX4_clear prog_6_method_2_code 4 (Option.none : Option Jvm.ClassFile.FieldType) ∈ TB := tb_4 (i := 83) rfl rfl
set_option maxRecDepth 100000 in
theorem q_805 : Cond.methodLink RL 137 yX8_put ∈ TB := tb_4 (i := 85) rfl rfl
set_option maxRecDepth 100000 in
theorem q_806 : Cond.instanceMethod yX8_put ∈ TB := tb_4 (i := 86) rfl rfl
set_option maxRecDepth 100000 in
theorem q_807 : Cond.selects RX8 yX8_put yX8_put ∈ TB := tb_4 (i := 87) rfl rfl
set_option maxRecDepth 100000 in
theorem q_808 : Cond.code yX8_put prog_1_method_31_code 5 (Option.some Jvm.ClassFile.FieldType.int) ∈ TB := tb_4 (i := 88) rfl rfl
set_option maxRecDepth 100000 in
theorem q_809 : Cond.methodLink RX8 253 yX4_isMissing ∈ TB := tb_4 (i := 89) rfl rfl
set_option maxRecDepth 100000 in
theorem q_810 : Cond.instanceMethod yX4_isMissing ∈ TB := tb_4 (i := 90) rfl rfl
set_option maxRecDepth 100000 in
theorem q_811 : Cond.selects RX4 yX4_isMissing yX4_isMissing ∈ TB := tb_4 (i := 91) rfl rfl
set_option maxRecDepth 100000 in
theorem q_812 : Cond.code yX4_isMissing prog_6_method_3_code 1 (Option.some Jvm.ClassFile.FieldType.boolean) ∈ TB := tb_4 (i := 92) rfl rfl
set_option maxRecDepth 100000 in
theorem q_813 : Cond.methodLink RX8 260 yX4_write ∈ TB := tb_4 (i := 93) rfl rfl
set_option maxRecDepth 100000 in
theorem q_814 : Cond.instanceMethod yX4_write ∈ TB := tb_4 (i := 94) rfl rfl
set_option maxRecDepth 100000 in
theorem q_815 : Cond.selects RX4 yX4_write yX4_write ∈ TB := tb_4 (i := 95) rfl rfl
set_option maxRecDepth 100000 in
theorem q_816 : Cond.code yX4_write prog_6_method_5_code 3 (Option.none : Option Jvm.ClassFile.FieldType) ∈ TB := tb_4 (i := 96) rfl rfl
set_option maxRecDepth 100000 in
theorem q_818 : Cond.methodLink RL 141 yX8_move ∈ TB := tb_4 (i := 98) rfl rfl
set_option maxRecDepth 100000 in
theorem q_819 : Cond.instanceMethod yX8_move ∈ TB := tb_4 (i := 99) rfl rfl
set_option maxRecDepth 100000 in
theorem q_820 : Cond.selects RX8 yX8_move yX8_move ∈ TB := tb_4 (i := 100) rfl rfl
set_option maxRecDepth 100000 in
theorem q_821 : Cond.code yX8_move prog_1_method_32_code 8 (Option.some Jvm.ClassFile.FieldType.int) ∈ TB := tb_4 (i := 101) rfl rfl
set_option maxRecDepth 100000 in
theorem q_822 : Cond.methodLink RX8 266 yX4_holds ∈ TB := tb_4 (i := 102) rfl rfl
set_option maxRecDepth 100000 in
theorem q_823 : Cond.instanceMethod yX4_holds ∈ TB := tb_4 (i := 103) rfl rfl
set_option maxRecDepth 100000 in
theorem q_824 : Cond.selects RX4 yX4_holds yX4_holds ∈ TB := tb_4 (i := 104) rfl rfl
set_option maxRecDepth 100000 in
theorem q_825 : Cond.code yX4_holds prog_6_method_6_code 3 (Option.some Jvm.ClassFile.FieldType.boolean) ∈ TB := tb_4 (i := 105) rfl rfl
set_option maxRecDepth 100000 in
theorem q_826 : Cond.methodLink RX8 272 arraycopyName ∈ TB := tb_4 (i := 106) rfl rfl
set_option maxRecDepth 100000 in
theorem q_827 : Cond.methodLink RL 145 yX8_years ∈ TB := tb_4 (i := 107) rfl rfl
set_option maxRecDepth 100000 in
theorem q_828 : Cond.instanceMethod yX8_years ∈ TB := tb_4 (i := 108) rfl rfl
set_option maxRecDepth 100000 in
theorem q_829 : Cond.selects RX8 yX8_years yX8_years ∈ TB := tb_4 (i := 109) rfl rfl
set_option maxRecDepth 100000 in
theorem q_830 : Cond.code yX8_years prog_1_method_33_code 7 (Option.some Jvm.ClassFile.FieldType.int) ∈ TB := tb_4 (i := 110) rfl rfl
set_option maxRecDepth 100000 in
theorem q_831 : Cond.methodLink RX8 278 yX4_read ∈ TB := tb_4 (i := 111) rfl rfl
set_option maxRecDepth 100000 in
theorem q_832 : Cond.instanceMethod yX4_read ∈ TB := tb_4 (i := 112) rfl rfl
set_option maxRecDepth 100000 in
theorem q_833 : Cond.selects RX4 yX4_read yX4_read ∈ TB := tb_4 (i := 113) rfl rfl
set_option maxRecDepth 100000 in
theorem q_834 : Cond.code yX4_read prog_6_method_4_code 2 (Option.some Jvm.ClassFile.FieldType.int) ∈ TB := tb_4 (i := 114) rfl rfl
set_option maxRecDepth 100000 in
theorem q_835 : Cond.methodLink RL 149 yX8_judge ∈ TB := tb_4 (i := 115) rfl rfl
set_option maxRecDepth 100000 in
theorem q_836 : Cond.instanceMethod yX8_judge ∈ TB := tb_4 (i := 116) rfl rfl
set_option maxRecDepth 100000 in
theorem q_837 : Cond.selects RX8 yX8_judge yX8_judge ∈ TB := tb_4 (i := 117) rfl rfl
set_option maxRecDepth 100000 in
theorem q_838 : Cond.code yX8_judge prog_1_method_34_code 7 (Option.some Jvm.ClassFile.FieldType.int) ∈ TB := tb_4 (i := 118) rfl rfl
set_option maxRecDepth 100000 in
theorem q_839 : Cond.methodLink RX8 280 yX6_shore ∈ TB := tb_4 (i := 119) rfl rfl
set_option maxRecDepth 100000 in
theorem q_840 : Cond.methodLink RX8 283 yX5_placeNext ∈ TB := tb_4 (i := 120) rfl rfl
set_option maxRecDepth 100000 in
theorem q_841 : Cond.methodLink RL 153 yX8_image ∈ TB := tb_4 (i := 121) rfl rfl
set_option maxRecDepth 100000 in
theorem q_842 : Cond.instanceMethod yX8_image ∈ TB := tb_4 (i := 122) rfl rfl
set_option maxRecDepth 100000 in
theorem q_843 : Cond.selects RX8 yX8_image yX8_image ∈ TB := tb_4 (i := 123) rfl rfl
set_option maxRecDepth 100000 in
theorem q_844 : Cond.code yX8_image prog_1_method_35_code 1 (Option.some Jvm.ClassFile.FieldType.int) ∈ TB := tb_4 (i := 124) rfl rfl
set_option maxRecDepth 100000 in
theorem q_845 : Cond.methodLink RX8 287 yX0_copy ∈ TB := tb_4 (i := 125) rfl rfl
set_option maxRecDepth 100000 in
theorem q_846 : Cond.instanceMethod yX0_copy ∈ TB := tb_4 (i := 126) rfl rfl
set_option maxRecDepth 100000 in
theorem q_847 : Cond.selects RX0 yX0_copy yX0_copy ∈ TB := tb_4 (i := 127) rfl rfl
set_option maxRecDepth 100000 in
theorem q_848 : Cond.code yX0_copy prog_2_method_8_code 5 (Option.none : Option Jvm.ClassFile.FieldType) ∈ TB := tb_4 (i := 128) rfl rfl
set_option maxRecDepth 100000 in
theorem q_849 : Cond.methodLink RX0 87 yX1_copy ∈ TB := tb_4 (i := 129) rfl rfl
set_option maxRecDepth 100000 in
theorem q_850 : Cond.instanceMethod yX1_copy ∈ TB := tb_4 (i := 130) rfl rfl
set_option maxRecDepth 100000 in
theorem q_851 : Cond.selects RX1 yX1_copy yX1_copy ∈ TB := tb_4 (i := 131) rfl rfl
set_option maxRecDepth 100000 in
theorem q_852 : Cond.code yX1_copy prog_3_method_3_code 2 (Option.none : Option Jvm.ClassFile.FieldType) ∈ TB := tb_4 (i := 132) rfl rfl
set_option maxRecDepth 100000 in
theorem q_853 : Cond.methodLink RX0 91 arraycopyName ∈ TB := tb_4 (i := 133) rfl rfl
set_option maxRecDepth 100000 in
theorem q_854 : Cond.methodLink RX0 97 yX0_swimmerAt ∈ TB := tb_4 (i := 134) rfl rfl
set_option maxRecDepth 100000 in
theorem q_855 : Cond.methodLink RX0 101 yX6_copy ∈ TB := tb_4 (i := 135) rfl rfl
set_option maxRecDepth 100000 in
theorem q_856 : Cond.methodLink RL 158 yX8_restore ∈ TB := tb_4 (i := 136) rfl rfl
set_option maxRecDepth 100000 in
theorem q_857 : Cond.instanceMethod yX8_restore ∈ TB := tb_4 (i := 137) rfl rfl
set_option maxRecDepth 100000 in
theorem q_858 : Cond.selects RX8 yX8_restore yX8_restore ∈ TB := tb_4 (i := 138) rfl rfl
set_option maxRecDepth 100000 in
theorem q_859 : Cond.code yX8_restore prog_1_method_36_code 1 (Option.some Jvm.ClassFile.FieldType.int) ∈ TB := tb_4 (i := 139) rfl rfl
set_option maxRecDepth 100000 in
theorem q_860 : Cond.methodLink RL 162 yX8_tell ∈ TB := tb_4 (i := 140) rfl rfl
set_option maxRecDepth 100000 in
theorem q_861 : Cond.instanceMethod yX8_tell ∈ TB := tb_4 (i := 141) rfl rfl
set_option maxRecDepth 100000 in
theorem q_862 : Cond.selects RX8 yX8_tell yX8_tell ∈ TB := tb_4 (i := 142) rfl rfl
set_option maxRecDepth 100000 in
theorem q_863 : Cond.code yX8_tell prog_1_method_37_code 3 (Option.some Jvm.ClassFile.FieldType.int) ∈ TB := tb_4 (i := 143) rfl rfl
set_option maxRecDepth 100000 in
theorem q_864 : Cond.methodLink RL 166 yX8_check ∈ TB := tb_4 (i := 144) rfl rfl
set_option maxRecDepth 100000 in
theorem q_865 : Cond.instanceMethod yX8_check ∈ TB := tb_4 (i := 145) rfl rfl
set_option maxRecDepth 100000 in
theorem q_866 : Cond.selects RX8 yX8_check yX8_check ∈ TB := tb_4 (i := 146) rfl rfl
set_option maxRecDepth 100000 in
theorem q_867 : Cond.code yX8_check prog_1_method_38_code 9 (Option.some Jvm.ClassFile.FieldType.int) ∈ TB := tb_4 (i := 147) rfl rfl
set_option maxRecDepth 100000 in
theorem q_868 : Cond.methodLink RL 170 yX8_count ∈ TB := tb_4 (i := 148) rfl rfl
set_option maxRecDepth 100000 in
theorem q_869 : Cond.instanceMethod yX8_count ∈ TB := tb_4 (i := 149) rfl rfl
set_option maxRecDepth 100000 in
theorem q_870 : Cond.selects RX8 yX8_count yX8_count ∈ TB := tb_4 (i := 150) rfl rfl
set_option maxRecDepth 100000 in
theorem q_871 : Cond.code yX8_count prog_1_method_39_code 2 (Option.some Jvm.ClassFile.FieldType.int) ∈ TB := tb_4 (i := 151) rfl rfl
set_option maxRecDepth 100000 in
theorem q_872 : Cond.methodLink RL 174 yX8_told ∈ TB := tb_4 (i := 152) rfl rfl
set_option maxRecDepth 100000 in
theorem q_873 : Cond.instanceMethod yX8_told ∈ TB := tb_4 (i := 153) rfl rfl
set_option maxRecDepth 100000 in
theorem q_874 : Cond.selects RX8 yX8_told yX8_told ∈ TB := tb_4 (i := 154) rfl rfl
set_option maxRecDepth 100000 in
theorem q_875 : Cond.code yX8_told prog_1_method_40_code 2 (Option.some Jvm.ClassFile.FieldType.int) ∈ TB := tb_4 (i := 155) rfl rfl
set_option maxRecDepth 100000 in
theorem q_876 : Cond.classLink RL 10 RX9 ∈ TB := tb_4 (i := 156) rfl rfl
set_option maxRecDepth 100000 in
theorem q_877 : Cond.instantiable RX9 24 ∈ TB := tb_4 (i := 157) rfl rfl
set_option maxRecDepth 100000 in
theorem q_878 : Cond.methodLink RL 12 yX9_init ∈ TB := tb_4 (i := 158) rfl rfl
set_option maxRecDepth 100000 in
theorem q_879 : Cond.instanceMethod yX9_init ∈ TB := tb_4 (i := 159) rfl rfl
set_option maxRecDepth 100000 in
theorem q_880 : Cond.code yX9_init prog_11_method_1_code 1 (Option.none : Option Jvm.ClassFile.FieldType) ∈ TB := tb_4 (i := 160) rfl rfl
set_option maxRecDepth 100000 in
theorem q_881 : Cond.methodLink RX9 1 objectInit ∈ TB := tb_4 (i := 161) rfl rfl
set_option maxRecDepth 100000 in
theorem q_882 : Cond.fieldLink RX9 7 RX9 "d" "[I" ∈ TB := tb_4 (i := 162) rfl rfl
set_option maxRecDepth 100000 in
theorem q_883 : Cond.fieldLink RX9 13 RX9 "e" "[I" ∈ TB := tb_4 (i := 163) rfl rfl
set_option maxRecDepth 100000 in
theorem q_884 : Cond.fieldLink RX9 16 RX9 "kept" "[I" ∈ TB := tb_4 (i := 164) rfl rfl
set_option maxRecDepth 100000 in
theorem q_885 : Cond.fieldLink RX9 279 RX9 "images" "I" ∈ TB := tb_4 (i := 165) rfl rfl
set_option maxRecDepth 100000 in
theorem q_886 : Cond.fieldLink RX9 19 RX9 "found" "[I" ∈ TB := tb_4 (i := 166) rfl rfl
set_option maxRecDepth 100000 in
theorem q_887 : Cond.fieldLink RX9 63 RX9 "base" "I" ∈ TB := tb_4 (i := 167) rfl rfl
set_option maxRecDepth 100000 in
theorem q_888 : Cond.fieldLink RX9 53 RX9 "at" "I" ∈ TB := tb_4 (i := 168) rfl rfl
set_option maxRecDepth 100000 in
theorem q_889 : Cond.fieldLink RX9 57 RX9 "size" "I" ∈ TB := tb_4 (i := 169) rfl rfl
set_option maxRecDepth 100000 in
theorem q_890 : Cond.fieldLink RX9 60 RX9 "fault" "I" ∈ TB := tb_4 (i := 170) rfl rfl
set_option maxRecDepth 100000 in
theorem q_891 : Cond.fieldLink RX9 100 RX9 "opened" "I" ∈ TB := tb_4 (i := 171) rfl rfl
set_option maxRecDepth 100000 in
theorem q_892 : Cond.fieldLink RX9 70 RX9 "isCatch" "Z" ∈ TB := tb_4 (i := 172) rfl rfl
set_option maxRecDepth 100000 in
theorem q_893 : Cond.fieldLink RX9 22 RX9 "names" "[I" ∈ TB := tb_4 (i := 173) rfl rfl
set_option maxRecDepth 100000 in
theorem q_894 : Cond.fieldLink RX9 25 RX9 "code" "[I" ∈ TB := tb_4 (i := 174) rfl rfl
set_option maxRecDepth 100000 in
theorem q_895 : Cond.fieldLink RX9 74 RX9 "coded" "I" ∈ TB := tb_4 (i := 175) rfl rfl
set_option maxRecDepth 100000 in
theorem q_896 : Cond.fieldLink RX9 28 RX9 "pile" "[I" ∈ TB := tb_4 (i := 176) rfl rfl
set_option maxRecDepth 100000 in
theorem q_897 : Cond.fieldLink RX9 201 RX9 "metIn" "I" ∈ TB := tb_4 (i := 177) rfl rfl
set_option maxRecDepth 100000 in
theorem q_898 : Cond.fieldLink RX9 204 RX9 "metAt" "I" ∈ TB := tb_4 (i := 178) rfl rfl
set_option maxRecDepth 100000 in
theorem q_899 : Cond.fieldLink RX9 31 RX9 "traced" "[I" ∈ TB := tb_4 (i := 179) rfl rfl
set_option maxRecDepth 100000 in
theorem q_900 : Cond.fieldLink RX9 252 RX9 "traceMany" "I" ∈ TB := tb_4 (i := 180) rfl rfl
set_option maxRecDepth 100000 in
theorem q_901 : Cond.fieldLink RX9 255 RX9 "who" "I" ∈ TB := tb_4 (i := 181) rfl rfl
set_option maxRecDepth 100000 in
theorem q_902 : Cond.fieldLink RX9 34 RX9 "bitsOf" "[I" ∈ TB := tb_4 (i := 182) rfl rfl
set_option maxRecDepth 100000 in
theorem q_903 : Cond.fieldLink RX9 37 RX9 "sizeOf" "[I" ∈ TB := tb_4 (i := 183) rfl rfl
set_option maxRecDepth 100000 in
theorem q_904 : Cond.fieldLink RX9 40 RX9 "number" "[I" ∈ TB := tb_4 (i := 184) rfl rfl
set_option maxRecDepth 100000 in
theorem q_905 : Cond.fieldLink RX9 43 RX9 "lifted" "[I" ∈ TB := tb_4 (i := 185) rfl rfl
set_option maxRecDepth 100000 in
theorem q_955 : Cond.methodLink RL 62 yX9_feed ∈ TB := tb_4 (i := 235) rfl rfl
set_option maxRecDepth 100000 in
theorem q_956 : Cond.instanceMethod yX9_feed ∈ TB := tb_4 (i := 236) rfl rfl
set_option maxRecDepth 100000 in
theorem q_957 : Cond.selects RX9 yX9_feed yX9_feed ∈ TB := tb_4 (i := 237) rfl rfl
set_option maxRecDepth 100000 in
theorem q_958 : Cond.code yX9_feed prog_11_method_28_code 5 (Option.some Jvm.ClassFile.FieldType.int) ∈ TB := tb_4 (i := 238) rfl rfl
set_option maxRecDepth 100000 in
theorem q_959 : Cond.constantLong RX9 124 8 ∈ TB := tb_4 (i := 239) rfl rfl
set_option maxRecDepth 100000 in
theorem q_960 : Cond.methodLink RX9 49 yX9_in ∈ TB := tb_5 (i := 0) rfl rfl
set_option maxRecDepth 100000 in
theorem q_961 : Cond.static yX9_in ∈ TB := tb_5 (i := 1) rfl rfl
set_option maxRecDepth 100000 in
theorem q_962 : Cond.code yX9_in prog_11_method_4_code 6 (Option.some Jvm.ClassFile.FieldType.boolean) ∈ TB := tb_5 (i := 2) rfl rfl
set_option maxRecDepth 100000 in
theorem q_963 : Cond.methodLink RX9 126 yX9_finds ∈ TB := tb_5 (i := 3) rfl rfl
set_option maxRecDepth 100000 in
theorem q_965 : Cond.instanceMethod yX9_finds ∈ TB := tb_5 (i := 5) rfl rfl
set_option maxRecDepth 100000 in
theorem q_966 : Cond.code yX9_finds prog_11_method_3_code 2 (Option.some Jvm.ClassFile.FieldType.int) ∈ TB := tb_5 (i := 6) rfl rfl
set_option maxRecDepth 100000 in
theorem q_967 : Cond.constant RX9 46 (-1000000000) ∈ TB := tb_5 (i := 7) rfl rfl
set_option maxRecDepth 100000 in
theorem q_968 : Cond.constantLong RX9 129 255 ∈ TB := tb_5 (i := 8) rfl rfl
set_option maxRecDepth 100000 in
theorem q_969 : Cond.methodLink RL 66 yX9_text ∈ TB := tb_5 (i := 9) rfl rfl
set_option maxRecDepth 100000 in
theorem q_970 : Cond.instanceMethod yX9_text ∈ TB := tb_5 (i := 10) rfl rfl
set_option maxRecDepth 100000 in
theorem q_971 : Cond.selects RX9 yX9_text yX9_text ∈ TB := tb_5 (i := 11) rfl rfl
set_option maxRecDepth 100000 in
theorem q_972 : Cond.code yX9_text prog_11_method_29_code 4 (Option.some Jvm.ClassFile.FieldType.int) ∈ TB := tb_5 (i := 12) rfl rfl
set_option maxRecDepth 100000 in
theorem q_973 : Cond.methodLink RX9 131 yX9_reads ∈ TB := tb_5 (i := 13) rfl rfl
set_option maxRecDepth 100000 in
theorem q_975 : Cond.instanceMethod yX9_reads ∈ TB := tb_5 (i := 15) rfl rfl
set_option maxRecDepth 100000 in
theorem q_976 : Cond.code yX9_reads prog_11_method_25_code 4 (Option.none : Option Jvm.ClassFile.FieldType) ∈ TB := tb_5 (i := 16) rfl rfl
set_option maxRecDepth 100000 in
theorem q_977 : Cond.methodLink RX9 106 yX9_either ∈ TB := tb_5 (i := 17) rfl rfl
set_option maxRecDepth 100000 in
theorem q_979 : Cond.instanceMethod yX9_either ∈ TB := tb_5 (i := 19) rfl rfl
set_option maxRecDepth 100000 in
theorem q_980 : Cond.code yX9_either prog_11_method_18_code 1 (Option.none : Option Jvm.ClassFile.FieldType) ∈ TB := tb_5 (i := 20) rfl rfl
set_option maxRecDepth 100000 in
theorem q_981 : Cond.methodLink RX9 77 yX9_both ∈ TB := tb_5 (i := 21) rfl rfl
set_option maxRecDepth 100000 in
theorem q_983 : Cond.instanceMethod yX9_both ∈ TB := tb_5 (i := 23) rfl rfl
set_option maxRecDepth 100000 in
theorem q_984 : Cond.code yX9_both prog_11_method_19_code 1 (Option.none : Option Jvm.ClassFile.FieldType) ∈ TB := tb_5 (i := 24) rfl rfl
set_option maxRecDepth 100000 in
theorem q_985 : Cond.methodLink RX9 88 yX9_compared ∈ TB := tb_5 (i := 25) rfl rfl
set_option maxRecDepth 100000 in
theorem q_987 : Cond.instanceMethod yX9_compared ∈ TB := tb_5 (i := 27) rfl rfl
set_option maxRecDepth 100000 in
theorem q_988 : Cond.code yX9_compared prog_11_method_20_code 2 (Option.none : Option Jvm.ClassFile.FieldType) ∈ TB := tb_5 (i := 28) rfl rfl
set_option maxRecDepth 100000 in
theorem q_989 : Cond.methodLink RX9 91 yX9_sum ∈ TB := tb_5 (i := 29) rfl rfl
set_option maxRecDepth 100000 in
theorem q_991 : Cond.instanceMethod yX9_sum ∈ TB := tb_5 (i := 31) rfl rfl
set_option maxRecDepth 100000 in
theorem q_992 : Cond.code yX9_sum prog_11_method_21_code 2 (Option.none : Option Jvm.ClassFile.FieldType) ∈ TB := tb_5 (i := 32) rfl rfl
set_option maxRecDepth 100000 in
theorem q_993 : Cond.methodLink RX9 94 yX9_product ∈ TB := tb_5 (i := 33) rfl rfl
set_option maxRecDepth 100000 in
theorem q_995 : Cond.instanceMethod yX9_product ∈ TB := tb_5 (i := 35) rfl rfl
set_option maxRecDepth 100000 in
theorem q_996 : Cond.code yX9_product prog_11_method_22_code 2 (Option.none : Option Jvm.ClassFile.FieldType) ∈ TB := tb_5 (i := 36) rfl rfl
set_option maxRecDepth 100000 in
theorem q_997 : Cond.methodLink RX9 97 yX9_unit ∈ TB := tb_5 (i := 37) rfl rfl
set_option maxRecDepth 100000 in
theorem q_999 : Cond.instanceMethod yX9_unit ∈ TB := tb_5 (i := 39) rfl rfl
set_option maxRecDepth 100000 in
theorem q_1000 : Cond.code yX9_unit prog_11_method_24_code 5 (Option.none : Option Jvm.ClassFile.FieldType) ∈ TB := tb_5 (i := 40) rfl rfl
set_option maxRecDepth 100000 in
theorem q_1001 : Cond.methodLink RX9 66 yX9_here ∈ TB := tb_5 (i := 41) rfl rfl
set_option maxRecDepth 100000 in
theorem q_1003 : Cond.instanceMethod yX9_here ∈ TB := tb_5 (i := 43) rfl rfl
set_option maxRecDepth 100000 in
theorem q_1004 : Cond.code yX9_here prog_11_method_13_code 1 (Option.some Jvm.ClassFile.FieldType.int) ∈ TB := tb_5 (i := 44) rfl rfl
set_option maxRecDepth 100000 in
theorem q_1005 : Cond.methodLink RX9 109 yX9_opens ∈ TB := tb_5 (i := 45) rfl rfl
set_option maxRecDepth 100000 in
theorem q_1007 : Cond.instanceMethod yX9_opens ∈ TB := tb_5 (i := 47) rfl rfl
set_option maxRecDepth 100000 in
theorem q_1008 : Cond.code yX9_opens prog_11_method_23_code 2 (Option.none : Option Jvm.ClassFile.FieldType) ∈ TB := tb_5 (i := 48) rfl rfl
set_option maxRecDepth 100000 in
theorem q_1009 : Cond.methodLink RX9 103 yX9_wrong ∈ TB := tb_5 (i := 49) rfl rfl
set_option maxRecDepth 100000 in
theorem q_1011 : Cond.instanceMethod yX9_wrong ∈ TB := tb_5 (i := 51) rfl rfl
set_option maxRecDepth 100000 in
theorem q_1012 : Cond.code yX9_wrong prog_11_method_14_code 1 (Option.none : Option Jvm.ClassFile.FieldType) ∈ TB := tb_5 (i := 52) rfl rfl
set_option maxRecDepth 100000 in
theorem q_1013 : Cond.methodLink RX9 84 yX9_lay ∈ TB := tb_5 (i := 53) rfl rfl
set_option maxRecDepth 100000 in
theorem q_1015 : Cond.instanceMethod yX9_lay ∈ TB := tb_5 (i := 55) rfl rfl
set_option maxRecDepth 100000 in
theorem q_1016 : Cond.code yX9_lay prog_11_method_17_code 2 (Option.none : Option Jvm.ClassFile.FieldType) ∈ TB := tb_5 (i := 56) rfl rfl
set_option maxRecDepth 100000 in
theorem q_1017 : Cond.methodLink RX9 80 yX9_takes ∈ TB := tb_5 (i := 57) rfl rfl
set_option maxRecDepth 100000 in
theorem q_1019 : Cond.instanceMethod yX9_takes ∈ TB := tb_5 (i := 59) rfl rfl
set_option maxRecDepth 100000 in
theorem q_1020 : Cond.code yX9_takes prog_11_method_15_code 2 (Option.some Jvm.ClassFile.FieldType.boolean) ∈ TB := tb_5 (i := 60) rfl rfl
set_option maxRecDepth 100000 in
theorem q_1021 : Cond.methodLink RX9 112 yX9_nameOf ∈ TB := tb_5 (i := 61) rfl rfl
set_option maxRecDepth 100000 in
theorem q_1023 : Cond.instanceMethod yX9_nameOf ∈ TB := tb_5 (i := 63) rfl rfl
set_option maxRecDepth 100000 in
theorem q_1024 : Cond.code yX9_nameOf prog_11_method_16_code 2 (Option.some Jvm.ClassFile.FieldType.int) ∈ TB := tb_5 (i := 64) rfl rfl
set_option maxRecDepth 100000 in
theorem q_1025 : Cond.constantLong RX9 116 48 ∈ TB := tb_5 (i := 65) rfl rfl
set_option maxRecDepth 100000 in
theorem q_1026 : Cond.constantLong RX9 118 57 ∈ TB := tb_5 (i := 66) rfl rfl
set_option maxRecDepth 100000 in
theorem q_1027 : Cond.methodLink RL 71 yX9_law ∈ TB := tb_5 (i := 67) rfl rfl
set_option maxRecDepth 100000 in
theorem q_1028 : Cond.instanceMethod yX9_law ∈ TB := tb_5 (i := 68) rfl rfl
set_option maxRecDepth 100000 in
theorem q_1029 : Cond.selects RX9 yX9_law yX9_law ∈ TB := tb_5 (i := 69) rfl rfl
set_option maxRecDepth 100000 in
theorem q_1030 : Cond.code yX9_law prog_11_method_31_code 5 (Option.some Jvm.ClassFile.FieldType.int) ∈ TB := tb_5 (i := 70) rfl rfl
set_option maxRecDepth 100000 in
theorem q_1031 : Cond.methodLink RX9 142 yX9_gives ∈ TB := tb_5 (i := 71) rfl rfl
set_option maxRecDepth 100000 in
theorem q_1033 : Cond.instanceMethod yX9_gives ∈ TB := tb_5 (i := 73) rfl rfl
set_option maxRecDepth 100000 in
theorem q_1034 : Cond.code yX9_gives prog_11_method_30_code 6 (Option.some Jvm.ClassFile.FieldType.int) ∈ TB := tb_5 (i := 74) rfl rfl
set_option maxRecDepth 100000 in
theorem q_1035 : Cond.methodLink RX9 135 yX9_worked ∈ TB := tb_5 (i := 75) rfl rfl
set_option maxRecDepth 100000 in
theorem q_1037 : Cond.instanceMethod yX9_worked ∈ TB := tb_5 (i := 77) rfl rfl
set_option maxRecDepth 100000 in
theorem q_1038 : Cond.code yX9_worked prog_11_method_27_code 6 (Option.some Jvm.ClassFile.FieldType.int) ∈ TB := tb_5 (i := 78) rfl rfl
set_option maxRecDepth 100000 in
theorem q_1039 : Cond.methodLink RX9 120 yX9_done ∈ TB := tb_5 (i := 79) rfl rfl
set_option maxRecDepth 100000 in
theorem q_1040 : Cond.static yX9_done ∈ TB := tb_5 (i := 80) rfl rfl
set_option maxRecDepth 100000 in
theorem q_1041 : Cond.code yX9_done prog_11_method_26_code 3 (Option.some Jvm.ClassFile.FieldType.int) ∈ TB := tb_5 (i := 81) rfl rfl
set_option maxRecDepth 100000 in
theorem q_1042 : Cond.methodLink RX9 139 yX9_held ∈ TB := tb_5 (i := 82) rfl rfl
set_option maxRecDepth 100000 in
theorem q_1043 : Cond.static yX9_held ∈ TB := tb_5 (i := 83) rfl rfl
set_option maxRecDepth 100000 in
theorem q_1044 : Cond.code yX9_held prog_11_method_5_code 3 (Option.some Jvm.ClassFile.FieldType.int) ∈ TB := tb_5 (i := 84) rfl rfl
set_option maxRecDepth 100000 in
theorem q_1045 : Cond.methodLink RL 17 yX9_current ∈ TB := tb_5 (i := 85) rfl rfl
set_option maxRecDepth 100000 in
theorem q_1046 : Cond.instanceMethod yX9_current ∈ TB := tb_5 (i := 86) rfl rfl
set_option maxRecDepth 100000 in
theorem q_1047 : Cond.selects RX9 yX9_current yX9_current ∈ TB := tb_5 (i := 87) rfl rfl
set_option maxRecDepth 100000 in
theorem q_1048 : Cond.code yX9_current prog_11_method_32_code 4 (Option.some Jvm.ClassFile.FieldType.int) ∈ TB := tb_5 (i := 88) rfl rfl
set_option maxRecDepth 100000 in
theorem q_1049 : Cond.methodLink RX9 146 yX9_isLane ∈ TB := tb_5 (i := 89) rfl rfl
set_option maxRecDepth 100000 in
theorem q_1050 : Cond.static yX9_isLane ∈ TB := tb_5 (i := 90) rfl rfl
set_option maxRecDepth 100000 in
theorem q_1051 : Cond.code yX9_isLane prog_11_method_9_code 1 (Option.some Jvm.ClassFile.FieldType.boolean) ∈ TB := tb_5 (i := 91) rfl rfl
set_option maxRecDepth 100000 in
theorem q_1052 : Cond.constantLong RX9 47 5 ∈ TB := tb_5 (i := 92) rfl rfl
set_option maxRecDepth 100000 in
theorem q_1053 : Cond.constantLong RX9 149 (-9) ∈ TB := tb_5 (i := 93) rfl rfl
set_option maxRecDepth 100000 in
theorem q_1054 : Cond.constantLong RX9 151 9 ∈ TB := tb_5 (i := 94) rfl rfl
set_option maxRecDepth 100000 in
theorem q_1055 : Cond.methodLink RL 21 yX9_set ∈ TB := tb_5 (i := 95) rfl rfl
set_option maxRecDepth 100000 in
theorem q_1056 : Cond.instanceMethod yX9_set ∈ TB := tb_5 (i := 96) rfl rfl
set_option maxRecDepth 100000 in
theorem q_1057 : Cond.selects RX9 yX9_set yX9_set ∈ TB := tb_5 (i := 97) rfl rfl
set_option maxRecDepth 100000 in
theorem q_1058 : Cond.code yX9_set prog_11_method_33_code 5 (Option.some Jvm.ClassFile.FieldType.int) ∈ TB := tb_5 (i := 98) rfl rfl
set_option maxRecDepth 100000 in
theorem q_1059 : Cond.constantLong RX9 153 (-3) ∈ TB := tb_5 (i := 99) rfl rfl
set_option maxRecDepth 100000 in
theorem q_1060 : Cond.constantLong RX9 155 3 ∈ TB := tb_5 (i := 100) rfl rfl
set_option maxRecDepth 100000 in
theorem q_1061 : Cond.constantLong RX9 157 200 ∈ TB := tb_5 (i := 101) rfl rfl
set_option maxRecDepth 100000 in
theorem q_1062 : Cond.constantLong RX9 159 1200 ∈ TB := tb_5 (i := 102) rfl rfl
set_option maxRecDepth 100000 in
theorem q_1063 : Cond.methodLink RL 26 yX9_flow ∈ TB := tb_5 (i := 103) rfl rfl
set_option maxRecDepth 100000 in
theorem q_1064 : Cond.instanceMethod yX9_flow ∈ TB := tb_5 (i := 104) rfl rfl
set_option maxRecDepth 100000 in
theorem q_1065 : Cond.selects RX9 yX9_flow yX9_flow ∈ TB := tb_5 (i := 105) rfl rfl
set_option maxRecDepth 100000 in
theorem q_1066 : Cond.code yX9_flow prog_11_method_35_code 2 (Option.some Jvm.ClassFile.FieldType.int) ∈ TB := tb_5 (i := 106) rfl rfl
set_option maxRecDepth 100000 in
theorem q_1067 : Cond.methodLink RX9 161 yX9_flowOf ∈ TB := tb_5 (i := 107) rfl rfl
set_option maxRecDepth 100000 in
theorem q_1069 : Cond.instanceMethod yX9_flowOf ∈ TB := tb_5 (i := 109) rfl rfl
set_option maxRecDepth 100000 in
theorem q_1070 : Cond.code yX9_flowOf prog_11_method_34_code 2 (Option.some Jvm.ClassFile.FieldType.int) ∈ TB := tb_5 (i := 110) rfl rfl
set_option maxRecDepth 100000 in
theorem q_1071 : Cond.methodLink RL 30 yX9_swimmer ∈ TB := tb_5 (i := 111) rfl rfl
set_option maxRecDepth 100000 in
theorem q_1072 : Cond.instanceMethod yX9_swimmer ∈ TB := tb_5 (i := 112) rfl rfl
set_option maxRecDepth 100000 in
theorem q_1073 : Cond.selects RX9 yX9_swimmer yX9_swimmer ∈ TB := tb_5 (i := 113) rfl rfl
set_option maxRecDepth 100000 in
theorem q_1074 : Cond.code yX9_swimmer prog_11_method_36_code 5 (Option.some Jvm.ClassFile.FieldType.int) ∈ TB := tb_5 (i := 114) rfl rfl
set_option maxRecDepth 100000 in
theorem q_1075 : Cond.constantLong RX9 164 69 ∈ TB := tb_5 (i := 115) rfl rfl
set_option maxRecDepth 100000 in
theorem q_1076 : Cond.methodLink RX9 166 yX9_becomes ∈ TB := tb_5 (i := 116) rfl rfl
set_option maxRecDepth 100000 in
theorem q_1078 : Cond.instanceMethod yX9_becomes ∈ TB := tb_5 (i := 118) rfl rfl
set_option maxRecDepth 100000 in
theorem q_1079 : Cond.code yX9_becomes prog_11_method_12_code 4 (Option.none : Option Jvm.ClassFile.FieldType) ∈ TB := tb_5 (i := 119) rfl rfl
set_option maxRecDepth 100000 in
theorem q_1080 : Cond.methodLink RL 34 yX9_ofSwimmer ∈ TB := tb_5 (i := 120) rfl rfl
set_option maxRecDepth 100000 in
theorem q_1081 : Cond.instanceMethod yX9_ofSwimmer ∈ TB := tb_5 (i := 121) rfl rfl
set_option maxRecDepth 100000 in
theorem q_1082 : Cond.selects RX9 yX9_ofSwimmer yX9_ofSwimmer ∈ TB := tb_5 (i := 122) rfl rfl
set_option maxRecDepth 100000 in
theorem q_1083 : Cond.code yX9_ofSwimmer prog_11_method_37_code 3 (Option.some Jvm.ClassFile.FieldType.int) ∈ TB := tb_5 (i := 123) rfl rfl
set_option maxRecDepth 100000 in
theorem q_1084 : Cond.methodLink RX9 169 yX9_isSwimmer ∈ TB := tb_5 (i := 124) rfl rfl
set_option maxRecDepth 100000 in
theorem q_1086 : Cond.instanceMethod yX9_isSwimmer ∈ TB := tb_5 (i := 126) rfl rfl
set_option maxRecDepth 100000 in
theorem q_1087 : Cond.code yX9_isSwimmer prog_11_method_10_code 2 (Option.some Jvm.ClassFile.FieldType.boolean) ∈ TB := tb_5 (i := 127) rfl rfl
set_option maxRecDepth 100000 in
theorem q_1088 : Cond.methodLink RX9 172 yX9_of ∈ TB := tb_5 (i := 128) rfl rfl
set_option maxRecDepth 100000 in
theorem q_1090 : Cond.instanceMethod yX9_of ∈ TB := tb_5 (i := 130) rfl rfl
set_option maxRecDepth 100000 in
theorem q_1091 : Cond.code yX9_of prog_11_method_11_code 3 (Option.some Jvm.ClassFile.FieldType.int) ∈ TB := tb_5 (i := 131) rfl rfl
set_option maxRecDepth 100000 in
theorem q_1092 : Cond.methodLink RL 38 yX9_train ∈ TB := tb_5 (i := 132) rfl rfl
set_option maxRecDepth 100000 in
theorem q_1093 : Cond.instanceMethod yX9_train ∈ TB := tb_5 (i := 133) rfl rfl
set_option maxRecDepth 100000 in
theorem q_1094 : Cond.selects RX9 yX9_train yX9_train ∈ TB := tb_5 (i := 134) rfl rfl
set_option maxRecDepth 100000 in
theorem q_1095 : Cond.code yX9_train prog_11_method_38_code 4 (Option.some Jvm.ClassFile.FieldType.int) ∈ TB := tb_5 (i := 135) rfl rfl
set_option maxRecDepth 100000 in
theorem q_1096 : Cond.constantLong RX9 175 30 ∈ TB := tb_5 (i := 136) rfl rfl
set_option maxRecDepth 100000 in
theorem q_1097 : Cond.methodLink RL 43 yX9_plan ∈ TB := tb_5 (i := 137) rfl rfl
set_option maxRecDepth 100000 in
theorem q_1098 : Cond.instanceMethod yX9_plan ∈ TB := tb_5 (i := 138) rfl rfl
set_option maxRecDepth 100000 in
theorem q_1099 : Cond.selects RX9 yX9_plan yX9_plan ∈ TB := tb_5 (i := 139) rfl rfl
set_option maxRecDepth 100000 in
theorem q_1100 : Cond.code yX9_plan prog_11_method_39_code 5 (Option.some Jvm.ClassFile.FieldType.int) ∈ TB := tb_5 (i := 140) rfl rfl
set_option maxRecDepth 100000 in
theorem q_1101 : Cond.methodLink RL 47 yX9_become ∈ TB := tb_5 (i := 141) rfl rfl
set_option maxRecDepth 100000 in
theorem q_1102 : Cond.instanceMethod yX9_become ∈ TB := tb_5 (i := 142) rfl rfl
set_option maxRecDepth 100000 in
theorem q_1103 : Cond.selects RX9 yX9_become yX9_become ∈ TB := tb_5 (i := 143) rfl rfl
set_option maxRecDepth 100000 in
theorem q_1104 : Cond.code yX9_become prog_11_method_40_code 4 (Option.some Jvm.ClassFile.FieldType.int) ∈ TB := tb_5 (i := 144) rfl rfl
set_option maxRecDepth 100000 in
theorem q_1105 : Cond.methodLink RL 51 yX9_as ∈ TB := tb_5 (i := 145) rfl rfl
set_option maxRecDepth 100000 in
theorem q_1106 : Cond.instanceMethod yX9_as ∈ TB := tb_5 (i := 146) rfl rfl
set_option maxRecDepth 100000 in
theorem q_1107 : Cond.selects RX9 yX9_as yX9_as ∈ TB := tb_5 (i := 147) rfl rfl
set_option maxRecDepth 100000 in
theorem q_1108 : Cond.code yX9_as prog_11_method_42_code 4 (Option.some Jvm.ClassFile.FieldType.int) ∈ TB := tb_5 (i := 148) rfl rfl
set_option maxRecDepth 100000 in
theorem q_1109 : Cond.constantLong RX9 177 6 ∈ TB := tb_5 (i := 149) rfl rfl
set_option maxRecDepth 100000 in
theorem q_1110 : Cond.methodLink RX9 179 yX9_above ∈ TB := tb_5 (i := 150) rfl rfl
set_option maxRecDepth 100000 in
theorem q_1111 : Cond.static yX9_above ∈ TB := tb_5 (i := 151) rfl rfl
set_option maxRecDepth 100000 in
theorem q_1112 : Cond.code yX9_above prog_11_method_41_code 1 (Option.some Jvm.ClassFile.FieldType.int) ∈ TB := tb_5 (i := 152) rfl rfl
set_option maxRecDepth 100000 in
theorem q_1113 : Cond.methodLink RL 55 yX9_pace ∈ TB := tb_5 (i := 153) rfl rfl
set_option maxRecDepth 100000 in
theorem q_1114 : Cond.instanceMethod yX9_pace ∈ TB := tb_5 (i := 154) rfl rfl
set_option maxRecDepth 100000 in
theorem q_1115 : Cond.selects RX9 yX9_pace yX9_pace ∈ TB := tb_5 (i := 155) rfl rfl
set_option maxRecDepth 100000 in
theorem q_1116 : Cond.code yX9_pace prog_11_method_44_code 3 (Option.some Jvm.ClassFile.FieldType.int) ∈ TB := tb_5 (i := 156) rfl rfl
set_option maxRecDepth 100000 in
theorem q_1117 : Cond.constantLong RX9 185 59 ∈ TB := tb_5 (i := 157) rfl rfl
set_option maxRecDepth 100000 in
theorem q_1118 : Cond.methodLink RX9 187 yX9_paceOf ∈ TB := tb_5 (i := 158) rfl rfl
set_option maxRecDepth 100000 in
theorem q_1120 : Cond.instanceMethod yX9_paceOf ∈ TB := tb_5 (i := 160) rfl rfl
set_option maxRecDepth 100000 in
theorem q_1121 : Cond.code yX9_paceOf prog_11_method_43_code 6 (Option.some Jvm.ClassFile.FieldType.int) ∈ TB := tb_5 (i := 161) rfl rfl
set_option maxRecDepth 100000 in
theorem q_1122 : Cond.methodLink RX9 182 yX9_greater ∈ TB := tb_5 (i := 162) rfl rfl
set_option maxRecDepth 100000 in
theorem q_1123 : Cond.static yX9_greater ∈ TB := tb_5 (i := 163) rfl rfl
set_option maxRecDepth 100000 in
theorem q_1124 : Cond.code yX9_greater prog_11_method_7_code 2 (Option.some Jvm.ClassFile.FieldType.int) ∈ TB := tb_5 (i := 164) rfl rfl
set_option maxRecDepth 100000 in
theorem q_1125 : Cond.methodLink RL 75 yX9_where ∈ TB := tb_5 (i := 165) rfl rfl
set_option maxRecDepth 100000 in
theorem q_1126 : Cond.instanceMethod yX9_where ∈ TB := tb_5 (i := 166) rfl rfl
set_option maxRecDepth 100000 in
theorem q_1127 : Cond.selects RX9 yX9_where yX9_where ∈ TB := tb_5 (i := 167) rfl rfl
set_option maxRecDepth 100000 in
theorem q_1128 : Cond.code yX9_where prog_11_method_47_code 5 (Option.some Jvm.ClassFile.FieldType.int) ∈ TB := tb_5 (i := 168) rfl rfl
set_option maxRecDepth 100000 in
theorem q_1129 : Cond.constantLong RX9 196 60 ∈ TB := tb_5 (i := 169) rfl rfl
set_option maxRecDepth 100000 in
theorem q_1130 : Cond.methodLink RX9 198 yX9_goes ∈ TB := tb_5 (i := 170) rfl rfl
set_option maxRecDepth 100000 in
theorem q_1132 : Cond.instanceMethod yX9_goes ∈ TB := tb_5 (i := 172) rfl rfl
set_option maxRecDepth 100000 in
theorem q_1133 : Cond.code yX9_goes prog_11_method_46_code 5 (Option.some Jvm.ClassFile.FieldType.int) ∈ TB := tb_5 (i := 173) rfl rfl
set_option maxRecDepth 100000 in
theorem q_1134 : Cond.methodLink RX9 193 yX9_laneOf ∈ TB := tb_5 (i := 174) rfl rfl
set_option maxRecDepth 100000 in
theorem q_1136 : Cond.instanceMethod yX9_laneOf ∈ TB := tb_5 (i := 176) rfl rfl
set_option maxRecDepth 100000 in
theorem q_1137 : Cond.code yX9_laneOf prog_11_method_45_code 3 (Option.some Jvm.ClassFile.FieldType.int) ∈ TB := tb_5 (i := 177) rfl rfl
set_option maxRecDepth 100000 in
theorem q_1138 : Cond.methodLink RX9 190 yX9_lesser ∈ TB := tb_5 (i := 178) rfl rfl
set_option maxRecDepth 100000 in
theorem q_1139 : Cond.static yX9_lesser ∈ TB := tb_5 (i := 179) rfl rfl
set_option maxRecDepth 100000 in
theorem q_1140 : Cond.code yX9_lesser prog_11_method_6_code 2 (Option.some Jvm.ClassFile.FieldType.int) ∈ TB := tb_5 (i := 180) rfl rfl
set_option maxRecDepth 100000 in
theorem q_1141 : Cond.methodLink RL 79 yX9_meet ∈ TB := tb_5 (i := 181) rfl rfl
set_option maxRecDepth 100000 in
theorem q_1142 : Cond.instanceMethod yX9_meet ∈ TB := tb_5 (i := 182) rfl rfl
set_option maxRecDepth 100000 in
theorem q_1143 : Cond.selects RX9 yX9_meet yX9_meet ∈ TB := tb_5 (i := 183) rfl rfl
set_option maxRecDepth 100000 in
theorem q_1144 : Cond.code yX9_meet prog_11_method_50_code 4 (Option.some Jvm.ClassFile.FieldType.int) ∈ TB := tb_5 (i := 184) rfl rfl
set_option maxRecDepth 100000 in
theorem q_1145 : Cond.methodLink RX9 207 yX9_areUnlike ∈ TB := tb_5 (i := 185) rfl rfl
set_option maxRecDepth 100000 in
theorem q_1147 : Cond.instanceMethod yX9_areUnlike ∈ TB := tb_5 (i := 187) rfl rfl
set_option maxRecDepth 100000 in
theorem q_1148 : Cond.code yX9_areUnlike prog_11_method_49_code 3 (Option.some Jvm.ClassFile.FieldType.boolean) ∈ TB := tb_5 (i := 188) rfl rfl
set_option maxRecDepth 100000 in
theorem q_1149 : Cond.constantLong RX9 211 2 ∈ TB := tb_5 (i := 189) rfl rfl
set_option maxRecDepth 100000 in
theorem q_1150 : Cond.methodLink RX9 213 yX9_swim ∈ TB := tb_5 (i := 190) rfl rfl
set_option maxRecDepth 100000 in
theorem q_1152 : Cond.instanceMethod yX9_swim ∈ TB := tb_5 (i := 192) rfl rfl
set_option maxRecDepth 100000 in
theorem q_1153 : Cond.code yX9_swim prog_11_method_48_code 8 (Option.some Jvm.ClassFile.FieldType.boolean) ∈ TB := tb_5 (i := 193) rfl rfl
set_option maxRecDepth 100000 in
theorem q_1154 : Cond.methodLink RL 83 yX9_year ∈ TB := tb_5 (i := 194) rfl rfl
set_option maxRecDepth 100000 in
theorem q_1155 : Cond.instanceMethod yX9_year ∈ TB := tb_5 (i := 195) rfl rfl
set_option maxRecDepth 100000 in
theorem q_1156 : Cond.selects RX9 yX9_year yX9_year ∈ TB := tb_5 (i := 196) rfl rfl
set_option maxRecDepth 100000 in
theorem q_1157 : Cond.code yX9_year prog_11_method_54_code 3 (Option.some Jvm.ClassFile.FieldType.int) ∈ TB := tb_5 (i := 197) rfl rfl
set_option maxRecDepth 100000 in
theorem q_1158 : Cond.methodLink RX9 225 yX9_aYear ∈ TB := tb_5 (i := 198) rfl rfl
set_option maxRecDepth 100000 in
theorem q_1160 : Cond.instanceMethod yX9_aYear ∈ TB := tb_5 (i := 200) rfl rfl
set_option maxRecDepth 100000 in
theorem q_1161 : Cond.code yX9_aYear prog_11_method_53_code 4 (Option.some Jvm.ClassFile.FieldType.int) ∈ TB := tb_5 (i := 201) rfl rfl
set_option maxRecDepth 100000 in
theorem q_1162 : Cond.methodLink RX9 218 yX9_drawn ∈ TB := tb_5 (i := 202) rfl rfl
set_option maxRecDepth 100000 in
theorem q_1164 : Cond.instanceMethod yX9_drawn ∈ TB := tb_5 (i := 204) rfl rfl
set_option maxRecDepth 100000 in
theorem q_1165 : Cond.code yX9_drawn prog_11_method_52_code 1 (Option.some Jvm.ClassFile.FieldType.int) ∈ TB := tb_5 (i := 205) rfl rfl
set_option maxRecDepth 100000 in
theorem q_1166 : Cond.constant RX9 217 1103515245 ∈ TB := tb_5 (i := 206) rfl rfl
set_option maxRecDepth 100000 in
theorem q_1167 : Cond.methodLink RX9 221 yX9_goesBy ∈ TB := tb_5 (i := 207) rfl rfl
set_option maxRecDepth 100000 in
theorem q_1169 : Cond.instanceMethod yX9_goesBy ∈ TB := tb_5 (i := 209) rfl rfl
set_option maxRecDepth 100000 in
theorem q_1170 : Cond.code yX9_goesBy prog_11_method_51_code 4 (Option.none : Option Jvm.ClassFile.FieldType) ∈ TB := tb_5 (i := 210) rfl rfl
set_option maxRecDepth 100000 in
theorem q_1171 : Cond.constant RX9 216 999999 ∈ TB := tb_5 (i := 211) rfl rfl
set_option maxRecDepth 100000 in
theorem q_1172 : Cond.methodLink RL 87 yX9_loose ∈ TB := tb_5 (i := 212) rfl rfl
set_option maxRecDepth 100000 in
theorem q_1173 : Cond.instanceMethod yX9_loose ∈ TB := tb_5 (i := 213) rfl rfl
set_option maxRecDepth 100000 in
theorem q_1174 : Cond.selects RX9 yX9_loose yX9_loose ∈ TB := tb_5 (i := 214) rfl rfl
set_option maxRecDepth 100000 in
theorem q_1175 : Cond.code yX9_loose prog_11_method_55_code 3 (Option.some Jvm.ClassFile.FieldType.int) ∈ TB := tb_5 (i := 215) rfl rfl
set_option maxRecDepth 100000 in
theorem q_1176 : Cond.methodLink RL 91 yX9_bestPlan ∈ TB := tb_5 (i := 216) rfl rfl
set_option maxRecDepth 100000 in
theorem q_1177 : Cond.instanceMethod yX9_bestPlan ∈ TB := tb_5 (i := 217) rfl rfl
set_option maxRecDepth 100000 in
theorem q_1178 : Cond.selects RX9 yX9_bestPlan yX9_bestPlan ∈ TB := tb_5 (i := 218) rfl rfl
set_option maxRecDepth 100000 in
theorem q_1179 : Cond.code yX9_bestPlan prog_11_method_59_code 7 (Option.some Jvm.ClassFile.FieldType.int) ∈ TB := tb_5 (i := 219) rfl rfl
set_option maxRecDepth 100000 in
theorem q_1180 : Cond.constantLong RX9 229 (-1) ∈ TB := tb_5 (i := 220) rfl rfl
set_option maxRecDepth 100000 in
theorem q_1181 : Cond.methodLink RX9 231 yX9_copies ∈ TB := tb_5 (i := 221) rfl rfl
set_option maxRecDepth 100000 in
theorem q_1182 : Cond.static yX9_copies ∈ TB := tb_5 (i := 222) rfl rfl
set_option maxRecDepth 100000 in
theorem q_1183 : Cond.code yX9_copies prog_11_method_8_code 3 (Option.none : Option Jvm.ClassFile.FieldType) ∈ TB := tb_5 (i := 223) rfl rfl
set_option maxRecDepth 100000 in
theorem q_1184 : Cond.methodLink RX9 235 yX9_laneIn ∈ TB := tb_5 (i := 224) rfl rfl
set_option maxRecDepth 100000 in
theorem q_1185 : Cond.static yX9_laneIn ∈ TB := tb_5 (i := 225) rfl rfl
set_option maxRecDepth 100000 in
theorem q_1186 : Cond.code yX9_laneIn prog_11_method_58_code 4 (Option.some Jvm.ClassFile.FieldType.int) ∈ TB := tb_5 (i := 226) rfl rfl
set_option maxRecDepth 100000 in
theorem q_1187 : Cond.methodLink RX9 238 yX9_plans ∈ TB := tb_5 (i := 227) rfl rfl
set_option maxRecDepth 100000 in
theorem q_1189 : Cond.instanceMethod yX9_plans ∈ TB := tb_5 (i := 229) rfl rfl
set_option maxRecDepth 100000 in
theorem q_1190 : Cond.code yX9_plans prog_11_method_57_code 6 (Option.none : Option Jvm.ClassFile.FieldType) ∈ TB := tb_5 (i := 230) rfl rfl
set_option maxRecDepth 100000 in
theorem q_1191 : Cond.methodLink RX9 242 yX9_isBetter ∈ TB := tb_5 (i := 231) rfl rfl
set_option maxRecDepth 100000 in
theorem q_1192 : Cond.static yX9_isBetter ∈ TB := tb_5 (i := 232) rfl rfl
set_option maxRecDepth 100000 in
theorem q_1193 : Cond.code yX9_isBetter prog_11_method_56_code 3 (Option.some Jvm.ClassFile.FieldType.boolean) ∈ TB := tb_5 (i := 233) rfl rfl
set_option maxRecDepth 100000 in
theorem q_1194 : Cond.methodLink RL 95 yX9_hold ∈ TB := tb_5 (i := 234) rfl rfl
set_option maxRecDepth 100000 in
theorem q_1195 : Cond.instanceMethod yX9_hold ∈ TB := tb_5 (i := 235) rfl rfl
set_option maxRecDepth 100000 in
theorem q_1196 : Cond.selects RX9 yX9_hold yX9_hold ∈ TB := tb_5 (i := 236) rfl rfl
set_option maxRecDepth 100000 in
theorem q_1197 : Cond.code yX9_hold prog_11_method_61_code 11 (Option.some Jvm.ClassFile.FieldType.int) ∈ TB := tb_5 (i := 237) rfl rfl
set_option maxRecDepth 100000 in
theorem q_1198 : Cond.methodLink RX9 246 yX9_endOf ∈ TB := tb_5 (i := 238) rfl rfl
set_option maxRecDepth 100000 in
theorem q_1200 : Cond.instanceMethod yX9_endOf ∈ TB := tb_6 (i := 0) rfl rfl
set_option maxRecDepth 100000 in
theorem q_1201 : Cond.code yX9_endOf prog_11_method_60_code 5 (Option.some Jvm.ClassFile.FieldType.int) ∈ TB := tb_6 (i := 1) rfl rfl
set_option maxRecDepth 100000 in
theorem q_1202 : Cond.methodLink RL 99 yX9_ask ∈ TB := tb_6 (i := 2) rfl rfl
set_option maxRecDepth 100000 in
theorem q_1203 : Cond.instanceMethod yX9_ask ∈ TB := tb_6 (i := 3) rfl rfl
set_option maxRecDepth 100000 in
theorem q_1204 : Cond.selects RX9 yX9_ask yX9_ask ∈ TB := tb_6 (i := 4) rfl rfl
set_option maxRecDepth 100000 in
theorem q_1205 : Cond.code yX9_ask prog_11_method_62_code 7 (Option.some Jvm.ClassFile.FieldType.int) ∈ TB := tb_6 (i := 5) rfl rfl
set_option maxRecDepth 100000 in
theorem q_1206 : Cond.methodLink RL 103 yX9_leastSight ∈ TB := tb_6 (i := 6) rfl rfl
set_option maxRecDepth 100000 in
theorem q_1207 : Cond.instanceMethod yX9_leastSight ∈ TB := tb_6 (i := 7) rfl rfl
set_option maxRecDepth 100000 in
theorem q_1208 : Cond.selects RX9 yX9_leastSight yX9_leastSight ∈ TB := tb_6 (i := 8) rfl rfl
set_option maxRecDepth 100000 in
theorem q_1209 : Cond.code yX9_leastSight prog_11_method_63_code 5 (Option.some Jvm.ClassFile.FieldType.int) ∈ TB := tb_6 (i := 9) rfl rfl
set_option maxRecDepth 100000 in
theorem q_1210 : Cond.methodLink RL 107 yX9_send ∈ TB := tb_6 (i := 10) rfl rfl
set_option maxRecDepth 100000 in
theorem q_1211 : Cond.instanceMethod yX9_send ∈ TB := tb_6 (i := 11) rfl rfl
set_option maxRecDepth 100000 in
theorem q_1212 : Cond.selects RX9 yX9_send yX9_send ∈ TB := tb_6 (i := 12) rfl rfl
set_option maxRecDepth 100000 in
theorem q_1213 : Cond.code yX9_send prog_11_method_64_code 5 (Option.some Jvm.ClassFile.FieldType.int) ∈ TB := tb_6 (i := 13) rfl rfl
set_option maxRecDepth 100000 in
theorem q_1214 : Cond.methodLink RL 112 yX9_diary ∈ TB := tb_6 (i := 14) rfl rfl
set_option maxRecDepth 100000 in
theorem q_1215 : Cond.instanceMethod yX9_diary ∈ TB := tb_6 (i := 15) rfl rfl
set_option maxRecDepth 100000 in
theorem q_1216 : Cond.selects RX9 yX9_diary yX9_diary ∈ TB := tb_6 (i := 16) rfl rfl
set_option maxRecDepth 100000 in
theorem q_1217 : Cond.code yX9_diary prog_11_method_65_code 9 (Option.some Jvm.ClassFile.FieldType.int) ∈ TB := tb_6 (i := 17) rfl rfl
set_option maxRecDepth 100000 in
theorem q_1218 : Cond.methodLink RL 116 yX9_training ∈ TB := tb_6 (i := 18) rfl rfl
set_option maxRecDepth 100000 in
theorem q_1219 : Cond.instanceMethod yX9_training ∈ TB := tb_6 (i := 19) rfl rfl
set_option maxRecDepth 100000 in
theorem q_1220 : Cond.selects RX9 yX9_training yX9_training ∈ TB := tb_6 (i := 20) rfl rfl
set_option maxRecDepth 100000 in
theorem q_1221 : Cond.code yX9_training prog_11_method_66_code 8 (Option.some Jvm.ClassFile.FieldType.int) ∈ TB := tb_6 (i := 21) rfl rfl
set_option maxRecDepth 100000 in
theorem q_1222 : Cond.methodLink RL 120 yX9_fair ∈ TB := tb_6 (i := 22) rfl rfl
set_option maxRecDepth 100000 in
theorem q_1223 : Cond.instanceMethod yX9_fair ∈ TB := tb_6 (i := 23) rfl rfl
set_option maxRecDepth 100000 in
theorem q_1224 : Cond.selects RX9 yX9_fair yX9_fair ∈ TB := tb_6 (i := 24) rfl rfl
set_option maxRecDepth 100000 in
theorem q_1225 : Cond.code yX9_fair prog_11_method_68_code 6 (Option.some Jvm.ClassFile.FieldType.int) ∈ TB := tb_6 (i := 25) rfl rfl
set_option maxRecDepth 100000 in
theorem q_1226 : Cond.methodLink RX9 249 yX9_changeSides ∈ TB := tb_6 (i := 26) rfl rfl
set_option maxRecDepth 100000 in
theorem q_1228 : Cond.instanceMethod yX9_changeSides ∈ TB := tb_6 (i := 28) rfl rfl
set_option maxRecDepth 100000 in
theorem q_1229 : Cond.code yX9_changeSides prog_11_method_67_code 3 (Option.none : Option Jvm.ClassFile.FieldType) ∈ TB := tb_6 (i := 29) rfl rfl
set_option maxRecDepth 100000 in
theorem q_1230 : Cond.methodLink RL 124 yX9_seed ∈ TB := tb_6 (i := 30) rfl rfl
set_option maxRecDepth 100000 in
theorem q_1231 : Cond.instanceMethod yX9_seed ∈ TB := tb_6 (i := 31) rfl rfl
set_option maxRecDepth 100000 in
theorem q_1232 : Cond.selects RX9 yX9_seed yX9_seed ∈ TB := tb_6 (i := 32) rfl rfl
set_option maxRecDepth 100000 in
theorem q_1233 : Cond.code yX9_seed prog_11_method_69_code 3 (Option.some Jvm.ClassFile.FieldType.int) ∈ TB := tb_6 (i := 33) rfl rfl
set_option maxRecDepth 100000 in
theorem q_1234 : Cond.methodLink RL 128 yX9_voice ∈ TB := tb_6 (i := 34) rfl rfl
set_option maxRecDepth 100000 in
theorem q_1235 : Cond.instanceMethod yX9_voice ∈ TB := tb_6 (i := 35) rfl rfl
set_option maxRecDepth 100000 in
theorem q_1236 : Cond.selects RX9 yX9_voice yX9_voice ∈ TB := tb_6 (i := 36) rfl rfl
set_option maxRecDepth 100000 in
theorem q_1237 : Cond.code yX9_voice prog_11_method_76_code 5 (Option.some Jvm.ClassFile.FieldType.int) ∈ TB := tb_6 (i := 37) rfl rfl
set_option maxRecDepth 100000 in
theorem q_1238 : Cond.methodLink RX9 264 yX9_own ∈ TB := tb_6 (i := 38) rfl rfl
set_option maxRecDepth 100000 in
theorem q_1240 : Cond.instanceMethod yX9_own ∈ TB := tb_6 (i := 40) rfl rfl
set_option maxRecDepth 100000 in
theorem q_1241 : Cond.code yX9_own prog_11_method_71_code 1 (Option.some Jvm.ClassFile.FieldType.int) ∈ TB := tb_6 (i := 41) rfl rfl
set_option maxRecDepth 100000 in
theorem q_1242 : Cond.methodLink RX9 261 yX9_swims ∈ TB := tb_6 (i := 42) rfl rfl
set_option maxRecDepth 100000 in
theorem q_1244 : Cond.instanceMethod yX9_swims ∈ TB := tb_6 (i := 44) rfl rfl
set_option maxRecDepth 100000 in
theorem q_1245 : Cond.code yX9_swims prog_11_method_72_code 3 (Option.some Jvm.ClassFile.FieldType.int) ∈ TB := tb_6 (i := 45) rfl rfl
set_option maxRecDepth 100000 in
theorem q_1246 : Cond.methodLink RX9 258 yX9_ran ∈ TB := tb_6 (i := 46) rfl rfl
set_option maxRecDepth 100000 in
theorem q_1248 : Cond.instanceMethod yX9_ran ∈ TB := tb_6 (i := 48) rfl rfl
set_option maxRecDepth 100000 in
theorem q_1249 : Cond.code yX9_ran prog_11_method_70_code 2 (Option.none : Option Jvm.ClassFile.FieldType) ∈ TB := tb_6 (i := 49) rfl rfl
set_option maxRecDepth 100000 in
theorem q_1250 : Cond.methodLink RX9 267 yX9_breathes ∈ TB := tb_6 (i := 50) rfl rfl
set_option maxRecDepth 100000 in
theorem q_1252 : Cond.instanceMethod yX9_breathes ∈ TB := tb_6 (i := 52) rfl rfl
set_option maxRecDepth 100000 in
theorem q_1253 : Cond.code yX9_breathes prog_11_method_73_code 4 (Option.some Jvm.ClassFile.FieldType.int) ∈ TB := tb_6 (i := 53) rfl rfl
set_option maxRecDepth 100000 in
theorem q_1254 : Cond.methodLink RX9 270 yX9_tires ∈ TB := tb_6 (i := 54) rfl rfl
set_option maxRecDepth 100000 in
theorem q_1256 : Cond.instanceMethod yX9_tires ∈ TB := tb_6 (i := 56) rfl rfl
set_option maxRecDepth 100000 in
theorem q_1257 : Cond.code yX9_tires prog_11_method_74_code 3 (Option.some Jvm.ClassFile.FieldType.int) ∈ TB := tb_6 (i := 57) rfl rfl
set_option maxRecDepth 100000 in
theorem q_1258 : Cond.methodLink RX9 273 yX9_tells ∈ TB := tb_6 (i := 58) rfl rfl
set_option maxRecDepth 100000 in
theorem q_1260 : Cond.instanceMethod yX9_tells ∈ TB := tb_6 (i := 60) rfl rfl
set_option maxRecDepth 100000 in
theorem q_1261 : Cond.code yX9_tells prog_11_method_75_code 4 (Option.some Jvm.ClassFile.FieldType.int) ∈ TB := tb_6 (i := 61) rfl rfl
set_option maxRecDepth 100000 in
theorem q_1262 : Cond.methodLink RL 132 yX9_trace ∈ TB := tb_6 (i := 62) rfl rfl
set_option maxRecDepth 100000 in
theorem q_1263 : Cond.instanceMethod yX9_trace ∈ TB := tb_6 (i := 63) rfl rfl
set_option maxRecDepth 100000 in
theorem q_1264 : Cond.selects RX9 yX9_trace yX9_trace ∈ TB := tb_6 (i := 64) rfl rfl
set_option maxRecDepth 100000 in
theorem q_1265 : Cond.code yX9_trace prog_11_method_77_code 2 (Option.some Jvm.ClassFile.FieldType.int) ∈ TB := tb_6 (i := 65) rfl rfl
set_option maxRecDepth 100000 in
theorem q_1266 : Cond.methodLink RL 136 yX9_sheet ∈ TB := tb_6 (i := 66) rfl rfl
set_option maxRecDepth 100000 in
theorem q_1267 : Cond.instanceMethod yX9_sheet ∈ TB := tb_6 (i := 67) rfl rfl
set_option maxRecDepth 100000 in
theorem q_1268 : Cond.selects RX9 yX9_sheet yX9_sheet ∈ TB := tb_6 (i := 68) rfl rfl
set_option maxRecDepth 100000 in
theorem q_1269 : Cond.code yX9_sheet prog_11_method_79_code 5 (Option.some Jvm.ClassFile.FieldType.int) ∈ TB := tb_6 (i := 69) rfl rfl
set_option maxRecDepth 100000 in
theorem q_1270 : Cond.methodLink RX9 276 yX9_isSheet ∈ TB := tb_6 (i := 70) rfl rfl
set_option maxRecDepth 100000 in
theorem q_1271 : Cond.static yX9_isSheet ∈ TB := tb_6 (i := 71) rfl rfl
set_option maxRecDepth 100000 in
theorem q_1272 : Cond.code yX9_isSheet prog_11_method_78_code 1 (Option.some Jvm.ClassFile.FieldType.boolean) ∈ TB := tb_6 (i := 72) rfl rfl
set_option maxRecDepth 100000 in
theorem q_1273 : Cond.methodLink RL 140 yX9_put ∈ TB := tb_6 (i := 73) rfl rfl
set_option maxRecDepth 100000 in
theorem q_1274 : Cond.instanceMethod yX9_put ∈ TB := tb_6 (i := 74) rfl rfl
set_option maxRecDepth 100000 in
theorem q_1275 : Cond.selects RX9 yX9_put yX9_put ∈ TB := tb_6 (i := 75) rfl rfl
set_option maxRecDepth 100000 in
theorem q_1276 : Cond.code yX9_put prog_11_method_80_code 4 (Option.some Jvm.ClassFile.FieldType.int) ∈ TB := tb_6 (i := 76) rfl rfl
set_option maxRecDepth 100000 in
theorem q_1277 : Cond.methodLink RL 144 yX9_move ∈ TB := tb_6 (i := 77) rfl rfl
set_option maxRecDepth 100000 in
theorem q_1278 : Cond.instanceMethod yX9_move ∈ TB := tb_6 (i := 78) rfl rfl
set_option maxRecDepth 100000 in
theorem q_1279 : Cond.selects RX9 yX9_move yX9_move ∈ TB := tb_6 (i := 79) rfl rfl
set_option maxRecDepth 100000 in
theorem q_1280 : Cond.code yX9_move prog_11_method_81_code 7 (Option.some Jvm.ClassFile.FieldType.int) ∈ TB := tb_6 (i := 80) rfl rfl
set_option maxRecDepth 100000 in
theorem q_1281 : Cond.methodLink RL 148 yX9_years ∈ TB := tb_6 (i := 81) rfl rfl
set_option maxRecDepth 100000 in
theorem q_1282 : Cond.instanceMethod yX9_years ∈ TB := tb_6 (i := 82) rfl rfl
set_option maxRecDepth 100000 in
theorem q_1283 : Cond.selects RX9 yX9_years yX9_years ∈ TB := tb_6 (i := 83) rfl rfl
set_option maxRecDepth 100000 in
theorem q_1284 : Cond.code yX9_years prog_11_method_82_code 4 (Option.some Jvm.ClassFile.FieldType.int) ∈ TB := tb_6 (i := 84) rfl rfl
set_option maxRecDepth 100000 in
theorem q_1285 : Cond.methodLink RL 152 yX9_judge ∈ TB := tb_6 (i := 85) rfl rfl
set_option maxRecDepth 100000 in
theorem q_1286 : Cond.instanceMethod yX9_judge ∈ TB := tb_6 (i := 86) rfl rfl
set_option maxRecDepth 100000 in
theorem q_1287 : Cond.selects RX9 yX9_judge yX9_judge ∈ TB := tb_6 (i := 87) rfl rfl
set_option maxRecDepth 100000 in
theorem q_1288 : Cond.code yX9_judge prog_11_method_83_code 5 (Option.some Jvm.ClassFile.FieldType.int) ∈ TB := tb_6 (i := 88) rfl rfl
set_option maxRecDepth 100000 in
theorem q_1289 : Cond.methodLink RL 157 yX9_image ∈ TB := tb_6 (i := 89) rfl rfl
set_option maxRecDepth 100000 in
theorem q_1290 : Cond.instanceMethod yX9_image ∈ TB := tb_6 (i := 90) rfl rfl
set_option maxRecDepth 100000 in
theorem q_1291 : Cond.selects RX9 yX9_image yX9_image ∈ TB := tb_6 (i := 91) rfl rfl
set_option maxRecDepth 100000 in
theorem q_1292 : Cond.code yX9_image prog_11_method_84_code 1 (Option.some Jvm.ClassFile.FieldType.int) ∈ TB := tb_6 (i := 92) rfl rfl
set_option maxRecDepth 100000 in
theorem q_1293 : Cond.methodLink RL 161 yX9_restore ∈ TB := tb_6 (i := 93) rfl rfl
set_option maxRecDepth 100000 in
theorem q_1294 : Cond.instanceMethod yX9_restore ∈ TB := tb_6 (i := 94) rfl rfl
set_option maxRecDepth 100000 in
theorem q_1295 : Cond.selects RX9 yX9_restore yX9_restore ∈ TB := tb_6 (i := 95) rfl rfl
set_option maxRecDepth 100000 in
theorem q_1296 : Cond.code yX9_restore prog_11_method_85_code 1 (Option.some Jvm.ClassFile.FieldType.int) ∈ TB := tb_6 (i := 96) rfl rfl
set_option maxRecDepth 100000 in
theorem q_1297 : Cond.methodLink RL 165 yX9_tell ∈ TB := tb_6 (i := 97) rfl rfl
set_option maxRecDepth 100000 in
theorem q_1298 : Cond.instanceMethod yX9_tell ∈ TB := tb_6 (i := 98) rfl rfl
set_option maxRecDepth 100000 in
theorem q_1299 : Cond.selects RX9 yX9_tell yX9_tell ∈ TB := tb_6 (i := 99) rfl rfl
set_option maxRecDepth 100000 in
theorem q_1300 : Cond.code yX9_tell prog_11_method_86_code 2 (Option.some Jvm.ClassFile.FieldType.int) ∈ TB := tb_6 (i := 100) rfl rfl
set_option maxRecDepth 100000 in
theorem q_1301 : Cond.methodLink RL 169 yX9_check ∈ TB := tb_6 (i := 101) rfl rfl
set_option maxRecDepth 100000 in
theorem q_1302 : Cond.instanceMethod yX9_check ∈ TB := tb_6 (i := 102) rfl rfl
set_option maxRecDepth 100000 in
theorem q_1303 : Cond.selects RX9 yX9_check yX9_check ∈ TB := tb_6 (i := 103) rfl rfl
set_option maxRecDepth 100000 in
theorem q_1304 : Cond.code yX9_check prog_11_method_87_code 6 (Option.some Jvm.ClassFile.FieldType.int) ∈ TB := tb_6 (i := 104) rfl rfl
set_option maxRecDepth 100000 in
theorem q_1305 : Cond.methodLink RL 173 yX9_count ∈ TB := tb_6 (i := 105) rfl rfl
set_option maxRecDepth 100000 in
theorem q_1306 : Cond.instanceMethod yX9_count ∈ TB := tb_6 (i := 106) rfl rfl
set_option maxRecDepth 100000 in
theorem q_1307 : Cond.selects RX9 yX9_count yX9_count ∈ TB := tb_6 (i := 107) rfl rfl
set_option maxRecDepth 100000 in
theorem q_1308 : Cond.code yX9_count prog_11_method_88_code 2 (Option.some Jvm.ClassFile.FieldType.int) ∈ TB := tb_6 (i := 108) rfl rfl
set_option maxRecDepth 100000 in
theorem q_1309 : Cond.methodLink RL 177 yX9_told ∈ TB := tb_6 (i := 109) rfl rfl
set_option maxRecDepth 100000 in
theorem q_1310 : Cond.instanceMethod yX9_told ∈ TB := tb_6 (i := 110) rfl rfl
set_option maxRecDepth 100000 in
theorem q_1311 : Cond.selects RX9 yX9_told yX9_told ∈ TB := tb_6 (i := 111) rfl rfl
set_option maxRecDepth 100000 in
theorem q_1312 : Cond.code yX9_told prog_11_method_89_code 2 (Option.some Jvm.ClassFile.FieldType.int) ∈ TB := tb_6 (i := 112) rfl rfl
set_option maxRecDepth 100000 in
theorem q_1313 : Cond.constantLong RL 56 4294967295 ∈ TB := tb_6 (i := 113) rfl rfl
set_option maxRecDepth 100000 in
theorem q_1314 : Cond.fieldLink RJ0 15 RJ0 "coder" "B" ∈ TB := tb_6 (i := 114) rfl rfl
set_option maxRecDepth 100000 in
theorem q_1315 : Cond.fieldLink RJ0 9 RJ0 "value" "[B" ∈ TB := tb_6 (i := 115) rfl rfl
set_option maxRecDepth 100000 in
theorem qs_0 : Cond.selects RX8 yX8_refuse yX8_refuse ∈ TB := tb_0 (i := 0) rfl rfl
set_option maxRecDepth 100000 in
theorem qs_1 : Cond.selects RX1 yX1_workOut yX1_workOut ∈ TB := tb_0 (i := 1) rfl rfl
set_option maxRecDepth 100000 in
theorem qs_2 : Cond.selects RX6 yX6_plainPace yX6_plainPace ∈ TB := tb_0 (i := 2) rfl rfl
set_option maxRecDepth 100000 in
theorem qs_3 : Cond.selects RX3 yX3_readAny yX3_readAny ∈ TB := tb_0 (i := 3) rfl rfl
set_option maxRecDepth 100000 in
theorem qs_4 : Cond.selects RX3 yX3_readAll yX3_readAll ∈ TB := tb_0 (i := 4) rfl rfl
set_option maxRecDepth 100000 in
theorem qs_5 : Cond.selects RX3 yX3_readComparison yX3_readComparison ∈ TB := tb_0 (i := 5) rfl rfl
set_option maxRecDepth 100000 in
theorem qs_6 : Cond.selects RX3 yX3_readSum yX3_readSum ∈ TB := tb_0 (i := 6) rfl rfl
set_option maxRecDepth 100000 in
theorem qs_7 : Cond.selects RX3 yX3_readProduct yX3_readProduct ∈ TB := tb_0 (i := 7) rfl rfl
set_option maxRecDepth 100000 in
theorem qs_8 : Cond.selects RX3 yX3_readPart yX3_readPart ∈ TB := tb_0 (i := 8) rfl rfl
set_option maxRecDepth 100000 in
theorem qs_9 : Cond.selects RX3 yX3_next yX3_next ∈ TB := tb_0 (i := 9) rfl rfl
set_option maxRecDepth 100000 in
theorem qs_10 : Cond.selects RX3 yX3_readNumber yX3_readNumber ∈ TB := tb_0 (i := 10) rfl rfl
set_option maxRecDepth 100000 in
theorem qs_11 : Cond.selects RX3 yX3_add yX3_add ∈ TB := tb_0 (i := 11) rfl rfl
set_option maxRecDepth 100000 in
theorem qs_12 : Cond.selects RX3 yX3_readNot yX3_readNot ∈ TB := tb_0 (i := 12) rfl rfl
set_option maxRecDepth 100000 in
theorem qs_13 : Cond.selects RX3 yX3_readBracket yX3_readBracket ∈ TB := tb_0 (i := 13) rfl rfl
set_option maxRecDepth 100000 in
theorem qs_14 : Cond.selects RX5 yX5_begin yX5_begin ∈ TB := tb_0 (i := 14) rfl rfl
set_option maxRecDepth 100000 in
theorem qs_15 : Cond.selects RX5 yX5_gap yX5_gap ∈ TB := tb_0 (i := 15) rfl rfl
set_option maxRecDepth 100000 in
theorem qs_16 : Cond.selects RX8 yX8_whyNoYear yX8_whyNoYear ∈ TB := tb_0 (i := 16) rfl rfl
set_option maxRecDepth 100000 in
theorem qs_17 : Cond.selects RX8 yX8_letYearGoBy yX8_letYearGoBy ∈ TB := tb_0 (i := 17) rfl rfl
set_option maxRecDepth 100000 in
theorem qs_18 : Cond.selects RX2 yX2_tryLanes yX2_tryLanes ∈ TB := tb_0 (i := 18) rfl rfl
set_option maxRecDepth 100000 in
theorem qs_19 : Cond.selects RX2 yX2_setLane yX2_setLane ∈ TB := tb_0 (i := 19) rfl rfl
set_option maxRecDepth 100000 in
theorem qs_20 : Cond.selects RX2 yX2_meetsAt yX2_meetsAt ∈ TB := tb_0 (i := 20) rfl rfl
set_option maxRecDepth 100000 in
theorem qs_21 : Cond.selects RX8 yX8_worstPlaceIn yX8_worstPlaceIn ∈ TB := tb_0 (i := 21) rfl rfl
set_option maxRecDepth 100000 in
theorem qs_22 : Cond.selects RX8 yX8_meetInLane yX8_meetInLane ∈ TB := tb_0 (i := 22) rfl rfl
set_option maxRecDepth 100000 in
theorem qs_23 : Cond.selects RX7 yX7_say yX7_say ∈ TB := tb_0 (i := 23) rfl rfl
set_option maxRecDepth 100000 in
theorem qs_24 : Cond.selects RX7 yX7_note yX7_note ∈ TB := tb_0 (i := 24) rfl rfl
set_option maxRecDepth 100000 in
theorem qs_25 : Cond.selects RX8 yX8_sheetAt yX8_sheetAt ∈ TB := tb_0 (i := 25) rfl rfl
set_option maxRecDepth 100000 in
theorem qs_26 : Cond.selects RX9 yX9_finds yX9_finds ∈ TB := tb_0 (i := 26) rfl rfl
set_option maxRecDepth 100000 in
theorem qs_27 : Cond.selects RX9 yX9_reads yX9_reads ∈ TB := tb_0 (i := 27) rfl rfl
set_option maxRecDepth 100000 in
theorem qs_28 : Cond.selects RX9 yX9_either yX9_either ∈ TB := tb_0 (i := 28) rfl rfl
set_option maxRecDepth 100000 in
theorem qs_29 : Cond.selects RX9 yX9_both yX9_both ∈ TB := tb_0 (i := 29) rfl rfl
set_option maxRecDepth 100000 in
theorem qs_30 : Cond.selects RX9 yX9_compared yX9_compared ∈ TB := tb_0 (i := 30) rfl rfl
set_option maxRecDepth 100000 in
theorem qs_31 : Cond.selects RX9 yX9_sum yX9_sum ∈ TB := tb_0 (i := 31) rfl rfl
set_option maxRecDepth 100000 in
theorem qs_32 : Cond.selects RX9 yX9_product yX9_product ∈ TB := tb_0 (i := 32) rfl rfl
set_option maxRecDepth 100000 in
theorem qs_33 : Cond.selects RX9 yX9_unit yX9_unit ∈ TB := tb_0 (i := 33) rfl rfl
set_option maxRecDepth 100000 in
theorem qs_34 : Cond.selects RX9 yX9_here yX9_here ∈ TB := tb_0 (i := 34) rfl rfl
set_option maxRecDepth 100000 in
theorem qs_35 : Cond.selects RX9 yX9_opens yX9_opens ∈ TB := tb_0 (i := 35) rfl rfl
set_option maxRecDepth 100000 in
theorem qs_36 : Cond.selects RX9 yX9_wrong yX9_wrong ∈ TB := tb_0 (i := 36) rfl rfl
set_option maxRecDepth 100000 in
theorem qs_37 : Cond.selects RX9 yX9_lay yX9_lay ∈ TB := tb_0 (i := 37) rfl rfl
set_option maxRecDepth 100000 in
theorem qs_38 : Cond.selects RX9 yX9_takes yX9_takes ∈ TB := tb_0 (i := 38) rfl rfl
set_option maxRecDepth 100000 in
theorem qs_39 : Cond.selects RX9 yX9_nameOf yX9_nameOf ∈ TB := tb_0 (i := 39) rfl rfl
set_option maxRecDepth 100000 in
theorem qs_40 : Cond.selects RX9 yX9_gives yX9_gives ∈ TB := tb_0 (i := 40) rfl rfl
set_option maxRecDepth 100000 in
theorem qs_41 : Cond.selects RX9 yX9_worked yX9_worked ∈ TB := tb_0 (i := 41) rfl rfl
set_option maxRecDepth 100000 in
theorem qs_42 : Cond.selects RX9 yX9_flowOf yX9_flowOf ∈ TB := tb_0 (i := 42) rfl rfl
set_option maxRecDepth 100000 in
theorem qs_43 : Cond.selects RX9 yX9_becomes yX9_becomes ∈ TB := tb_0 (i := 43) rfl rfl
set_option maxRecDepth 100000 in
theorem qs_44 : Cond.selects RX9 yX9_isSwimmer yX9_isSwimmer ∈ TB := tb_0 (i := 44) rfl rfl
set_option maxRecDepth 100000 in
theorem qs_45 : Cond.selects RX9 yX9_of yX9_of ∈ TB := tb_0 (i := 45) rfl rfl
set_option maxRecDepth 100000 in
theorem qs_46 : Cond.selects RX9 yX9_paceOf yX9_paceOf ∈ TB := tb_0 (i := 46) rfl rfl
set_option maxRecDepth 100000 in
theorem qs_47 : Cond.selects RX9 yX9_goes yX9_goes ∈ TB := tb_0 (i := 47) rfl rfl
set_option maxRecDepth 100000 in
theorem qs_48 : Cond.selects RX9 yX9_laneOf yX9_laneOf ∈ TB := tb_0 (i := 48) rfl rfl
set_option maxRecDepth 100000 in
theorem qs_49 : Cond.selects RX9 yX9_areUnlike yX9_areUnlike ∈ TB := tb_0 (i := 49) rfl rfl
set_option maxRecDepth 100000 in
theorem qs_50 : Cond.selects RX9 yX9_swim yX9_swim ∈ TB := tb_0 (i := 50) rfl rfl
set_option maxRecDepth 100000 in
theorem qs_51 : Cond.selects RX9 yX9_aYear yX9_aYear ∈ TB := tb_0 (i := 51) rfl rfl
set_option maxRecDepth 100000 in
theorem qs_52 : Cond.selects RX9 yX9_drawn yX9_drawn ∈ TB := tb_0 (i := 52) rfl rfl
set_option maxRecDepth 100000 in
theorem qs_53 : Cond.selects RX9 yX9_goesBy yX9_goesBy ∈ TB := tb_0 (i := 53) rfl rfl
set_option maxRecDepth 100000 in
theorem qs_54 : Cond.selects RX9 yX9_plans yX9_plans ∈ TB := tb_0 (i := 54) rfl rfl
set_option maxRecDepth 100000 in
theorem qs_55 : Cond.selects RX9 yX9_endOf yX9_endOf ∈ TB := tb_0 (i := 55) rfl rfl
set_option maxRecDepth 100000 in
theorem qs_56 : Cond.selects RX9 yX9_changeSides yX9_changeSides ∈ TB := tb_0 (i := 56) rfl rfl
set_option maxRecDepth 100000 in
theorem qs_57 : Cond.selects RX9 yX9_own yX9_own ∈ TB := tb_0 (i := 57) rfl rfl
set_option maxRecDepth 100000 in
theorem qs_58 : Cond.selects RX9 yX9_swims yX9_swims ∈ TB := tb_0 (i := 58) rfl rfl
set_option maxRecDepth 100000 in
theorem qs_59 : Cond.selects RX9 yX9_ran yX9_ran ∈ TB := tb_0 (i := 59) rfl rfl
set_option maxRecDepth 100000 in
theorem qs_60 : Cond.selects RX9 yX9_breathes yX9_breathes ∈ TB := tb_0 (i := 60) rfl rfl
set_option maxRecDepth 100000 in
theorem qs_61 : Cond.selects RX9 yX9_tires yX9_tires ∈ TB := tb_0 (i := 61) rfl rfl
set_option maxRecDepth 100000 in
theorem qs_62 : Cond.selects RX9 yX9_tells yX9_tells ∈ TB := tb_0 (i := 62) rfl rfl
set_option maxRecDepth 100000 in
theorem inX0 : ∀ w ∈ wsX00, w ∈ TB := tb_ws wsX00 [181, 183, 185, 187, 189, 191, 193, 195, 197, 199, 201, 203, 205, 207, 209, 211] (by decide +kernel) (by decide +kernel)
set_option maxRecDepth 100000 in
theorem inX1 : ∀ w ∈ wsX10, w ∈ TB := tb_ws wsX10 [107, 109, 111, 113] (by decide +kernel) (by decide +kernel)
set_option maxRecDepth 100000 in
theorem inX2 : ∀ w ∈ wsX20, w ∈ TB := tb_ws wsX20 [289, 291, 293, 295, 297, 299, 301, 303] (by decide +kernel) (by decide +kernel)
set_option maxRecDepth 100000 in
theorem inX3 : ∀ w ∈ wsX30, w ∈ TB := tb_ws wsX30 [229, 231, 233, 235, 237, 239] (by decide +kernel) (by decide +kernel)
set_option maxRecDepth 100000 in
theorem inX4 : ∀ w ∈ wsX40, w ∈ TB := tb_ws wsX40 [345, 347, 349] (by decide +kernel) (by decide +kernel)
set_option maxRecDepth 100000 in
theorem inX5 : ∀ w ∈ wsX50, w ∈ TB := tb_ws wsX50 [258, 260, 262, 264, 266, 268] (by decide +kernel) (by decide +kernel)
set_option maxRecDepth 100000 in
theorem inX6 : ∀ w ∈ wsX60, w ∈ TB := tb_ws wsX60 [139, 141, 143, 145, 147, 149] (by decide +kernel) (by decide +kernel)
set_option maxRecDepth 100000 in
theorem inX7 : ∀ w ∈ wsX70, w ∈ TB := tb_ws wsX70 [319, 321, 323, 325, 327] (by decide +kernel) (by decide +kernel)
set_option maxRecDepth 100000 in
theorem inX8 : ∀ w ∈ wsX80, w ∈ TB := tb_ws wsX80 [363, 365, 367, 369, 371, 373, 375, 377, 379, 381, 383] (by decide +kernel) (by decide +kernel)
set_option maxRecDepth 100000 in
theorem inX9 : ∀ w ∈ wsX90, w ∈ TB := tb_ws wsX90 [969, 971, 973, 975, 977, 979, 981, 983, 985, 987, 989, 991, 993, 995, 997, 999, 1001, 1003, 1005, 1007, 1009, 1011, 1013, 1015] (by decide +kernel) (by decide +kernel)
