/-! words of the tables -/
set_option maxRecDepth 100000 in
theorem am_tb {w : Cond} {i : Nat} (h : tables_1[i]? = some w) : w ∈ lw_tbl := List.mem_append_right _ (List.mem_of_getElem? h)
theorem w_41 : Cond.methodLink "SmokeRelay" 1 Lib.objectInit ∈ lw_tbl := am_tb (i := 41) (by decide +kernel)
theorem w_42 : Cond.instanceMethod Lib.objectInit ∈ lw_tbl := am_tb (i := 42) (by decide +kernel)
theorem w_43 : Cond.code Lib.objectInit ⟨#[0xb1]⟩ 1 none ∈ lw_tbl := am_tb (i := 43) (by decide +kernel)
theorem w_44 : Cond.classLink "SmokeRelay" 7 "SmokeRelay$Row" ∈ lw_tbl := am_tb (i := 44) (by decide +kernel)
theorem w_45 : Cond.instantiable "SmokeRelay$Row" 10 ∈ lw_tbl := am_tb (i := 45) (by decide +kernel)
theorem w_2 : Cond.initialized "SmokeRelay$Row" ∈ lw_tbl := am_tb (i := 2) (by decide +kernel)
set_option maxRecDepth 100000 in
theorem w_48 : am_cw (am_mi 1) ∈ lw_tbl := am_tb (i := 48) rfl
theorem w_47 : Cond.instanceMethod (am_mi 1).1 ∈ lw_tbl := am_tb (i := 47) (by decide +kernel)
theorem w_266 : Cond.fieldLink "SmokeRelay" 10 (am_T0 0).1 (am_T0 0).2.1 (am_T0 0).2.2.1 ∈ lw_tbl := am_tb (i := 266) (by decide +kernel)
theorem w_267 : Cond.fieldLink "SmokeRelay" 16 (am_T0 1).1 (am_T0 1).2.1 (am_T0 1).2.2.1 ∈ lw_tbl := am_tb (i := 267) (by decide +kernel)
theorem w_268 : Cond.fieldLink "SmokeRelay" 19 (am_T0 2).1 (am_T0 2).2.1 (am_T0 2).2.2.1 ∈ lw_tbl := am_tb (i := 268) (by decide +kernel)
theorem w_98 : Cond.classLink "SmokeRelay" 22 "SmokeRelay$History" ∈ lw_tbl := am_tb (i := 98) (by decide +kernel)
theorem w_99 : Cond.instantiable "SmokeRelay$History" 3 ∈ lw_tbl := am_tb (i := 99) (by decide +kernel)
theorem w_3 : Cond.initialized "SmokeRelay$History" ∈ lw_tbl := am_tb (i := 3) (by decide +kernel)
set_option maxRecDepth 100000 in
theorem w_102 : am_cw (am_mi 2) ∈ lw_tbl := am_tb (i := 102) rfl
theorem w_100 : Cond.methodLink "SmokeRelay" 24 (am_mi 2).1 ∈ lw_tbl := am_tb (i := 100) (by decide +kernel)
theorem w_101 : Cond.instanceMethod (am_mi 2).1 ∈ lw_tbl := am_tb (i := 101) (by decide +kernel)
theorem w_269 : Cond.fieldLink "SmokeRelay" 25 (am_T0 3).1 (am_T0 3).2.1 (am_T0 3).2.2.1 ∈ lw_tbl := am_tb (i := 269) (by decide +kernel)
theorem w_118 : Cond.classLink "SmokeRelay" 29 "SmokeRelay$Sight" ∈ lw_tbl := am_tb (i := 118) (by decide +kernel)
theorem w_119 : Cond.instantiable "SmokeRelay$Sight" 2 ∈ lw_tbl := am_tb (i := 119) (by decide +kernel)
theorem w_4 : Cond.initialized "SmokeRelay$Sight" ∈ lw_tbl := am_tb (i := 4) (by decide +kernel)
set_option maxRecDepth 100000 in
theorem w_122 : am_cw (am_mi 3) ∈ lw_tbl := am_tb (i := 122) rfl
theorem w_120 : Cond.methodLink "SmokeRelay" 31 (am_mi 3).1 ∈ lw_tbl := am_tb (i := 120) (by decide +kernel)
theorem w_121 : Cond.instanceMethod (am_mi 3).1 ∈ lw_tbl := am_tb (i := 121) (by decide +kernel)
theorem w_270 : Cond.fieldLink "SmokeRelay" 34 (am_T0 4).1 (am_T0 4).2.1 (am_T0 4).2.2.1 ∈ lw_tbl := am_tb (i := 270) (by decide +kernel)
theorem w_131 : Cond.classLink "SmokeRelay" 38 "SmokeRelay$Relays" ∈ lw_tbl := am_tb (i := 131) (by decide +kernel)
theorem w_132 : Cond.instantiable "SmokeRelay$Relays" 8 ∈ lw_tbl := am_tb (i := 132) (by decide +kernel)
theorem w_5 : Cond.initialized "SmokeRelay$Relays" ∈ lw_tbl := am_tb (i := 5) (by decide +kernel)
set_option maxRecDepth 100000 in
theorem w_135 : am_cw (am_mi 4) ∈ lw_tbl := am_tb (i := 135) rfl
theorem w_133 : Cond.methodLink "SmokeRelay" 40 (am_mi 4).1 ∈ lw_tbl := am_tb (i := 133) (by decide +kernel)
theorem w_134 : Cond.instanceMethod (am_mi 4).1 ∈ lw_tbl := am_tb (i := 134) (by decide +kernel)
theorem w_271 : Cond.fieldLink "SmokeRelay" 43 (am_T0 5).1 (am_T0 5).2.1 (am_T0 5).2.2.1 ∈ lw_tbl := am_tb (i := 271) (by decide +kernel)
theorem w_167 : Cond.classLink "SmokeRelay" 47 "SmokeRelay$Smokes" ∈ lw_tbl := am_tb (i := 167) (by decide +kernel)
theorem w_168 : Cond.instantiable "SmokeRelay$Smokes" 1 ∈ lw_tbl := am_tb (i := 168) (by decide +kernel)
theorem w_6 : Cond.initialized "SmokeRelay$Smokes" ∈ lw_tbl := am_tb (i := 6) (by decide +kernel)
set_option maxRecDepth 100000 in
theorem w_171 : am_cw (am_mi 5) ∈ lw_tbl := am_tb (i := 171) rfl
theorem w_169 : Cond.methodLink "SmokeRelay" 49 (am_mi 5).1 ∈ lw_tbl := am_tb (i := 169) (by decide +kernel)
theorem w_170 : Cond.instanceMethod (am_mi 5).1 ∈ lw_tbl := am_tb (i := 170) (by decide +kernel)
theorem w_272 : Cond.fieldLink "SmokeRelay" 50 (am_T0 6).1 (am_T0 6).2.1 (am_T0 6).2.2.1 ∈ lw_tbl := am_tb (i := 272) (by decide +kernel)
theorem w_189 : Cond.classLink "SmokeRelay" 54 "SmokeRelay$Codes" ∈ lw_tbl := am_tb (i := 189) (by decide +kernel)
theorem w_190 : Cond.instantiable "SmokeRelay$Codes" 7 ∈ lw_tbl := am_tb (i := 190) (by decide +kernel)
theorem w_9 : Cond.initialized "SmokeRelay$Codes" ∈ lw_tbl := am_tb (i := 9) (by decide +kernel)
set_option maxRecDepth 100000 in
theorem w_193 : am_cw (am_mi 9) ∈ lw_tbl := am_tb (i := 193) rfl
theorem w_191 : Cond.methodLink "SmokeRelay" 56 (am_mi 9).1 ∈ lw_tbl := am_tb (i := 191) (by decide +kernel)
theorem w_192 : Cond.instanceMethod (am_mi 9).1 ∈ lw_tbl := am_tb (i := 192) (by decide +kernel)
theorem w_273 : Cond.fieldLink "SmokeRelay" 57 (am_T0 7).1 (am_T0 7).2.1 (am_T0 7).2.2.1 ∈ lw_tbl := am_tb (i := 273) (by decide +kernel)
theorem w_217 : Cond.classLink "SmokeRelay" 61 "SmokeRelay$Input" ∈ lw_tbl := am_tb (i := 217) (by decide +kernel)
theorem w_218 : Cond.instantiable "SmokeRelay$Input" 7 ∈ lw_tbl := am_tb (i := 218) (by decide +kernel)
theorem w_10 : Cond.initialized "SmokeRelay$Input" ∈ lw_tbl := am_tb (i := 10) (by decide +kernel)
set_option maxRecDepth 100000 in
theorem w_221 : am_cw (am_mi 10) ∈ lw_tbl := am_tb (i := 221) rfl
theorem w_220 : Cond.instanceMethod (am_mi 10).1 ∈ lw_tbl := am_tb (i := 220) (by decide +kernel)
theorem w_274 : Cond.fieldLink "SmokeRelay" 64 (am_T0 8).1 (am_T0 8).2.1 (am_T0 8).2.2.1 ∈ lw_tbl := am_tb (i := 274) (by decide +kernel)
theorem w_251 : Cond.classLink "SmokeRelay" 68 "SmokeRelay$Output" ∈ lw_tbl := am_tb (i := 251) (by decide +kernel)
theorem w_252 : Cond.instantiable "SmokeRelay$Output" 2 ∈ lw_tbl := am_tb (i := 252) (by decide +kernel)
theorem w_11 : Cond.initialized "SmokeRelay$Output" ∈ lw_tbl := am_tb (i := 11) (by decide +kernel)
set_option maxRecDepth 100000 in
theorem w_255 : am_cw (am_mi 11) ∈ lw_tbl := am_tb (i := 255) rfl
theorem w_254 : Cond.instanceMethod (am_mi 11).1 ∈ lw_tbl := am_tb (i := 254) (by decide +kernel)
theorem w_275 : Cond.fieldLink "SmokeRelay" 71 (am_T0 9).1 (am_T0 9).2.1 (am_T0 9).2.2.1 ∈ lw_tbl := am_tb (i := 275) (by decide +kernel)
theorem w_276 : Cond.fieldLink "SmokeRelay" 75 (am_T0 10).1 (am_T0 10).2.1 (am_T0 10).2.2.1 ∈ lw_tbl := am_tb (i := 276) (by decide +kernel)
theorem w_277 : Cond.fieldLink "SmokeRelay" 79 (am_T0 11).1 (am_T0 11).2.1 (am_T0 11).2.2.1 ∈ lw_tbl := am_tb (i := 277) (by decide +kernel)
theorem w_278 : Cond.fieldLink "SmokeRelay" 83 (am_T0 12).1 (am_T0 12).2.1 (am_T0 12).2.2.1 ∈ lw_tbl := am_tb (i := 278) (by decide +kernel)
theorem w_279 : Cond.fieldLink "SmokeRelay" 86 (am_T0 13).1 (am_T0 13).2.1 (am_T0 13).2.2.1 ∈ lw_tbl := am_tb (i := 279) (by decide +kernel)
theorem w_280 : Cond.fieldLink "SmokeRelay" 89 (am_T0 14).1 (am_T0 14).2.1 (am_T0 14).2.2.1 ∈ lw_tbl := am_tb (i := 280) (by decide +kernel)
theorem w_49 : Cond.methodLink "SmokeRelay$Row" 3 Lib.objectInit ∈ lw_tbl := am_tb (i := 49) (by decide +kernel)
theorem w_97 : Cond.arrayClass .int ∈ lw_tbl := am_tb (i := 97) (by decide +kernel)
theorem w_50 : Cond.fieldLink "SmokeRelay$Row" 9 (am_T1 0).1 (am_T1 0).2.1 (am_T1 0).2.2.1 ∈ lw_tbl := am_tb (i := 50) (by decide +kernel)
theorem w_53 : Cond.fieldLink "SmokeRelay$Row" 15 (am_T1 1).1 (am_T1 1).2.1 (am_T1 1).2.2.1 ∈ lw_tbl := am_tb (i := 53) (by decide +kernel)
theorem w_57 : Cond.fieldLink "SmokeRelay$Row" 18 (am_T1 2).1 (am_T1 2).2.1 (am_T1 2).2.2.1 ∈ lw_tbl := am_tb (i := 57) (by decide +kernel)
theorem w_59 : Cond.fieldLink "SmokeRelay$Row" 21 (am_T1 3).1 (am_T1 3).2.1 (am_T1 3).2.2.1 ∈ lw_tbl := am_tb (i := 59) (by decide +kernel)
theorem w_61 : Cond.fieldLink "SmokeRelay$Row" 24 (am_T1 4).1 (am_T1 4).2.1 (am_T1 4).2.2.1 ∈ lw_tbl := am_tb (i := 61) (by decide +kernel)
theorem w_63 : Cond.fieldLink "SmokeRelay$Row" 27 (am_T1 5).1 (am_T1 5).2.1 (am_T1 5).2.2.1 ∈ lw_tbl := am_tb (i := 63) (by decide +kernel)
theorem w_65 : Cond.fieldLink "SmokeRelay$Row" 30 (am_T1 6).1 (am_T1 6).2.1 (am_T1 6).2.2.1 ∈ lw_tbl := am_tb (i := 65) (by decide +kernel)
theorem w_66 : Cond.fieldLink "SmokeRelay$Row" 33 (am_T1 7).1 (am_T1 7).2.1 (am_T1 7).2.2.1 ∈ lw_tbl := am_tb (i := 66) (by decide +kernel)
theorem w_69 : Cond.fieldLink "SmokeRelay$Row" 36 (am_T1 8).1 (am_T1 8).2.1 (am_T1 8).2.2.1 ∈ lw_tbl := am_tb (i := 69) (by decide +kernel)
theorem w_73 : Cond.fieldLink "SmokeRelay$Row" 40 (am_T1 9).1 (am_T1 9).2.1 (am_T1 9).2.2.1 ∈ lw_tbl := am_tb (i := 73) (by decide +kernel)
theorem w_103 : Cond.methodLink "SmokeRelay$History" 1 Lib.objectInit ∈ lw_tbl := am_tb (i := 103) (by decide +kernel)
theorem w_104 : Cond.classLink "SmokeRelay$History" 9 "SmokeRelay$Row" ∈ lw_tbl := am_tb (i := 104) (by decide +kernel)
theorem w_107 : Cond.fieldLink "SmokeRelay$History" 11 (am_T2 0).1 (am_T2 0).2.1 (am_T2 0).2.2.1 ∈ lw_tbl := am_tb (i := 107) (by decide +kernel)
theorem w_108 : Cond.fieldLink "SmokeRelay$History" 15 (am_T2 1).1 (am_T2 1).2.1 (am_T2 1).2.2.1 ∈ lw_tbl := am_tb (i := 108) (by decide +kernel)
theorem w_109 : Cond.fieldLink "SmokeRelay$History" 19 (am_T2 2).1 (am_T2 2).2.1 (am_T2 2).2.2.1 ∈ lw_tbl := am_tb (i := 109) (by decide +kernel)
theorem w_123 : Cond.methodLink "SmokeRelay$Sight" 3 Lib.objectInit ∈ lw_tbl := am_tb (i := 123) (by decide +kernel)
theorem w_125 : Cond.fieldLink "SmokeRelay$Sight" 9 (am_T3 1).1 (am_T3 1).2.1 (am_T3 1).2.2.1 ∈ lw_tbl := am_tb (i := 125) (by decide +kernel)
theorem w_124 : Cond.fieldLink "SmokeRelay$Sight" 15 (am_T3 0).1 (am_T3 0).2.1 (am_T3 0).2.2.1 ∈ lw_tbl := am_tb (i := 124) (by decide +kernel)
theorem w_136 : Cond.methodLink "SmokeRelay$Relays" 3 Lib.objectInit ∈ lw_tbl := am_tb (i := 136) (by decide +kernel)
theorem w_137 : Cond.classLink "SmokeRelay$Relays" 9 "[[I" ∈ lw_tbl := am_tb (i := 137) (by decide +kernel)
theorem w_141 : Cond.fieldLink "SmokeRelay$Relays" 11 (am_T4 2).1 (am_T4 2).2.1 (am_T4 2).2.2.1 ∈ lw_tbl := am_tb (i := 141) (by decide +kernel)
theorem w_142 : Cond.fieldLink "SmokeRelay$Relays" 16 (am_T4 3).1 (am_T4 3).2.1 (am_T4 3).2.2.1 ∈ lw_tbl := am_tb (i := 142) (by decide +kernel)
theorem w_143 : Cond.fieldLink "SmokeRelay$Relays" 19 (am_T4 4).1 (am_T4 4).2.1 (am_T4 4).2.2.1 ∈ lw_tbl := am_tb (i := 143) (by decide +kernel)
theorem w_144 : Cond.fieldLink "SmokeRelay$Relays" 23 (am_T4 5).1 (am_T4 5).2.1 (am_T4 5).2.2.1 ∈ lw_tbl := am_tb (i := 144) (by decide +kernel)
theorem w_146 : Cond.fieldLink "SmokeRelay$Relays" 26 (am_T4 6).1 (am_T4 6).2.1 (am_T4 6).2.2.1 ∈ lw_tbl := am_tb (i := 146) (by decide +kernel)
theorem w_148 : Cond.fieldLink "SmokeRelay$Relays" 30 (am_T4 7).1 (am_T4 7).2.1 (am_T4 7).2.2.1 ∈ lw_tbl := am_tb (i := 148) (by decide +kernel)
theorem w_139 : Cond.fieldLink "SmokeRelay$Relays" 33 (am_T4 0).1 (am_T4 0).2.1 (am_T4 0).2.2.1 ∈ lw_tbl := am_tb (i := 139) (by decide +kernel)
theorem w_140 : Cond.fieldLink "SmokeRelay$Relays" 37 (am_T4 1).1 (am_T4 1).2.1 (am_T4 1).2.2.1 ∈ lw_tbl := am_tb (i := 140) (by decide +kernel)
theorem w_172 : Cond.methodLink "SmokeRelay$Smokes" 3 Lib.objectInit ∈ lw_tbl := am_tb (i := 172) (by decide +kernel)
theorem w_185 : Cond.fieldLink "SmokeRelay$Smokes" 9 (am_T5 0).1 (am_T5 0).2.1 (am_T5 0).2.2.1 ∈ lw_tbl := am_tb (i := 185) (by decide +kernel)
set_option maxRecDepth 100000 in
theorem w_175 : am_cw (am_mi 6) ∈ lw_tbl := am_tb (i := 175) rfl
theorem w_173 : Cond.methodLink "SmokeRelay$Smokes" 15 (am_mi 6).1 ∈ lw_tbl := am_tb (i := 173) (by decide +kernel)
theorem w_174 : Cond.static (am_mi 6).1 ∈ lw_tbl := am_tb (i := 174) (by decide +kernel)
set_option maxRecDepth 100000 in
theorem w_178 : am_cw (am_mi 7) ∈ lw_tbl := am_tb (i := 178) rfl
theorem w_176 : Cond.methodLink "SmokeRelay$Smokes" 24 (am_mi 7).1 ∈ lw_tbl := am_tb (i := 176) (by decide +kernel)
theorem w_177 : Cond.static (am_mi 7).1 ∈ lw_tbl := am_tb (i := 177) (by decide +kernel)
set_option maxRecDepth 100000 in
theorem w_181 : am_cw (am_mi 8) ∈ lw_tbl := am_tb (i := 181) rfl
theorem w_8 : Cond.initialized "java/lang/Integer" ∈ lw_tbl := am_tb (i := 8) (by decide +kernel)
theorem w_179 : Cond.methodLink "SmokeRelay$Smokes" 19 (am_mi 8).1 ∈ lw_tbl := am_tb (i := 179) (by decide +kernel)
theorem w_180 : Cond.static (am_mi 8).1 ∈ lw_tbl := am_tb (i := 180) (by decide +kernel)
theorem w_182 : Cond.constant "java/lang/Integer" 265 1431655765 ∈ lw_tbl := am_tb (i := 182) (by decide +kernel)
theorem w_183 : Cond.constant "java/lang/Integer" 266 858993459 ∈ lw_tbl := am_tb (i := 183) (by decide +kernel)
theorem w_184 : Cond.constant "java/lang/Integer" 267 252645135 ∈ lw_tbl := am_tb (i := 184) (by decide +kernel)
theorem w_194 : Cond.methodLink "SmokeRelay$Codes" 3 Lib.objectInit ∈ lw_tbl := am_tb (i := 194) (by decide +kernel)
theorem w_196 : Cond.fieldLink "SmokeRelay$Codes" 9 (am_T6 1).1 (am_T6 1).2.1 (am_T6 1).2.2.1 ∈ lw_tbl := am_tb (i := 196) (by decide +kernel)
theorem w_197 : Cond.fieldLink "SmokeRelay$Codes" 15 (am_T6 2).1 (am_T6 2).2.1 (am_T6 2).2.2.1 ∈ lw_tbl := am_tb (i := 197) (by decide +kernel)
theorem w_198 : Cond.fieldLink "SmokeRelay$Codes" 18 (am_T6 3).1 (am_T6 3).2.1 (am_T6 3).2.2.1 ∈ lw_tbl := am_tb (i := 198) (by decide +kernel)
theorem w_199 : Cond.fieldLink "SmokeRelay$Codes" 22 (am_T6 4).1 (am_T6 4).2.1 (am_T6 4).2.2.1 ∈ lw_tbl := am_tb (i := 199) (by decide +kernel)
theorem w_200 : Cond.fieldLink "SmokeRelay$Codes" 25 (am_T6 5).1 (am_T6 5).2.1 (am_T6 5).2.2.1 ∈ lw_tbl := am_tb (i := 200) (by decide +kernel)
theorem w_201 : Cond.fieldLink "SmokeRelay$Codes" 28 (am_T6 6).1 (am_T6 6).2.1 (am_T6 6).2.2.1 ∈ lw_tbl := am_tb (i := 201) (by decide +kernel)
theorem w_195 : Cond.fieldLink "SmokeRelay$Codes" 31 (am_T6 0).1 (am_T6 0).2.1 (am_T6 0).2.2.1 ∈ lw_tbl := am_tb (i := 195) (by decide +kernel)
theorem w_222 : Cond.methodLink "SmokeRelay$Input" 5 Lib.objectInit ∈ lw_tbl := am_tb (i := 222) (by decide +kernel)
theorem w_250 : Cond.arrayClass .char ∈ lw_tbl := am_tb (i := 250) (by decide +kernel)
theorem w_225 : Cond.fieldLink "SmokeRelay$Input" 11 (am_T7 0).1 (am_T7 0).2.1 (am_T7 0).2.2.1 ∈ lw_tbl := am_tb (i := 225) (by decide +kernel)
theorem w_223 : Cond.classLink "SmokeRelay$Input" 15 "SmokeRelay$Kind" ∈ lw_tbl := am_tb (i := 223) (by decide +kernel)
theorem w_226 : Cond.fieldLink "SmokeRelay$Input" 17 (am_T7 1).1 (am_T7 1).2.1 (am_T7 1).2.2.1 ∈ lw_tbl := am_tb (i := 226) (by decide +kernel)
theorem w_227 : Cond.fieldLink "SmokeRelay$Input" 21 (am_T7 2).1 (am_T7 2).2.1 (am_T7 2).2.2.1 ∈ lw_tbl := am_tb (i := 227) (by decide +kernel)
theorem w_228 : Cond.fieldLink "SmokeRelay$Input" 25 (am_T7 3).1 (am_T7 3).2.1 (am_T7 3).2.2.1 ∈ lw_tbl := am_tb (i := 228) (by decide +kernel)
theorem w_229 : Cond.fieldLink "SmokeRelay$Input" 29 (am_T7 4).1 (am_T7 4).2.1 (am_T7 4).2.2.1 ∈ lw_tbl := am_tb (i := 229) (by decide +kernel)
theorem w_231 : Cond.fieldLink "SmokeRelay$Input" 32 (am_T7 5).1 (am_T7 5).2.1 (am_T7 5).2.2.1 ∈ lw_tbl := am_tb (i := 231) (by decide +kernel)
theorem w_233 : Cond.fieldLink "SmokeRelay$Input" 35 (am_T7 6).1 (am_T7 6).2.1 (am_T7 6).2.2.1 ∈ lw_tbl := am_tb (i := 233) (by decide +kernel)
theorem w_256 : Cond.methodLink "SmokeRelay$Output" 1 Lib.objectInit ∈ lw_tbl := am_tb (i := 256) (by decide +kernel)
theorem w_257 : Cond.fieldLink "SmokeRelay$Output" 9 (am_T8 0).1 (am_T8 0).2.1 (am_T8 0).2.2.1 ∈ lw_tbl := am_tb (i := 257) (by decide +kernel)
theorem w_259 : Cond.fieldLink "SmokeRelay$Output" 13 (am_T8 1).1 (am_T8 1).2.1 (am_T8 1).2.2.1 ∈ lw_tbl := am_tb (i := 259) (by decide +kernel)
theorem w_71 : Cond.fieldLink "SmokeRelay" 144 (am_T1 8).1 (am_T1 8).2.1 (am_T1 8).2.2.1 ∈ lw_tbl := am_tb (i := 71) (by decide +kernel)
set_option maxRecDepth 100000 in
theorem w_781 : am_cw (am_mi 14) ∈ lw_tbl := am_tb (i := 781) rfl
theorem w_778 : Cond.methodLink "SmokeRelay" 188 (am_mi 14).1 ∈ lw_tbl := am_tb (i := 778) (by decide +kernel)
theorem w_779 : Cond.instanceMethod (am_mi 14).1 ∈ lw_tbl := am_tb (i := 779) (by decide +kernel)
theorem w_780 : Cond.selects (am_mi 14).1.cls (am_mi 14).1 (am_mi 14).1 ∈ lw_tbl := am_tb (i := 780) (by decide +kernel)
set_option maxRecDepth 100000 in
theorem w_785 : am_cw (am_mi 15) ∈ lw_tbl := am_tb (i := 785) rfl
theorem w_782 : Cond.methodLink "SmokeRelay$Sight" 57 (am_mi 15).1 ∈ lw_tbl := am_tb (i := 782) (by decide +kernel)
theorem w_784 : Cond.instanceMethod (am_mi 15).1 ∈ lw_tbl := am_tb (i := 784) (by decide +kernel)
theorem ws_15 : Cond.selects (am_mi 15).1.cls (am_mi 15).1 (am_mi 15).1 ∈ lw_tbl := List.mem_append_left _ (List.mem_of_getElem? (i := 17) (by decide +kernel))
theorem w_72 : Cond.fieldLink "SmokeRelay$Sight" 40 (am_T1 8).1 (am_T1 8).2.1 (am_T1 8).2.2.1 ∈ lw_tbl := am_tb (i := 72) (by decide +kernel)
set_option maxRecDepth 100000 in
theorem w_790 : am_cw (am_mi 20) ∈ lw_tbl := am_tb (i := 790) rfl
theorem w_787 : Cond.methodLink "SmokeRelay$Sight" 60 (am_mi 20).1 ∈ lw_tbl := am_tb (i := 787) (by decide +kernel)
theorem w_789 : Cond.instanceMethod (am_mi 20).1 ∈ lw_tbl := am_tb (i := 789) (by decide +kernel)
theorem ws_20 : Cond.selects (am_mi 20).1.cls (am_mi 20).1 (am_mi 20).1 ∈ lw_tbl := List.mem_append_left _ (List.mem_of_getElem? (i := 18) (by decide +kernel))
theorem w_791 : Cond.methodLink "SmokeRelay$Sight" 63 (am_mi 8).1 ∈ lw_tbl := am_tb (i := 791) (by decide +kernel)
set_option maxRecDepth 100000 in
theorem w_747 : am_cw (am_mi 16) ∈ lw_tbl := am_tb (i := 747) rfl
theorem w_786 : Cond.methodLink "SmokeRelay$Sight" 54 (am_mi 16).1 ∈ lw_tbl := am_tb (i := 786) (by decide +kernel)
theorem w_745 : Cond.instanceMethod (am_mi 16).1 ∈ lw_tbl := am_tb (i := 745) (by decide +kernel)
theorem w_746 : Cond.selects (am_mi 16).1.cls (am_mi 16).1 (am_mi 16).1 ∈ lw_tbl := am_tb (i := 746) (by decide +kernel)
set_option maxRecDepth 100000 in
theorem w_684 : am_cw (am_mi 17) ∈ lw_tbl := am_tb (i := 684) rfl
theorem w_748 : Cond.methodLink "SmokeRelay$Sight" 51 (am_mi 17).1 ∈ lw_tbl := am_tb (i := 748) (by decide +kernel)
theorem w_682 : Cond.instanceMethod (am_mi 17).1 ∈ lw_tbl := am_tb (i := 682) (by decide +kernel)
theorem w_683 : Cond.selects (am_mi 17).1.cls (am_mi 17).1 (am_mi 17).1 ∈ lw_tbl := am_tb (i := 683) (by decide +kernel)
theorem w_55 : Cond.fieldLink "SmokeRelay$Sight" 19 (am_T1 1).1 (am_T1 1).2.1 (am_T1 1).2.2.1 ∈ lw_tbl := am_tb (i := 55) (by decide +kernel)
set_option maxRecDepth 100000 in
theorem w_555 : am_cw (am_mi 18) ∈ lw_tbl := am_tb (i := 555) rfl
theorem w_552 : Cond.methodLink "SmokeRelay$Sight" 24 (am_mi 18).1 ∈ lw_tbl := am_tb (i := 552) (by decide +kernel)
theorem w_553 : Cond.instanceMethod (am_mi 18).1 ∈ lw_tbl := am_tb (i := 553) (by decide +kernel)
theorem w_554 : Cond.selects (am_mi 18).1.cls (am_mi 18).1 (am_mi 18).1 ∈ lw_tbl := am_tb (i := 554) (by decide +kernel)
theorem w_52 : Cond.fieldLink "SmokeRelay$Sight" 32 (am_T1 0).1 (am_T1 0).2.1 (am_T1 0).2.2.1 ∈ lw_tbl := am_tb (i := 52) (by decide +kernel)
set_option maxRecDepth 100000 in
theorem w_559 : am_cw (am_mi 19) ∈ lw_tbl := am_tb (i := 559) rfl
theorem w_556 : Cond.methodLink "SmokeRelay$Sight" 28 (am_mi 19).1 ∈ lw_tbl := am_tb (i := 556) (by decide +kernel)
theorem w_558 : Cond.instanceMethod (am_mi 19).1 ∈ lw_tbl := am_tb (i := 558) (by decide +kernel)
theorem ws_19 : Cond.selects (am_mi 19).1.cls (am_mi 19).1 (am_mi 19).1 ∈ lw_tbl := List.mem_append_left _ (List.mem_of_getElem? (i := 7) (by decide +kernel))
theorem w_560 : Cond.methodLink "SmokeRelay$Sight" 35 Lib.Math.abs.name ∈ lw_tbl := am_tb (i := 560) (by decide +kernel)
theorem w_561 : Cond.static Lib.Math.abs.name ∈ lw_tbl := am_tb (i := 561) (by decide +kernel)
theorem w_562 : Cond.code Lib.Math.abs.name Lib.Math.abs.code 1 (some .int) ∈ lw_tbl := am_tb (i := 562) (by decide +kernel)
theorem w_17 : Cond.initialized "java/lang/Math" ∈ lw_tbl := am_tb (i := 17) (by decide +kernel)
set_option maxRecDepth 100000 in
theorem w_799 : am_cw (am_mi 22) ∈ lw_tbl := am_tb (i := 799) rfl
theorem w_796 : Cond.methodLink "SmokeRelay" 192 (am_mi 22).1 ∈ lw_tbl := am_tb (i := 796) (by decide +kernel)
theorem w_797 : Cond.instanceMethod (am_mi 22).1 ∈ lw_tbl := am_tb (i := 797) (by decide +kernel)
theorem w_798 : Cond.selects (am_mi 22).1.cls (am_mi 22).1 (am_mi 22).1 ∈ lw_tbl := am_tb (i := 798) (by decide +kernel)
set_option maxRecDepth 100000 in
theorem w_802 : am_cw (am_mi 23) ∈ lw_tbl := am_tb (i := 802) rfl
theorem w_800 : Cond.methodLink "SmokeRelay$Sight" 68 (am_mi 23).1 ∈ lw_tbl := am_tb (i := 800) (by decide +kernel)
theorem w_801 : Cond.static (am_mi 23).1 ∈ lw_tbl := am_tb (i := 801) (by decide +kernel)
theorem w_803 : Cond.methodLink "SmokeRelay$Sight" 72 Lib.Math.min.name ∈ lw_tbl := am_tb (i := 803) (by decide +kernel)
theorem w_414 : Cond.static Lib.Math.min.name ∈ lw_tbl := am_tb (i := 414) (by decide +kernel)
theorem w_415 : Cond.code Lib.Math.min.name Lib.Math.min.code 2 (some .int) ∈ lw_tbl := am_tb (i := 415) (by decide +kernel)
theorem w_75 : Cond.fieldLink "SmokeRelay" 200 (am_T1 9).1 (am_T1 9).2.1 (am_T1 9).2.2.1 ∈ lw_tbl := am_tb (i := 75) (by decide +kernel)
set_option maxRecDepth 100000 in
theorem w_928 : am_cw (am_mi 26) ∈ lw_tbl := am_tb (i := 928) rfl
theorem w_925 : Cond.methodLink "SmokeRelay" 228 (am_mi 26).1 ∈ lw_tbl := am_tb (i := 925) (by decide +kernel)
theorem w_926 : Cond.instanceMethod (am_mi 26).1 ∈ lw_tbl := am_tb (i := 926) (by decide +kernel)
theorem w_927 : Cond.selects (am_mi 26).1.cls (am_mi 26).1 (am_mi 26).1 ∈ lw_tbl := am_tb (i := 927) (by decide +kernel)
set_option maxRecDepth 100000 in
theorem w_547 : am_cw (am_mi 27) ∈ lw_tbl := am_tb (i := 547) rfl
theorem w_544 : Cond.methodLink "SmokeRelay$Relays" 68 (am_mi 27).1 ∈ lw_tbl := am_tb (i := 544) (by decide +kernel)
theorem w_546 : Cond.instanceMethod (am_mi 27).1 ∈ lw_tbl := am_tb (i := 546) (by decide +kernel)
theorem ws_27 : Cond.selects (am_mi 27).1.cls (am_mi 27).1 (am_mi 27).1 ∈ lw_tbl := List.mem_append_left _ (List.mem_of_getElem? (i := 6) (by decide +kernel))
set_option maxRecDepth 100000 in
theorem w_821 : am_cw (am_mi 30) ∈ lw_tbl := am_tb (i := 821) rfl
theorem w_818 : Cond.methodLink "SmokeRelay$Relays" 95 (am_mi 30).1 ∈ lw_tbl := am_tb (i := 818) (by decide +kernel)
theorem w_820 : Cond.instanceMethod (am_mi 30).1 ∈ lw_tbl := am_tb (i := 820) (by decide +kernel)
theorem ws_30 : Cond.selects (am_mi 30).1.cls (am_mi 30).1 (am_mi 30).1 ∈ lw_tbl := List.mem_append_left _ (List.mem_of_getElem? (i := 19) (by decide +kernel))
theorem w_70 : Cond.fieldLink "SmokeRelay$Relays" 55 (am_T1 8).1 (am_T1 8).2.1 (am_T1 8).2.2.1 ∈ lw_tbl := am_tb (i := 70) (by decide +kernel)
set_option maxRecDepth 100000 in
theorem w_932 : am_cw (am_mi 31) ∈ lw_tbl := am_tb (i := 932) rfl
theorem w_929 : Cond.methodLink "SmokeRelay$Relays" 98 (am_mi 31).1 ∈ lw_tbl := am_tb (i := 929) (by decide +kernel)
theorem w_931 : Cond.instanceMethod (am_mi 31).1 ∈ lw_tbl := am_tb (i := 931) (by decide +kernel)
theorem ws_31 : Cond.selects (am_mi 31).1.cls (am_mi 31).1 (am_mi 31).1 ∈ lw_tbl := List.mem_append_left _ (List.mem_of_getElem? (i := 26) (by decide +kernel))
set_option maxRecDepth 100000 in
theorem w_551 : am_cw (am_mi 28) ∈ lw_tbl := am_tb (i := 551) rfl
theorem w_548 : Cond.methodLink "SmokeRelay$Relays" 58 (am_mi 28).1 ∈ lw_tbl := am_tb (i := 548) (by decide +kernel)
theorem w_549 : Cond.instanceMethod (am_mi 28).1 ∈ lw_tbl := am_tb (i := 549) (by decide +kernel)
theorem w_550 : Cond.selects (am_mi 28).1.cls (am_mi 28).1 (am_mi 28).1 ∈ lw_tbl := am_tb (i := 550) (by decide +kernel)
set_option maxRecDepth 100000 in
theorem w_566 : am_cw (am_mi 29) ∈ lw_tbl := am_tb (i := 566) rfl
theorem w_563 : Cond.methodLink "SmokeRelay$Relays" 64 (am_mi 29).1 ∈ lw_tbl := am_tb (i := 563) (by decide +kernel)
theorem w_564 : Cond.instanceMethod (am_mi 29).1 ∈ lw_tbl := am_tb (i := 564) (by decide +kernel)
theorem w_565 : Cond.selects (am_mi 29).1.cls (am_mi 29).1 (am_mi 29).1 ∈ lw_tbl := am_tb (i := 565) (by decide +kernel)
theorem w_570 : Cond.constant "SmokeRelay$Relays" 67 1000000 ∈ lw_tbl := am_tb (i := 570) (by decide +kernel)
theorem w_54 : Cond.fieldLink "SmokeRelay$Relays" 41 (am_T1 1).1 (am_T1 1).2.1 (am_T1 1).2.2.1 ∈ lw_tbl := am_tb (i := 54) (by decide +kernel)
theorem w_74 : Cond.fieldLink "SmokeRelay$Relays" 46 (am_T1 9).1 (am_T1 9).2.1 (am_T1 9).2.2.1 ∈ lw_tbl := am_tb (i := 74) (by decide +kernel)
theorem w_567 : Cond.methodLink "SmokeRelay$Relays" 49 Lib.Math.max.name ∈ lw_tbl := am_tb (i := 567) (by decide +kernel)
theorem w_568 : Cond.static Lib.Math.max.name ∈ lw_tbl := am_tb (i := 568) (by decide +kernel)
theorem w_569 : Cond.code Lib.Math.max.name Lib.Math.max.code 2 (some .int) ∈ lw_tbl := am_tb (i := 569) (by decide +kernel)
theorem w_587 : Cond.methodLink "SmokeRelay$Relays" 91 Lib.Math.min.name ∈ lw_tbl := am_tb (i := 587) (by decide +kernel)
set_option maxRecDepth 100000 in
theorem w_834 : am_cw (am_mi 33) ∈ lw_tbl := am_tb (i := 834) rfl
theorem w_831 : Cond.methodLink "SmokeRelay" 290 (am_mi 33).1 ∈ lw_tbl := am_tb (i := 831) (by decide +kernel)
theorem w_832 : Cond.instanceMethod (am_mi 33).1 ∈ lw_tbl := am_tb (i := 832) (by decide +kernel)
theorem w_833 : Cond.selects (am_mi 33).1.cls (am_mi 33).1 (am_mi 33).1 ∈ lw_tbl := am_tb (i := 833) (by decide +kernel)
set_option maxRecDepth 100000 in
theorem w_838 : am_cw (am_mi 34) ∈ lw_tbl := am_tb (i := 838) rfl
theorem w_835 : Cond.methodLink "SmokeRelay$Codes" 40 (am_mi 34).1 ∈ lw_tbl := am_tb (i := 835) (by decide +kernel)
theorem w_837 : Cond.instanceMethod (am_mi 34).1 ∈ lw_tbl := am_tb (i := 837) (by decide +kernel)
theorem ws_34 : Cond.selects (am_mi 34).1.cls (am_mi 34).1 (am_mi 34).1 ∈ lw_tbl := List.mem_append_left _ (List.mem_of_getElem? (i := 20) (by decide +kernel))
set_option maxRecDepth 100000 in
theorem w_842 : am_cw (am_mi 35) ∈ lw_tbl := am_tb (i := 842) rfl
theorem w_839 : Cond.methodLink "SmokeRelay$Codes" 43 (am_mi 35).1 ∈ lw_tbl := am_tb (i := 839) (by decide +kernel)
theorem w_841 : Cond.instanceMethod (am_mi 35).1 ∈ lw_tbl := am_tb (i := 841) (by decide +kernel)
theorem ws_35 : Cond.selects (am_mi 35).1.cls (am_mi 35).1 (am_mi 35).1 ∈ lw_tbl := List.mem_append_left _ (List.mem_of_getElem? (i := 21) (by decide +kernel))
theorem w_67 : Cond.fieldLink "SmokeRelay$Codes" 35 (am_T1 7).1 (am_T1 7).2.1 (am_T1 7).2.2.1 ∈ lw_tbl := am_tb (i := 67) (by decide +kernel)
set_option maxRecDepth 100000 in
theorem w_846 : am_cw (am_mi 36) ∈ lw_tbl := am_tb (i := 846) rfl
theorem w_843 : Cond.methodLink "SmokeRelay$Codes" 47 (am_mi 36).1 ∈ lw_tbl := am_tb (i := 843) (by decide +kernel)
theorem w_845 : Cond.instanceMethod (am_mi 36).1 ∈ lw_tbl := am_tb (i := 845) (by decide +kernel)
theorem ws_36 : Cond.selects (am_mi 36).1.cls (am_mi 36).1 (am_mi 36).1 ∈ lw_tbl := List.mem_append_left _ (List.mem_of_getElem? (i := 22) (by decide +kernel))
set_option maxRecDepth 100000 in
theorem w_850 : am_cw (am_mi 38) ∈ lw_tbl := am_tb (i := 850) rfl
theorem w_847 : Cond.methodLink "SmokeRelay" 293 (am_mi 38).1 ∈ lw_tbl := am_tb (i := 847) (by decide +kernel)
theorem w_848 : Cond.instanceMethod (am_mi 38).1 ∈ lw_tbl := am_tb (i := 848) (by decide +kernel)
theorem w_849 : Cond.selects (am_mi 38).1.cls (am_mi 38).1 (am_mi 38).1 ∈ lw_tbl := am_tb (i := 849) (by decide +kernel)
set_option maxRecDepth 100000 in
theorem w_854 : am_cw (am_mi 39) ∈ lw_tbl := am_tb (i := 854) rfl
theorem w_851 : Cond.methodLink "SmokeRelay$Codes" 51 (am_mi 39).1 ∈ lw_tbl := am_tb (i := 851) (by decide +kernel)
theorem w_853 : Cond.instanceMethod (am_mi 39).1 ∈ lw_tbl := am_tb (i := 853) (by decide +kernel)
theorem ws_39 : Cond.selects (am_mi 39).1.cls (am_mi 39).1 (am_mi 39).1 ∈ lw_tbl := List.mem_append_left _ (List.mem_of_getElem? (i := 23) (by decide +kernel))
set_option maxRecDepth 100000 in
theorem w_858 : am_cw (am_mi 40) ∈ lw_tbl := am_tb (i := 858) rfl
theorem w_855 : Cond.methodLink "SmokeRelay$Codes" 54 (am_mi 40).1 ∈ lw_tbl := am_tb (i := 855) (by decide +kernel)
theorem w_857 : Cond.instanceMethod (am_mi 40).1 ∈ lw_tbl := am_tb (i := 857) (by decide +kernel)
theorem ws_40 : Cond.selects (am_mi 40).1.cls (am_mi 40).1 (am_mi 40).1 ∈ lw_tbl := List.mem_append_left _ (List.mem_of_getElem? (i := 24) (by decide +kernel))
set_option maxRecDepth 100000 in
theorem w_811 : am_cw (am_mi 42) ∈ lw_tbl := am_tb (i := 811) rfl
theorem w_808 : Cond.methodLink "SmokeRelay" 325 (am_mi 42).1 ∈ lw_tbl := am_tb (i := 808) (by decide +kernel)
theorem w_809 : Cond.instanceMethod (am_mi 42).1 ∈ lw_tbl := am_tb (i := 809) (by decide +kernel)
theorem w_810 : Cond.selects (am_mi 42).1.cls (am_mi 42).1 (am_mi 42).1 ∈ lw_tbl := am_tb (i := 810) (by decide +kernel)
set_option maxRecDepth 100000 in
theorem w_817 : am_cw (am_mi 44) ∈ lw_tbl := am_tb (i := 817) rfl
theorem w_814 : Cond.methodLink "SmokeRelay" 329 (am_mi 44).1 ∈ lw_tbl := am_tb (i := 814) (by decide +kernel)
theorem w_815 : Cond.instanceMethod (am_mi 44).1 ∈ lw_tbl := am_tb (i := 815) (by decide +kernel)
theorem w_816 : Cond.selects (am_mi 44).1.cls (am_mi 44).1 (am_mi 44).1 ∈ lw_tbl := am_tb (i := 816) (by decide +kernel)
set_option maxRecDepth 100000 in
theorem w_825 : am_cw (am_mi 49) ∈ lw_tbl := am_tb (i := 825) rfl
theorem w_822 : Cond.methodLink "SmokeRelay" 330 (am_mi 49).1 ∈ lw_tbl := am_tb (i := 822) (by decide +kernel)
theorem w_823 : Cond.instanceMethod (am_mi 49).1 ∈ lw_tbl := am_tb (i := 823) (by decide +kernel)
theorem w_824 : Cond.selects (am_mi 49).1.cls (am_mi 49).1 (am_mi 49).1 ∈ lw_tbl := am_tb (i := 824) (by decide +kernel)
theorem w_812 : Cond.methodLink "SmokeRelay$Sight" 44 (am_mi 28).1 ∈ lw_tbl := am_tb (i := 812) (by decide +kernel)
set_option maxRecDepth 100000 in
theorem w_703 : am_cw (am_mi 43) ∈ lw_tbl := am_tb (i := 703) rfl
theorem w_813 : Cond.methodLink "SmokeRelay$Sight" 48 (am_mi 43).1 ∈ lw_tbl := am_tb (i := 813) (by decide +kernel)
theorem w_701 : Cond.instanceMethod (am_mi 43).1 ∈ lw_tbl := am_tb (i := 701) (by decide +kernel)
theorem w_702 : Cond.selects (am_mi 43).1.cls (am_mi 43).1 (am_mi 43).1 ∈ lw_tbl := am_tb (i := 702) (by decide +kernel)
set_option maxRecDepth 100000 in
theorem w_574 : am_cw (am_mi 45) ∈ lw_tbl := am_tb (i := 574) rfl
theorem w_571 : Cond.methodLink "SmokeRelay$Relays" 71 (am_mi 45).1 ∈ lw_tbl := am_tb (i := 571) (by decide +kernel)
theorem w_573 : Cond.instanceMethod (am_mi 45).1 ∈ lw_tbl := am_tb (i := 573) (by decide +kernel)
theorem ws_45 : Cond.selects (am_mi 45).1.cls (am_mi 45).1 (am_mi 45).1 ∈ lw_tbl := List.mem_append_left _ (List.mem_of_getElem? (i := 8) (by decide +kernel))
set_option maxRecDepth 100000 in
theorem w_577 : am_cw (am_mi 46) ∈ lw_tbl := am_tb (i := 577) rfl
theorem w_22 : Cond.initialized "java/util/Arrays" ∈ lw_tbl := am_tb (i := 22) (by decide +kernel)
theorem w_575 : Cond.methodLink "SmokeRelay$Relays" 79 (am_mi 46).1 ∈ lw_tbl := am_tb (i := 575) (by decide +kernel)
theorem w_576 : Cond.static (am_mi 46).1 ∈ lw_tbl := am_tb (i := 576) (by decide +kernel)
set_option maxRecDepth 100000 in
theorem w_581 : am_cw (am_mi 47) ∈ lw_tbl := am_tb (i := 581) rfl
theorem w_578 : Cond.methodLink "SmokeRelay$Relays" 85 (am_mi 47).1 ∈ lw_tbl := am_tb (i := 578) (by decide +kernel)
theorem w_580 : Cond.instanceMethod (am_mi 47).1 ∈ lw_tbl := am_tb (i := 580) (by decide +kernel)
theorem ws_47 : Cond.selects (am_mi 47).1.cls (am_mi 47).1 (am_mi 47).1 ∈ lw_tbl := List.mem_append_left _ (List.mem_of_getElem? (i := 9) (by decide +kernel))
set_option maxRecDepth 100000 in
theorem w_586 : am_cw (am_mi 48) ∈ lw_tbl := am_tb (i := 586) rfl
theorem w_583 : Cond.methodLink "SmokeRelay$Relays" 88 (am_mi 48).1 ∈ lw_tbl := am_tb (i := 583) (by decide +kernel)
theorem w_585 : Cond.instanceMethod (am_mi 48).1 ∈ lw_tbl := am_tb (i := 585) (by decide +kernel)
theorem ws_48 : Cond.selects (am_mi 48).1.cls (am_mi 48).1 (am_mi 48).1 ∈ lw_tbl := List.mem_append_left _ (List.mem_of_getElem? (i := 10) (by decide +kernel))
theorem w_582 : Cond.constant "SmokeRelay$Relays" 94 1000001 ∈ lw_tbl := am_tb (i := 582) (by decide +kernel)
set_option maxRecDepth 100000 in
theorem w_614 : am_cw (am_mi 50) ∈ lw_tbl := am_tb (i := 614) rfl
theorem w_826 : Cond.methodLink "SmokeRelay$Smokes" 33 (am_mi 50).1 ∈ lw_tbl := am_tb (i := 826) (by decide +kernel)
theorem w_612 : Cond.instanceMethod (am_mi 50).1 ∈ lw_tbl := am_tb (i := 612) (by decide +kernel)
theorem w_613 : Cond.selects (am_mi 50).1.cls (am_mi 50).1 (am_mi 50).1 ∈ lw_tbl := am_tb (i := 613) (by decide +kernel)
set_option maxRecDepth 100000 in
theorem w_830 : am_cw (am_mi 51) ∈ lw_tbl := am_tb (i := 830) rfl
theorem w_827 : Cond.methodLink "SmokeRelay$Smokes" 36 (am_mi 51).1 ∈ lw_tbl := am_tb (i := 827) (by decide +kernel)
theorem w_828 : Cond.instanceMethod (am_mi 51).1 ∈ lw_tbl := am_tb (i := 828) (by decide +kernel)
theorem w_829 : Cond.selects (am_mi 51).1.cls (am_mi 51).1 (am_mi 51).1 ∈ lw_tbl := am_tb (i := 829) (by decide +kernel)
theorem w_410 : Cond.methodLink "SmokeRelay$Row" 43 arraycopyName ∈ lw_tbl := am_tb (i := 410) (by decide +kernel)
theorem w_412 : Cond.native arraycopyName ∈ lw_tbl := am_tb (i := 412) (by decide +kernel)
theorem w_411 : Cond.static arraycopyName ∈ lw_tbl := am_tb (i := 411) (by decide +kernel)
theorem w_16 : Cond.initialized "java/lang/System" ∈ lw_tbl := am_tb (i := 16) (by decide +kernel)
set_option maxRecDepth 100000 in
theorem w_326 : am_cw (am_mi 57) ∈ lw_tbl := am_tb (i := 326) rfl
theorem w_1 : Cond.initialized "SmokeRelay" ∈ lw_tbl := am_tb (i := 1) (by decide +kernel)
theorem w_324 : Cond.methodLink "SmokeRelay" 92 (am_mi 57).1 ∈ lw_tbl := am_tb (i := 324) (by decide +kernel)
theorem w_325 : Cond.static (am_mi 57).1 ∈ lw_tbl := am_tb (i := 325) (by decide +kernel)
set_option maxRecDepth 100000 in
theorem w_405 : am_cw (am_mi 59) ∈ lw_tbl := am_tb (i := 405) rfl
theorem w_402 : Cond.methodLink "SmokeRelay" 103 (am_mi 59).1 ∈ lw_tbl := am_tb (i := 402) (by decide +kernel)
theorem w_403 : Cond.instanceMethod (am_mi 59).1 ∈ lw_tbl := am_tb (i := 403) (by decide +kernel)
theorem w_404 : Cond.selects (am_mi 59).1.cls (am_mi 59).1 (am_mi 59).1 ∈ lw_tbl := am_tb (i := 404) (by decide +kernel)
theorem w_51 : Cond.fieldLink "SmokeRelay" 106 (am_T1 0).1 (am_T1 0).2.1 (am_T1 0).2.2.1 ∈ lw_tbl := am_tb (i := 51) (by decide +kernel)
set_option maxRecDepth 100000 in
theorem w_329 : am_cw (am_mi 58) ∈ lw_tbl := am_tb (i := 329) rfl
theorem w_327 : Cond.methodLink "SmokeRelay" 370 (am_mi 58).1 ∈ lw_tbl := am_tb (i := 327) (by decide +kernel)
theorem w_328 : Cond.static (am_mi 58).1 ∈ lw_tbl := am_tb (i := 328) (by decide +kernel)
set_option maxRecDepth 100000 in
theorem w_409 : am_cw (am_mi 54) ∈ lw_tbl := am_tb (i := 409) rfl
theorem w_406 : Cond.methodLink "SmokeRelay$History" 23 (am_mi 54).1 ∈ lw_tbl := am_tb (i := 406) (by decide +kernel)
theorem w_407 : Cond.instanceMethod (am_mi 54).1 ∈ lw_tbl := am_tb (i := 407) (by decide +kernel)
theorem w_408 : Cond.selects (am_mi 54).1.cls (am_mi 54).1 (am_mi 54).1 ∈ lw_tbl := am_tb (i := 408) (by decide +kernel)
theorem w_413 : Cond.methodLink "SmokeRelay$History" 27 Lib.Math.min.name ∈ lw_tbl := am_tb (i := 413) (by decide +kernel)
set_option maxRecDepth 100000 in
theorem w_426 : am_cw (am_mi 62) ∈ lw_tbl := am_tb (i := 426) rfl
theorem w_424 : Cond.methodLink "SmokeRelay" 110 (am_mi 62).1 ∈ lw_tbl := am_tb (i := 424) (by decide +kernel)
theorem w_425 : Cond.static (am_mi 62).1 ∈ lw_tbl := am_tb (i := 425) (by decide +kernel)
set_option maxRecDepth 100000 in
theorem w_434 : am_cw (am_mi 64) ∈ lw_tbl := am_tb (i := 434) rfl
theorem w_431 : Cond.methodLink "SmokeRelay" 116 (am_mi 64).1 ∈ lw_tbl := am_tb (i := 431) (by decide +kernel)
theorem w_433 : Cond.instanceMethod (am_mi 64).1 ∈ lw_tbl := am_tb (i := 433) (by decide +kernel)
theorem ws_64 : Cond.selects (am_mi 64).1.cls (am_mi 64).1 (am_mi 64).1 ∈ lw_tbl := List.mem_append_left _ (List.mem_of_getElem? (i := 1) (by decide +kernel))
set_option maxRecDepth 100000 in
theorem w_458 : am_cw (am_mi 66) ∈ lw_tbl := am_tb (i := 458) rfl
theorem w_455 : Cond.methodLink "SmokeRelay" 125 (am_mi 66).1 ∈ lw_tbl := am_tb (i := 455) (by decide +kernel)
theorem w_456 : Cond.instanceMethod (am_mi 66).1 ∈ lw_tbl := am_tb (i := 456) (by decide +kernel)
theorem w_457 : Cond.selects (am_mi 66).1.cls (am_mi 66).1 (am_mi 66).1 ∈ lw_tbl := am_tb (i := 457) (by decide +kernel)
set_option maxRecDepth 100000 in
theorem w_429 : am_cw (am_mi 63) ∈ lw_tbl := am_tb (i := 429) rfl
theorem w_427 : Cond.methodLink "SmokeRelay" 133 (am_mi 63).1 ∈ lw_tbl := am_tb (i := 427) (by decide +kernel)
theorem w_428 : Cond.static (am_mi 63).1 ∈ lw_tbl := am_tb (i := 428) (by decide +kernel)
set_option maxRecDepth 100000 in
theorem w_438 : am_cw (am_mi 65) ∈ lw_tbl := am_tb (i := 438) rfl
theorem w_435 : Cond.methodLink "SmokeRelay" 154 (am_mi 65).1 ∈ lw_tbl := am_tb (i := 435) (by decide +kernel)
theorem w_436 : Cond.instanceMethod (am_mi 65).1 ∈ lw_tbl := am_tb (i := 436) (by decide +kernel)
theorem w_437 : Cond.selects (am_mi 65).1.cls (am_mi 65).1 (am_mi 65).1 ∈ lw_tbl := am_tb (i := 437) (by decide +kernel)
set_option maxRecDepth 100000 in
theorem w_513 : am_cw (am_mi 69) ∈ lw_tbl := am_tb (i := 513) rfl
theorem w_510 : Cond.methodLink "SmokeRelay" 129 (am_mi 69).1 ∈ lw_tbl := am_tb (i := 510) (by decide +kernel)
theorem w_512 : Cond.instanceMethod (am_mi 69).1 ∈ lw_tbl := am_tb (i := 512) (by decide +kernel)
theorem ws_69 : Cond.selects (am_mi 69).1.cls (am_mi 69).1 (am_mi 69).1 ∈ lw_tbl := List.mem_append_left _ (List.mem_of_getElem? (i := 3) (by decide +kernel))
theorem w_60 : Cond.fieldLink "SmokeRelay" 138 (am_T1 3).1 (am_T1 3).2.1 (am_T1 3).2.2.1 ∈ lw_tbl := am_tb (i := 60) (by decide +kernel)
set_option maxRecDepth 100000 in
theorem w_517 : am_cw (am_mi 70) ∈ lw_tbl := am_tb (i := 517) rfl
theorem w_514 : Cond.methodLink "SmokeRelay" 379 (am_mi 70).1 ∈ lw_tbl := am_tb (i := 514) (by decide +kernel)
theorem w_516 : Cond.instanceMethod (am_mi 70).1 ∈ lw_tbl := am_tb (i := 516) (by decide +kernel)
theorem ws_70 : Cond.selects (am_mi 70).1.cls (am_mi 70).1 (am_mi 70).1 ∈ lw_tbl := List.mem_append_left _ (List.mem_of_getElem? (i := 4) (by decide +kernel))
set_option maxRecDepth 100000 in
theorem w_666 : am_cw (am_mi 73) ∈ lw_tbl := am_tb (i := 666) rfl
theorem w_664 : Cond.methodLink "SmokeRelay" 141 (am_mi 73).1 ∈ lw_tbl := am_tb (i := 664) (by decide +kernel)
theorem w_665 : Cond.static (am_mi 73).1 ∈ lw_tbl := am_tb (i := 665) (by decide +kernel)
theorem w_56 : Cond.fieldLink "SmokeRelay" 147 (am_T1 1).1 (am_T1 1).2.1 (am_T1 1).2.2.1 ∈ lw_tbl := am_tb (i := 56) (by decide +kernel)
theorem w_656 : Cond.methodLink "SmokeRelay" 150 (am_mi 18).1 ∈ lw_tbl := am_tb (i := 656) (by decide +kernel)
set_option maxRecDepth 100000 in
theorem w_715 : am_cw (am_mi 84) ∈ lw_tbl := am_tb (i := 715) rfl
theorem w_712 : Cond.methodLink "SmokeRelay" 162 (am_mi 84).1 ∈ lw_tbl := am_tb (i := 712) (by decide +kernel)
theorem w_713 : Cond.instanceMethod (am_mi 84).1 ∈ lw_tbl := am_tb (i := 713) (by decide +kernel)
theorem w_714 : Cond.selects (am_mi 84).1.cls (am_mi 84).1 (am_mi 84).1 ∈ lw_tbl := am_tb (i := 714) (by decide +kernel)
set_option maxRecDepth 100000 in
theorem w_719 : am_cw (am_mi 85) ∈ lw_tbl := am_tb (i := 719) rfl
theorem w_716 : Cond.methodLink "SmokeRelay$Row" 49 (am_mi 85).1 ∈ lw_tbl := am_tb (i := 716) (by decide +kernel)
theorem w_718 : Cond.instanceMethod (am_mi 85).1 ∈ lw_tbl := am_tb (i := 718) (by decide +kernel)
theorem ws_85 : Cond.selects (am_mi 85).1.cls (am_mi 85).1 (am_mi 85).1 ∈ lw_tbl := List.mem_append_left _ (List.mem_of_getElem? (i := 16) (by decide +kernel))
theorem w_720 : Cond.methodLink "SmokeRelay$Row" 53 (am_mi 18).1 ∈ lw_tbl := am_tb (i := 720) (by decide +kernel)
set_option maxRecDepth 100000 in
theorem w_509 : am_cw (am_mi 88) ∈ lw_tbl := am_tb (i := 509) rfl
theorem w_506 : Cond.methodLink "SmokeRelay" 167 (am_mi 88).1 ∈ lw_tbl := am_tb (i := 506) (by decide +kernel)
theorem w_508 : Cond.instanceMethod (am_mi 88).1 ∈ lw_tbl := am_tb (i := 508) (by decide +kernel)
theorem ws_88 : Cond.selects (am_mi 88).1.cls (am_mi 88).1 (am_mi 88).1 ∈ lw_tbl := List.mem_append_left _ (List.mem_of_getElem? (i := 2) (by decide +kernel))
theorem w_692 : Cond.methodLink "SmokeRelay" 171 (am_mi 28).1 ∈ lw_tbl := am_tb (i := 692) (by decide +kernel)
theorem w_700 : Cond.methodLink "SmokeRelay" 174 (am_mi 43).1 ∈ lw_tbl := am_tb (i := 700) (by decide +kernel)
theorem w_681 : Cond.methodLink "SmokeRelay" 177 (am_mi 17).1 ∈ lw_tbl := am_tb (i := 681) (by decide +kernel)
theorem w_744 : Cond.methodLink "SmokeRelay" 180 (am_mi 16).1 ∈ lw_tbl := am_tb (i := 744) (by decide +kernel)
theorem w_749 : Cond.methodLink "SmokeRelay" 183 (am_mi 8).1 ∈ lw_tbl := am_tb (i := 749) (by decide +kernel)
set_option maxRecDepth 100000 in
theorem w_472 : am_cw (am_mi 99) ∈ lw_tbl := am_tb (i := 472) rfl
theorem w_470 : Cond.methodLink "SmokeRelay" 195 (am_mi 99).1 ∈ lw_tbl := am_tb (i := 470) (by decide +kernel)
theorem w_471 : Cond.static (am_mi 99).1 ∈ lw_tbl := am_tb (i := 471) (by decide +kernel)
theorem w_879 : Cond.methodLink "SmokeRelay" 205 (am_mi 29).1 ∈ lw_tbl := am_tb (i := 879) (by decide +kernel)
set_option maxRecDepth 100000 in
theorem w_890 : am_cw (am_mi 104) ∈ lw_tbl := am_tb (i := 890) rfl
theorem w_887 : Cond.methodLink "SmokeRelay" 209 (am_mi 104).1 ∈ lw_tbl := am_tb (i := 887) (by decide +kernel)
theorem w_889 : Cond.instanceMethod (am_mi 104).1 ∈ lw_tbl := am_tb (i := 889) (by decide +kernel)
theorem ws_104 : Cond.selects (am_mi 104).1.cls (am_mi 104).1 (am_mi 104).1 ∈ lw_tbl := List.mem_append_left _ (List.mem_of_getElem? (i := 25) (by decide +kernel))
theorem w_149 : Cond.fieldLink "SmokeRelay" 212 (am_T4 7).1 (am_T4 7).2.1 (am_T4 7).2.2.1 ∈ lw_tbl := am_tb (i := 149) (by decide +kernel)
set_option maxRecDepth 100000 in
theorem w_543 : am_cw (am_mi 105) ∈ lw_tbl := am_tb (i := 543) rfl
theorem w_540 : Cond.methodLink "SmokeRelay" 269 (am_mi 105).1 ∈ lw_tbl := am_tb (i := 540) (by decide +kernel)
theorem w_541 : Cond.instanceMethod (am_mi 105).1 ∈ lw_tbl := am_tb (i := 541) (by decide +kernel)
theorem w_542 : Cond.selects (am_mi 105).1.cls (am_mi 105).1 (am_mi 105).1 ∈ lw_tbl := am_tb (i := 542) (by decide +kernel)
set_option maxRecDepth 100000 in
theorem w_591 : am_cw (am_mi 106) ∈ lw_tbl := am_tb (i := 591) rfl
theorem w_588 : Cond.methodLink "SmokeRelay$Relays" 75 (am_mi 106).1 ∈ lw_tbl := am_tb (i := 588) (by decide +kernel)
theorem w_590 : Cond.instanceMethod (am_mi 106).1 ∈ lw_tbl := am_tb (i := 590) (by decide +kernel)
theorem ws_106 : Cond.selects (am_mi 106).1.cls (am_mi 106).1 (am_mi 106).1 ∈ lw_tbl := List.mem_append_left _ (List.mem_of_getElem? (i := 11) (by decide +kernel))
set_option maxRecDepth 100000 in
theorem w_909 : am_cw (am_mi 109) ∈ lw_tbl := am_tb (i := 909) rfl
theorem w_906 : Cond.methodLink "SmokeRelay" 215 (am_mi 109).1 ∈ lw_tbl := am_tb (i := 906) (by decide +kernel)
theorem w_907 : Cond.instanceMethod (am_mi 109).1 ∈ lw_tbl := am_tb (i := 907) (by decide +kernel)
theorem w_908 : Cond.selects (am_mi 109).1.cls (am_mi 109).1 (am_mi 109).1 ∈ lw_tbl := am_tb (i := 908) (by decide +kernel)
theorem w_147 : Cond.fieldLink "SmokeRelay" 220 (am_T4 6).1 (am_T4 6).2.1 (am_T4 6).2.2.1 ∈ lw_tbl := am_tb (i := 147) (by decide +kernel)
theorem w_145 : Cond.fieldLink "SmokeRelay" 225 (am_T4 5).1 (am_T4 5).2.1 (am_T4 5).2.2.1 ∈ lw_tbl := am_tb (i := 145) (by decide +kernel)
set_option maxRecDepth 100000 in
theorem w_533 : am_cw (am_mi 116) ∈ lw_tbl := am_tb (i := 533) rfl
theorem w_531 : Cond.methodLink "SmokeRelay" 231 (am_mi 116).1 ∈ lw_tbl := am_tb (i := 531) (by decide +kernel)
theorem w_532 : Cond.static (am_mi 116).1 ∈ lw_tbl := am_tb (i := 532) (by decide +kernel)
set_option maxRecDepth 100000 in
theorem w_607 : am_cw (am_mi 117) ∈ lw_tbl := am_tb (i := 607) rfl
theorem w_604 : Cond.methodLink "SmokeRelay" 235 (am_mi 117).1 ∈ lw_tbl := am_tb (i := 604) (by decide +kernel)
theorem w_605 : Cond.instanceMethod (am_mi 117).1 ∈ lw_tbl := am_tb (i := 605) (by decide +kernel)
theorem w_606 : Cond.selects (am_mi 117).1.cls (am_mi 117).1 (am_mi 117).1 ∈ lw_tbl := am_tb (i := 606) (by decide +kernel)
set_option maxRecDepth 100000 in
theorem w_951 : am_cw (am_mi 120) ∈ lw_tbl := am_tb (i := 951) rfl
theorem w_949 : Cond.methodLink "SmokeRelay" 239 (am_mi 120).1 ∈ lw_tbl := am_tb (i := 949) (by decide +kernel)
theorem w_950 : Cond.static (am_mi 120).1 ∈ lw_tbl := am_tb (i := 950) (by decide +kernel)
theorem w_611 : Cond.methodLink "SmokeRelay" 242 (am_mi 50).1 ∈ lw_tbl := am_tb (i := 611) (by decide +kernel)
theorem w_961 : Cond.methodLink "SmokeRelay" 247 (am_mi 51).1 ∈ lw_tbl := am_tb (i := 961) (by decide +kernel)
set_option maxRecDepth 100000 in
theorem w_972 : am_cw (am_mi 125) ∈ lw_tbl := am_tb (i := 972) rfl
theorem w_969 : Cond.methodLink "SmokeRelay" 250 (am_mi 125).1 ∈ lw_tbl := am_tb (i := 969) (by decide +kernel)
theorem w_970 : Cond.instanceMethod (am_mi 125).1 ∈ lw_tbl := am_tb (i := 970) (by decide +kernel)
theorem w_971 : Cond.selects (am_mi 125).1.cls (am_mi 125).1 (am_mi 125).1 ∈ lw_tbl := am_tb (i := 971) (by decide +kernel)
theorem w_973 : Cond.methodLink "SmokeRelay$Smokes" 27 Lib.Math.min.name ∈ lw_tbl := am_tb (i := 973) (by decide +kernel)
set_option maxRecDepth 100000 in
theorem w_603 : am_cw (am_mi 128) ∈ lw_tbl := am_tb (i := 603) rfl
theorem w_600 : Cond.methodLink "SmokeRelay" 253 (am_mi 128).1 ∈ lw_tbl := am_tb (i := 600) (by decide +kernel)
theorem w_602 : Cond.instanceMethod (am_mi 128).1 ∈ lw_tbl := am_tb (i := 602) (by decide +kernel)
theorem ws_128 : Cond.selects (am_mi 128).1.cls (am_mi 128).1 (am_mi 128).1 ∈ lw_tbl := List.mem_append_left _ (List.mem_of_getElem? (i := 14) (by decide +kernel))
theorem w_62 : Cond.fieldLink "SmokeRelay" 275 (am_T1 4).1 (am_T1 4).2.1 (am_T1 4).2.2.1 ∈ lw_tbl := am_tb (i := 62) (by decide +kernel)
set_option maxRecDepth 100000 in
theorem w_610 : am_cw (am_mi 129) ∈ lw_tbl := am_tb (i := 610) rfl
theorem w_608 : Cond.methodLink "SmokeRelay" 384 (am_mi 129).1 ∈ lw_tbl := am_tb (i := 608) (by decide +kernel)
theorem w_609 : Cond.static (am_mi 129).1 ∈ lw_tbl := am_tb (i := 609) (by decide +kernel)
theorem w_535 : Cond.methodLink "SmokeRelay" 257 (am_mi 54).1 ∈ lw_tbl := am_tb (i := 535) (by decide +kernel)
set_option maxRecDepth 100000 in
theorem w_539 : am_cw (am_mi 132) ∈ lw_tbl := am_tb (i := 539) rfl
theorem w_536 : Cond.methodLink "SmokeRelay" 260 (am_mi 132).1 ∈ lw_tbl := am_tb (i := 536) (by decide +kernel)
theorem w_538 : Cond.instanceMethod (am_mi 132).1 ∈ lw_tbl := am_tb (i := 538) (by decide +kernel)
theorem ws_132 : Cond.selects (am_mi 132).1.cls (am_mi 132).1 (am_mi 132).1 ∈ lw_tbl := List.mem_append_left _ (List.mem_of_getElem? (i := 5) (by decide +kernel))
set_option maxRecDepth 100000 in
theorem w_595 : am_cw (am_mi 133) ∈ lw_tbl := am_tb (i := 595) rfl
theorem w_592 : Cond.methodLink "SmokeRelay" 387 (am_mi 133).1 ∈ lw_tbl := am_tb (i := 592) (by decide +kernel)
theorem w_594 : Cond.instanceMethod (am_mi 133).1 ∈ lw_tbl := am_tb (i := 594) (by decide +kernel)
theorem ws_133 : Cond.selects (am_mi 133).1.cls (am_mi 133).1 (am_mi 133).1 ∈ lw_tbl := List.mem_append_left _ (List.mem_of_getElem? (i := 12) (by decide +kernel))
set_option maxRecDepth 100000 in
theorem w_599 : am_cw (am_mi 134) ∈ lw_tbl := am_tb (i := 599) rfl
theorem w_596 : Cond.methodLink "SmokeRelay" 272 (am_mi 134).1 ∈ lw_tbl := am_tb (i := 596) (by decide +kernel)
theorem w_598 : Cond.instanceMethod (am_mi 134).1 ∈ lw_tbl := am_tb (i := 598) (by decide +kernel)
theorem ws_134 : Cond.selects (am_mi 134).1.cls (am_mi 134).1 (am_mi 134).1 ∈ lw_tbl := List.mem_append_left _ (List.mem_of_getElem? (i := 13) (by decide +kernel))
set_option maxRecDepth 100000 in
theorem w_618 : am_cw (am_mi 135) ∈ lw_tbl := am_tb (i := 618) rfl
theorem w_615 : Cond.methodLink "SmokeRelay" 390 (am_mi 135).1 ∈ lw_tbl := am_tb (i := 615) (by decide +kernel)
theorem w_617 : Cond.instanceMethod (am_mi 135).1 ∈ lw_tbl := am_tb (i := 617) (by decide +kernel)
theorem ws_135 : Cond.selects (am_mi 135).1.cls (am_mi 135).1 (am_mi 135).1 ∈ lw_tbl := List.mem_append_left _ (List.mem_of_getElem? (i := 15) (by decide +kernel))
set_option maxRecDepth 100000 in
theorem w_622 : am_cw (am_mi 136) ∈ lw_tbl := am_tb (i := 622) rfl
theorem w_619 : Cond.methodLink "SmokeRelay" 393 (am_mi 136).1 ∈ lw_tbl := am_tb (i := 619) (by decide +kernel)
theorem w_620 : Cond.instanceMethod (am_mi 136).1 ∈ lw_tbl := am_tb (i := 620) (by decide +kernel)
theorem w_621 : Cond.selects (am_mi 136).1.cls (am_mi 136).1 (am_mi 136).1 ∈ lw_tbl := am_tb (i := 621) (by decide +kernel)
theorem w_68 : Cond.fieldLink "SmokeRelay" 287 (am_T1 7).1 (am_T1 7).2.1 (am_T1 7).2.2.1 ∈ lw_tbl := am_tb (i := 68) (by decide +kernel)
theorem w_64 : Cond.fieldLink "SmokeRelay" 278 (am_T1 5).1 (am_T1 5).2.1 (am_T1 5).2.2.1 ∈ lw_tbl := am_tb (i := 64) (by decide +kernel)
set_option maxRecDepth 100000 in
theorem w_1013 : am_cw (am_mi 145) ∈ lw_tbl := am_tb (i := 1013) rfl
theorem w_1010 : Cond.methodLink "SmokeRelay" 283 (am_mi 145).1 ∈ lw_tbl := am_tb (i := 1010) (by decide +kernel)
theorem w_1011 : Cond.instanceMethod (am_mi 145).1 ∈ lw_tbl := am_tb (i := 1011) (by decide +kernel)
theorem w_1012 : Cond.selects (am_mi 145).1.cls (am_mi 145).1 (am_mi 145).1 ∈ lw_tbl := am_tb (i := 1012) (by decide +kernel)
set_option maxRecDepth 100000 in
theorem w_1313 : am_cw (am_mi 158) ∈ lw_tbl := am_tb (i := 1313) rfl
theorem w_1310 : Cond.methodLink "SmokeRelay" 303 (am_mi 158).1 ∈ lw_tbl := am_tb (i := 1310) (by decide +kernel)
theorem w_1311 : Cond.instanceMethod (am_mi 158).1 ∈ lw_tbl := am_tb (i := 1311) (by decide +kernel)
theorem w_1312 : Cond.selects (am_mi 158).1.cls (am_mi 158).1 (am_mi 158).1 ∈ lw_tbl := am_tb (i := 1312) (by decide +kernel)
set_option maxRecDepth 100000 in
theorem w_1317 : am_cw (am_mi 159) ∈ lw_tbl := am_tb (i := 1317) rfl
theorem w_1314 : Cond.methodLink "SmokeRelay" 306 (am_mi 159).1 ∈ lw_tbl := am_tb (i := 1314) (by decide +kernel)
theorem w_1315 : Cond.instanceMethod (am_mi 159).1 ∈ lw_tbl := am_tb (i := 1315) (by decide +kernel)
theorem w_1316 : Cond.selects (am_mi 159).1.cls (am_mi 159).1 (am_mi 159).1 ∈ lw_tbl := am_tb (i := 1316) (by decide +kernel)
set_option maxRecDepth 100000 in
theorem w_1321 : am_cw (am_mi 160) ∈ lw_tbl := am_tb (i := 1321) rfl
theorem w_1322 : Cond.methodLink "SmokeRelay" 309 (am_mi 160).1 ∈ lw_tbl := am_tb (i := 1322) (by decide +kernel)
theorem w_1319 : Cond.instanceMethod (am_mi 160).1 ∈ lw_tbl := am_tb (i := 1319) (by decide +kernel)
theorem w_1320 : Cond.selects (am_mi 160).1.cls (am_mi 160).1 (am_mi 160).1 ∈ lw_tbl := am_tb (i := 1320) (by decide +kernel)
theorem w_58 : Cond.fieldLink "SmokeRelay" 312 (am_T1 2).1 (am_T1 2).2.1 (am_T1 2).2.2.1 ∈ lw_tbl := am_tb (i := 58) (by decide +kernel)
theorem w_260 : Cond.fieldLink "SmokeRelay" 315 (am_T8 1).1 (am_T8 1).2.1 (am_T8 1).2.2.1 ∈ lw_tbl := am_tb (i := 260) (by decide +kernel)
theorem w_1318 : Cond.methodLink "SmokeRelay$Output" 17 (am_mi 160).1 ∈ lw_tbl := am_tb (i := 1318) (by decide +kernel)
theorem w_258 : Cond.fieldLink "SmokeRelay" 321 (am_T8 0).1 (am_T8 0).2.1 (am_T8 0).2.2.1 ∈ lw_tbl := am_tb (i := 258) (by decide +kernel)
set_option maxRecDepth 100000 in
theorem w_1429 : am_cw (am_mi 169) ∈ lw_tbl := am_tb (i := 1429) rfl
theorem w_1426 : Cond.methodLink "SmokeRelay" 331 (am_mi 169).1 ∈ lw_tbl := am_tb (i := 1426) (by decide +kernel)
theorem w_1427 : Cond.instanceMethod (am_mi 169).1 ∈ lw_tbl := am_tb (i := 1427) (by decide +kernel)
theorem w_1428 : Cond.selects (am_mi 169).1.cls (am_mi 169).1 (am_mi 169).1 ∈ lw_tbl := am_tb (i := 1428) (by decide +kernel)
theorem w_230 : Cond.fieldLink "SmokeRelay" 336 (am_T7 4).1 (am_T7 4).2.1 (am_T7 4).2.2.1 ∈ lw_tbl := am_tb (i := 230) (by decide +kernel)
set_option maxRecDepth 100000 in
theorem w_1441 : am_cw (am_mi 172) ∈ lw_tbl := am_tb (i := 1441) rfl
theorem w_1438 : Cond.methodLink "SmokeRelay" 337 (am_mi 172).1 ∈ lw_tbl := am_tb (i := 1438) (by decide +kernel)
theorem w_1439 : Cond.instanceMethod (am_mi 172).1 ∈ lw_tbl := am_tb (i := 1439) (by decide +kernel)
theorem w_1440 : Cond.selects (am_mi 172).1.cls (am_mi 172).1 (am_mi 172).1 ∈ lw_tbl := am_tb (i := 1440) (by decide +kernel)
set_option maxRecDepth 100000 in
theorem w_1489 : am_cw (am_mi 190) ∈ lw_tbl := am_tb (i := 1489) rfl
theorem w_1486 : Cond.methodLink "SmokeRelay" 340 (am_mi 190).1 ∈ lw_tbl := am_tb (i := 1486) (by decide +kernel)
theorem w_1487 : Cond.instanceMethod (am_mi 190).1 ∈ lw_tbl := am_tb (i := 1487) (by decide +kernel)
theorem w_1488 : Cond.selects (am_mi 190).1.cls (am_mi 190).1 (am_mi 190).1 ∈ lw_tbl := am_tb (i := 1488) (by decide +kernel)
theorem w_232 : Cond.fieldLink "SmokeRelay" 341 (am_T7 5).1 (am_T7 5).2.1 (am_T7 5).2.2.1 ∈ lw_tbl := am_tb (i := 232) (by decide +kernel)
theorem w_234 : Cond.fieldLink "SmokeRelay" 346 (am_T7 6).1 (am_T7 6).2.1 (am_T7 6).2.2.1 ∈ lw_tbl := am_tb (i := 234) (by decide +kernel)
set_option maxRecDepth 100000 in
theorem w_1494 : am_cw (am_mi 191) ∈ lw_tbl := am_tb (i := 1494) rfl
theorem w_1491 : Cond.methodLink "SmokeRelay" 349 (am_mi 191).1 ∈ lw_tbl := am_tb (i := 1491) (by decide +kernel)
theorem w_1493 : Cond.instanceMethod (am_mi 191).1 ∈ lw_tbl := am_tb (i := 1493) (by decide +kernel)
theorem ws_191 : Cond.selects (am_mi 191).1.cls (am_mi 191).1 (am_mi 191).1 ∈ lw_tbl := List.mem_append_left _ (List.mem_of_getElem? (i := 37) (by decide +kernel))
set_option maxRecDepth 100000 in
theorem w_1445 : am_cw (am_mi 173) ∈ lw_tbl := am_tb (i := 1445) rfl
theorem w_1442 : Cond.methodLink "SmokeRelay$Input" 38 (am_mi 173).1 ∈ lw_tbl := am_tb (i := 1442) (by decide +kernel)
theorem w_1444 : Cond.instanceMethod (am_mi 173).1 ∈ lw_tbl := am_tb (i := 1444) (by decide +kernel)
theorem ws_173 : Cond.selects (am_mi 173).1.cls (am_mi 173).1 (am_mi 173).1 ∈ lw_tbl := List.mem_append_left _ (List.mem_of_getElem? (i := 27) (by decide +kernel))
set_option maxRecDepth 100000 in
theorem w_1481 : am_cw (am_mi 188) ∈ lw_tbl := am_tb (i := 1481) rfl
theorem w_1478 : Cond.methodLink "SmokeRelay$Input" 42 (am_mi 188).1 ∈ lw_tbl := am_tb (i := 1478) (by decide +kernel)
theorem w_1480 : Cond.instanceMethod (am_mi 188).1 ∈ lw_tbl := am_tb (i := 1480) (by decide +kernel)
theorem ws_188 : Cond.selects (am_mi 188).1.cls (am_mi 188).1 (am_mi 188).1 ∈ lw_tbl := List.mem_append_left _ (List.mem_of_getElem? (i := 35) (by decide +kernel))
set_option maxRecDepth 100000 in
theorem w_1449 : am_cw (am_mi 174) ∈ lw_tbl := am_tb (i := 1449) rfl
theorem w_1446 : Cond.methodLink "SmokeRelay$Input" 46 (am_mi 174).1 ∈ lw_tbl := am_tb (i := 1446) (by decide +kernel)
theorem w_1448 : Cond.instanceMethod (am_mi 174).1 ∈ lw_tbl := am_tb (i := 1448) (by decide +kernel)
theorem ws_174 : Cond.selects (am_mi 174).1.cls (am_mi 174).1 (am_mi 174).1 ∈ lw_tbl := List.mem_append_left _ (List.mem_of_getElem? (i := 28) (by decide +kernel))
theorem w_1567 : Cond.fieldLink "SmokeRelay$Input" 50 (am_wF 90 1).1 (am_wF 90 1).2.1 (am_wF 90 1).2.2 ∈ lw_tbl := am_tb (i := 1567) (by decide +kernel)
set_option maxRecDepth 100000 in
theorem w_1190 : am_cw (am_mi 181) ∈ lw_tbl := am_tb (i := 1190) rfl
theorem w_21 : Cond.initialized "java/lang/String" ∈ lw_tbl := am_tb (i := 21) (by decide +kernel)
theorem w_1457 : Cond.methodLink "SmokeRelay$Input" 54 (am_mi 181).1 ∈ lw_tbl := am_tb (i := 1457) (by decide +kernel)
theorem w_1188 : Cond.instanceMethod (am_mi 181).1 ∈ lw_tbl := am_tb (i := 1188) (by decide +kernel)
theorem w_1189 : Cond.selects (am_mi 181).1.cls (am_mi 181).1 (am_mi 181).1 ∈ lw_tbl := am_tb (i := 1189) (by decide +kernel)
set_option maxRecDepth 100000 in
theorem w_1337 : am_cw (am_mi 175) ∈ lw_tbl := am_tb (i := 1337) rfl
theorem w_1452 : Cond.methodLink "SmokeRelay$Input" 59 (am_mi 175).1 ∈ lw_tbl := am_tb (i := 1452) (by decide +kernel)
theorem w_1335 : Cond.instanceMethod (am_mi 175).1 ∈ lw_tbl := am_tb (i := 1335) (by decide +kernel)
theorem w_1336 : Cond.selects (am_mi 175).1.cls (am_mi 175).1 (am_mi 175).1 ∈ lw_tbl := am_tb (i := 1336) (by decide +kernel)
set_option maxRecDepth 100000 in
theorem w_1461 : am_cw (am_mi 183) ∈ lw_tbl := am_tb (i := 1461) rfl
theorem w_1458 : Cond.methodLink "SmokeRelay$Input" 63 (am_mi 183).1 ∈ lw_tbl := am_tb (i := 1458) (by decide +kernel)
theorem w_1460 : Cond.instanceMethod (am_mi 183).1 ∈ lw_tbl := am_tb (i := 1460) (by decide +kernel)
theorem ws_183 : Cond.selects (am_mi 183).1.cls (am_mi 183).1 (am_mi 183).1 ∈ lw_tbl := List.mem_append_left _ (List.mem_of_getElem? (i := 30) (by decide +kernel))
theorem w_1450 : Cond.fieldLink "SmokeRelay$Input" 66 (am_st 0).1 (am_st 0).2.1 (am_st 0).2.2.1 ∈ lw_tbl := am_tb (i := 1450) (by decide +kernel)
set_option maxRecDepth 100000 in
theorem w_1456 : am_cw (am_mi 180) ∈ lw_tbl := am_tb (i := 1456) rfl
theorem w_1453 : Cond.methodLink "SmokeRelay$Input" 69 (am_mi 180).1 ∈ lw_tbl := am_tb (i := 1453) (by decide +kernel)
theorem w_1455 : Cond.instanceMethod (am_mi 180).1 ∈ lw_tbl := am_tb (i := 1455) (by decide +kernel)
theorem ws_180 : Cond.selects (am_mi 180).1.cls (am_mi 180).1 (am_mi 180).1 ∈ lw_tbl := List.mem_append_left _ (List.mem_of_getElem? (i := 29) (by decide +kernel))
set_option maxRecDepth 100000 in
theorem w_1341 : am_cw (am_mi 176) ∈ lw_tbl := am_tb (i := 1341) rfl
theorem w_1338 : Cond.methodLink "java/lang/String" 492 (am_mi 176).1 ∈ lw_tbl := am_tb (i := 1338) (by decide +kernel)
theorem w_1339 : Cond.instanceMethod (am_mi 176).1 ∈ lw_tbl := am_tb (i := 1339) (by decide +kernel)
theorem w_1340 : Cond.selects (am_mi 176).1.cls (am_mi 176).1 (am_mi 176).1 ∈ lw_tbl := am_tb (i := 1340) (by decide +kernel)
theorem w_1291 : Cond.fieldLink "java/lang/String" 9 (am_wF 91 0).1 (am_wF 91 0).2.1 (am_wF 91 0).2.2 ∈ lw_tbl := am_tb (i := 1291) (by decide +kernel)
set_option maxRecDepth 100000 in
theorem w_1344 : am_cw (am_mi 177) ∈ lw_tbl := am_tb (i := 1344) rfl
theorem w_29 : Cond.initialized "java/lang/StringLatin1" ∈ lw_tbl := am_tb (i := 29) (by decide +kernel)
theorem w_1342 : Cond.methodLink "java/lang/String" 495 (am_mi 177).1 ∈ lw_tbl := am_tb (i := 1342) (by decide +kernel)
theorem w_1343 : Cond.static (am_mi 177).1 ∈ lw_tbl := am_tb (i := 1343) (by decide +kernel)
theorem w_1195 : Cond.fieldLink "java/lang/String" 38 (am_st 2).1 (am_st 2).2.1 (am_st 2).2.2.1 ∈ lw_tbl := am_tb (i := 1195) (by decide +kernel)
theorem w_1292 : Cond.fieldLink "java/lang/String" 15 (am_wF 91 1).1 (am_wF 91 1).2.1 (am_wF 91 1).2.2 ∈ lw_tbl := am_tb (i := 1292) (by decide +kernel)
set_option maxRecDepth 100000 in
theorem w_1160 : am_cw (am_mi 178) ∈ lw_tbl := am_tb (i := 1160) rfl
theorem w_1345 : Cond.methodLink "java/lang/StringLatin1" 9 (am_mi 178).1 ∈ lw_tbl := am_tb (i := 1345) (by decide +kernel)
theorem w_1159 : Cond.static (am_mi 178).1 ∈ lw_tbl := am_tb (i := 1159) (by decide +kernel)
theorem w_1138 : Cond.fieldLink "java/lang/String" 1053 (am_st 5).1 (am_st 5).2.1 (am_st 5).2.2.1 ∈ lw_tbl := am_tb (i := 1138) (by decide +kernel)
set_option maxRecDepth 100000 in
theorem w_1163 : am_cw (am_mi 179) ∈ lw_tbl := am_tb (i := 1163) rfl
theorem w_30 : Cond.initialized "jdk/internal/util/Preconditions" ∈ lw_tbl := am_tb (i := 30) (by decide +kernel)
theorem w_1161 : Cond.methodLink "java/lang/String" 1059 (am_mi 179).1 ∈ lw_tbl := am_tb (i := 1161) (by decide +kernel)
theorem w_1162 : Cond.static (am_mi 179).1 ∈ lw_tbl := am_tb (i := 1162) (by decide +kernel)
set_option maxRecDepth 100000 in
theorem w_1194 : am_cw (am_mi 182) ∈ lw_tbl := am_tb (i := 1194) rfl
theorem w_1191 : Cond.methodLink "java/lang/String" 335 (am_mi 182).1 ∈ lw_tbl := am_tb (i := 1191) (by decide +kernel)
theorem w_1192 : Cond.instanceMethod (am_mi 182).1 ∈ lw_tbl := am_tb (i := 1192) (by decide +kernel)
theorem w_1193 : Cond.selects (am_mi 182).1.cls (am_mi 182).1 (am_mi 182).1 ∈ lw_tbl := am_tb (i := 1193) (by decide +kernel)
set_option maxRecDepth 100000 in
theorem w_1465 : am_cw (am_mi 184) ∈ lw_tbl := am_tb (i := 1465) rfl
theorem w_1462 : Cond.methodLink "SmokeRelay$Input" 72 (am_mi 184).1 ∈ lw_tbl := am_tb (i := 1462) (by decide +kernel)
theorem w_1464 : Cond.instanceMethod (am_mi 184).1 ∈ lw_tbl := am_tb (i := 1464) (by decide +kernel)
theorem ws_184 : Cond.selects (am_mi 184).1.cls (am_mi 184).1 (am_mi 184).1 ∈ lw_tbl := List.mem_append_left _ (List.mem_of_getElem? (i := 31) (by decide +kernel))
set_option maxRecDepth 100000 in
theorem w_1477 : am_cw (am_mi 187) ∈ lw_tbl := am_tb (i := 1477) rfl
theorem w_1474 : Cond.methodLink "SmokeRelay$Input" 75 (am_mi 187).1 ∈ lw_tbl := am_tb (i := 1474) (by decide +kernel)
theorem w_1476 : Cond.instanceMethod (am_mi 187).1 ∈ lw_tbl := am_tb (i := 1476) (by decide +kernel)
theorem ws_187 : Cond.selects (am_mi 187).1.cls (am_mi 187).1 (am_mi 187).1 ∈ lw_tbl := List.mem_append_left _ (List.mem_of_getElem? (i := 34) (by decide +kernel))
set_option maxRecDepth 100000 in
theorem w_1485 : am_cw (am_mi 189) ∈ lw_tbl := am_tb (i := 1485) rfl
theorem w_1482 : Cond.methodLink "SmokeRelay$Input" 79 (am_mi 189).1 ∈ lw_tbl := am_tb (i := 1482) (by decide +kernel)
theorem w_1484 : Cond.instanceMethod (am_mi 189).1 ∈ lw_tbl := am_tb (i := 1484) (by decide +kernel)
theorem ws_189 : Cond.selects (am_mi 189).1.cls (am_mi 189).1 (am_mi 189).1 ∈ lw_tbl := List.mem_append_left _ (List.mem_of_getElem? (i := 36) (by decide +kernel))
set_option maxRecDepth 100000 in
theorem w_1469 : am_cw (am_mi 185) ∈ lw_tbl := am_tb (i := 1469) rfl
theorem w_1466 : Cond.methodLink "SmokeRelay$Input" 82 (am_mi 185).1 ∈ lw_tbl := am_tb (i := 1466) (by decide +kernel)
theorem w_1468 : Cond.instanceMethod (am_mi 185).1 ∈ lw_tbl := am_tb (i := 1468) (by decide +kernel)
theorem ws_185 : Cond.selects (am_mi 185).1.cls (am_mi 185).1 (am_mi 185).1 ∈ lw_tbl := List.mem_append_left _ (List.mem_of_getElem? (i := 32) (by decide +kernel))
set_option maxRecDepth 100000 in
theorem w_1473 : am_cw (am_mi 186) ∈ lw_tbl := am_tb (i := 1473) rfl
theorem w_1470 : Cond.methodLink "SmokeRelay$Input" 86 (am_mi 186).1 ∈ lw_tbl := am_tb (i := 1470) (by decide +kernel)
theorem w_1472 : Cond.instanceMethod (am_mi 186).1 ∈ lw_tbl := am_tb (i := 1472) (by decide +kernel)
theorem ws_186 : Cond.selects (am_mi 186).1.cls (am_mi 186).1 (am_mi 186).1 ∈ lw_tbl := List.mem_append_left _ (List.mem_of_getElem? (i := 33) (by decide +kernel))
set_option maxRecDepth 100000 in
theorem w_1498 : am_cw (am_mi 192) ∈ lw_tbl := am_tb (i := 1498) rfl
theorem w_1495 : Cond.methodLink "SmokeRelay" 397 (am_mi 192).1 ∈ lw_tbl := am_tb (i := 1495) (by decide +kernel)
theorem w_1496 : Cond.instanceMethod (am_mi 192).1 ∈ lw_tbl := am_tb (i := 1496) (by decide +kernel)
theorem w_1497 : Cond.selects (am_mi 192).1.cls (am_mi 192).1 (am_mi 192).1 ∈ lw_tbl := am_tb (i := 1497) (by decide +kernel)
set_option maxRecDepth 100000 in
theorem w_1502 : am_cw (am_mi 193) ∈ lw_tbl := am_tb (i := 1502) rfl
theorem w_1499 : Cond.methodLink "SmokeRelay" 401 (am_mi 193).1 ∈ lw_tbl := am_tb (i := 1499) (by decide +kernel)
theorem w_1500 : Cond.instanceMethod (am_mi 193).1 ∈ lw_tbl := am_tb (i := 1500) (by decide +kernel)
theorem w_1501 : Cond.selects (am_mi 193).1.cls (am_mi 193).1 (am_mi 193).1 ∈ lw_tbl := am_tb (i := 1501) (by decide +kernel)
theorem w_1503 : Cond.fieldLink "SmokeRelay" 404 (am_st 1).1 (am_st 1).2.1 (am_st 1).2.2.1 ∈ lw_tbl := am_tb (i := 1503) (by decide +kernel)
theorem w_1505 : Cond.methodLink "SmokeRelay" 409 am_ordX ∈ lw_tbl := am_tb (i := 1505) (by decide +kernel)
theorem w_1506 : Cond.sameMethod "SmokeRelay$Kind" "java/lang/Enum" "ordinal" "()I" ∈ lw_tbl := am_tb (i := 1506) (by decide +kernel)
theorem w_1508 : Cond.selects "SmokeRelay$Kind" am_ordX am_ordY ∈ lw_tbl := am_tb (i := 1508) (by decide +kernel)
theorem w_1509 : Cond.instanceMethod am_ordY ∈ lw_tbl := am_tb (i := 1509) (by decide +kernel)
theorem w_1510 : Cond.code am_ordY prog_22_method_2_code 1 (some .int) ∈ lw_tbl := am_tb (i := 1510) (by decide +kernel)
theorem w_1568 : Cond.fieldLink "java/lang/Enum" 7 "java/lang/Enum" "ordinal" "I" ∈ lw_tbl := am_tb (i := 1568) (by decide +kernel)
set_option maxRecDepth 100000 in
theorem w_1514 : am_cw (am_mi 195) ∈ lw_tbl := am_tb (i := 1514) rfl
theorem w_1511 : Cond.methodLink "SmokeRelay" 414 (am_mi 195).1 ∈ lw_tbl := am_tb (i := 1511) (by decide +kernel)
theorem w_1513 : Cond.instanceMethod (am_mi 195).1 ∈ lw_tbl := am_tb (i := 1513) (by decide +kernel)
theorem ws_195 : Cond.selects (am_mi 195).1.cls (am_mi 195).1 (am_mi 195).1 ∈ lw_tbl := List.mem_append_left _ (List.mem_of_getElem? (i := 38) (by decide +kernel))
set_option maxRecDepth 100000 in
theorem w_1518 : am_cw (am_mi 196) ∈ lw_tbl := am_tb (i := 1518) rfl
theorem w_1515 : Cond.methodLink "SmokeRelay" 417 (am_mi 196).1 ∈ lw_tbl := am_tb (i := 1515) (by decide +kernel)
theorem w_1517 : Cond.instanceMethod (am_mi 196).1 ∈ lw_tbl := am_tb (i := 1517) (by decide +kernel)
theorem ws_196 : Cond.selects (am_mi 196).1.cls (am_mi 196).1 (am_mi 196).1 ∈ lw_tbl := List.mem_append_left _ (List.mem_of_getElem? (i := 39) (by decide +kernel))
set_option maxRecDepth 100000 in
theorem w_1522 : am_cw (am_mi 197) ∈ lw_tbl := am_tb (i := 1522) rfl
theorem w_1519 : Cond.methodLink "SmokeRelay" 420 (am_mi 197).1 ∈ lw_tbl := am_tb (i := 1519) (by decide +kernel)
theorem w_1521 : Cond.instanceMethod (am_mi 197).1 ∈ lw_tbl := am_tb (i := 1521) (by decide +kernel)
theorem ws_197 : Cond.selects (am_mi 197).1.cls (am_mi 197).1 (am_mi 197).1 ∈ lw_tbl := List.mem_append_left _ (List.mem_of_getElem? (i := 40) (by decide +kernel))
set_option maxRecDepth 100000 in
theorem w_1534 : am_cw (am_mi 204) ∈ lw_tbl := am_tb (i := 1534) rfl
theorem w_1531 : Cond.methodLink "SmokeRelay" 358 (am_mi 204).1 ∈ lw_tbl := am_tb (i := 1531) (by decide +kernel)
theorem w_1532 : Cond.instanceMethod (am_mi 204).1 ∈ lw_tbl := am_tb (i := 1532) (by decide +kernel)
theorem w_1533 : Cond.selects (am_mi 204).1.cls (am_mi 204).1 (am_mi 204).1 ∈ lw_tbl := am_tb (i := 1533) (by decide +kernel)
theorem w_110 : Cond.fieldLink "SmokeRelay" 364 (am_T2 2).1 (am_T2 2).2.1 (am_T2 2).2.2.1 ∈ lw_tbl := am_tb (i := 110) (by decide +kernel)
theorem w_36 : Cond.classLink "SmokeRelayLaw" 9 "SmokeRelay" ∈ lw_tbl := am_tb (i := 36) (by decide +kernel)
theorem w_37 : Cond.instantiable "SmokeRelay" 15 ∈ lw_tbl := am_tb (i := 37) (by decide +kernel)
set_option maxRecDepth 100000 in
theorem w_40 : am_cw (am_mi 0) ∈ lw_tbl := am_tb (i := 40) rfl
theorem w_38 : Cond.methodLink "SmokeRelayLaw" 174 (am_mi 0).1 ∈ lw_tbl := am_tb (i := 38) (by decide +kernel)
theorem w_39 : Cond.instanceMethod (am_mi 0).1 ∈ lw_tbl := am_tb (i := 39) (by decide +kernel)
set_option maxRecDepth 100000 in
theorem w_314 : am_cw (am_mi 309) ∈ lw_tbl := am_tb (i := 314) rfl
theorem w_0 : Cond.initialized "SmokeRelayLaw" ∈ lw_tbl := am_tb (i := 0) (by decide +kernel)
theorem w_312 : Cond.methodLink "SmokeRelayLaw" 175 (am_mi 309).1 ∈ lw_tbl := am_tb (i := 312) (by decide +kernel)
theorem w_313 : Cond.static (am_mi 309).1 ∈ lw_tbl := am_tb (i := 313) (by decide +kernel)
set_option maxRecDepth 100000 in
theorem w_318 : am_cw (am_mi 310) ∈ lw_tbl := am_tb (i := 318) rfl
theorem w_316 : Cond.methodLink "SmokeRelayLaw" 179 (am_mi 310).1 ∈ lw_tbl := am_tb (i := 316) (by decide +kernel)
theorem w_317 : Cond.static (am_mi 310).1 ∈ lw_tbl := am_tb (i := 317) (by decide +kernel)
set_option maxRecDepth 100000 in
theorem w_418 : am_cw (am_mi 311) ∈ lw_tbl := am_tb (i := 418) rfl
theorem w_416 : Cond.methodLink "SmokeRelayLaw" 182 (am_mi 311).1 ∈ lw_tbl := am_tb (i := 416) (by decide +kernel)
theorem w_417 : Cond.static (am_mi 311).1 ∈ lw_tbl := am_tb (i := 417) (by decide +kernel)
set_option maxRecDepth 100000 in
theorem w_462 : am_cw (am_mi 12) ∈ lw_tbl := am_tb (i := 462) rfl
theorem w_459 : Cond.methodLink "SmokeRelayLaw" 185 (am_mi 12).1 ∈ lw_tbl := am_tb (i := 459) (by decide +kernel)
theorem w_460 : Cond.instanceMethod (am_mi 12).1 ∈ lw_tbl := am_tb (i := 460) (by decide +kernel)
theorem w_461 : Cond.selects (am_mi 12).1.cls (am_mi 12).1 (am_mi 12).1 ∈ lw_tbl := am_tb (i := 461) (by decide +kernel)
set_option maxRecDepth 100000 in
theorem w_465 : am_cw (am_mi 312) ∈ lw_tbl := am_tb (i := 465) rfl
theorem w_463 : Cond.methodLink "SmokeRelayLaw" 188 (am_mi 312).1 ∈ lw_tbl := am_tb (i := 463) (by decide +kernel)
theorem w_464 : Cond.static (am_mi 312).1 ∈ lw_tbl := am_tb (i := 464) (by decide +kernel)
set_option maxRecDepth 100000 in
theorem w_476 : am_cw (am_mi 313) ∈ lw_tbl := am_tb (i := 476) rfl
theorem w_474 : Cond.methodLink "SmokeRelayLaw" 191 (am_mi 313).1 ∈ lw_tbl := am_tb (i := 474) (by decide +kernel)
theorem w_475 : Cond.static (am_mi 313).1 ∈ lw_tbl := am_tb (i := 475) (by decide +kernel)
theorem w_315 : Cond.constant "SmokeRelayLaw" 7 40503 ∈ lw_tbl := am_tb (i := 315) (by decide +kernel)
set_option maxRecDepth 100000 in
theorem w_323 : am_cw (am_mi 56) ∈ lw_tbl := am_tb (i := 323) rfl
theorem w_320 : Cond.methodLink "SmokeRelayLaw" 8 (am_mi 56).1 ∈ lw_tbl := am_tb (i := 320) (by decide +kernel)
theorem w_321 : Cond.instanceMethod (am_mi 56).1 ∈ lw_tbl := am_tb (i := 321) (by decide +kernel)
theorem w_322 : Cond.selects (am_mi 56).1.cls (am_mi 56).1 (am_mi 56).1 ∈ lw_tbl := am_tb (i := 322) (by decide +kernel)
set_option maxRecDepth 100000 in
theorem w_423 : am_cw (am_mi 61) ∈ lw_tbl := am_tb (i := 423) rfl
theorem w_420 : Cond.methodLink "SmokeRelayLaw" 16 (am_mi 61).1 ∈ lw_tbl := am_tb (i := 420) (by decide +kernel)
theorem w_421 : Cond.instanceMethod (am_mi 61).1 ∈ lw_tbl := am_tb (i := 421) (by decide +kernel)
theorem w_422 : Cond.selects (am_mi 61).1.cls (am_mi 61).1 (am_mi 61).1 ∈ lw_tbl := am_tb (i := 422) (by decide +kernel)
set_option maxRecDepth 100000 in
theorem w_469 : am_cw (am_mi 98) ∈ lw_tbl := am_tb (i := 469) rfl
theorem w_466 : Cond.methodLink "SmokeRelayLaw" 64 (am_mi 98).1 ∈ lw_tbl := am_tb (i := 466) (by decide +kernel)
theorem w_467 : Cond.instanceMethod (am_mi 98).1 ∈ lw_tbl := am_tb (i := 467) (by decide +kernel)
theorem w_468 : Cond.selects (am_mi 98).1.cls (am_mi 98).1 (am_mi 98).1 ∈ lw_tbl := am_tb (i := 468) (by decide +kernel)
set_option maxRecDepth 100000 in
theorem w_505 : am_cw (am_mi 131) ∈ lw_tbl := am_tb (i := 505) rfl
theorem w_502 : Cond.methodLink "SmokeRelayLaw" 100 (am_mi 131).1 ∈ lw_tbl := am_tb (i := 502) (by decide +kernel)
theorem w_503 : Cond.instanceMethod (am_mi 131).1 ∈ lw_tbl := am_tb (i := 503) (by decide +kernel)
theorem w_504 : Cond.selects (am_mi 131).1.cls (am_mi 131).1 (am_mi 131).1 ∈ lw_tbl := am_tb (i := 504) (by decide +kernel)
set_option maxRecDepth 100000 in
theorem w_644 : am_cw (am_mi 315) ∈ lw_tbl := am_tb (i := 644) rfl
theorem w_642 : Cond.methodLink "SmokeRelayLaw" 230 (am_mi 315).1 ∈ lw_tbl := am_tb (i := 642) (by decide +kernel)
theorem w_643 : Cond.static (am_mi 315).1 ∈ lw_tbl := am_tb (i := 643) (by decide +kernel)
set_option maxRecDepth 100000 in
theorem w_651 : am_cw (am_mi 316) ∈ lw_tbl := am_tb (i := 651) rfl
theorem w_649 : Cond.methodLink "SmokeRelayLaw" 232 (am_mi 316).1 ∈ lw_tbl := am_tb (i := 649) (by decide +kernel)
theorem w_650 : Cond.static (am_mi 316).1 ∈ lw_tbl := am_tb (i := 650) (by decide +kernel)
set_option maxRecDepth 100000 in
theorem w_659 : am_cw (am_mi 317) ∈ lw_tbl := am_tb (i := 659) rfl
theorem w_657 : Cond.methodLink "SmokeRelayLaw" 234 (am_mi 317).1 ∈ lw_tbl := am_tb (i := 657) (by decide +kernel)
theorem w_658 : Cond.static (am_mi 317).1 ∈ lw_tbl := am_tb (i := 658) (by decide +kernel)
set_option maxRecDepth 100000 in
theorem w_670 : am_cw (am_mi 318) ∈ lw_tbl := am_tb (i := 670) rfl
theorem w_668 : Cond.methodLink "SmokeRelayLaw" 236 (am_mi 318).1 ∈ lw_tbl := am_tb (i := 668) (by decide +kernel)
theorem w_669 : Cond.static (am_mi 318).1 ∈ lw_tbl := am_tb (i := 669) (by decide +kernel)
set_option maxRecDepth 100000 in
theorem w_676 : am_cw (am_mi 320) ∈ lw_tbl := am_tb (i := 676) rfl
theorem w_674 : Cond.methodLink "SmokeRelayLaw" 239 (am_mi 320).1 ∈ lw_tbl := am_tb (i := 674) (by decide +kernel)
theorem w_675 : Cond.static (am_mi 320).1 ∈ lw_tbl := am_tb (i := 675) (by decide +kernel)
set_option maxRecDepth 100000 in
theorem w_655 : am_cw (am_mi 77) ∈ lw_tbl := am_tb (i := 655) rfl
theorem w_652 : Cond.methodLink "SmokeRelayLaw" 34 (am_mi 77).1 ∈ lw_tbl := am_tb (i := 652) (by decide +kernel)
theorem w_653 : Cond.instanceMethod (am_mi 77).1 ∈ lw_tbl := am_tb (i := 653) (by decide +kernel)
theorem w_654 : Cond.selects (am_mi 77).1.cls (am_mi 77).1 (am_mi 77).1 ∈ lw_tbl := am_tb (i := 654) (by decide +kernel)
set_option maxRecDepth 100000 in
theorem w_648 : am_cw (am_mi 75) ∈ lw_tbl := am_tb (i := 648) rfl
theorem w_645 : Cond.methodLink "SmokeRelayLaw" 31 (am_mi 75).1 ∈ lw_tbl := am_tb (i := 645) (by decide +kernel)
theorem w_646 : Cond.instanceMethod (am_mi 75).1 ∈ lw_tbl := am_tb (i := 646) (by decide +kernel)
theorem w_647 : Cond.selects (am_mi 75).1.cls (am_mi 75).1 (am_mi 75).1 ∈ lw_tbl := am_tb (i := 647) (by decide +kernel)
set_option maxRecDepth 100000 in
theorem w_687 : am_cw (am_mi 321) ∈ lw_tbl := am_tb (i := 687) rfl
theorem w_685 : Cond.methodLink "SmokeRelayLaw" 241 (am_mi 321).1 ∈ lw_tbl := am_tb (i := 685) (by decide +kernel)
theorem w_686 : Cond.static (am_mi 321).1 ∈ lw_tbl := am_tb (i := 686) (by decide +kernel)
set_option maxRecDepth 100000 in
theorem w_695 : am_cw (am_mi 322) ∈ lw_tbl := am_tb (i := 695) rfl
theorem w_693 : Cond.methodLink "SmokeRelayLaw" 243 (am_mi 322).1 ∈ lw_tbl := am_tb (i := 693) (by decide +kernel)
theorem w_694 : Cond.static (am_mi 322).1 ∈ lw_tbl := am_tb (i := 694) (by decide +kernel)
set_option maxRecDepth 100000 in
theorem w_706 : am_cw (am_mi 323) ∈ lw_tbl := am_tb (i := 706) rfl
theorem w_704 : Cond.methodLink "SmokeRelayLaw" 246 (am_mi 323).1 ∈ lw_tbl := am_tb (i := 704) (by decide +kernel)
theorem w_705 : Cond.static (am_mi 323).1 ∈ lw_tbl := am_tb (i := 705) (by decide +kernel)
set_option maxRecDepth 100000 in
theorem w_739 : am_cw (am_mi 324) ∈ lw_tbl := am_tb (i := 739) rfl
theorem w_737 : Cond.methodLink "SmokeRelayLaw" 249 (am_mi 324).1 ∈ lw_tbl := am_tb (i := 737) (by decide +kernel)
theorem w_738 : Cond.static (am_mi 324).1 ∈ lw_tbl := am_tb (i := 738) (by decide +kernel)
set_option maxRecDepth 100000 in
theorem w_752 : am_cw (am_mi 325) ∈ lw_tbl := am_tb (i := 752) rfl
theorem w_750 : Cond.methodLink "SmokeRelayLaw" 251 (am_mi 325).1 ∈ lw_tbl := am_tb (i := 750) (by decide +kernel)
theorem w_751 : Cond.static (am_mi 325).1 ∈ lw_tbl := am_tb (i := 751) (by decide +kernel)
set_option maxRecDepth 100000 in
theorem w_760 : am_cw (am_mi 326) ∈ lw_tbl := am_tb (i := 760) rfl
theorem w_758 : Cond.methodLink "SmokeRelayLaw" 253 (am_mi 326).1 ∈ lw_tbl := am_tb (i := 758) (by decide +kernel)
theorem w_759 : Cond.static (am_mi 326).1 ∈ lw_tbl := am_tb (i := 759) (by decide +kernel)
theorem w_765 : Cond.methodLink "SmokeRelayLaw" 194 (am_mi 8).1 ∈ lw_tbl := am_tb (i := 765) (by decide +kernel)
theorem w_766 : Cond.methodLink "SmokeRelayLaw" 255 Lib.Math.min.name ∈ lw_tbl := am_tb (i := 766) (by decide +kernel)
set_option maxRecDepth 100000 in
theorem w_769 : am_cw (am_mi 327) ∈ lw_tbl := am_tb (i := 769) rfl
theorem w_767 : Cond.methodLink "SmokeRelayLaw" 260 (am_mi 327).1 ∈ lw_tbl := am_tb (i := 767) (by decide +kernel)
theorem w_768 : Cond.static (am_mi 327).1 ∈ lw_tbl := am_tb (i := 768) (by decide +kernel)
set_option maxRecDepth 100000 in
theorem w_777 : am_cw (am_mi 13) ∈ lw_tbl := am_tb (i := 777) rfl
theorem w_774 : Cond.methodLink "SmokeRelayLaw" 262 (am_mi 13).1 ∈ lw_tbl := am_tb (i := 774) (by decide +kernel)
theorem w_775 : Cond.instanceMethod (am_mi 13).1 ∈ lw_tbl := am_tb (i := 775) (by decide +kernel)
theorem w_776 : Cond.selects (am_mi 13).1.cls (am_mi 13).1 (am_mi 13).1 ∈ lw_tbl := am_tb (i := 776) (by decide +kernel)
set_option maxRecDepth 100000 in
theorem w_795 : am_cw (am_mi 21) ∈ lw_tbl := am_tb (i := 795) rfl
theorem w_792 : Cond.methodLink "SmokeRelayLaw" 265 (am_mi 21).1 ∈ lw_tbl := am_tb (i := 792) (by decide +kernel)
theorem w_793 : Cond.instanceMethod (am_mi 21).1 ∈ lw_tbl := am_tb (i := 793) (by decide +kernel)
theorem w_794 : Cond.selects (am_mi 21).1.cls (am_mi 21).1 (am_mi 21).1 ∈ lw_tbl := am_tb (i := 794) (by decide +kernel)
set_option maxRecDepth 100000 in
theorem w_807 : am_cw (am_mi 41) ∈ lw_tbl := am_tb (i := 807) rfl
theorem w_804 : Cond.methodLink "SmokeRelayLaw" 268 (am_mi 41).1 ∈ lw_tbl := am_tb (i := 804) (by decide +kernel)
theorem w_805 : Cond.instanceMethod (am_mi 41).1 ∈ lw_tbl := am_tb (i := 805) (by decide +kernel)
theorem w_806 : Cond.selects (am_mi 41).1.cls (am_mi 41).1 (am_mi 41).1 ∈ lw_tbl := am_tb (i := 806) (by decide +kernel)
set_option maxRecDepth 100000 in
theorem w_663 : am_cw (am_mi 72) ∈ lw_tbl := am_tb (i := 663) rfl
theorem w_660 : Cond.methodLink "SmokeRelayLaw" 27 (am_mi 72).1 ∈ lw_tbl := am_tb (i := 660) (by decide +kernel)
theorem w_661 : Cond.instanceMethod (am_mi 72).1 ∈ lw_tbl := am_tb (i := 661) (by decide +kernel)
theorem w_662 : Cond.selects (am_mi 72).1.cls (am_mi 72).1 (am_mi 72).1 ∈ lw_tbl := am_tb (i := 662) (by decide +kernel)
set_option maxRecDepth 100000 in
theorem w_673 : am_cw (am_mi 319) ∈ lw_tbl := am_tb (i := 673) rfl
theorem w_671 : Cond.methodLink "SmokeRelayLaw" 226 (am_mi 319).1 ∈ lw_tbl := am_tb (i := 671) (by decide +kernel)
theorem w_672 : Cond.static (am_mi 319).1 ∈ lw_tbl := am_tb (i := 672) (by decide +kernel)
set_option maxRecDepth 100000 in
theorem w_680 : am_cw (am_mi 92) ∈ lw_tbl := am_tb (i := 680) rfl
theorem w_677 : Cond.methodLink "SmokeRelayLaw" 55 (am_mi 92).1 ∈ lw_tbl := am_tb (i := 677) (by decide +kernel)
theorem w_678 : Cond.instanceMethod (am_mi 92).1 ∈ lw_tbl := am_tb (i := 678) (by decide +kernel)
theorem w_679 : Cond.selects (am_mi 92).1.cls (am_mi 92).1 (am_mi 92).1 ∈ lw_tbl := am_tb (i := 679) (by decide +kernel)
set_option maxRecDepth 100000 in
theorem w_691 : am_cw (am_mi 87) ∈ lw_tbl := am_tb (i := 691) rfl
theorem w_688 : Cond.methodLink "SmokeRelayLaw" 48 (am_mi 87).1 ∈ lw_tbl := am_tb (i := 688) (by decide +kernel)
theorem w_689 : Cond.instanceMethod (am_mi 87).1 ∈ lw_tbl := am_tb (i := 689) (by decide +kernel)
theorem w_690 : Cond.selects (am_mi 87).1.cls (am_mi 87).1 (am_mi 87).1 ∈ lw_tbl := am_tb (i := 690) (by decide +kernel)
set_option maxRecDepth 100000 in
theorem w_699 : am_cw (am_mi 90) ∈ lw_tbl := am_tb (i := 699) rfl
theorem w_696 : Cond.methodLink "SmokeRelayLaw" 52 (am_mi 90).1 ∈ lw_tbl := am_tb (i := 696) (by decide +kernel)
theorem w_697 : Cond.instanceMethod (am_mi 90).1 ∈ lw_tbl := am_tb (i := 697) (by decide +kernel)
theorem w_698 : Cond.selects (am_mi 90).1.cls (am_mi 90).1 (am_mi 90).1 ∈ lw_tbl := am_tb (i := 698) (by decide +kernel)
set_option maxRecDepth 100000 in
theorem w_711 : am_cw (am_mi 83) ∈ lw_tbl := am_tb (i := 711) rfl
theorem w_708 : Cond.methodLink "SmokeRelayLaw" 45 (am_mi 83).1 ∈ lw_tbl := am_tb (i := 708) (by decide +kernel)
theorem w_709 : Cond.instanceMethod (am_mi 83).1 ∈ lw_tbl := am_tb (i := 709) (by decide +kernel)
theorem w_710 : Cond.selects (am_mi 83).1.cls (am_mi 83).1 (am_mi 83).1 ∈ lw_tbl := am_tb (i := 710) (by decide +kernel)
set_option maxRecDepth 100000 in
theorem w_743 : am_cw (am_mi 94) ∈ lw_tbl := am_tb (i := 743) rfl
theorem w_740 : Cond.methodLink "SmokeRelayLaw" 58 (am_mi 94).1 ∈ lw_tbl := am_tb (i := 740) (by decide +kernel)
theorem w_741 : Cond.instanceMethod (am_mi 94).1 ∈ lw_tbl := am_tb (i := 741) (by decide +kernel)
theorem w_742 : Cond.selects (am_mi 94).1.cls (am_mi 94).1 (am_mi 94).1 ∈ lw_tbl := am_tb (i := 742) (by decide +kernel)
set_option maxRecDepth 100000 in
theorem w_756 : am_cw (am_mi 81) ∈ lw_tbl := am_tb (i := 756) rfl
theorem w_753 : Cond.methodLink "SmokeRelayLaw" 40 (am_mi 81).1 ∈ lw_tbl := am_tb (i := 753) (by decide +kernel)
theorem w_754 : Cond.instanceMethod (am_mi 81).1 ∈ lw_tbl := am_tb (i := 754) (by decide +kernel)
theorem w_755 : Cond.selects (am_mi 81).1.cls (am_mi 81).1 (am_mi 81).1 ∈ lw_tbl := am_tb (i := 755) (by decide +kernel)
set_option maxRecDepth 100000 in
theorem w_764 : am_cw (am_mi 79) ∈ lw_tbl := am_tb (i := 764) rfl
theorem w_761 : Cond.methodLink "SmokeRelayLaw" 37 (am_mi 79).1 ∈ lw_tbl := am_tb (i := 761) (by decide +kernel)
theorem w_762 : Cond.instanceMethod (am_mi 79).1 ∈ lw_tbl := am_tb (i := 762) (by decide +kernel)
theorem w_763 : Cond.selects (am_mi 79).1.cls (am_mi 79).1 (am_mi 79).1 ∈ lw_tbl := am_tb (i := 763) (by decide +kernel)
set_option maxRecDepth 100000 in
theorem w_773 : am_cw (am_mi 96) ∈ lw_tbl := am_tb (i := 773) rfl
theorem w_770 : Cond.methodLink "SmokeRelayLaw" 61 (am_mi 96).1 ∈ lw_tbl := am_tb (i := 770) (by decide +kernel)
theorem w_771 : Cond.instanceMethod (am_mi 96).1 ∈ lw_tbl := am_tb (i := 771) (by decide +kernel)
theorem w_772 : Cond.selects (am_mi 96).1.cls (am_mi 96).1 (am_mi 96).1 ∈ lw_tbl := am_tb (i := 772) (by decide +kernel)
theorem w_862 : Cond.methodLink "SmokeRelayLaw" 277 Lib.Math.abs.name ∈ lw_tbl := am_tb (i := 862) (by decide +kernel)
set_option maxRecDepth 100000 in
theorem w_866 : am_cw (am_mi 24) ∈ lw_tbl := am_tb (i := 866) rfl
theorem w_863 : Cond.methodLink "SmokeRelayLaw" 280 (am_mi 24).1 ∈ lw_tbl := am_tb (i := 863) (by decide +kernel)
theorem w_864 : Cond.instanceMethod (am_mi 24).1 ∈ lw_tbl := am_tb (i := 864) (by decide +kernel)
theorem w_865 : Cond.selects (am_mi 24).1.cls (am_mi 24).1 (am_mi 24).1 ∈ lw_tbl := am_tb (i := 865) (by decide +kernel)
theorem w_867 : Cond.methodLink "SmokeRelayLaw" 283 Lib.Math.max.name ∈ lw_tbl := am_tb (i := 867) (by decide +kernel)
set_option maxRecDepth 100000 in
theorem w_870 : am_cw (am_mi 329) ∈ lw_tbl := am_tb (i := 870) rfl
theorem w_868 : Cond.methodLink "SmokeRelayLaw" 274 (am_mi 329).1 ∈ lw_tbl := am_tb (i := 868) (by decide +kernel)
theorem w_869 : Cond.static (am_mi 329).1 ∈ lw_tbl := am_tb (i := 869) (by decide +kernel)
set_option maxRecDepth 100000 in
theorem w_882 : am_cw (am_mi 331) ∈ lw_tbl := am_tb (i := 882) rfl
theorem w_880 : Cond.methodLink "SmokeRelayLaw" 286 (am_mi 331).1 ∈ lw_tbl := am_tb (i := 880) (by decide +kernel)
theorem w_881 : Cond.static (am_mi 331).1 ∈ lw_tbl := am_tb (i := 881) (by decide +kernel)
set_option maxRecDepth 100000 in
theorem w_894 : am_cw (am_mi 332) ∈ lw_tbl := am_tb (i := 894) rfl
theorem w_892 : Cond.methodLink "SmokeRelayLaw" 288 (am_mi 332).1 ∈ lw_tbl := am_tb (i := 892) (by decide +kernel)
theorem w_893 : Cond.static (am_mi 332).1 ∈ lw_tbl := am_tb (i := 893) (by decide +kernel)
set_option maxRecDepth 100000 in
theorem w_873 : am_cw (am_mi 330) ∈ lw_tbl := am_tb (i := 873) rfl
theorem w_871 : Cond.methodLink "SmokeRelayLaw" 272 (am_mi 330).1 ∈ lw_tbl := am_tb (i := 871) (by decide +kernel)
theorem w_872 : Cond.static (am_mi 330).1 ∈ lw_tbl := am_tb (i := 872) (by decide +kernel)
set_option maxRecDepth 100000 in
theorem w_901 : am_cw (am_mi 333) ∈ lw_tbl := am_tb (i := 901) rfl
theorem w_899 : Cond.methodLink "SmokeRelayLaw" 290 (am_mi 333).1 ∈ lw_tbl := am_tb (i := 899) (by decide +kernel)
theorem w_900 : Cond.static (am_mi 333).1 ∈ lw_tbl := am_tb (i := 900) (by decide +kernel)
set_option maxRecDepth 100000 in
theorem w_912 : am_cw (am_mi 334) ∈ lw_tbl := am_tb (i := 912) rfl
theorem w_910 : Cond.methodLink "SmokeRelayLaw" 293 (am_mi 334).1 ∈ lw_tbl := am_tb (i := 910) (by decide +kernel)
theorem w_911 : Cond.static (am_mi 334).1 ∈ lw_tbl := am_tb (i := 911) (by decide +kernel)
set_option maxRecDepth 100000 in
theorem w_924 : am_cw (am_mi 25) ∈ lw_tbl := am_tb (i := 924) rfl
theorem w_921 : Cond.methodLink "SmokeRelayLaw" 296 (am_mi 25).1 ∈ lw_tbl := am_tb (i := 921) (by decide +kernel)
theorem w_922 : Cond.instanceMethod (am_mi 25).1 ∈ lw_tbl := am_tb (i := 922) (by decide +kernel)
theorem w_923 : Cond.selects (am_mi 25).1.cls (am_mi 25).1 (am_mi 25).1 ∈ lw_tbl := am_tb (i := 923) (by decide +kernel)
set_option maxRecDepth 100000 in
theorem w_915 : am_cw (am_mi 335) ∈ lw_tbl := am_tb (i := 915) rfl
theorem w_913 : Cond.methodLink "SmokeRelayLaw" 299 (am_mi 335).1 ∈ lw_tbl := am_tb (i := 913) (by decide +kernel)
theorem w_914 : Cond.static (am_mi 335).1 ∈ lw_tbl := am_tb (i := 914) (by decide +kernel)
set_option maxRecDepth 100000 in
theorem w_877 : am_cw (am_mi 101) ∈ lw_tbl := am_tb (i := 877) rfl
theorem w_874 : Cond.methodLink "SmokeRelayLaw" 67 (am_mi 101).1 ∈ lw_tbl := am_tb (i := 874) (by decide +kernel)
theorem w_875 : Cond.instanceMethod (am_mi 101).1 ∈ lw_tbl := am_tb (i := 875) (by decide +kernel)
theorem w_876 : Cond.selects (am_mi 101).1.cls (am_mi 101).1 (am_mi 101).1 ∈ lw_tbl := am_tb (i := 876) (by decide +kernel)
set_option maxRecDepth 100000 in
theorem w_886 : am_cw (am_mi 103) ∈ lw_tbl := am_tb (i := 886) rfl
theorem w_883 : Cond.methodLink "SmokeRelayLaw" 70 (am_mi 103).1 ∈ lw_tbl := am_tb (i := 883) (by decide +kernel)
theorem w_884 : Cond.instanceMethod (am_mi 103).1 ∈ lw_tbl := am_tb (i := 884) (by decide +kernel)
theorem w_885 : Cond.selects (am_mi 103).1.cls (am_mi 103).1 (am_mi 103).1 ∈ lw_tbl := am_tb (i := 885) (by decide +kernel)
set_option maxRecDepth 100000 in
theorem w_898 : am_cw (am_mi 111) ∈ lw_tbl := am_tb (i := 898) rfl
theorem w_895 : Cond.methodLink "SmokeRelayLaw" 76 (am_mi 111).1 ∈ lw_tbl := am_tb (i := 895) (by decide +kernel)
theorem w_896 : Cond.instanceMethod (am_mi 111).1 ∈ lw_tbl := am_tb (i := 896) (by decide +kernel)
theorem w_897 : Cond.selects (am_mi 111).1.cls (am_mi 111).1 (am_mi 111).1 ∈ lw_tbl := am_tb (i := 897) (by decide +kernel)
set_option maxRecDepth 100000 in
theorem w_905 : am_cw (am_mi 108) ∈ lw_tbl := am_tb (i := 905) rfl
theorem w_902 : Cond.methodLink "SmokeRelayLaw" 73 (am_mi 108).1 ∈ lw_tbl := am_tb (i := 902) (by decide +kernel)
theorem w_903 : Cond.instanceMethod (am_mi 108).1 ∈ lw_tbl := am_tb (i := 903) (by decide +kernel)
theorem w_904 : Cond.selects (am_mi 108).1.cls (am_mi 108).1 (am_mi 108).1 ∈ lw_tbl := am_tb (i := 904) (by decide +kernel)
set_option maxRecDepth 100000 in
theorem w_919 : am_cw (am_mi 113) ∈ lw_tbl := am_tb (i := 919) rfl
theorem w_916 : Cond.methodLink "SmokeRelayLaw" 79 (am_mi 113).1 ∈ lw_tbl := am_tb (i := 916) (by decide +kernel)
theorem w_917 : Cond.instanceMethod (am_mi 113).1 ∈ lw_tbl := am_tb (i := 917) (by decide +kernel)
theorem w_918 : Cond.selects (am_mi 113).1.cls (am_mi 113).1 (am_mi 113).1 ∈ lw_tbl := am_tb (i := 918) (by decide +kernel)
set_option maxRecDepth 100000 in
theorem w_938 : am_cw (am_mi 337) ∈ lw_tbl := am_tb (i := 938) rfl
theorem w_936 : Cond.methodLink "SmokeRelayLaw" 301 (am_mi 337).1 ∈ lw_tbl := am_tb (i := 936) (by decide +kernel)
theorem w_937 : Cond.static (am_mi 337).1 ∈ lw_tbl := am_tb (i := 937) (by decide +kernel)
set_option maxRecDepth 100000 in
theorem w_944 : am_cw (am_mi 339) ∈ lw_tbl := am_tb (i := 944) rfl
theorem w_942 : Cond.methodLink "SmokeRelayLaw" 304 (am_mi 339).1 ∈ lw_tbl := am_tb (i := 942) (by decide +kernel)
theorem w_943 : Cond.static (am_mi 339).1 ∈ lw_tbl := am_tb (i := 943) (by decide +kernel)
set_option maxRecDepth 100000 in
theorem w_956 : am_cw (am_mi 340) ∈ lw_tbl := am_tb (i := 956) rfl
theorem w_954 : Cond.methodLink "SmokeRelayLaw" 306 (am_mi 340).1 ∈ lw_tbl := am_tb (i := 954) (by decide +kernel)
theorem w_955 : Cond.static (am_mi 340).1 ∈ lw_tbl := am_tb (i := 955) (by decide +kernel)
set_option maxRecDepth 100000 in
theorem w_964 : am_cw (am_mi 341) ∈ lw_tbl := am_tb (i := 964) rfl
theorem w_962 : Cond.methodLink "SmokeRelayLaw" 309 (am_mi 341).1 ∈ lw_tbl := am_tb (i := 962) (by decide +kernel)
theorem w_963 : Cond.static (am_mi 341).1 ∈ lw_tbl := am_tb (i := 963) (by decide +kernel)
set_option maxRecDepth 100000 in
theorem w_976 : am_cw (am_mi 342) ∈ lw_tbl := am_tb (i := 976) rfl
theorem w_974 : Cond.methodLink "SmokeRelayLaw" 311 (am_mi 342).1 ∈ lw_tbl := am_tb (i := 974) (by decide +kernel)
theorem w_975 : Cond.static (am_mi 342).1 ∈ lw_tbl := am_tb (i := 975) (by decide +kernel)
set_option maxRecDepth 100000 in
theorem w_983 : am_cw (am_mi 343) ∈ lw_tbl := am_tb (i := 983) rfl
theorem w_981 : Cond.methodLink "SmokeRelayLaw" 313 (am_mi 343).1 ∈ lw_tbl := am_tb (i := 981) (by decide +kernel)
theorem w_982 : Cond.static (am_mi 343).1 ∈ lw_tbl := am_tb (i := 982) (by decide +kernel)
set_option maxRecDepth 100000 in
theorem w_990 : am_cw (am_mi 344) ∈ lw_tbl := am_tb (i := 990) rfl
theorem w_988 : Cond.methodLink "SmokeRelayLaw" 315 (am_mi 344).1 ∈ lw_tbl := am_tb (i := 988) (by decide +kernel)
theorem w_989 : Cond.static (am_mi 344).1 ∈ lw_tbl := am_tb (i := 989) (by decide +kernel)
set_option maxRecDepth 100000 in
theorem w_997 : am_cw (am_mi 345) ∈ lw_tbl := am_tb (i := 997) rfl
theorem w_995 : Cond.methodLink "SmokeRelayLaw" 318 (am_mi 345).1 ∈ lw_tbl := am_tb (i := 995) (by decide +kernel)
theorem w_996 : Cond.static (am_mi 345).1 ∈ lw_tbl := am_tb (i := 996) (by decide +kernel)
set_option maxRecDepth 100000 in
theorem w_1004 : am_cw (am_mi 346) ∈ lw_tbl := am_tb (i := 1004) rfl
theorem w_1002 : Cond.methodLink "SmokeRelayLaw" 320 (am_mi 346).1 ∈ lw_tbl := am_tb (i := 1002) (by decide +kernel)
theorem w_1003 : Cond.static (am_mi 346).1 ∈ lw_tbl := am_tb (i := 1003) (by decide +kernel)
set_option maxRecDepth 100000 in
theorem w_1016 : am_cw (am_mi 347) ∈ lw_tbl := am_tb (i := 1016) rfl
theorem w_1014 : Cond.methodLink "SmokeRelayLaw" 322 (am_mi 347).1 ∈ lw_tbl := am_tb (i := 1014) (by decide +kernel)
theorem w_1015 : Cond.static (am_mi 347).1 ∈ lw_tbl := am_tb (i := 1015) (by decide +kernel)
set_option maxRecDepth 100000 in
theorem w_941 : am_cw (am_mi 338) ∈ lw_tbl := am_tb (i := 941) rfl
theorem w_939 : Cond.methodLink "SmokeRelayLaw" 199 (am_mi 338).1 ∈ lw_tbl := am_tb (i := 939) (by decide +kernel)
theorem w_940 : Cond.static (am_mi 338).1 ∈ lw_tbl := am_tb (i := 940) (by decide +kernel)
set_option maxRecDepth 100000 in
theorem w_948 : am_cw (am_mi 119) ∈ lw_tbl := am_tb (i := 948) rfl
theorem w_945 : Cond.methodLink "SmokeRelayLaw" 86 (am_mi 119).1 ∈ lw_tbl := am_tb (i := 945) (by decide +kernel)
theorem w_946 : Cond.instanceMethod (am_mi 119).1 ∈ lw_tbl := am_tb (i := 946) (by decide +kernel)
theorem w_947 : Cond.selects (am_mi 119).1.cls (am_mi 119).1 (am_mi 119).1 ∈ lw_tbl := am_tb (i := 947) (by decide +kernel)
set_option maxRecDepth 100000 in
theorem w_960 : am_cw (am_mi 122) ∈ lw_tbl := am_tb (i := 960) rfl
theorem w_957 : Cond.methodLink "SmokeRelayLaw" 90 (am_mi 122).1 ∈ lw_tbl := am_tb (i := 957) (by decide +kernel)
theorem w_958 : Cond.instanceMethod (am_mi 122).1 ∈ lw_tbl := am_tb (i := 958) (by decide +kernel)
theorem w_959 : Cond.selects (am_mi 122).1.cls (am_mi 122).1 (am_mi 122).1 ∈ lw_tbl := am_tb (i := 959) (by decide +kernel)
set_option maxRecDepth 100000 in
theorem w_968 : am_cw (am_mi 124) ∈ lw_tbl := am_tb (i := 968) rfl
theorem w_965 : Cond.methodLink "SmokeRelayLaw" 93 (am_mi 124).1 ∈ lw_tbl := am_tb (i := 965) (by decide +kernel)
theorem w_966 : Cond.instanceMethod (am_mi 124).1 ∈ lw_tbl := am_tb (i := 966) (by decide +kernel)
theorem w_967 : Cond.selects (am_mi 124).1.cls (am_mi 124).1 (am_mi 124).1 ∈ lw_tbl := am_tb (i := 967) (by decide +kernel)
set_option maxRecDepth 100000 in
theorem w_980 : am_cw (am_mi 115) ∈ lw_tbl := am_tb (i := 980) rfl
theorem w_977 : Cond.methodLink "SmokeRelayLaw" 82 (am_mi 115).1 ∈ lw_tbl := am_tb (i := 977) (by decide +kernel)
theorem w_978 : Cond.instanceMethod (am_mi 115).1 ∈ lw_tbl := am_tb (i := 978) (by decide +kernel)
theorem w_979 : Cond.selects (am_mi 115).1.cls (am_mi 115).1 (am_mi 115).1 ∈ lw_tbl := am_tb (i := 979) (by decide +kernel)
set_option maxRecDepth 100000 in
theorem w_987 : am_cw (am_mi 140) ∈ lw_tbl := am_tb (i := 987) rfl
theorem w_984 : Cond.methodLink "SmokeRelayLaw" 110 (am_mi 140).1 ∈ lw_tbl := am_tb (i := 984) (by decide +kernel)
theorem w_985 : Cond.instanceMethod (am_mi 140).1 ∈ lw_tbl := am_tb (i := 985) (by decide +kernel)
theorem w_986 : Cond.selects (am_mi 140).1.cls (am_mi 140).1 (am_mi 140).1 ∈ lw_tbl := am_tb (i := 986) (by decide +kernel)
set_option maxRecDepth 100000 in
theorem w_994 : am_cw (am_mi 127) ∈ lw_tbl := am_tb (i := 994) rfl
theorem w_991 : Cond.methodLink "SmokeRelayLaw" 96 (am_mi 127).1 ∈ lw_tbl := am_tb (i := 991) (by decide +kernel)
theorem w_992 : Cond.instanceMethod (am_mi 127).1 ∈ lw_tbl := am_tb (i := 992) (by decide +kernel)
theorem w_993 : Cond.selects (am_mi 127).1.cls (am_mi 127).1 (am_mi 127).1 ∈ lw_tbl := am_tb (i := 993) (by decide +kernel)
set_option maxRecDepth 100000 in
theorem w_1001 : am_cw (am_mi 142) ∈ lw_tbl := am_tb (i := 1001) rfl
theorem w_998 : Cond.methodLink "SmokeRelayLaw" 113 (am_mi 142).1 ∈ lw_tbl := am_tb (i := 998) (by decide +kernel)
theorem w_999 : Cond.instanceMethod (am_mi 142).1 ∈ lw_tbl := am_tb (i := 999) (by decide +kernel)
theorem w_1000 : Cond.selects (am_mi 142).1.cls (am_mi 142).1 (am_mi 142).1 ∈ lw_tbl := am_tb (i := 1000) (by decide +kernel)
set_option maxRecDepth 100000 in
theorem w_1008 : am_cw (am_mi 144) ∈ lw_tbl := am_tb (i := 1008) rfl
theorem w_1005 : Cond.methodLink "SmokeRelayLaw" 116 (am_mi 144).1 ∈ lw_tbl := am_tb (i := 1005) (by decide +kernel)
theorem w_1006 : Cond.instanceMethod (am_mi 144).1 ∈ lw_tbl := am_tb (i := 1006) (by decide +kernel)
theorem w_1007 : Cond.selects (am_mi 144).1.cls (am_mi 144).1 (am_mi 144).1 ∈ lw_tbl := am_tb (i := 1007) (by decide +kernel)
set_option maxRecDepth 100000 in
theorem w_1020 : am_cw (am_mi 138) ∈ lw_tbl := am_tb (i := 1020) rfl
theorem w_1017 : Cond.methodLink "SmokeRelayLaw" 106 (am_mi 138).1 ∈ lw_tbl := am_tb (i := 1017) (by decide +kernel)
theorem w_1018 : Cond.instanceMethod (am_mi 138).1 ∈ lw_tbl := am_tb (i := 1018) (by decide +kernel)
theorem w_1019 : Cond.selects (am_mi 138).1.cls (am_mi 138).1 (am_mi 138).1 ∈ lw_tbl := am_tb (i := 1019) (by decide +kernel)
theorem w_1039 : Cond.arrayClass .long ∈ lw_tbl := am_tb (i := 1039) (by decide +kernel)
set_option maxRecDepth 100000 in
theorem w_1026 : am_cw (am_mi 349) ∈ lw_tbl := am_tb (i := 1026) rfl
theorem w_1024 : Cond.methodLink "SmokeRelayLaw" 324 (am_mi 349).1 ∈ lw_tbl := am_tb (i := 1024) (by decide +kernel)
theorem w_1025 : Cond.static (am_mi 349).1 ∈ lw_tbl := am_tb (i := 1025) (by decide +kernel)
set_option maxRecDepth 100000 in
theorem w_1034 : am_cw (am_mi 32) ∈ lw_tbl := am_tb (i := 1034) rfl
theorem w_1031 : Cond.methodLink "SmokeRelayLaw" 326 (am_mi 32).1 ∈ lw_tbl := am_tb (i := 1031) (by decide +kernel)
theorem w_1032 : Cond.instanceMethod (am_mi 32).1 ∈ lw_tbl := am_tb (i := 1032) (by decide +kernel)
theorem w_1033 : Cond.selects (am_mi 32).1.cls (am_mi 32).1 (am_mi 32).1 ∈ lw_tbl := am_tb (i := 1033) (by decide +kernel)
set_option maxRecDepth 100000 in
theorem w_1038 : am_cw (am_mi 37) ∈ lw_tbl := am_tb (i := 1038) rfl
theorem w_1035 : Cond.methodLink "SmokeRelayLaw" 329 (am_mi 37).1 ∈ lw_tbl := am_tb (i := 1035) (by decide +kernel)
theorem w_1036 : Cond.instanceMethod (am_mi 37).1 ∈ lw_tbl := am_tb (i := 1036) (by decide +kernel)
theorem w_1037 : Cond.selects (am_mi 37).1.cls (am_mi 37).1 (am_mi 37).1 ∈ lw_tbl := am_tb (i := 1037) (by decide +kernel)
set_option maxRecDepth 100000 in
theorem w_1030 : am_cw (am_mi 147) ∈ lw_tbl := am_tb (i := 1030) rfl
theorem w_1027 : Cond.methodLink "SmokeRelayLaw" 120 (am_mi 147).1 ∈ lw_tbl := am_tb (i := 1027) (by decide +kernel)
theorem w_1028 : Cond.instanceMethod (am_mi 147).1 ∈ lw_tbl := am_tb (i := 1028) (by decide +kernel)
theorem w_1029 : Cond.selects (am_mi 147).1.cls (am_mi 147).1 (am_mi 147).1 ∈ lw_tbl := am_tb (i := 1029) (by decide +kernel)
theorem w_1044 : Cond.classLink "SmokeRelayLaw" 337 "java/lang/StringBuilder" ∈ lw_tbl := am_tb (i := 1044) (by decide +kernel)
theorem w_1045 : Cond.instantiable "java/lang/StringBuilder" 4 ∈ lw_tbl := am_tb (i := 1045) (by decide +kernel)
theorem w_26 : Cond.initialized "java/lang/StringBuilder" ∈ lw_tbl := am_tb (i := 26) (by decide +kernel)
set_option maxRecDepth 100000 in
theorem w_1048 : am_cw (am_mi 351) ∈ lw_tbl := am_tb (i := 1048) rfl
theorem w_1046 : Cond.methodLink "SmokeRelayLaw" 339 (am_mi 351).1 ∈ lw_tbl := am_tb (i := 1046) (by decide +kernel)
theorem w_1047 : Cond.instanceMethod (am_mi 351).1 ∈ lw_tbl := am_tb (i := 1047) (by decide +kernel)
set_option maxRecDepth 100000 in
theorem w_1078 : am_cw (am_mi 353) ∈ lw_tbl := am_tb (i := 1078) rfl
theorem w_1075 : Cond.methodLink "SmokeRelayLaw" 340 (am_mi 353).1 ∈ lw_tbl := am_tb (i := 1075) (by decide +kernel)
theorem w_1076 : Cond.instanceMethod (am_mi 353).1 ∈ lw_tbl := am_tb (i := 1076) (by decide +kernel)
theorem w_1077 : Cond.selects (am_mi 353).1.cls (am_mi 353).1 (am_mi 353).1 ∈ lw_tbl := am_tb (i := 1077) (by decide +kernel)
set_option maxRecDepth 100000 in
theorem w_1167 : am_cw (am_mi 366) ∈ lw_tbl := am_tb (i := 1167) rfl
theorem w_1164 : Cond.methodLink "SmokeRelayLaw" 344 (am_mi 366).1 ∈ lw_tbl := am_tb (i := 1164) (by decide +kernel)
theorem w_1165 : Cond.instanceMethod (am_mi 366).1 ∈ lw_tbl := am_tb (i := 1165) (by decide +kernel)
theorem w_1166 : Cond.selects (am_mi 366).1.cls (am_mi 366).1 (am_mi 366).1 ∈ lw_tbl := am_tb (i := 1166) (by decide +kernel)
set_option maxRecDepth 100000 in
theorem w_1214 : am_cw (am_mi 374) ∈ lw_tbl := am_tb (i := 1214) rfl
theorem w_1211 : Cond.methodLink "SmokeRelayLaw" 347 (am_mi 374).1 ∈ lw_tbl := am_tb (i := 1211) (by decide +kernel)
theorem w_1212 : Cond.instanceMethod (am_mi 374).1 ∈ lw_tbl := am_tb (i := 1212) (by decide +kernel)
theorem w_1213 : Cond.selects (am_mi 374).1.cls (am_mi 374).1 (am_mi 374).1 ∈ lw_tbl := am_tb (i := 1213) (by decide +kernel)
set_option maxRecDepth 100000 in
theorem w_1252 : am_cw (am_mi 383) ∈ lw_tbl := am_tb (i := 1252) rfl
theorem w_1298 : Cond.methodLink "SmokeRelayLaw" 351 (am_mi 383).1 ∈ lw_tbl := am_tb (i := 1298) (by decide +kernel)
theorem w_1250 : Cond.instanceMethod (am_mi 383).1 ∈ lw_tbl := am_tb (i := 1250) (by decide +kernel)
theorem w_1251 : Cond.selects (am_mi 383).1.cls (am_mi 383).1 (am_mi 383).1 ∈ lw_tbl := am_tb (i := 1251) (by decide +kernel)
theorem w_1301 : Cond.methodLink "SmokeRelayLaw" 157 (am_mi 181).1 ∈ lw_tbl := am_tb (i := 1301) (by decide +kernel)
set_option maxRecDepth 100000 in
theorem w_1305 : am_cw (am_mi 387) ∈ lw_tbl := am_tb (i := 1305) rfl
theorem w_1303 : Cond.methodLink "SmokeRelayLaw" 360 (am_mi 387).1 ∈ lw_tbl := am_tb (i := 1303) (by decide +kernel)
theorem w_1304 : Cond.static (am_mi 387).1 ∈ lw_tbl := am_tb (i := 1304) (by decide +kernel)
set_option maxRecDepth 100000 in
theorem w_1325 : am_cw (am_mi 388) ∈ lw_tbl := am_tb (i := 1325) rfl
theorem w_1323 : Cond.methodLink "SmokeRelayLaw" 362 (am_mi 388).1 ∈ lw_tbl := am_tb (i := 1323) (by decide +kernel)
theorem w_1324 : Cond.static (am_mi 388).1 ∈ lw_tbl := am_tb (i := 1324) (by decide +kernel)
set_option maxRecDepth 100000 in
theorem w_1353 : am_cw (am_mi 390) ∈ lw_tbl := am_tb (i := 1353) rfl
theorem w_1351 : Cond.methodLink "SmokeRelayLaw" 370 (am_mi 390).1 ∈ lw_tbl := am_tb (i := 1351) (by decide +kernel)
theorem w_1352 : Cond.static (am_mi 390).1 ∈ lw_tbl := am_tb (i := 1352) (by decide +kernel)
set_option maxRecDepth 100000 in
theorem w_1362 : am_cw (am_mi 153) ∈ lw_tbl := am_tb (i := 1362) rfl
theorem w_1359 : Cond.methodLink "SmokeRelayLaw" 374 (am_mi 153).1 ∈ lw_tbl := am_tb (i := 1359) (by decide +kernel)
theorem w_1360 : Cond.instanceMethod (am_mi 153).1 ∈ lw_tbl := am_tb (i := 1360) (by decide +kernel)
theorem w_1361 : Cond.selects (am_mi 153).1.cls (am_mi 153).1 (am_mi 153).1 ∈ lw_tbl := am_tb (i := 1361) (by decide +kernel)
set_option maxRecDepth 100000 in
theorem w_1382 : am_cw (am_mi 155) ∈ lw_tbl := am_tb (i := 1382) rfl
theorem w_1379 : Cond.methodLink "SmokeRelayLaw" 378 (am_mi 155).1 ∈ lw_tbl := am_tb (i := 1379) (by decide +kernel)
theorem w_1380 : Cond.instanceMethod (am_mi 155).1 ∈ lw_tbl := am_tb (i := 1380) (by decide +kernel)
theorem w_1381 : Cond.selects (am_mi 155).1.cls (am_mi 155).1 (am_mi 155).1 ∈ lw_tbl := am_tb (i := 1381) (by decide +kernel)
set_option maxRecDepth 100000 in
theorem w_1385 : am_cw (am_mi 391) ∈ lw_tbl := am_tb (i := 1385) rfl
theorem w_1383 : Cond.methodLink "SmokeRelayLaw" 382 (am_mi 391).1 ∈ lw_tbl := am_tb (i := 1383) (by decide +kernel)
theorem w_1384 : Cond.static (am_mi 391).1 ∈ lw_tbl := am_tb (i := 1384) (by decide +kernel)
set_option maxRecDepth 100000 in
theorem w_1051 : am_cw (am_mi 352) ∈ lw_tbl := am_tb (i := 1051) rfl
theorem w_25 : Cond.initialized "java/lang/AbstractStringBuilder" ∈ lw_tbl := am_tb (i := 25) (by decide +kernel)
theorem w_1049 : Cond.methodLink "java/lang/StringBuilder" 1 (am_mi 352).1 ∈ lw_tbl := am_tb (i := 1049) (by decide +kernel)
theorem w_1050 : Cond.instanceMethod (am_mi 352).1 ∈ lw_tbl := am_tb (i := 1050) (by decide +kernel)
theorem w_1052 : Cond.methodLink "java/lang/AbstractStringBuilder" 3 Lib.objectInit ∈ lw_tbl := am_tb (i := 1052) (by decide +kernel)
theorem w_1053 : Cond.fieldLink "java/lang/AbstractStringBuilder" 18 (am_st 2).1 (am_st 2).2.1 (am_st 2).2.2.1 ∈ lw_tbl := am_tb (i := 1053) (by decide +kernel)
theorem w_401 : Cond.arrayClass .byte ∈ lw_tbl := am_tb (i := 401) (by decide +kernel)
theorem w_1062 : Cond.fieldLink "java/lang/AbstractStringBuilder" 15 (am_T9 0).1 (am_T9 0).2.1 (am_T9 0).2.2.1 ∈ lw_tbl := am_tb (i := 1062) (by decide +kernel)
theorem w_1063 : Cond.fieldLink "java/lang/AbstractStringBuilder" 22 (am_T9 1).1 (am_T9 1).2.1 (am_T9 1).2.2.1 ∈ lw_tbl := am_tb (i := 1063) (by decide +kernel)
set_option maxRecDepth 100000 in
theorem w_1081 : am_cw (am_mi 354) ∈ lw_tbl := am_tb (i := 1081) rfl
theorem w_1079 : Cond.methodLink "java/lang/StringBuilder" 50 (am_mi 354).1 ∈ lw_tbl := am_tb (i := 1079) (by decide +kernel)
theorem w_1080 : Cond.instanceMethod (am_mi 354).1 ∈ lw_tbl := am_tb (i := 1080) (by decide +kernel)
theorem w_1537 : Cond.sameMethod (am_mi 354).1.cls (am_mi 354).1.cls (am_mi 354).1.name (am_mi 354).1.desc ∈ lw_tbl := am_tb (i := 1537) (by decide +kernel)
theorem w_1074 : Cond.superclass (am_mi 353).1.cls (am_mi 354).1.cls ∈ lw_tbl := am_tb (i := 1074) (by decide +kernel)
theorem w_1065 : Cond.fieldLink "java/lang/AbstractStringBuilder" 79 (am_T9 3).1 (am_T9 3).2.1 (am_T9 3).2.2.1 ∈ lw_tbl := am_tb (i := 1065) (by decide +kernel)
set_option maxRecDepth 100000 in
theorem w_1085 : am_cw (am_mi 355) ∈ lw_tbl := am_tb (i := 1085) rfl
theorem w_1082 : Cond.methodLink "java/lang/AbstractStringBuilder" 100 (am_mi 355).1 ∈ lw_tbl := am_tb (i := 1082) (by decide +kernel)
theorem w_1084 : Cond.instanceMethod (am_mi 355).1 ∈ lw_tbl := am_tb (i := 1084) (by decide +kernel)
set_option maxRecDepth 100000 in
theorem w_1115 : am_cw (am_mi 360) ∈ lw_tbl := am_tb (i := 1115) rfl
theorem w_1111 : Cond.methodLink "java/lang/AbstractStringBuilder" 83 (am_mi 360).1 ∈ lw_tbl := am_tb (i := 1111) (by decide +kernel)
theorem w_1112 : Cond.instanceMethod (am_mi 360).1 ∈ lw_tbl := am_tb (i := 1112) (by decide +kernel)
theorem w_1114 : Cond.selects "java/lang/StringBuilder" (am_mi 360).1 (am_mi 360).1 ∈ lw_tbl := am_tb (i := 1114) (by decide +kernel)
set_option maxRecDepth 100000 in
theorem w_1118 : am_cw (am_mi 361) ∈ lw_tbl := am_tb (i := 1118) rfl
theorem w_1116 : Cond.methodLink "java/lang/AbstractStringBuilder" 191 (am_mi 361).1 ∈ lw_tbl := am_tb (i := 1116) (by decide +kernel)
theorem w_1117 : Cond.static (am_mi 361).1 ∈ lw_tbl := am_tb (i := 1117) (by decide +kernel)
set_option maxRecDepth 100000 in
theorem w_1089 : am_cw (am_mi 356) ∈ lw_tbl := am_tb (i := 1089) rfl
theorem w_1086 : Cond.methodLink "java/lang/AbstractStringBuilder" 104 (am_mi 356).1 ∈ lw_tbl := am_tb (i := 1086) (by decide +kernel)
theorem w_1088 : Cond.instanceMethod (am_mi 356).1 ∈ lw_tbl := am_tb (i := 1088) (by decide +kernel)
set_option maxRecDepth 100000 in
theorem w_1101 : am_cw (am_mi 359) ∈ lw_tbl := am_tb (i := 1101) rfl
theorem w_1099 : Cond.methodLink "java/lang/AbstractStringBuilder" 108 (am_mi 359).1 ∈ lw_tbl := am_tb (i := 1099) (by decide +kernel)
theorem w_1100 : Cond.static (am_mi 359).1 ∈ lw_tbl := am_tb (i := 1100) (by decide +kernel)
set_option maxRecDepth 100000 in
theorem w_1092 : am_cw (am_mi 357) ∈ lw_tbl := am_tb (i := 1092) rfl
theorem w_28 : Cond.initialized "jdk/internal/util/ArraysSupport" ∈ lw_tbl := am_tb (i := 28) (by decide +kernel)
theorem w_1090 : Cond.methodLink "java/lang/AbstractStringBuilder" 114 (am_mi 357).1 ∈ lw_tbl := am_tb (i := 1090) (by decide +kernel)
theorem w_1091 : Cond.static (am_mi 357).1 ∈ lw_tbl := am_tb (i := 1091) (by decide +kernel)
theorem w_1098 : Cond.constant "java/lang/AbstractStringBuilder" 39 2147483647 ∈ lw_tbl := am_tb (i := 1098) (by decide +kernel)
theorem w_1093 : Cond.methodLink "jdk/internal/util/ArraysSupport" 194 Lib.Math.max.name ∈ lw_tbl := am_tb (i := 1093) (by decide +kernel)
theorem w_1094 : Cond.constant "jdk/internal/util/ArraysSupport" 200 2147483639 ∈ lw_tbl := am_tb (i := 1094) (by decide +kernel)
set_option maxRecDepth 100000 in
theorem w_1097 : am_cw (am_mi 358) ∈ lw_tbl := am_tb (i := 1097) rfl
theorem w_1095 : Cond.methodLink "jdk/internal/util/ArraysSupport" 201 (am_mi 358).1 ∈ lw_tbl := am_tb (i := 1095) (by decide +kernel)
theorem w_1096 : Cond.static (am_mi 358).1 ∈ lw_tbl := am_tb (i := 1096) (by decide +kernel)
theorem w_1102 : Cond.methodLink "java/util/Arrays" 310 ⟨"[B", "clone", "()Ljava/lang/Object;"⟩ ∈ lw_tbl := am_tb (i := 1102) (by decide +kernel)
theorem w_1103 : Cond.sameMethod "[B" "java/lang/Object" "clone" "()Ljava/lang/Object;" ∈ lw_tbl := am_tb (i := 1103) (by decide +kernel)
theorem w_1104 : Cond.native ⟨"java/lang/Object", "clone", "()Ljava/lang/Object;"⟩ ∈ lw_tbl := am_tb (i := 1104) (by decide +kernel)
theorem w_1105 : Cond.instanceMethod ⟨"java/lang/Object", "clone", "()Ljava/lang/Object;"⟩ ∈ lw_tbl := am_tb (i := 1105) (by decide +kernel)
theorem w_1106 : Cond.selects "[B" ⟨"[B", "clone", "()Ljava/lang/Object;"⟩ ⟨"java/lang/Object", "clone", "()Ljava/lang/Object;"⟩ ∈ lw_tbl := am_tb (i := 1106) (by decide +kernel)
theorem w_1108 : Cond.classLink "java/util/Arrays" 311 "[B" ∈ lw_tbl := am_tb (i := 1108) (by decide +kernel)
theorem w_1109 : Cond.methodLink "java/util/Arrays" 304 Lib.Math.min.name ∈ lw_tbl := am_tb (i := 1109) (by decide +kernel)
theorem w_1110 : Cond.methodLink "java/util/Arrays" 150 arraycopyName ∈ lw_tbl := am_tb (i := 1110) (by decide +kernel)
set_option maxRecDepth 100000 in
theorem w_1125 : am_cw (am_mi 363) ∈ lw_tbl := am_tb (i := 1125) rfl
theorem w_1123 : Cond.methodLink "java/lang/AbstractStringBuilder" 125 (am_mi 363).1 ∈ lw_tbl := am_tb (i := 1123) (by decide +kernel)
theorem w_1124 : Cond.static (am_mi 363).1 ∈ lw_tbl := am_tb (i := 1124) (by decide +kernel)
set_option maxRecDepth 100000 in
theorem w_1142 : am_cw (am_mi 365) ∈ lw_tbl := am_tb (i := 1142) rfl
theorem w_1140 : Cond.methodLink "java/lang/String" 1065 (am_mi 365).1 ∈ lw_tbl := am_tb (i := 1140) (by decide +kernel)
theorem w_1141 : Cond.static (am_mi 365).1 ∈ lw_tbl := am_tb (i := 1141) (by decide +kernel)
set_option maxRecDepth 100000 in
theorem w_1170 : am_cw (am_mi 367) ∈ lw_tbl := am_tb (i := 1170) rfl
theorem w_1168 : Cond.methodLink "java/lang/StringBuilder" 29 (am_mi 367).1 ∈ lw_tbl := am_tb (i := 1168) (by decide +kernel)
theorem w_1169 : Cond.instanceMethod (am_mi 367).1 ∈ lw_tbl := am_tb (i := 1169) (by decide +kernel)
theorem w_1541 : Cond.sameMethod (am_mi 367).1.cls (am_mi 367).1.cls (am_mi 367).1.name (am_mi 367).1.desc ∈ lw_tbl := am_tb (i := 1541) (by decide +kernel)
theorem w_1187 : Cond.methodLink "java/lang/AbstractStringBuilder" 32 (am_mi 181).1 ∈ lw_tbl := am_tb (i := 1187) (by decide +kernel)
set_option maxRecDepth 100000 in
theorem w_1199 : am_cw (am_mi 371) ∈ lw_tbl := am_tb (i := 1199) rfl
theorem w_1196 : Cond.methodLink "java/lang/AbstractStringBuilder" 208 (am_mi 371).1 ∈ lw_tbl := am_tb (i := 1196) (by decide +kernel)
theorem w_1198 : Cond.instanceMethod (am_mi 371).1 ∈ lw_tbl := am_tb (i := 1198) (by decide +kernel)
set_option maxRecDepth 100000 in
theorem w_1186 : am_cw (am_mi 370) ∈ lw_tbl := am_tb (i := 1186) rfl
theorem w_1184 : Cond.methodLink "java/lang/String" 1062 (am_mi 370).1 ∈ lw_tbl := am_tb (i := 1184) (by decide +kernel)
theorem w_1185 : Cond.static (am_mi 370).1 ∈ lw_tbl := am_tb (i := 1185) (by decide +kernel)
set_option maxRecDepth 100000 in
theorem w_1203 : am_cw (am_mi 372) ∈ lw_tbl := am_tb (i := 1203) rfl
theorem w_1200 : Cond.methodLink "java/lang/AbstractStringBuilder" 397 (am_mi 372).1 ∈ lw_tbl := am_tb (i := 1200) (by decide +kernel)
theorem w_1202 : Cond.instanceMethod (am_mi 372).1 ∈ lw_tbl := am_tb (i := 1202) (by decide +kernel)
set_option maxRecDepth 100000 in
theorem w_1208 : am_cw (am_mi 373) ∈ lw_tbl := am_tb (i := 1208) rfl
theorem w_1205 : Cond.methodLink "java/lang/AbstractStringBuilder" 399 (am_mi 373).1 ∈ lw_tbl := am_tb (i := 1205) (by decide +kernel)
theorem w_1206 : Cond.instanceMethod (am_mi 373).1 ∈ lw_tbl := am_tb (i := 1206) (by decide +kernel)
theorem w_1207 : Cond.selects (am_mi 373).1.cls (am_mi 373).1 (am_mi 373).1 ∈ lw_tbl := am_tb (i := 1207) (by decide +kernel)
theorem w_1204 : Cond.methodLink "java/lang/AbstractStringBuilder" 40 (am_mi 182).1 ∈ lw_tbl := am_tb (i := 1204) (by decide +kernel)
theorem w_1209 : Cond.methodLink "java/lang/String" 212 arraycopyName ∈ lw_tbl := am_tb (i := 1209) (by decide +kernel)
theorem w_1210 : Cond.methodLink "java/lang/String" 106 (am_mi 363).1 ∈ lw_tbl := am_tb (i := 1210) (by decide +kernel)
theorem w_1215 : Cond.classLink "java/lang/StringBuilder" 18 "java/lang/String" ∈ lw_tbl := am_tb (i := 1215) (by decide +kernel)
theorem w_496 : Cond.instantiable "java/lang/String" 4 ∈ lw_tbl := am_tb (i := 496) (by decide +kernel)
set_option maxRecDepth 100000 in
theorem w_1218 : am_cw (am_mi 375) ∈ lw_tbl := am_tb (i := 1218) rfl
theorem w_1216 : Cond.methodLink "java/lang/StringBuilder" 137 (am_mi 375).1 ∈ lw_tbl := am_tb (i := 1216) (by decide +kernel)
theorem w_1217 : Cond.instanceMethod (am_mi 375).1 ∈ lw_tbl := am_tb (i := 1217) (by decide +kernel)
set_option maxRecDepth 100000 in
theorem w_1221 : am_cw (am_mi 376) ∈ lw_tbl := am_tb (i := 1221) rfl
theorem w_1219 : Cond.methodLink "java/lang/String" 489 (am_mi 376).1 ∈ lw_tbl := am_tb (i := 1219) (by decide +kernel)
theorem w_1220 : Cond.instanceMethod (am_mi 376).1 ∈ lw_tbl := am_tb (i := 1220) (by decide +kernel)
theorem w_1222 : Cond.methodLink "java/lang/String" 1 Lib.objectInit ∈ lw_tbl := am_tb (i := 1222) (by decide +kernel)
set_option maxRecDepth 100000 in
theorem w_1227 : am_cw (am_mi 377) ∈ lw_tbl := am_tb (i := 1227) rfl
theorem w_1223 : Cond.methodLink "java/lang/String" 552 (am_mi 377).1 ∈ lw_tbl := am_tb (i := 1223) (by decide +kernel)
theorem w_1224 : Cond.instanceMethod (am_mi 377).1 ∈ lw_tbl := am_tb (i := 1224) (by decide +kernel)
theorem w_1226 : Cond.selects "java/lang/StringBuilder" (am_mi 377).1 (am_mi 377).1 ∈ lw_tbl := am_tb (i := 1226) (by decide +kernel)
set_option maxRecDepth 100000 in
theorem w_1233 : am_cw (am_mi 378) ∈ lw_tbl := am_tb (i := 1233) rfl
theorem w_1228 : Cond.methodLink "java/lang/String" 549 ⟨"java/lang/AbstractStringBuilder", "length", "()I"⟩ ∈ lw_tbl := am_tb (i := 1228) (by decide +kernel)
theorem w_1230 : Cond.sameMethod "java/lang/AbstractStringBuilder" "java/lang/AbstractStringBuilder" "length" "()I" ∈ lw_tbl := am_tb (i := 1230) (by decide +kernel)
theorem w_1229 : Cond.instanceMethod ⟨"java/lang/AbstractStringBuilder", "length", "()I"⟩ ∈ lw_tbl := am_tb (i := 1229) (by decide +kernel)
set_option maxRecDepth 100000 in
theorem w_1235 : Cond.code ⟨"java/lang/AbstractStringBuilder", "length", "()I"⟩ prog_15_method_6_code 1 (some .int) ∈ lw_tbl := am_tb (i := 1235) rfl
theorem w_1232 : Cond.instanceMethod (am_mi 378).1 ∈ lw_tbl := am_tb (i := 1232) (by decide +kernel)
theorem w_1231 : Cond.selects "java/lang/StringBuilder" ⟨"java/lang/AbstractStringBuilder", "length", "()I"⟩ (am_mi 378).1 ∈ lw_tbl := am_tb (i := 1231) (by decide +kernel)
theorem w_1236 : Cond.methodLink "java/lang/String" 1047 (am_mi 360).1 ∈ lw_tbl := am_tb (i := 1236) (by decide +kernel)
set_option maxRecDepth 100000 in
theorem w_1239 : am_cw (am_mi 380) ∈ lw_tbl := am_tb (i := 1239) rfl
theorem w_1237 : Cond.methodLink "java/lang/String" 54 (am_mi 380).1 ∈ lw_tbl := am_tb (i := 1237) (by decide +kernel)
theorem w_1238 : Cond.static (am_mi 380).1 ∈ lw_tbl := am_tb (i := 1238) (by decide +kernel)
theorem w_1064 : Cond.fieldLink "java/lang/String" 1048 (am_T9 2).1 (am_T9 2).2.1 (am_T9 2).2.2.1 ∈ lw_tbl := am_tb (i := 1064) (by decide +kernel)
set_option maxRecDepth 100000 in
theorem w_1235b : am_cw (am_mi 379) ∈ lw_tbl := am_tb (i := 1235) rfl
theorem w_1234 : Cond.methodLink "java/lang/StringBuilder" 343 (am_mi 379).1 ∈ lw_tbl := am_tb (i := 1234) (by decide +kernel)
theorem w_1230b : Cond.sameMethod (am_mi 379).1.cls (am_mi 379).1.cls (am_mi 379).1.name (am_mi 379).1.desc ∈ lw_tbl := am_tb (i := 1230) (by decide +kernel)
set_option maxRecDepth 100000 in
theorem w_1242 : am_cw (am_mi 381) ∈ lw_tbl := am_tb (i := 1242) rfl
theorem w_1240 : Cond.methodLink "java/util/Arrays" 339 (am_mi 381).1 ∈ lw_tbl := am_tb (i := 1240) (by decide +kernel)
theorem w_1241 : Cond.static (am_mi 381).1 ∈ lw_tbl := am_tb (i := 1241) (by decide +kernel)
set_option maxRecDepth 100000 in
theorem w_1245 : am_cw (am_mi 382) ∈ lw_tbl := am_tb (i := 1245) rfl
theorem w_1243 : Cond.methodLink "java/util/Arrays" 343 (am_mi 382).1 ∈ lw_tbl := am_tb (i := 1243) (by decide +kernel)
theorem w_1244 : Cond.static (am_mi 382).1 ∈ lw_tbl := am_tb (i := 1244) (by decide +kernel)
theorem w_1247 : Cond.classLink "java/util/Arrays" 45 "java/lang/StringBuilder" ∈ lw_tbl := am_tb (i := 1247) (by decide +kernel)
theorem w_1248 : Cond.methodLink "java/util/Arrays" 47 (am_mi 351).1 ∈ lw_tbl := am_tb (i := 1248) (by decide +kernel)
theorem w_1249 : Cond.methodLink "java/util/Arrays" 54 (am_mi 383).1 ∈ lw_tbl := am_tb (i := 1249) (by decide +kernel)
theorem w_1275 : Cond.methodLink "java/util/Arrays" 50 (am_mi 366).1 ∈ lw_tbl := am_tb (i := 1275) (by decide +kernel)
theorem w_1276 : Cond.methodLink "java/util/Arrays" 61 (am_mi 374).1 ∈ lw_tbl := am_tb (i := 1276) (by decide +kernel)
set_option maxRecDepth 100000 in
theorem w_1255 : am_cw (am_mi 384) ∈ lw_tbl := am_tb (i := 1255) rfl
theorem w_1253 : Cond.methodLink "java/lang/StringBuilder" 53 (am_mi 384).1 ∈ lw_tbl := am_tb (i := 1253) (by decide +kernel)
theorem w_1254 : Cond.instanceMethod (am_mi 384).1 ∈ lw_tbl := am_tb (i := 1254) (by decide +kernel)
theorem w_1545 : Cond.sameMethod (am_mi 384).1.cls (am_mi 384).1.cls (am_mi 384).1.name (am_mi 384).1.desc ∈ lw_tbl := am_tb (i := 1545) (by decide +kernel)
set_option maxRecDepth 100000 in
theorem w_1258 : am_cw (am_mi 385) ∈ lw_tbl := am_tb (i := 1258) rfl
theorem w_1256 : Cond.methodLink "java/lang/AbstractStringBuilder" 245 (am_mi 385).1 ∈ lw_tbl := am_tb (i := 1256) (by decide +kernel)
theorem w_1257 : Cond.static (am_mi 385).1 ∈ lw_tbl := am_tb (i := 1257) (by decide +kernel)
set_option maxRecDepth 100000 in
theorem w_1261 : am_cw (am_mi 386) ∈ lw_tbl := am_tb (i := 1261) rfl
theorem w_1259 : Cond.methodLink "java/lang/AbstractStringBuilder" 248 (am_mi 386).1 ∈ lw_tbl := am_tb (i := 1259) (by decide +kernel)
theorem w_1260 : Cond.static (am_mi 386).1 ∈ lw_tbl := am_tb (i := 1260) (by decide +kernel)
theorem w_1262 : Cond.fieldLink "java/lang/Integer" 83 (am_st 3).1 (am_st 3).2.1 (am_st 3).2.2.1 ∈ lw_tbl := am_tb (i := 1262) (by decide +kernel)
theorem w_1264 : Cond.fieldLink "java/lang/Integer" 87 (am_st 4).1 (am_st 4).2.1 (am_st 4).2.2.1 ∈ lw_tbl := am_tb (i := 1264) (by decide +kernel)
set_option maxRecDepth 100000 in
theorem w_1309 : am_cw (am_mi 157) ∈ lw_tbl := am_tb (i := 1309) rfl
theorem w_1306 : Cond.methodLink "SmokeRelayLaw" 130 (am_mi 157).1 ∈ lw_tbl := am_tb (i := 1306) (by decide +kernel)
theorem w_1307 : Cond.instanceMethod (am_mi 157).1 ∈ lw_tbl := am_tb (i := 1307) (by decide +kernel)
theorem w_1308 : Cond.selects (am_mi 157).1.cls (am_mi 157).1 (am_mi 157).1 ∈ lw_tbl := am_tb (i := 1308) (by decide +kernel)
set_option maxRecDepth 100000 in
theorem w_1328 : am_cw (am_mi 389) ∈ lw_tbl := am_tb (i := 1328) rfl
theorem w_1326 : Cond.methodLink "SmokeRelayLaw" 332 (am_mi 389).1 ∈ lw_tbl := am_tb (i := 1326) (by decide +kernel)
theorem w_1327 : Cond.static (am_mi 389).1 ∈ lw_tbl := am_tb (i := 1327) (by decide +kernel)
theorem w_1334 : Cond.methodLink "SmokeRelayLaw" 162 (am_mi 175).1 ∈ lw_tbl := am_tb (i := 1334) (by decide +kernel)
set_option maxRecDepth 100000 in
theorem w_1332 : am_cw (am_mi 166) ∈ lw_tbl := am_tb (i := 1332) rfl
theorem w_1329 : Cond.methodLink "SmokeRelayLaw" 139 (am_mi 166).1 ∈ lw_tbl := am_tb (i := 1329) (by decide +kernel)
theorem w_1330 : Cond.instanceMethod (am_mi 166).1 ∈ lw_tbl := am_tb (i := 1330) (by decide +kernel)
theorem w_1331 : Cond.selects (am_mi 166).1.cls (am_mi 166).1 (am_mi 166).1 ∈ lw_tbl := am_tb (i := 1331) (by decide +kernel)
set_option maxRecDepth 100000 in
theorem w_1357 : am_cw (am_mi 162) ∈ lw_tbl := am_tb (i := 1357) rfl
theorem w_1354 : Cond.methodLink "SmokeRelayLaw" 133 (am_mi 162).1 ∈ lw_tbl := am_tb (i := 1354) (by decide +kernel)
theorem w_1355 : Cond.instanceMethod (am_mi 162).1 ∈ lw_tbl := am_tb (i := 1355) (by decide +kernel)
theorem w_1356 : Cond.selects (am_mi 162).1.cls (am_mi 162).1 (am_mi 162).1 ∈ lw_tbl := am_tb (i := 1356) (by decide +kernel)
set_option maxRecDepth 100000 in
theorem w_1389 : am_cw (am_mi 164) ∈ lw_tbl := am_tb (i := 1389) rfl
theorem w_1386 : Cond.methodLink "SmokeRelayLaw" 136 (am_mi 164).1 ∈ lw_tbl := am_tb (i := 1386) (by decide +kernel)
theorem w_1387 : Cond.instanceMethod (am_mi 164).1 ∈ lw_tbl := am_tb (i := 1387) (by decide +kernel)
theorem w_1388 : Cond.selects (am_mi 164).1.cls (am_mi 164).1 (am_mi 164).1 ∈ lw_tbl := am_tb (i := 1388) (by decide +kernel)
set_option maxRecDepth 100000 in
theorem w_1396 : am_cw (am_mi 393) ∈ lw_tbl := am_tb (i := 1396) rfl
theorem w_1394 : Cond.methodLink "SmokeRelayLaw" 400 (am_mi 393).1 ∈ lw_tbl := am_tb (i := 1394) (by decide +kernel)
theorem w_1395 : Cond.static (am_mi 393).1 ∈ lw_tbl := am_tb (i := 1395) (by decide +kernel)
set_option maxRecDepth 100000 in
theorem w_1406 : am_cw (am_mi 394) ∈ lw_tbl := am_tb (i := 1406) rfl
theorem w_1404 : Cond.methodLink "SmokeRelayLaw" 404 (am_mi 394).1 ∈ lw_tbl := am_tb (i := 1404) (by decide +kernel)
theorem w_1405 : Cond.static (am_mi 394).1 ∈ lw_tbl := am_tb (i := 1405) (by decide +kernel)
set_option maxRecDepth 100000 in
theorem w_1418 : am_cw (am_mi 395) ∈ lw_tbl := am_tb (i := 1418) rfl
theorem w_1416 : Cond.methodLink "SmokeRelayLaw" 414 (am_mi 395).1 ∈ lw_tbl := am_tb (i := 1416) (by decide +kernel)
theorem w_1417 : Cond.static (am_mi 395).1 ∈ lw_tbl := am_tb (i := 1417) (by decide +kernel)
set_option maxRecDepth 100000 in
theorem w_1526 : am_cw (am_mi 398) ∈ lw_tbl := am_tb (i := 1526) rfl
theorem w_1524 : Cond.methodLink "SmokeRelayLaw" 417 (am_mi 398).1 ∈ lw_tbl := am_tb (i := 1524) (by decide +kernel)
theorem w_1525 : Cond.static (am_mi 398).1 ∈ lw_tbl := am_tb (i := 1525) (by decide +kernel)
theorem w_1397 : Cond.constantLong "SmokeRelayLaw" 386 7 ∈ lw_tbl := am_tb (i := 1397) (by decide +kernel)
theorem w_1398 : Cond.constantLong "SmokeRelayLaw" 388 11 ∈ lw_tbl := am_tb (i := 1398) (by decide +kernel)
theorem w_1399 : Cond.constantLong "SmokeRelayLaw" 390 31 ∈ lw_tbl := am_tb (i := 1399) (by decide +kernel)
theorem w_1400 : Cond.constantLong "SmokeRelayLaw" 392 37 ∈ lw_tbl := am_tb (i := 1400) (by decide +kernel)
theorem w_1401 : Cond.constantLong "SmokeRelayLaw" 394 41 ∈ lw_tbl := am_tb (i := 1401) (by decide +kernel)
theorem w_1402 : Cond.constantLong "SmokeRelayLaw" 396 43 ∈ lw_tbl := am_tb (i := 1402) (by decide +kernel)
theorem w_1403 : Cond.constantLong "SmokeRelayLaw" 398 47 ∈ lw_tbl := am_tb (i := 1403) (by decide +kernel)
set_option maxRecDepth 100000 in
theorem w_1410 : am_cw (am_mi 68) ∈ lw_tbl := am_tb (i := 1410) rfl
theorem w_1407 : Cond.methodLink "SmokeRelayLaw" 22 (am_mi 68).1 ∈ lw_tbl := am_tb (i := 1407) (by decide +kernel)
theorem w_1408 : Cond.instanceMethod (am_mi 68).1 ∈ lw_tbl := am_tb (i := 1408) (by decide +kernel)
theorem w_1409 : Cond.selects (am_mi 68).1.cls (am_mi 68).1 (am_mi 68).1 ∈ lw_tbl := am_tb (i := 1409) (by decide +kernel)
set_option maxRecDepth 100000 in
theorem w_1421 : am_cw (am_mi 396) ∈ lw_tbl := am_tb (i := 1421) rfl
theorem w_1419 : Cond.methodLink "SmokeRelayLaw" 165 (am_mi 396).1 ∈ lw_tbl := am_tb (i := 1419) (by decide +kernel)
theorem w_1420 : Cond.static (am_mi 396).1 ∈ lw_tbl := am_tb (i := 1420) (by decide +kernel)
set_option maxRecDepth 100000 in
theorem w_1433 : am_cw (am_mi 397) ∈ lw_tbl := am_tb (i := 1433) rfl
theorem w_1431 : Cond.methodLink "SmokeRelayLaw" 170 (am_mi 397).1 ∈ lw_tbl := am_tb (i := 1431) (by decide +kernel)
theorem w_1432 : Cond.static (am_mi 397).1 ∈ lw_tbl := am_tb (i := 1432) (by decide +kernel)
set_option maxRecDepth 100000 in
theorem w_1425 : am_cw (am_mi 168) ∈ lw_tbl := am_tb (i := 1425) rfl
theorem w_1422 : Cond.methodLink "SmokeRelayLaw" 142 (am_mi 168).1 ∈ lw_tbl := am_tb (i := 1422) (by decide +kernel)
theorem w_1423 : Cond.instanceMethod (am_mi 168).1 ∈ lw_tbl := am_tb (i := 1423) (by decide +kernel)
theorem w_1424 : Cond.selects (am_mi 168).1.cls (am_mi 168).1 (am_mi 168).1 ∈ lw_tbl := am_tb (i := 1424) (by decide +kernel)
set_option maxRecDepth 100000 in
theorem w_1437 : am_cw (am_mi 171) ∈ lw_tbl := am_tb (i := 1437) rfl
theorem w_1434 : Cond.methodLink "SmokeRelayLaw" 145 (am_mi 171).1 ∈ lw_tbl := am_tb (i := 1434) (by decide +kernel)
theorem w_1435 : Cond.instanceMethod (am_mi 171).1 ∈ lw_tbl := am_tb (i := 1435) (by decide +kernel)
theorem w_1436 : Cond.selects (am_mi 171).1.cls (am_mi 171).1 (am_mi 171).1 ∈ lw_tbl := am_tb (i := 1436) (by decide +kernel)
set_option maxRecDepth 100000 in
theorem w_1530 : am_cw (am_mi 203) ∈ lw_tbl := am_tb (i := 1530) rfl
theorem w_1527 : Cond.methodLink "SmokeRelayLaw" 154 (am_mi 203).1 ∈ lw_tbl := am_tb (i := 1527) (by decide +kernel)
theorem w_1528 : Cond.instanceMethod (am_mi 203).1 ∈ lw_tbl := am_tb (i := 1528) (by decide +kernel)
theorem w_1529 : Cond.selects (am_mi 203).1.cls (am_mi 203).1 (am_mi 203).1 ∈ lw_tbl := am_tb (i := 1529) (by decide +kernel)
set_option maxRecDepth 100000 in
theorem w_35 : am_cw (am_mi 308) ∈ lw_tbl := am_tb (i := 35) rfl
theorem w_33 : Cond.methodLink "SmokeRelayLaw" 202 (am_mi 308).1 ∈ lw_tbl := am_tb (i := 33) (by decide +kernel)
theorem w_34 : Cond.static (am_mi 308).1 ∈ lw_tbl := am_tb (i := 34) (by decide +kernel)
set_option maxRecDepth 100000 in
theorem w_641 : am_cw (am_mi 314) ∈ lw_tbl := am_tb (i := 641) rfl
theorem w_639 : Cond.methodLink "SmokeRelayLaw" 206 (am_mi 314).1 ∈ lw_tbl := am_tb (i := 639) (by decide +kernel)
theorem w_640 : Cond.static (am_mi 314).1 ∈ lw_tbl := am_tb (i := 640) (by decide +kernel)
set_option maxRecDepth 100000 in
theorem w_861 : am_cw (am_mi 328) ∈ lw_tbl := am_tb (i := 861) rfl
theorem w_859 : Cond.methodLink "SmokeRelayLaw" 210 (am_mi 328).1 ∈ lw_tbl := am_tb (i := 859) (by decide +kernel)
theorem w_860 : Cond.static (am_mi 328).1 ∈ lw_tbl := am_tb (i := 860) (by decide +kernel)
set_option maxRecDepth 100000 in
theorem w_935 : am_cw (am_mi 336) ∈ lw_tbl := am_tb (i := 935) rfl
theorem w_933 : Cond.methodLink "SmokeRelayLaw" 213 (am_mi 336).1 ∈ lw_tbl := am_tb (i := 933) (by decide +kernel)
theorem w_934 : Cond.static (am_mi 336).1 ∈ lw_tbl := am_tb (i := 934) (by decide +kernel)
set_option maxRecDepth 100000 in
theorem w_1023 : am_cw (am_mi 348) ∈ lw_tbl := am_tb (i := 1023) rfl
theorem w_1021 : Cond.methodLink "SmokeRelayLaw" 216 (am_mi 348).1 ∈ lw_tbl := am_tb (i := 1021) (by decide +kernel)
theorem w_1022 : Cond.static (am_mi 348).1 ∈ lw_tbl := am_tb (i := 1022) (by decide +kernel)
set_option maxRecDepth 100000 in
theorem w_1042 : am_cw (am_mi 350) ∈ lw_tbl := am_tb (i := 1042) rfl
theorem w_1040 : Cond.methodLink "SmokeRelayLaw" 219 (am_mi 350).1 ∈ lw_tbl := am_tb (i := 1040) (by decide +kernel)
theorem w_1041 : Cond.static (am_mi 350).1 ∈ lw_tbl := am_tb (i := 1041) (by decide +kernel)
set_option maxRecDepth 100000 in
theorem w_1393 : am_cw (am_mi 392) ∈ lw_tbl := am_tb (i := 1393) rfl
theorem w_1391 : Cond.methodLink "SmokeRelayLaw" 222 (am_mi 392).1 ∈ lw_tbl := am_tb (i := 1391) (by decide +kernel)
theorem w_1392 : Cond.static (am_mi 392).1 ∈ lw_tbl := am_tb (i := 1392) (by decide +kernel)
theorem ok_1 : am_okC 1 0 := ⟨w_48, w_2, by decide +kernel, by decide +kernel, ⟨by decide +kernel, by decide +kernel⟩, by decide +kernel⟩
theorem ok_2 : am_okC 2 0 := ⟨w_102, w_3, by decide +kernel, by decide +kernel, ⟨by decide +kernel, by decide +kernel⟩, by decide +kernel⟩
theorem ok_3 : am_okC 3 1 := ⟨w_122, w_4, by decide +kernel, by decide +kernel, ⟨by decide +kernel, by decide +kernel⟩, by decide +kernel⟩
theorem ok_4 : am_okC 4 2 := ⟨w_135, w_5, by decide +kernel, by decide +kernel, ⟨by decide +kernel, by decide +kernel⟩, by decide +kernel⟩
theorem ok_5 : am_okC 5 0 := ⟨w_171, w_6, by decide +kernel, by decide +kernel, ⟨by decide +kernel, by decide +kernel⟩, by decide +kernel⟩
theorem ok_9 : am_okC 9 1 := ⟨w_193, w_9, by decide +kernel, by decide +kernel, ⟨by decide +kernel, by decide +kernel⟩, by decide +kernel⟩
theorem ok_10 : am_okC 10 0 := ⟨w_221, w_10, by decide +kernel, by decide +kernel, ⟨by decide +kernel, by decide +kernel⟩, by decide +kernel⟩
theorem ok_11 : am_okC 11 0 := ⟨w_255, w_11, by decide +kernel, by decide +kernel, ⟨by decide +kernel, by decide +kernel⟩, by decide +kernel⟩
theorem ok_6 : am_okC 6 1 := ⟨w_175, w_6, by decide +kernel, by decide +kernel, ⟨by decide +kernel, by decide +kernel⟩, by decide +kernel⟩
theorem ok_7 : am_okC 7 1 := ⟨w_178, w_6, by decide +kernel, by decide +kernel, ⟨by decide +kernel, by decide +kernel⟩, by decide +kernel⟩
theorem ok_8 : am_okC 8 1 := ⟨w_181, w_8, by decide +kernel, by decide +kernel, ⟨by decide +kernel, by decide +kernel⟩, by decide +kernel⟩
theorem ok_14 : am_okC 14 0 := ⟨w_781, w_4, by decide +kernel, by decide +kernel, ⟨by decide +kernel, by decide +kernel⟩, by decide +kernel⟩
theorem ok_15 : am_okC 15 0 := ⟨w_785, w_4, by decide +kernel, by decide +kernel, ⟨by decide +kernel, by decide +kernel⟩, by decide +kernel⟩
theorem ok_20 : am_okC 20 1 := ⟨w_790, w_4, by decide +kernel, by decide +kernel, ⟨by decide +kernel, by decide +kernel⟩, by decide +kernel⟩
theorem ok_16 : am_okC 16 1 := ⟨w_747, w_4, by decide +kernel, by decide +kernel, ⟨by decide +kernel, by decide +kernel⟩, by decide +kernel⟩
theorem ok_17 : am_okC 17 2 := ⟨w_684, w_4, by decide +kernel, by decide +kernel, ⟨by decide +kernel, by decide +kernel⟩, by decide +kernel⟩
theorem ok_18 : am_okC 18 1 := ⟨w_555, w_2, by decide +kernel, by decide +kernel, ⟨by decide +kernel, by decide +kernel⟩, by decide +kernel⟩
theorem ok_19 : am_okC 19 4 := ⟨w_559, w_4, by decide +kernel, by decide +kernel, ⟨by decide +kernel, by decide +kernel⟩, by decide +kernel⟩
theorem ok_22 : am_okC 22 0 := ⟨w_799, w_4, by decide +kernel, by decide +kernel, ⟨by decide +kernel, by decide +kernel⟩, by decide +kernel⟩
theorem ok_23 : am_okC 23 3 := ⟨w_802, w_4, by decide +kernel, by decide +kernel, ⟨by decide +kernel, by decide +kernel⟩, by decide +kernel⟩
theorem ok_26 : am_okC 26 0 := ⟨w_928, w_5, by decide +kernel, by decide +kernel, ⟨by decide +kernel, by decide +kernel⟩, by decide +kernel⟩
theorem ok_27 : am_okC 27 0 := ⟨w_547, w_5, by decide +kernel, by decide +kernel, ⟨by decide +kernel, by decide +kernel⟩, by decide +kernel⟩
theorem ok_30 : am_okC 30 0 := ⟨w_821, w_5, by decide +kernel, by decide +kernel, ⟨by decide +kernel, by decide +kernel⟩, by decide +kernel⟩
theorem ok_31 : am_okC 31 1 := ⟨w_932, w_5, by decide +kernel, by decide +kernel, ⟨by decide +kernel, by decide +kernel⟩, by decide +kernel⟩
theorem ok_28 : am_okC 28 2 := ⟨w_551, w_4, by decide +kernel, by decide +kernel, ⟨by decide +kernel, by decide +kernel⟩, by decide +kernel⟩
theorem ok_29 : am_okC 29 2 := ⟨w_566, w_5, by decide +kernel, by decide +kernel, ⟨by decide +kernel, by decide +kernel⟩, by decide +kernel⟩
theorem ok_33 : am_okC 33 0 := ⟨w_834, w_9, by decide +kernel, by decide +kernel, ⟨by decide +kernel, by decide +kernel⟩, by decide +kernel⟩
theorem ok_34 : am_okC 34 0 := ⟨w_838, w_9, by decide +kernel, by decide +kernel, ⟨by decide +kernel, by decide +kernel⟩, by decide +kernel⟩
theorem ok_35 : am_okC 35 1 := ⟨w_842, w_9, by decide +kernel, by decide +kernel, ⟨by decide +kernel, by decide +kernel⟩, by decide +kernel⟩
theorem ok_36 : am_okC 36 2 := ⟨w_846, w_9, by decide +kernel, by decide +kernel, ⟨by decide +kernel, by decide +kernel⟩, by decide +kernel⟩
theorem ok_38 : am_okC 38 0 := ⟨w_850, w_9, by decide +kernel, by decide +kernel, ⟨by decide +kernel, by decide +kernel⟩, by decide +kernel⟩
theorem ok_39 : am_okC 39 1 := ⟨w_854, w_9, by decide +kernel, by decide +kernel, ⟨by decide +kernel, by decide +kernel⟩, by decide +kernel⟩
theorem ok_40 : am_okC 40 0 := ⟨w_858, w_9, by decide +kernel, by decide +kernel, ⟨by decide +kernel, by decide +kernel⟩, by decide +kernel⟩
theorem ok_42 : am_okC 42 0 := ⟨w_811, w_4, by decide +kernel, by decide +kernel, ⟨by decide +kernel, by decide +kernel⟩, by decide +kernel⟩
theorem ok_44 : am_okC 44 0 := ⟨w_817, w_5, by decide +kernel, by decide +kernel, ⟨by decide +kernel, by decide +kernel⟩, by decide +kernel⟩
theorem ok_49 : am_okC 49 0 := ⟨w_825, w_6, by decide +kernel, by decide +kernel, ⟨by decide +kernel, by decide +kernel⟩, by decide +kernel⟩
theorem ok_43 : am_okC 43 2 := ⟨w_703, w_4, by decide +kernel, by decide +kernel, ⟨by decide +kernel, by decide +kernel⟩, by decide +kernel⟩
theorem ok_45 : am_okC 45 1 := ⟨w_574, w_5, by decide +kernel, by decide +kernel, ⟨by decide +kernel, by decide +kernel⟩, by decide +kernel⟩
theorem ok_46 : am_okC 46 2 := ⟨w_577, w_22, by decide +kernel, by decide +kernel, ⟨by decide +kernel, by decide +kernel⟩, by decide +kernel⟩
theorem ok_47 : am_okC 47 1 := ⟨w_581, w_5, by decide +kernel, by decide +kernel, ⟨by decide +kernel, by decide +kernel⟩, by decide +kernel⟩
theorem ok_48 : am_okC 48 2 := ⟨w_586, w_5, by decide +kernel, by decide +kernel, ⟨by decide +kernel, by decide +kernel⟩, by decide +kernel⟩
theorem ok_50 : am_okC 50 1 := ⟨w_614, w_6, by decide +kernel, by decide +kernel, ⟨by decide +kernel, by decide +kernel⟩, by decide +kernel⟩
theorem ok_51 : am_okC 51 1 := ⟨w_830, w_6, by decide +kernel, by decide +kernel, ⟨by decide +kernel, by decide +kernel⟩, by decide +kernel⟩
theorem ok_57 : am_okC 57 2 := ⟨w_326, w_1, by decide +kernel, by decide +kernel, ⟨by decide +kernel, by decide +kernel⟩, by decide +kernel⟩
theorem ok_59 : am_okC 59 1 := ⟨w_405, w_3, by decide +kernel, by decide +kernel, ⟨by decide +kernel, by decide +kernel⟩, by decide +kernel⟩
theorem ok_58 : am_okC 58 1 := ⟨w_329, w_1, by decide +kernel, by decide +kernel, ⟨by decide +kernel, by decide +kernel⟩, by decide +kernel⟩
theorem ok_54 : am_okC 54 1 := ⟨w_409, w_2, by decide +kernel, by decide +kernel, ⟨by decide +kernel, by decide +kernel⟩, by decide +kernel⟩
theorem ok_62 : am_okC 62 3 := ⟨w_426, w_1, by decide +kernel, by decide +kernel, ⟨by decide +kernel, by decide +kernel⟩, by decide +kernel⟩
theorem ok_64 : am_okC 64 1 := ⟨w_434, w_1, by decide +kernel, by decide +kernel, ⟨by decide +kernel, by decide +kernel⟩, by decide +kernel⟩
theorem ok_66 : am_okC 66 3 := ⟨w_458, w_2, by decide +kernel, by decide +kernel, ⟨by decide +kernel, by decide +kernel⟩, by decide +kernel⟩
theorem ok_63 : am_okC 63 1 := ⟨w_429, w_1, by decide +kernel, by decide +kernel, ⟨by decide +kernel, by decide +kernel⟩, by decide +kernel⟩
theorem ok_65 : am_okC 65 1 := ⟨w_438, w_2, by decide +kernel, by decide +kernel, ⟨by decide +kernel, by decide +kernel⟩, by decide +kernel⟩
theorem ok_69 : am_okC 69 1 := ⟨w_513, w_1, by decide +kernel, by decide +kernel, ⟨by decide +kernel, by decide +kernel⟩, by decide +kernel⟩
theorem ok_70 : am_okC 70 1 := ⟨w_517, w_1, by decide +kernel, by decide +kernel, ⟨by decide +kernel, by decide +kernel⟩, by decide +kernel⟩
theorem ok_73 : am_okC 73 1 := ⟨w_666, w_1, by decide +kernel, by decide +kernel, ⟨by decide +kernel, by decide +kernel⟩, by decide +kernel⟩
theorem ok_84 : am_okC 84 1 := ⟨w_715, w_2, by decide +kernel, by decide +kernel, ⟨by decide +kernel, by decide +kernel⟩, by decide +kernel⟩
theorem ok_85 : am_okC 85 1 := ⟨w_719, w_2, by decide +kernel, by decide +kernel, ⟨by decide +kernel, by decide +kernel⟩, by decide +kernel⟩
theorem ok_88 : am_okC 88 2 := ⟨w_509, w_1, by decide +kernel, by decide +kernel, ⟨by decide +kernel, by decide +kernel⟩, by decide +kernel⟩
theorem ok_99 : am_okC 99 1 := ⟨w_472, w_1, by decide +kernel, by decide +kernel, ⟨by decide +kernel, by decide +kernel⟩, by decide +kernel⟩
theorem ok_104 : am_okC 104 2 := ⟨w_890, w_1, by decide +kernel, by decide +kernel, ⟨by decide +kernel, by decide +kernel⟩, by decide +kernel⟩
theorem ok_105 : am_okC 105 2 := ⟨w_543, w_5, by decide +kernel, by decide +kernel, ⟨by decide +kernel, by decide +kernel⟩, by decide +kernel⟩
theorem ok_106 : am_okC 106 1 := ⟨w_591, w_5, by decide +kernel, by decide +kernel, ⟨by decide +kernel, by decide +kernel⟩, by decide +kernel⟩
theorem ok_109 : am_okC 109 2 := ⟨w_909, w_5, by decide +kernel, by decide +kernel, ⟨by decide +kernel, by decide +kernel⟩, by decide +kernel⟩
theorem ok_116 : am_okC 116 1 := ⟨w_533, w_1, by decide +kernel, by decide +kernel, ⟨by decide +kernel, by decide +kernel⟩, by decide +kernel⟩
theorem ok_117 : am_okC 117 1 := ⟨w_607, w_6, by decide +kernel, by decide +kernel, ⟨by decide +kernel, by decide +kernel⟩, by decide +kernel⟩
theorem ok_120 : am_okC 120 1 := ⟨w_951, w_1, by decide +kernel, by decide +kernel, ⟨by decide +kernel, by decide +kernel⟩, by decide +kernel⟩
theorem ok_125 : am_okC 125 1 := ⟨w_972, w_6, by decide +kernel, by decide +kernel, ⟨by decide +kernel, by decide +kernel⟩, by decide +kernel⟩
theorem ok_128 : am_okC 128 2 := ⟨w_603, w_1, by decide +kernel, by decide +kernel, ⟨by decide +kernel, by decide +kernel⟩, by decide +kernel⟩
theorem ok_129 : am_okC 129 2 := ⟨w_610, w_6, by decide +kernel, by decide +kernel, ⟨by decide +kernel, by decide +kernel⟩, by decide +kernel⟩
theorem ok_132 : am_okC 132 3 := ⟨w_539, w_1, by decide +kernel, by decide +kernel, ⟨by decide +kernel, by decide +kernel⟩, by decide +kernel⟩
theorem ok_133 : am_okC 133 2 := ⟨w_595, w_1, by decide +kernel, by decide +kernel, ⟨by decide +kernel, by decide +kernel⟩, by decide +kernel⟩
theorem ok_134 : am_okC 134 1 := ⟨w_599, w_1, by decide +kernel, by decide +kernel, ⟨by decide +kernel, by decide +kernel⟩, by decide +kernel⟩
theorem ok_135 : am_okC 135 1 := ⟨w_618, w_1, by decide +kernel, by decide +kernel, ⟨by decide +kernel, by decide +kernel⟩, by decide +kernel⟩
theorem ok_136 : am_okC 136 2 := ⟨w_622, w_2, by decide +kernel, by decide +kernel, ⟨by decide +kernel, by decide +kernel⟩, by decide +kernel⟩
theorem ok_145 : am_okC 145 2 := ⟨w_1013, w_2, by decide +kernel, by decide +kernel, ⟨by decide +kernel, by decide +kernel⟩, by decide +kernel⟩
theorem ok_158 : am_okC 158 0 := ⟨w_1313, w_11, by decide +kernel, by decide +kernel, ⟨by decide +kernel, by decide +kernel⟩, by decide +kernel⟩
theorem ok_159 : am_okC 159 1 := ⟨w_1317, w_11, by decide +kernel, by decide +kernel, ⟨by decide +kernel, by decide +kernel⟩, by decide +kernel⟩
theorem ok_160 : am_okC 160 1 := ⟨w_1321, w_11, by decide +kernel, by decide +kernel, ⟨by decide +kernel, by decide +kernel⟩, by decide +kernel⟩
theorem ok_169 : am_okC 169 1 := ⟨w_1429, w_10, by decide +kernel, by decide +kernel, ⟨by decide +kernel, by decide +kernel⟩, by decide +kernel⟩
theorem ok_172 : am_okC 172 0 := ⟨w_1441, w_10, by decide +kernel, by decide +kernel, ⟨by decide +kernel, by decide +kernel⟩, by decide +kernel⟩
theorem ok_190 : am_okC 190 0 := ⟨w_1489, w_10, by decide +kernel, by decide +kernel, ⟨by decide +kernel, by decide +kernel⟩, by decide +kernel⟩
theorem ok_191 : am_okC 191 1 := ⟨w_1494, w_1, by decide +kernel, by decide +kernel, ⟨by decide +kernel, by decide +kernel⟩, by decide +kernel⟩
theorem ok_173 : am_okC 173 0 := ⟨w_1445, w_10, by decide +kernel, by decide +kernel, ⟨by decide +kernel, by decide +kernel⟩, by decide +kernel⟩
theorem ok_188 : am_okC 188 1 := ⟨w_1481, w_10, by decide +kernel, by decide +kernel, ⟨by decide +kernel, by decide +kernel⟩, by decide +kernel⟩
theorem ok_174 : am_okC 174 0 := ⟨w_1449, w_10, by decide +kernel, by decide +kernel, ⟨by decide +kernel, by decide +kernel⟩, by decide +kernel⟩
theorem ok_181 : am_okC 181 0 := ⟨w_1190, w_21, by decide +kernel, by decide +kernel, ⟨by decide +kernel, by decide +kernel⟩, by decide +kernel⟩
theorem ok_175 : am_okC 175 1 := ⟨w_1337, w_21, by decide +kernel, by decide +kernel, ⟨by decide +kernel, by decide +kernel⟩, by decide +kernel⟩
theorem ok_183 : am_okC 183 1 := ⟨w_1461, w_10, by decide +kernel, by decide +kernel, ⟨by decide +kernel, by decide +kernel⟩, by decide +kernel⟩
theorem ok_180 : am_okC 180 1 := ⟨w_1456, w_10, by decide +kernel, by decide +kernel, ⟨by decide +kernel, by decide +kernel⟩, by decide +kernel⟩
theorem ok_176 : am_okC 176 0 := ⟨w_1341, w_21, by decide +kernel, by decide +kernel, ⟨by decide +kernel, by decide +kernel⟩, by decide +kernel⟩
theorem ok_177 : am_okC 177 2 := ⟨w_1344, w_29, by decide +kernel, by decide +kernel, ⟨by decide +kernel, by decide +kernel⟩, by decide +kernel⟩
theorem ok_178 : am_okC 178 2 := ⟨w_1160, w_21, by decide +kernel, by decide +kernel, ⟨by decide +kernel, by decide +kernel⟩, by decide +kernel⟩
theorem ok_179 : am_okC 179 3 := ⟨w_1163, w_30, by decide +kernel, by decide +kernel, ⟨by decide +kernel, by decide +kernel⟩, by decide +kernel⟩
theorem ok_182 : am_okC 182 0 := ⟨w_1194, w_21, by decide +kernel, by decide +kernel, ⟨by decide +kernel, by decide +kernel⟩, by decide +kernel⟩
theorem ok_184 : am_okC 184 0 := ⟨w_1465, w_10, by decide +kernel, by decide +kernel, ⟨by decide +kernel, by decide +kernel⟩, by decide +kernel⟩
theorem ok_187 : am_okC 187 1 := ⟨w_1477, w_10, by decide +kernel, by decide +kernel, ⟨by decide +kernel, by decide +kernel⟩, by decide +kernel⟩
theorem ok_189 : am_okC 189 0 := ⟨w_1485, w_10, by decide +kernel, by decide +kernel, ⟨by decide +kernel, by decide +kernel⟩, by decide +kernel⟩
theorem ok_185 : am_okC 185 2 := ⟨w_1469, w_10, by decide +kernel, by decide +kernel, ⟨by decide +kernel, by decide +kernel⟩, by decide +kernel⟩
theorem ok_186 : am_okC 186 1 := ⟨w_1473, w_10, by decide +kernel, by decide +kernel, ⟨by decide +kernel, by decide +kernel⟩, by decide +kernel⟩
theorem ok_192 : am_okC 192 1 := ⟨w_1498, w_10, by decide +kernel, by decide +kernel, ⟨by decide +kernel, by decide +kernel⟩, by decide +kernel⟩
theorem ok_193 : am_okC 193 2 := ⟨w_1502, w_10, by decide +kernel, by decide +kernel, ⟨by decide +kernel, by decide +kernel⟩, by decide +kernel⟩
theorem ok_195 : am_okC 195 2 := ⟨w_1514, w_1, by decide +kernel, by decide +kernel, ⟨by decide +kernel, by decide +kernel⟩, by decide +kernel⟩
theorem ok_196 : am_okC 196 3 := ⟨w_1518, w_1, by decide +kernel, by decide +kernel, ⟨by decide +kernel, by decide +kernel⟩, by decide +kernel⟩
theorem ok_197 : am_okC 197 2 := ⟨w_1522, w_1, by decide +kernel, by decide +kernel, ⟨by decide +kernel, by decide +kernel⟩, by decide +kernel⟩
theorem ok_204 : am_okC 204 1 := ⟨w_1534, w_3, by decide +kernel, by decide +kernel, ⟨by decide +kernel, by decide +kernel⟩, by decide +kernel⟩
theorem ok_0 : am_okC 0 0 := ⟨w_40, w_1, by decide +kernel, by decide +kernel, ⟨by decide +kernel, by decide +kernel⟩, by decide +kernel⟩
theorem ok_309 : am_okC 309 2 := ⟨w_314, w_0, by decide +kernel, by decide +kernel, ⟨by decide +kernel, by decide +kernel⟩, by decide +kernel⟩
theorem ok_310 : am_okC 310 3 := ⟨w_318, w_0, by decide +kernel, by decide +kernel, ⟨by decide +kernel, by decide +kernel⟩, by decide +kernel⟩
theorem ok_311 : am_okC 311 4 := ⟨w_418, w_0, by decide +kernel, by decide +kernel, ⟨by decide +kernel, by decide +kernel⟩, by decide +kernel⟩
theorem ok_12 : am_okC 12 0 := ⟨w_462, w_1, by decide +kernel, by decide +kernel, ⟨by decide +kernel, by decide +kernel⟩, by decide +kernel⟩
theorem ok_312 : am_okC 312 2 := ⟨w_465, w_0, by decide +kernel, by decide +kernel, ⟨by decide +kernel, by decide +kernel⟩, by decide +kernel⟩
theorem ok_313 : am_okC 313 4 := ⟨w_476, w_0, by decide +kernel, by decide +kernel, ⟨by decide +kernel, by decide +kernel⟩, by decide +kernel⟩
theorem ok_56 : am_okC 56 2 := ⟨w_323, w_1, by decide +kernel, by decide +kernel, ⟨by decide +kernel, by decide +kernel⟩, by decide +kernel⟩
theorem ok_61 : am_okC 61 3 := ⟨w_423, w_1, by decide +kernel, by decide +kernel, ⟨by decide +kernel, by decide +kernel⟩, by decide +kernel⟩
theorem ok_98 : am_okC 98 1 := ⟨w_469, w_1, by decide +kernel, by decide +kernel, ⟨by decide +kernel, by decide +kernel⟩, by decide +kernel⟩
theorem ok_131 : am_okC 131 3 := ⟨w_505, w_1, by decide +kernel, by decide +kernel, ⟨by decide +kernel, by decide +kernel⟩, by decide +kernel⟩
theorem ok_315 : am_okC 315 2 := ⟨w_644, w_0, by decide +kernel, by decide +kernel, ⟨by decide +kernel, by decide +kernel⟩, by decide +kernel⟩
theorem ok_316 : am_okC 316 2 := ⟨w_651, w_0, by decide +kernel, by decide +kernel, ⟨by decide +kernel, by decide +kernel⟩, by decide +kernel⟩
theorem ok_317 : am_okC 317 2 := ⟨w_659, w_0, by decide +kernel, by decide +kernel, ⟨by decide +kernel, by decide +kernel⟩, by decide +kernel⟩
theorem ok_318 : am_okC 318 5 := ⟨w_670, w_0, by decide +kernel, by decide +kernel, ⟨by decide +kernel, by decide +kernel⟩, by decide +kernel⟩
theorem ok_320 : am_okC 320 3 := ⟨w_676, w_0, by decide +kernel, by decide +kernel, ⟨by decide +kernel, by decide +kernel⟩, by decide +kernel⟩
theorem ok_77 : am_okC 77 1 := ⟨w_655, w_1, by decide +kernel, by decide +kernel, ⟨by decide +kernel, by decide +kernel⟩, by decide +kernel⟩
theorem ok_75 : am_okC 75 1 := ⟨w_648, w_1, by decide +kernel, by decide +kernel, ⟨by decide +kernel, by decide +kernel⟩, by decide +kernel⟩
theorem ok_321 : am_okC 321 3 := ⟨w_687, w_0, by decide +kernel, by decide +kernel, ⟨by decide +kernel, by decide +kernel⟩, by decide +kernel⟩
theorem ok_322 : am_okC 322 3 := ⟨w_695, w_0, by decide +kernel, by decide +kernel, ⟨by decide +kernel, by decide +kernel⟩, by decide +kernel⟩
theorem ok_323 : am_okC 323 2 := ⟨w_706, w_0, by decide +kernel, by decide +kernel, ⟨by decide +kernel, by decide +kernel⟩, by decide +kernel⟩
theorem ok_324 : am_okC 324 2 := ⟨w_739, w_0, by decide +kernel, by decide +kernel, ⟨by decide +kernel, by decide +kernel⟩, by decide +kernel⟩
theorem ok_325 : am_okC 325 2 := ⟨w_752, w_0, by decide +kernel, by decide +kernel, ⟨by decide +kernel, by decide +kernel⟩, by decide +kernel⟩
theorem ok_326 : am_okC 326 2 := ⟨w_760, w_0, by decide +kernel, by decide +kernel, ⟨by decide +kernel, by decide +kernel⟩, by decide +kernel⟩
theorem ok_327 : am_okC 327 2 := ⟨w_769, w_0, by decide +kernel, by decide +kernel, ⟨by decide +kernel, by decide +kernel⟩, by decide +kernel⟩
theorem ok_13 : am_okC 13 0 := ⟨w_777, w_1, by decide +kernel, by decide +kernel, ⟨by decide +kernel, by decide +kernel⟩, by decide +kernel⟩
theorem ok_21 : am_okC 21 0 := ⟨w_795, w_1, by decide +kernel, by decide +kernel, ⟨by decide +kernel, by decide +kernel⟩, by decide +kernel⟩
theorem ok_41 : am_okC 41 0 := ⟨w_807, w_1, by decide +kernel, by decide +kernel, ⟨by decide +kernel, by decide +kernel⟩, by decide +kernel⟩
theorem ok_72 : am_okC 72 1 := ⟨w_663, w_1, by decide +kernel, by decide +kernel, ⟨by decide +kernel, by decide +kernel⟩, by decide +kernel⟩
theorem ok_319 : am_okC 319 5 := ⟨w_673, w_0, by decide +kernel, by decide +kernel, ⟨by decide +kernel, by decide +kernel⟩, by decide +kernel⟩
theorem ok_92 : am_okC 92 2 := ⟨w_680, w_1, by decide +kernel, by decide +kernel, ⟨by decide +kernel, by decide +kernel⟩, by decide +kernel⟩
theorem ok_87 : am_okC 87 2 := ⟨w_691, w_1, by decide +kernel, by decide +kernel, ⟨by decide +kernel, by decide +kernel⟩, by decide +kernel⟩
theorem ok_90 : am_okC 90 2 := ⟨w_699, w_1, by decide +kernel, by decide +kernel, ⟨by decide +kernel, by decide +kernel⟩, by decide +kernel⟩
theorem ok_83 : am_okC 83 1 := ⟨w_711, w_1, by decide +kernel, by decide +kernel, ⟨by decide +kernel, by decide +kernel⟩, by decide +kernel⟩
theorem ok_94 : am_okC 94 1 := ⟨w_743, w_1, by decide +kernel, by decide +kernel, ⟨by decide +kernel, by decide +kernel⟩, by decide +kernel⟩
theorem ok_81 : am_okC 81 1 := ⟨w_756, w_1, by decide +kernel, by decide +kernel, ⟨by decide +kernel, by decide +kernel⟩, by decide +kernel⟩
theorem ok_79 : am_okC 79 1 := ⟨w_764, w_1, by decide +kernel, by decide +kernel, ⟨by decide +kernel, by decide +kernel⟩, by decide +kernel⟩
theorem ok_96 : am_okC 96 1 := ⟨w_773, w_1, by decide +kernel, by decide +kernel, ⟨by decide +kernel, by decide +kernel⟩, by decide +kernel⟩
theorem ok_24 : am_okC 24 0 := ⟨w_866, w_1, by decide +kernel, by decide +kernel, ⟨by decide +kernel, by decide +kernel⟩, by decide +kernel⟩
theorem ok_329 : am_okC 329 4 := ⟨w_870, w_0, by decide +kernel, by decide +kernel, ⟨by decide +kernel, by decide +kernel⟩, by decide +kernel⟩
theorem ok_331 : am_okC 331 3 := ⟨w_882, w_0, by decide +kernel, by decide +kernel, ⟨by decide +kernel, by decide +kernel⟩, by decide +kernel⟩
theorem ok_332 : am_okC 332 3 := ⟨w_894, w_0, by decide +kernel, by decide +kernel, ⟨by decide +kernel, by decide +kernel⟩, by decide +kernel⟩
theorem ok_330 : am_okC 330 3 := ⟨w_873, w_0, by decide +kernel, by decide +kernel, ⟨by decide +kernel, by decide +kernel⟩, by decide +kernel⟩
theorem ok_333 : am_okC 333 3 := ⟨w_901, w_0, by decide +kernel, by decide +kernel, ⟨by decide +kernel, by decide +kernel⟩, by decide +kernel⟩
theorem ok_334 : am_okC 334 5 := ⟨w_912, w_0, by decide +kernel, by decide +kernel, ⟨by decide +kernel, by decide +kernel⟩, by decide +kernel⟩
theorem ok_25 : am_okC 25 0 := ⟨w_924, w_1, by decide +kernel, by decide +kernel, ⟨by decide +kernel, by decide +kernel⟩, by decide +kernel⟩
theorem ok_335 : am_okC 335 4 := ⟨w_915, w_0, by decide +kernel, by decide +kernel, ⟨by decide +kernel, by decide +kernel⟩, by decide +kernel⟩
theorem ok_101 : am_okC 101 2 := ⟨w_877, w_1, by decide +kernel, by decide +kernel, ⟨by decide +kernel, by decide +kernel⟩, by decide +kernel⟩
theorem ok_103 : am_okC 103 2 := ⟨w_886, w_1, by decide +kernel, by decide +kernel, ⟨by decide +kernel, by decide +kernel⟩, by decide +kernel⟩
theorem ok_111 : am_okC 111 2 := ⟨w_898, w_1, by decide +kernel, by decide +kernel, ⟨by decide +kernel, by decide +kernel⟩, by decide +kernel⟩
theorem ok_108 : am_okC 108 2 := ⟨w_905, w_1, by decide +kernel, by decide +kernel, ⟨by decide +kernel, by decide +kernel⟩, by decide +kernel⟩
theorem ok_113 : am_okC 113 3 := ⟨w_919, w_1, by decide +kernel, by decide +kernel, ⟨by decide +kernel, by decide +kernel⟩, by decide +kernel⟩
theorem ok_337 : am_okC 337 1 := ⟨w_938, w_0, by decide +kernel, by decide +kernel, ⟨by decide +kernel, by decide +kernel⟩, by decide +kernel⟩
theorem ok_339 : am_okC 339 2 := ⟨w_944, w_0, by decide +kernel, by decide +kernel, ⟨by decide +kernel, by decide +kernel⟩, by decide +kernel⟩
theorem ok_340 : am_okC 340 2 := ⟨w_956, w_0, by decide +kernel, by decide +kernel, ⟨by decide +kernel, by decide +kernel⟩, by decide +kernel⟩
theorem ok_341 : am_okC 341 2 := ⟨w_964, w_0, by decide +kernel, by decide +kernel, ⟨by decide +kernel, by decide +kernel⟩, by decide +kernel⟩
theorem ok_342 : am_okC 342 2 := ⟨w_976, w_0, by decide +kernel, by decide +kernel, ⟨by decide +kernel, by decide +kernel⟩, by decide +kernel⟩
theorem ok_343 : am_okC 343 2 := ⟨w_983, w_0, by decide +kernel, by decide +kernel, ⟨by decide +kernel, by decide +kernel⟩, by decide +kernel⟩
theorem ok_344 : am_okC 344 3 := ⟨w_990, w_0, by decide +kernel, by decide +kernel, ⟨by decide +kernel, by decide +kernel⟩, by decide +kernel⟩
theorem ok_345 : am_okC 345 2 := ⟨w_997, w_0, by decide +kernel, by decide +kernel, ⟨by decide +kernel, by decide +kernel⟩, by decide +kernel⟩
theorem ok_346 : am_okC 346 3 := ⟨w_1004, w_0, by decide +kernel, by decide +kernel, ⟨by decide +kernel, by decide +kernel⟩, by decide +kernel⟩
theorem ok_347 : am_okC 347 4 := ⟨w_1016, w_0, by decide +kernel, by decide +kernel, ⟨by decide +kernel, by decide +kernel⟩, by decide +kernel⟩
theorem ok_338 : am_okC 338 1 := ⟨w_941, w_0, by decide +kernel, by decide +kernel, ⟨by decide +kernel, by decide +kernel⟩, by decide +kernel⟩
theorem ok_119 : am_okC 119 1 := ⟨w_948, w_1, by decide +kernel, by decide +kernel, ⟨by decide +kernel, by decide +kernel⟩, by decide +kernel⟩
theorem ok_122 : am_okC 122 1 := ⟨w_960, w_1, by decide +kernel, by decide +kernel, ⟨by decide +kernel, by decide +kernel⟩, by decide +kernel⟩
theorem ok_124 : am_okC 124 1 := ⟨w_968, w_1, by decide +kernel, by decide +kernel, ⟨by decide +kernel, by decide +kernel⟩, by decide +kernel⟩
theorem ok_115 : am_okC 115 1 := ⟨w_980, w_1, by decide +kernel, by decide +kernel, ⟨by decide +kernel, by decide +kernel⟩, by decide +kernel⟩
theorem ok_140 : am_okC 140 1 := ⟨w_987, w_1, by decide +kernel, by decide +kernel, ⟨by decide +kernel, by decide +kernel⟩, by decide +kernel⟩
theorem ok_127 : am_okC 127 2 := ⟨w_994, w_1, by decide +kernel, by decide +kernel, ⟨by decide +kernel, by decide +kernel⟩, by decide +kernel⟩
theorem ok_142 : am_okC 142 1 := ⟨w_1001, w_1, by decide +kernel, by decide +kernel, ⟨by decide +kernel, by decide +kernel⟩, by decide +kernel⟩
theorem ok_144 : am_okC 144 2 := ⟨w_1008, w_1, by decide +kernel, by decide +kernel, ⟨by decide +kernel, by decide +kernel⟩, by decide +kernel⟩
theorem ok_138 : am_okC 138 3 := ⟨w_1020, w_1, by decide +kernel, by decide +kernel, ⟨by decide +kernel, by decide +kernel⟩, by decide +kernel⟩
theorem ok_349 : am_okC 349 2 := ⟨w_1026, w_0, by decide +kernel, by decide +kernel, ⟨by decide +kernel, by decide +kernel⟩, by decide +kernel⟩
theorem ok_32 : am_okC 32 0 := ⟨w_1034, w_1, by decide +kernel, by decide +kernel, ⟨by decide +kernel, by decide +kernel⟩, by decide +kernel⟩
theorem ok_37 : am_okC 37 0 := ⟨w_1038, w_1, by decide +kernel, by decide +kernel, ⟨by decide +kernel, by decide +kernel⟩, by decide +kernel⟩
theorem ok_147 : am_okC 147 1 := ⟨w_1030, w_1, by decide +kernel, by decide +kernel, ⟨by decide +kernel, by decide +kernel⟩, by decide +kernel⟩
theorem ok_351 : am_okC 351 0 := ⟨w_1048, w_26, by decide +kernel, by decide +kernel, ⟨by decide +kernel, by decide +kernel⟩, by decide +kernel⟩
theorem ok_353 : am_okC 353 1 := ⟨w_1078, w_26, by decide +kernel, by decide +kernel, ⟨by decide +kernel, by decide +kernel⟩, by decide +kernel⟩
theorem ok_366 : am_okC 366 1 := ⟨w_1167, w_26, by decide +kernel, by decide +kernel, ⟨by decide +kernel, by decide +kernel⟩, by decide +kernel⟩
theorem ok_374 : am_okC 374 0 := ⟨w_1214, w_26, by decide +kernel, by decide +kernel, ⟨by decide +kernel, by decide +kernel⟩, by decide +kernel⟩
theorem ok_383 : am_okC 383 1 := ⟨w_1252, w_26, by decide +kernel, by decide +kernel, ⟨by decide +kernel, by decide +kernel⟩, by decide +kernel⟩
theorem ok_387 : am_okC 387 2 := ⟨w_1305, w_0, by decide +kernel, by decide +kernel, ⟨by decide +kernel, by decide +kernel⟩, by decide +kernel⟩
theorem ok_388 : am_okC 388 3 := ⟨w_1325, w_0, by decide +kernel, by decide +kernel, ⟨by decide +kernel, by decide +kernel⟩, by decide +kernel⟩
theorem ok_390 : am_okC 390 3 := ⟨w_1353, w_0, by decide +kernel, by decide +kernel, ⟨by decide +kernel, by decide +kernel⟩, by decide +kernel⟩
theorem ok_153 : am_okC 153 0 := ⟨w_1362, w_1, by decide +kernel, by decide +kernel, ⟨by decide +kernel, by decide +kernel⟩, by decide +kernel⟩
theorem ok_155 : am_okC 155 0 := ⟨w_1382, w_1, by decide +kernel, by decide +kernel, ⟨by decide +kernel, by decide +kernel⟩, by decide +kernel⟩
theorem ok_391 : am_okC 391 2 := ⟨w_1385, w_0, by decide +kernel, by decide +kernel, ⟨by decide +kernel, by decide +kernel⟩, by decide +kernel⟩
theorem ok_352 : am_okC 352 1 := ⟨w_1051, w_25, by decide +kernel, by decide +kernel, ⟨by decide +kernel, by decide +kernel⟩, by decide +kernel⟩
theorem ok_354 : am_okC 354 1 := ⟨w_1081, w_25, by decide +kernel, by decide +kernel, ⟨by decide +kernel, by decide +kernel⟩, by decide +kernel⟩
theorem ok_355 : am_okC 355 1 := ⟨w_1085, w_25, by decide +kernel, by decide +kernel, ⟨by decide +kernel, by decide +kernel⟩, by decide +kernel⟩
theorem ok_360 : am_okC 360 0 := ⟨w_1115, w_25, by decide +kernel, by decide +kernel, ⟨by decide +kernel, by decide +kernel⟩, by decide +kernel⟩
theorem ok_361 : am_okC 361 1 := ⟨w_1118, w_29, by decide +kernel, by decide +kernel, ⟨by decide +kernel, by decide +kernel⟩, by decide +kernel⟩
theorem ok_356 : am_okC 356 1 := ⟨w_1089, w_25, by decide +kernel, by decide +kernel, ⟨by decide +kernel, by decide +kernel⟩, by decide +kernel⟩
theorem ok_359 : am_okC 359 2 := ⟨w_1101, w_22, by decide +kernel, by decide +kernel, ⟨by decide +kernel, by decide +kernel⟩, by decide +kernel⟩
theorem ok_357 : am_okC 357 3 := ⟨w_1092, w_28, by decide +kernel, by decide +kernel, ⟨by decide +kernel, by decide +kernel⟩, by decide +kernel⟩
theorem ok_358 : am_okC 358 2 := ⟨w_1097, w_28, by decide +kernel, by decide +kernel, ⟨by decide +kernel, by decide +kernel⟩, by decide +kernel⟩
theorem ok_363 : am_okC 363 5 := ⟨w_1125, w_29, by decide +kernel, by decide +kernel, ⟨by decide +kernel, by decide +kernel⟩, by decide +kernel⟩
theorem ok_365 : am_okC 365 4 := ⟨w_1142, w_30, by decide +kernel, by decide +kernel, ⟨by decide +kernel, by decide +kernel⟩, by decide +kernel⟩
theorem ok_367 : am_okC 367 1 := ⟨w_1170, w_25, by decide +kernel, by decide +kernel, ⟨by decide +kernel, by decide +kernel⟩, by decide +kernel⟩
theorem ok_371 : am_okC 371 2 := ⟨w_1199, w_25, by decide +kernel, by decide +kernel, ⟨by decide +kernel, by decide +kernel⟩, by decide +kernel⟩
theorem ok_370 : am_okC 370 4 := ⟨w_1186, w_30, by decide +kernel, by decide +kernel, ⟨by decide +kernel, by decide +kernel⟩, by decide +kernel⟩
theorem ok_372 : am_okC 372 1 := ⟨w_1203, w_25, by decide +kernel, by decide +kernel, ⟨by decide +kernel, by decide +kernel⟩, by decide +kernel⟩
theorem ok_373 : am_okC 373 3 := ⟨w_1208, w_21, by decide +kernel, by decide +kernel, ⟨by decide +kernel, by decide +kernel⟩, by decide +kernel⟩
theorem ok_375 : am_okC 375 1 := ⟨w_1218, w_21, by decide +kernel, by decide +kernel, ⟨by decide +kernel, by decide +kernel⟩, by decide +kernel⟩
theorem ok_376 : am_okC 376 2 := ⟨w_1221, w_21, by decide +kernel, by decide +kernel, ⟨by decide +kernel, by decide +kernel⟩, by decide +kernel⟩
theorem ok_377 : am_okC 377 0 := ⟨w_1227, w_25, by decide +kernel, by decide +kernel, ⟨by decide +kernel, by decide +kernel⟩, by decide +kernel⟩
theorem ok_378 : am_okC 378 0 := ⟨w_1233, w_26, by decide +kernel, by decide +kernel, ⟨by decide +kernel, by decide +kernel⟩, by decide +kernel⟩
theorem ok_380 : am_okC 380 3 := ⟨w_1239, w_22, by decide +kernel, by decide +kernel, ⟨by decide +kernel, by decide +kernel⟩, by decide +kernel⟩
theorem ok_379 : am_okC 379 0 := ⟨w_1235b, w_25, by decide +kernel, by decide +kernel, ⟨by decide +kernel, by decide +kernel⟩, by decide +kernel⟩
theorem ok_381 : am_okC 381 3 := ⟨w_1242, w_22, by decide +kernel, by decide +kernel, ⟨by decide +kernel, by decide +kernel⟩, by decide +kernel⟩
theorem ok_382 : am_okC 382 2 := ⟨w_1245, w_22, by decide +kernel, by decide +kernel, ⟨by decide +kernel, by decide +kernel⟩, by decide +kernel⟩
theorem ok_384 : am_okC 384 1 := ⟨w_1255, w_25, by decide +kernel, by decide +kernel, ⟨by decide +kernel, by decide +kernel⟩, by decide +kernel⟩
theorem ok_385 : am_okC 385 1 := ⟨w_1258, w_8, by decide +kernel, by decide +kernel, ⟨by decide +kernel, by decide +kernel⟩, by decide +kernel⟩
theorem ok_386 : am_okC 386 3 := ⟨w_1261, w_8, by decide +kernel, by decide +kernel, ⟨by decide +kernel, by decide +kernel⟩, by decide +kernel⟩
theorem ok_157 : am_okC 157 1 := ⟨w_1309, w_1, by decide +kernel, by decide +kernel, ⟨by decide +kernel, by decide +kernel⟩, by decide +kernel⟩
theorem ok_389 : am_okC 389 2 := ⟨w_1328, w_0, by decide +kernel, by decide +kernel, ⟨by decide +kernel, by decide +kernel⟩, by decide +kernel⟩
theorem ok_166 : am_okC 166 1 := ⟨w_1332, w_1, by decide +kernel, by decide +kernel, ⟨by decide +kernel, by decide +kernel⟩, by decide +kernel⟩
theorem ok_162 : am_okC 162 2 := ⟨w_1357, w_1, by decide +kernel, by decide +kernel, ⟨by decide +kernel, by decide +kernel⟩, by decide +kernel⟩
theorem ok_164 : am_okC 164 1 := ⟨w_1389, w_1, by decide +kernel, by decide +kernel, ⟨by decide +kernel, by decide +kernel⟩, by decide +kernel⟩
theorem ok_393 : am_okC 393 1 := ⟨w_1396, w_0, by decide +kernel, by decide +kernel, ⟨by decide +kernel, by decide +kernel⟩, by decide +kernel⟩
theorem ok_394 : am_okC 394 3 := ⟨w_1406, w_0, by decide +kernel, by decide +kernel, ⟨by decide +kernel, by decide +kernel⟩, by decide +kernel⟩
theorem ok_395 : am_okC 395 2 := ⟨w_1418, w_0, by decide +kernel, by decide +kernel, ⟨by decide +kernel, by decide +kernel⟩, by decide +kernel⟩
theorem ok_398 : am_okC 398 1 := ⟨w_1526, w_0, by decide +kernel, by decide +kernel, ⟨by decide +kernel, by decide +kernel⟩, by decide +kernel⟩
theorem ok_68 : am_okC 68 2 := ⟨w_1410, w_1, by decide +kernel, by decide +kernel, ⟨by decide +kernel, by decide +kernel⟩, by decide +kernel⟩
theorem ok_396 : am_okC 396 2 := ⟨w_1421, w_0, by decide +kernel, by decide +kernel, ⟨by decide +kernel, by decide +kernel⟩, by decide +kernel⟩
theorem ok_397 : am_okC 397 1 := ⟨w_1433, w_0, by decide +kernel, by decide +kernel, ⟨by decide +kernel, by decide +kernel⟩, by decide +kernel⟩
theorem ok_168 : am_okC 168 1 := ⟨w_1425, w_1, by decide +kernel, by decide +kernel, ⟨by decide +kernel, by decide +kernel⟩, by decide +kernel⟩
theorem ok_171 : am_okC 171 0 := ⟨w_1437, w_1, by decide +kernel, by decide +kernel, ⟨by decide +kernel, by decide +kernel⟩, by decide +kernel⟩
theorem ok_203 : am_okC 203 0 := ⟨w_1530, w_1, by decide +kernel, by decide +kernel, ⟨by decide +kernel, by decide +kernel⟩, by decide +kernel⟩
theorem ok_308 : am_okC 308 1 := ⟨w_35, w_0, by decide +kernel, by decide +kernel, ⟨by decide +kernel, by decide +kernel⟩, by decide +kernel⟩
theorem ok_314 : am_okC 314 1 := ⟨w_641, w_0, by decide +kernel, by decide +kernel, ⟨by decide +kernel, by decide +kernel⟩, by decide +kernel⟩
theorem ok_328 : am_okC 328 1 := ⟨w_861, w_0, by decide +kernel, by decide +kernel, ⟨by decide +kernel, by decide +kernel⟩, by decide +kernel⟩
theorem ok_336 : am_okC 336 1 := ⟨w_935, w_0, by decide +kernel, by decide +kernel, ⟨by decide +kernel, by decide +kernel⟩, by decide +kernel⟩
theorem ok_348 : am_okC 348 1 := ⟨w_1023, w_0, by decide +kernel, by decide +kernel, ⟨by decide +kernel, by decide +kernel⟩, by decide +kernel⟩
theorem ok_350 : am_okC 350 1 := ⟨w_1042, w_0, by decide +kernel, by decide +kernel, ⟨by decide +kernel, by decide +kernel⟩, by decide +kernel⟩
theorem ok_392 : am_okC 392 2 := ⟨w_1393, w_0, by decide +kernel, by decide +kernel, ⟨by decide +kernel, by decide +kernel⟩, by decide +kernel⟩
theorem nf_0 (k : C0) : ∀ j, j < 15 → defaultValue (am_ft 0 j) = am_cv k (match ([aN, aN, aN, aN, aN, aN, aN, aN, aN, aN, aI 0, aI 0, aI 0, aI 0, aI 0] : List AV).getD j aN with | Sum.inl _ => aI 0 | v => v) := fun j h => match j, h with | 0, _ => rfl | 1, _ => rfl | 2, _ => rfl | 3, _ => rfl | 4, _ => rfl | 5, _ => rfl | 6, _ => rfl | 7, _ => rfl | 8, _ => rfl | 9, _ => rfl | 10, _ => rfl | 11, _ => rfl | 12, _ => rfl | 13, _ => rfl | 14, _ => rfl | n + 15, h => absurd h (Nat.not_lt.mpr (Nat.le_add_left _ _))
theorem nf_1 (k : C0) : ∀ j, j < 10 → defaultValue (am_ft 1 j) = am_cv k (match ([aN, aN, aN, aN, aN, aN, aN, aN, aI 0, aI 0] : List AV).getD j aN with | Sum.inl _ => aI 0 | v => v) := fun j h => match j, h with | 0, _ => rfl | 1, _ => rfl | 2, _ => rfl | 3, _ => rfl | 4, _ => rfl | 5, _ => rfl | 6, _ => rfl | 7, _ => rfl | 8, _ => rfl | 9, _ => rfl | n + 10, h => absurd h (Nat.not_lt.mpr (Nat.le_add_left _ _))
theorem nf_2 (k : C0) : ∀ j, j < 3 → defaultValue (am_ft 2 j) = am_cv k (match ([aN, aI 0, aI 0] : List AV).getD j aN with | Sum.inl _ => aI 0 | v => v) := fun j h => match j, h with | 0, _ => rfl | 1, _ => rfl | 2, _ => rfl | n + 3, h => absurd h (Nat.not_lt.mpr (Nat.le_add_left _ _))
theorem nf_3 (k : C0) : ∀ j, j < 2 → defaultValue (am_ft 3 j) = am_cv k (match ([aN, aN] : List AV).getD j aN with | Sum.inl _ => aI 0 | v => v) := fun j h => match j, h with | 0, _ => rfl | 1, _ => rfl | n + 2, h => absurd h (Nat.not_lt.mpr (Nat.le_add_left _ _))
theorem nf_4 (k : C0) : ∀ j, j < 8 → defaultValue (am_ft 4 j) = am_cv k (match ([aN, aN, aN, aN, aN, aN, aI 0, aI 0] : List AV).getD j aN with | Sum.inl _ => aI 0 | v => v) := fun j h => match j, h with | 0, _ => rfl | 1, _ => rfl | 2, _ => rfl | 3, _ => rfl | 4, _ => rfl | 5, _ => rfl | 6, _ => rfl | 7, _ => rfl | n + 8, h => absurd h (Nat.not_lt.mpr (Nat.le_add_left _ _))
theorem nf_5 (k : C0) : ∀ j, j < 1 → defaultValue (am_ft 5 j) = am_cv k (match ([aN] : List AV).getD j aN with | Sum.inl _ => aI 0 | v => v) := fun j h => match j, h with | 0, _ => rfl | n + 1, h => absurd h (Nat.not_lt.mpr (Nat.le_add_left _ _))
theorem nf_6 (k : C0) : ∀ j, j < 7 → defaultValue (am_ft 6 j) = am_cv k (match ([aN, aN, aN, aI 0, aI 0, aI 0, aI 0] : List AV).getD j aN with | Sum.inl _ => aI 0 | v => v) := fun j h => match j, h with | 0, _ => rfl | 1, _ => rfl | 2, _ => rfl | 3, _ => rfl | 4, _ => rfl | 5, _ => rfl | 6, _ => rfl | n + 7, h => absurd h (Nat.not_lt.mpr (Nat.le_add_left _ _))
theorem nf_7 (k : C0) : ∀ j, j < 7 → defaultValue (am_ft 7 j) = am_cv k (match ([aN, aN, aN, aI 0, aI 0, aI 0, aI 0] : List AV).getD j aN with | Sum.inl _ => aI 0 | v => v) := fun j h => match j, h with | 0, _ => rfl | 1, _ => rfl | 2, _ => rfl | 3, _ => rfl | 4, _ => rfl | 5, _ => rfl | 6, _ => rfl | n + 7, h => absurd h (Nat.not_lt.mpr (Nat.le_add_left _ _))
theorem nf_8 (k : C0) : ∀ j, j < 2 → defaultValue (am_ft 8 j) = am_cv k (match ([aN, aI 0] : List AV).getD j aN with | Sum.inl _ => aI 0 | v => v) := fun j h => match j, h with | 0, _ => rfl | 1, _ => rfl | n + 2, h => absurd h (Nat.not_lt.mpr (Nat.le_add_left _ _))
theorem nf_9 (k : C0) : ∀ j, j < 4 → defaultValue (am_ft 9 j) = am_cv k (match ([aN, aI 0, aI 0, aI 0] : List AV).getD j aN with | Sum.inl _ => aI 0 | v => v) := fun j h => match j, h with | 0, _ => rfl | 1, _ => rfl | 2, _ => rfl | 3, _ => rfl | n + 4, h => absurd h (Nat.not_lt.mpr (Nat.le_add_left _ _))
theorem nf_10 (k : C0) : ∀ j, j < 4 → defaultValue (am_ft 10 j) = am_cv k (match ([aN, aI 0, aI 0, aI 0] : List AV).getD j aN with | Sum.inl _ => aI 0 | v => v) := fun j h => match j, h with | 0, _ => rfl | 1, _ => rfl | 2, _ => rfl | 3, _ => rfl | n + 4, h => absurd h (Nat.not_lt.mpr (Nat.le_add_left _ _))
