/-! words of the tables -/
set_option maxRecDepth 100000 in
theorem am_tb {w : Cond} {i : Nat} (h : tables_1[i]? = some w) : w ∈ lw_tbl := List.mem_append_right _ (List.mem_of_getElem? h)
theorem w_35 : Cond.methodLink "SmokeRelay" 1 Lib.objectInit ∈ lw_tbl := am_tb (i := 35) (by decide +kernel)
theorem w_36 : Cond.instanceMethod Lib.objectInit ∈ lw_tbl := am_tb (i := 36) (by decide +kernel)
theorem w_37 : Cond.code Lib.objectInit ⟨#[0xb1]⟩ 1 none ∈ lw_tbl := am_tb (i := 37) (by decide +kernel)
theorem w_38 : Cond.classLink "SmokeRelay" 7 "SmokeRelay$Row" ∈ lw_tbl := am_tb (i := 38) (by decide +kernel)
theorem w_39 : Cond.instantiable "SmokeRelay$Row" 10 ∈ lw_tbl := am_tb (i := 39) (by decide +kernel)
theorem w_2 : Cond.initialized "SmokeRelay$Row" ∈ lw_tbl := am_tb (i := 2) (by decide +kernel)
set_option maxRecDepth 100000 in
theorem w_42 : am_cw (am_mi 1) ∈ lw_tbl := am_tb (i := 42) rfl
theorem w_41 : Cond.instanceMethod (am_mi 1).1 ∈ lw_tbl := am_tb (i := 41) (by decide +kernel)
theorem w_260 : Cond.fieldLink "SmokeRelay" 10 (am_T0 0).1 (am_T0 0).2.1 (am_T0 0).2.2.1 ∈ lw_tbl := am_tb (i := 260) (by decide +kernel)
theorem w_261 : Cond.fieldLink "SmokeRelay" 16 (am_T0 1).1 (am_T0 1).2.1 (am_T0 1).2.2.1 ∈ lw_tbl := am_tb (i := 261) (by decide +kernel)
theorem w_262 : Cond.fieldLink "SmokeRelay" 19 (am_T0 2).1 (am_T0 2).2.1 (am_T0 2).2.2.1 ∈ lw_tbl := am_tb (i := 262) (by decide +kernel)
theorem w_92 : Cond.classLink "SmokeRelay" 22 "SmokeRelay$History" ∈ lw_tbl := am_tb (i := 92) (by decide +kernel)
theorem w_93 : Cond.instantiable "SmokeRelay$History" 3 ∈ lw_tbl := am_tb (i := 93) (by decide +kernel)
theorem w_3 : Cond.initialized "SmokeRelay$History" ∈ lw_tbl := am_tb (i := 3) (by decide +kernel)
set_option maxRecDepth 100000 in
theorem w_96 : am_cw (am_mi 2) ∈ lw_tbl := am_tb (i := 96) rfl
theorem w_94 : Cond.methodLink "SmokeRelay" 24 (am_mi 2).1 ∈ lw_tbl := am_tb (i := 94) (by decide +kernel)
theorem w_95 : Cond.instanceMethod (am_mi 2).1 ∈ lw_tbl := am_tb (i := 95) (by decide +kernel)
theorem w_263 : Cond.fieldLink "SmokeRelay" 25 (am_T0 3).1 (am_T0 3).2.1 (am_T0 3).2.2.1 ∈ lw_tbl := am_tb (i := 263) (by decide +kernel)
theorem w_112 : Cond.classLink "SmokeRelay" 29 "SmokeRelay$Sight" ∈ lw_tbl := am_tb (i := 112) (by decide +kernel)
theorem w_113 : Cond.instantiable "SmokeRelay$Sight" 2 ∈ lw_tbl := am_tb (i := 113) (by decide +kernel)
theorem w_4 : Cond.initialized "SmokeRelay$Sight" ∈ lw_tbl := am_tb (i := 4) (by decide +kernel)
set_option maxRecDepth 100000 in
theorem w_116 : am_cw (am_mi 3) ∈ lw_tbl := am_tb (i := 116) rfl
theorem w_114 : Cond.methodLink "SmokeRelay" 31 (am_mi 3).1 ∈ lw_tbl := am_tb (i := 114) (by decide +kernel)
theorem w_115 : Cond.instanceMethod (am_mi 3).1 ∈ lw_tbl := am_tb (i := 115) (by decide +kernel)
theorem w_264 : Cond.fieldLink "SmokeRelay" 34 (am_T0 4).1 (am_T0 4).2.1 (am_T0 4).2.2.1 ∈ lw_tbl := am_tb (i := 264) (by decide +kernel)
theorem w_125 : Cond.classLink "SmokeRelay" 38 "SmokeRelay$Relays" ∈ lw_tbl := am_tb (i := 125) (by decide +kernel)
theorem w_126 : Cond.instantiable "SmokeRelay$Relays" 8 ∈ lw_tbl := am_tb (i := 126) (by decide +kernel)
theorem w_5 : Cond.initialized "SmokeRelay$Relays" ∈ lw_tbl := am_tb (i := 5) (by decide +kernel)
set_option maxRecDepth 100000 in
theorem w_129 : am_cw (am_mi 4) ∈ lw_tbl := am_tb (i := 129) rfl
theorem w_127 : Cond.methodLink "SmokeRelay" 40 (am_mi 4).1 ∈ lw_tbl := am_tb (i := 127) (by decide +kernel)
theorem w_128 : Cond.instanceMethod (am_mi 4).1 ∈ lw_tbl := am_tb (i := 128) (by decide +kernel)
theorem w_265 : Cond.fieldLink "SmokeRelay" 43 (am_T0 5).1 (am_T0 5).2.1 (am_T0 5).2.2.1 ∈ lw_tbl := am_tb (i := 265) (by decide +kernel)
theorem w_161 : Cond.classLink "SmokeRelay" 47 "SmokeRelay$Smokes" ∈ lw_tbl := am_tb (i := 161) (by decide +kernel)
theorem w_162 : Cond.instantiable "SmokeRelay$Smokes" 1 ∈ lw_tbl := am_tb (i := 162) (by decide +kernel)
theorem w_6 : Cond.initialized "SmokeRelay$Smokes" ∈ lw_tbl := am_tb (i := 6) (by decide +kernel)
set_option maxRecDepth 100000 in
theorem w_165 : am_cw (am_mi 5) ∈ lw_tbl := am_tb (i := 165) rfl
theorem w_163 : Cond.methodLink "SmokeRelay" 49 (am_mi 5).1 ∈ lw_tbl := am_tb (i := 163) (by decide +kernel)
theorem w_164 : Cond.instanceMethod (am_mi 5).1 ∈ lw_tbl := am_tb (i := 164) (by decide +kernel)
theorem w_266 : Cond.fieldLink "SmokeRelay" 50 (am_T0 6).1 (am_T0 6).2.1 (am_T0 6).2.2.1 ∈ lw_tbl := am_tb (i := 266) (by decide +kernel)
theorem w_183 : Cond.classLink "SmokeRelay" 54 "SmokeRelay$Codes" ∈ lw_tbl := am_tb (i := 183) (by decide +kernel)
theorem w_184 : Cond.instantiable "SmokeRelay$Codes" 7 ∈ lw_tbl := am_tb (i := 184) (by decide +kernel)
theorem w_8 : Cond.initialized "SmokeRelay$Codes" ∈ lw_tbl := am_tb (i := 8) (by decide +kernel)
set_option maxRecDepth 100000 in
theorem w_187 : am_cw (am_mi 9) ∈ lw_tbl := am_tb (i := 187) rfl
theorem w_185 : Cond.methodLink "SmokeRelay" 56 (am_mi 9).1 ∈ lw_tbl := am_tb (i := 185) (by decide +kernel)
theorem w_186 : Cond.instanceMethod (am_mi 9).1 ∈ lw_tbl := am_tb (i := 186) (by decide +kernel)
theorem w_267 : Cond.fieldLink "SmokeRelay" 57 (am_T0 7).1 (am_T0 7).2.1 (am_T0 7).2.2.1 ∈ lw_tbl := am_tb (i := 267) (by decide +kernel)
theorem w_211 : Cond.classLink "SmokeRelay" 61 "SmokeRelay$Input" ∈ lw_tbl := am_tb (i := 211) (by decide +kernel)
theorem w_212 : Cond.instantiable "SmokeRelay$Input" 7 ∈ lw_tbl := am_tb (i := 212) (by decide +kernel)
theorem w_9 : Cond.initialized "SmokeRelay$Input" ∈ lw_tbl := am_tb (i := 9) (by decide +kernel)
set_option maxRecDepth 100000 in
theorem w_215 : am_cw (am_mi 10) ∈ lw_tbl := am_tb (i := 215) rfl
theorem w_214 : Cond.instanceMethod (am_mi 10).1 ∈ lw_tbl := am_tb (i := 214) (by decide +kernel)
theorem w_268 : Cond.fieldLink "SmokeRelay" 64 (am_T0 8).1 (am_T0 8).2.1 (am_T0 8).2.2.1 ∈ lw_tbl := am_tb (i := 268) (by decide +kernel)
theorem w_245 : Cond.classLink "SmokeRelay" 68 "SmokeRelay$Output" ∈ lw_tbl := am_tb (i := 245) (by decide +kernel)
theorem w_246 : Cond.instantiable "SmokeRelay$Output" 2 ∈ lw_tbl := am_tb (i := 246) (by decide +kernel)
theorem w_10 : Cond.initialized "SmokeRelay$Output" ∈ lw_tbl := am_tb (i := 10) (by decide +kernel)
set_option maxRecDepth 100000 in
theorem w_249 : am_cw (am_mi 11) ∈ lw_tbl := am_tb (i := 249) rfl
theorem w_248 : Cond.instanceMethod (am_mi 11).1 ∈ lw_tbl := am_tb (i := 248) (by decide +kernel)
theorem w_269 : Cond.fieldLink "SmokeRelay" 71 (am_T0 9).1 (am_T0 9).2.1 (am_T0 9).2.2.1 ∈ lw_tbl := am_tb (i := 269) (by decide +kernel)
theorem w_270 : Cond.fieldLink "SmokeRelay" 75 (am_T0 10).1 (am_T0 10).2.1 (am_T0 10).2.2.1 ∈ lw_tbl := am_tb (i := 270) (by decide +kernel)
theorem w_271 : Cond.fieldLink "SmokeRelay" 79 (am_T0 11).1 (am_T0 11).2.1 (am_T0 11).2.2.1 ∈ lw_tbl := am_tb (i := 271) (by decide +kernel)
theorem w_272 : Cond.fieldLink "SmokeRelay" 83 (am_T0 12).1 (am_T0 12).2.1 (am_T0 12).2.2.1 ∈ lw_tbl := am_tb (i := 272) (by decide +kernel)
theorem w_273 : Cond.fieldLink "SmokeRelay" 86 (am_T0 13).1 (am_T0 13).2.1 (am_T0 13).2.2.1 ∈ lw_tbl := am_tb (i := 273) (by decide +kernel)
theorem w_274 : Cond.fieldLink "SmokeRelay" 89 (am_T0 14).1 (am_T0 14).2.1 (am_T0 14).2.2.1 ∈ lw_tbl := am_tb (i := 274) (by decide +kernel)
theorem w_43 : Cond.methodLink "SmokeRelay$Row" 3 Lib.objectInit ∈ lw_tbl := am_tb (i := 43) (by decide +kernel)
theorem w_91 : Cond.arrayClass .int ∈ lw_tbl := am_tb (i := 91) (by decide +kernel)
theorem w_44 : Cond.fieldLink "SmokeRelay$Row" 9 (am_T1 0).1 (am_T1 0).2.1 (am_T1 0).2.2.1 ∈ lw_tbl := am_tb (i := 44) (by decide +kernel)
theorem w_47 : Cond.fieldLink "SmokeRelay$Row" 15 (am_T1 1).1 (am_T1 1).2.1 (am_T1 1).2.2.1 ∈ lw_tbl := am_tb (i := 47) (by decide +kernel)
theorem w_51 : Cond.fieldLink "SmokeRelay$Row" 18 (am_T1 2).1 (am_T1 2).2.1 (am_T1 2).2.2.1 ∈ lw_tbl := am_tb (i := 51) (by decide +kernel)
theorem w_53 : Cond.fieldLink "SmokeRelay$Row" 21 (am_T1 3).1 (am_T1 3).2.1 (am_T1 3).2.2.1 ∈ lw_tbl := am_tb (i := 53) (by decide +kernel)
theorem w_55 : Cond.fieldLink "SmokeRelay$Row" 24 (am_T1 4).1 (am_T1 4).2.1 (am_T1 4).2.2.1 ∈ lw_tbl := am_tb (i := 55) (by decide +kernel)
theorem w_57 : Cond.fieldLink "SmokeRelay$Row" 27 (am_T1 5).1 (am_T1 5).2.1 (am_T1 5).2.2.1 ∈ lw_tbl := am_tb (i := 57) (by decide +kernel)
theorem w_59 : Cond.fieldLink "SmokeRelay$Row" 30 (am_T1 6).1 (am_T1 6).2.1 (am_T1 6).2.2.1 ∈ lw_tbl := am_tb (i := 59) (by decide +kernel)
theorem w_60 : Cond.fieldLink "SmokeRelay$Row" 33 (am_T1 7).1 (am_T1 7).2.1 (am_T1 7).2.2.1 ∈ lw_tbl := am_tb (i := 60) (by decide +kernel)
theorem w_63 : Cond.fieldLink "SmokeRelay$Row" 36 (am_T1 8).1 (am_T1 8).2.1 (am_T1 8).2.2.1 ∈ lw_tbl := am_tb (i := 63) (by decide +kernel)
theorem w_67 : Cond.fieldLink "SmokeRelay$Row" 40 (am_T1 9).1 (am_T1 9).2.1 (am_T1 9).2.2.1 ∈ lw_tbl := am_tb (i := 67) (by decide +kernel)
theorem w_97 : Cond.methodLink "SmokeRelay$History" 1 Lib.objectInit ∈ lw_tbl := am_tb (i := 97) (by decide +kernel)
theorem w_98 : Cond.classLink "SmokeRelay$History" 9 "SmokeRelay$Row" ∈ lw_tbl := am_tb (i := 98) (by decide +kernel)
theorem w_101 : Cond.fieldLink "SmokeRelay$History" 11 (am_T2 0).1 (am_T2 0).2.1 (am_T2 0).2.2.1 ∈ lw_tbl := am_tb (i := 101) (by decide +kernel)
theorem w_102 : Cond.fieldLink "SmokeRelay$History" 15 (am_T2 1).1 (am_T2 1).2.1 (am_T2 1).2.2.1 ∈ lw_tbl := am_tb (i := 102) (by decide +kernel)
theorem w_103 : Cond.fieldLink "SmokeRelay$History" 19 (am_T2 2).1 (am_T2 2).2.1 (am_T2 2).2.2.1 ∈ lw_tbl := am_tb (i := 103) (by decide +kernel)
theorem w_117 : Cond.methodLink "SmokeRelay$Sight" 3 Lib.objectInit ∈ lw_tbl := am_tb (i := 117) (by decide +kernel)
theorem w_119 : Cond.fieldLink "SmokeRelay$Sight" 9 (am_T3 1).1 (am_T3 1).2.1 (am_T3 1).2.2.1 ∈ lw_tbl := am_tb (i := 119) (by decide +kernel)
theorem w_118 : Cond.fieldLink "SmokeRelay$Sight" 15 (am_T3 0).1 (am_T3 0).2.1 (am_T3 0).2.2.1 ∈ lw_tbl := am_tb (i := 118) (by decide +kernel)
theorem w_130 : Cond.methodLink "SmokeRelay$Relays" 3 Lib.objectInit ∈ lw_tbl := am_tb (i := 130) (by decide +kernel)
theorem w_131 : Cond.classLink "SmokeRelay$Relays" 9 "[[I" ∈ lw_tbl := am_tb (i := 131) (by decide +kernel)
theorem w_135 : Cond.fieldLink "SmokeRelay$Relays" 11 (am_T4 2).1 (am_T4 2).2.1 (am_T4 2).2.2.1 ∈ lw_tbl := am_tb (i := 135) (by decide +kernel)
theorem w_136 : Cond.fieldLink "SmokeRelay$Relays" 16 (am_T4 3).1 (am_T4 3).2.1 (am_T4 3).2.2.1 ∈ lw_tbl := am_tb (i := 136) (by decide +kernel)
theorem w_137 : Cond.fieldLink "SmokeRelay$Relays" 19 (am_T4 4).1 (am_T4 4).2.1 (am_T4 4).2.2.1 ∈ lw_tbl := am_tb (i := 137) (by decide +kernel)
theorem w_138 : Cond.fieldLink "SmokeRelay$Relays" 23 (am_T4 5).1 (am_T4 5).2.1 (am_T4 5).2.2.1 ∈ lw_tbl := am_tb (i := 138) (by decide +kernel)
theorem w_140 : Cond.fieldLink "SmokeRelay$Relays" 26 (am_T4 6).1 (am_T4 6).2.1 (am_T4 6).2.2.1 ∈ lw_tbl := am_tb (i := 140) (by decide +kernel)
theorem w_142 : Cond.fieldLink "SmokeRelay$Relays" 30 (am_T4 7).1 (am_T4 7).2.1 (am_T4 7).2.2.1 ∈ lw_tbl := am_tb (i := 142) (by decide +kernel)
theorem w_133 : Cond.fieldLink "SmokeRelay$Relays" 33 (am_T4 0).1 (am_T4 0).2.1 (am_T4 0).2.2.1 ∈ lw_tbl := am_tb (i := 133) (by decide +kernel)
theorem w_134 : Cond.fieldLink "SmokeRelay$Relays" 37 (am_T4 1).1 (am_T4 1).2.1 (am_T4 1).2.2.1 ∈ lw_tbl := am_tb (i := 134) (by decide +kernel)
theorem w_166 : Cond.methodLink "SmokeRelay$Smokes" 3 Lib.objectInit ∈ lw_tbl := am_tb (i := 166) (by decide +kernel)
theorem w_179 : Cond.fieldLink "SmokeRelay$Smokes" 9 (am_T5 0).1 (am_T5 0).2.1 (am_T5 0).2.2.1 ∈ lw_tbl := am_tb (i := 179) (by decide +kernel)
set_option maxRecDepth 100000 in
theorem w_169 : am_cw (am_mi 6) ∈ lw_tbl := am_tb (i := 169) rfl
theorem w_167 : Cond.methodLink "SmokeRelay$Smokes" 15 (am_mi 6).1 ∈ lw_tbl := am_tb (i := 167) (by decide +kernel)
theorem w_168 : Cond.static (am_mi 6).1 ∈ lw_tbl := am_tb (i := 168) (by decide +kernel)
set_option maxRecDepth 100000 in
theorem w_172 : am_cw (am_mi 7) ∈ lw_tbl := am_tb (i := 172) rfl
theorem w_170 : Cond.methodLink "SmokeRelay$Smokes" 24 (am_mi 7).1 ∈ lw_tbl := am_tb (i := 170) (by decide +kernel)
theorem w_171 : Cond.static (am_mi 7).1 ∈ lw_tbl := am_tb (i := 171) (by decide +kernel)
set_option maxRecDepth 100000 in
theorem w_175 : am_cw (am_mi 8) ∈ lw_tbl := am_tb (i := 175) rfl
theorem w_7 : Cond.initialized "java/lang/Integer" ∈ lw_tbl := am_tb (i := 7) (by decide +kernel)
theorem w_173 : Cond.methodLink "SmokeRelay$Smokes" 19 (am_mi 8).1 ∈ lw_tbl := am_tb (i := 173) (by decide +kernel)
theorem w_174 : Cond.static (am_mi 8).1 ∈ lw_tbl := am_tb (i := 174) (by decide +kernel)
theorem w_176 : Cond.constant "java/lang/Integer" 265 1431655765 ∈ lw_tbl := am_tb (i := 176) (by decide +kernel)
theorem w_177 : Cond.constant "java/lang/Integer" 266 858993459 ∈ lw_tbl := am_tb (i := 177) (by decide +kernel)
theorem w_178 : Cond.constant "java/lang/Integer" 267 252645135 ∈ lw_tbl := am_tb (i := 178) (by decide +kernel)
theorem w_188 : Cond.methodLink "SmokeRelay$Codes" 3 Lib.objectInit ∈ lw_tbl := am_tb (i := 188) (by decide +kernel)
theorem w_190 : Cond.fieldLink "SmokeRelay$Codes" 9 (am_T6 1).1 (am_T6 1).2.1 (am_T6 1).2.2.1 ∈ lw_tbl := am_tb (i := 190) (by decide +kernel)
theorem w_191 : Cond.fieldLink "SmokeRelay$Codes" 15 (am_T6 2).1 (am_T6 2).2.1 (am_T6 2).2.2.1 ∈ lw_tbl := am_tb (i := 191) (by decide +kernel)
theorem w_192 : Cond.fieldLink "SmokeRelay$Codes" 18 (am_T6 3).1 (am_T6 3).2.1 (am_T6 3).2.2.1 ∈ lw_tbl := am_tb (i := 192) (by decide +kernel)
theorem w_193 : Cond.fieldLink "SmokeRelay$Codes" 22 (am_T6 4).1 (am_T6 4).2.1 (am_T6 4).2.2.1 ∈ lw_tbl := am_tb (i := 193) (by decide +kernel)
theorem w_194 : Cond.fieldLink "SmokeRelay$Codes" 25 (am_T6 5).1 (am_T6 5).2.1 (am_T6 5).2.2.1 ∈ lw_tbl := am_tb (i := 194) (by decide +kernel)
theorem w_195 : Cond.fieldLink "SmokeRelay$Codes" 28 (am_T6 6).1 (am_T6 6).2.1 (am_T6 6).2.2.1 ∈ lw_tbl := am_tb (i := 195) (by decide +kernel)
theorem w_189 : Cond.fieldLink "SmokeRelay$Codes" 31 (am_T6 0).1 (am_T6 0).2.1 (am_T6 0).2.2.1 ∈ lw_tbl := am_tb (i := 189) (by decide +kernel)
theorem w_216 : Cond.methodLink "SmokeRelay$Input" 5 Lib.objectInit ∈ lw_tbl := am_tb (i := 216) (by decide +kernel)
theorem w_244 : Cond.arrayClass .char ∈ lw_tbl := am_tb (i := 244) (by decide +kernel)
theorem w_219 : Cond.fieldLink "SmokeRelay$Input" 11 (am_T7 0).1 (am_T7 0).2.1 (am_T7 0).2.2.1 ∈ lw_tbl := am_tb (i := 219) (by decide +kernel)
theorem w_217 : Cond.classLink "SmokeRelay$Input" 15 "SmokeRelay$Kind" ∈ lw_tbl := am_tb (i := 217) (by decide +kernel)
theorem w_220 : Cond.fieldLink "SmokeRelay$Input" 17 (am_T7 1).1 (am_T7 1).2.1 (am_T7 1).2.2.1 ∈ lw_tbl := am_tb (i := 220) (by decide +kernel)
theorem w_221 : Cond.fieldLink "SmokeRelay$Input" 21 (am_T7 2).1 (am_T7 2).2.1 (am_T7 2).2.2.1 ∈ lw_tbl := am_tb (i := 221) (by decide +kernel)
theorem w_222 : Cond.fieldLink "SmokeRelay$Input" 25 (am_T7 3).1 (am_T7 3).2.1 (am_T7 3).2.2.1 ∈ lw_tbl := am_tb (i := 222) (by decide +kernel)
theorem w_223 : Cond.fieldLink "SmokeRelay$Input" 29 (am_T7 4).1 (am_T7 4).2.1 (am_T7 4).2.2.1 ∈ lw_tbl := am_tb (i := 223) (by decide +kernel)
theorem w_225 : Cond.fieldLink "SmokeRelay$Input" 32 (am_T7 5).1 (am_T7 5).2.1 (am_T7 5).2.2.1 ∈ lw_tbl := am_tb (i := 225) (by decide +kernel)
theorem w_227 : Cond.fieldLink "SmokeRelay$Input" 35 (am_T7 6).1 (am_T7 6).2.1 (am_T7 6).2.2.1 ∈ lw_tbl := am_tb (i := 227) (by decide +kernel)
theorem w_250 : Cond.methodLink "SmokeRelay$Output" 1 Lib.objectInit ∈ lw_tbl := am_tb (i := 250) (by decide +kernel)
theorem w_251 : Cond.fieldLink "SmokeRelay$Output" 9 (am_T8 0).1 (am_T8 0).2.1 (am_T8 0).2.2.1 ∈ lw_tbl := am_tb (i := 251) (by decide +kernel)
theorem w_253 : Cond.fieldLink "SmokeRelay$Output" 13 (am_T8 1).1 (am_T8 1).2.1 (am_T8 1).2.2.1 ∈ lw_tbl := am_tb (i := 253) (by decide +kernel)
theorem w_65 : Cond.fieldLink "SmokeRelay" 144 (am_T1 8).1 (am_T1 8).2.1 (am_T1 8).2.2.1 ∈ lw_tbl := am_tb (i := 65) (by decide +kernel)
set_option maxRecDepth 100000 in
theorem w_317 : am_cw (am_mi 14) ∈ lw_tbl := am_tb (i := 317) rfl
theorem w_314 : Cond.methodLink "SmokeRelay" 188 (am_mi 14).1 ∈ lw_tbl := am_tb (i := 314) (by decide +kernel)
theorem w_315 : Cond.instanceMethod (am_mi 14).1 ∈ lw_tbl := am_tb (i := 315) (by decide +kernel)
theorem w_316 : Cond.selects (am_mi 14).1.cls (am_mi 14).1 (am_mi 14).1 ∈ lw_tbl := am_tb (i := 316) (by decide +kernel)
set_option maxRecDepth 100000 in
theorem w_321 : am_cw (am_mi 15) ∈ lw_tbl := am_tb (i := 321) rfl
theorem w_318 : Cond.methodLink "SmokeRelay$Sight" 57 (am_mi 15).1 ∈ lw_tbl := am_tb (i := 318) (by decide +kernel)
theorem w_320 : Cond.instanceMethod (am_mi 15).1 ∈ lw_tbl := am_tb (i := 320) (by decide +kernel)
theorem ws_15 : Cond.selects (am_mi 15).1.cls (am_mi 15).1 (am_mi 15).1 ∈ lw_tbl := List.mem_append_left _ (List.mem_of_getElem? (i := 0) (by decide +kernel))
theorem w_66 : Cond.fieldLink "SmokeRelay$Sight" 40 (am_T1 8).1 (am_T1 8).2.1 (am_T1 8).2.2.1 ∈ lw_tbl := am_tb (i := 66) (by decide +kernel)
set_option maxRecDepth 100000 in
theorem w_344 : am_cw (am_mi 20) ∈ lw_tbl := am_tb (i := 344) rfl
theorem w_341 : Cond.methodLink "SmokeRelay$Sight" 60 (am_mi 20).1 ∈ lw_tbl := am_tb (i := 341) (by decide +kernel)
theorem w_343 : Cond.instanceMethod (am_mi 20).1 ∈ lw_tbl := am_tb (i := 343) (by decide +kernel)
theorem ws_20 : Cond.selects (am_mi 20).1.cls (am_mi 20).1 (am_mi 20).1 ∈ lw_tbl := List.mem_append_left _ (List.mem_of_getElem? (i := 2) (by decide +kernel))
theorem w_345 : Cond.methodLink "SmokeRelay$Sight" 63 (am_mi 8).1 ∈ lw_tbl := am_tb (i := 345) (by decide +kernel)
set_option maxRecDepth 100000 in
theorem w_325 : am_cw (am_mi 16) ∈ lw_tbl := am_tb (i := 325) rfl
theorem w_322 : Cond.methodLink "SmokeRelay$Sight" 54 (am_mi 16).1 ∈ lw_tbl := am_tb (i := 322) (by decide +kernel)
theorem w_323 : Cond.instanceMethod (am_mi 16).1 ∈ lw_tbl := am_tb (i := 323) (by decide +kernel)
theorem w_324 : Cond.selects (am_mi 16).1.cls (am_mi 16).1 (am_mi 16).1 ∈ lw_tbl := am_tb (i := 324) (by decide +kernel)
set_option maxRecDepth 100000 in
theorem w_329 : am_cw (am_mi 17) ∈ lw_tbl := am_tb (i := 329) rfl
theorem w_326 : Cond.methodLink "SmokeRelay$Sight" 51 (am_mi 17).1 ∈ lw_tbl := am_tb (i := 326) (by decide +kernel)
theorem w_327 : Cond.instanceMethod (am_mi 17).1 ∈ lw_tbl := am_tb (i := 327) (by decide +kernel)
theorem w_328 : Cond.selects (am_mi 17).1.cls (am_mi 17).1 (am_mi 17).1 ∈ lw_tbl := am_tb (i := 328) (by decide +kernel)
theorem w_49 : Cond.fieldLink "SmokeRelay$Sight" 19 (am_T1 1).1 (am_T1 1).2.1 (am_T1 1).2.2.1 ∈ lw_tbl := am_tb (i := 49) (by decide +kernel)
set_option maxRecDepth 100000 in
theorem w_333 : am_cw (am_mi 18) ∈ lw_tbl := am_tb (i := 333) rfl
theorem w_330 : Cond.methodLink "SmokeRelay$Sight" 24 (am_mi 18).1 ∈ lw_tbl := am_tb (i := 330) (by decide +kernel)
theorem w_331 : Cond.instanceMethod (am_mi 18).1 ∈ lw_tbl := am_tb (i := 331) (by decide +kernel)
theorem w_332 : Cond.selects (am_mi 18).1.cls (am_mi 18).1 (am_mi 18).1 ∈ lw_tbl := am_tb (i := 332) (by decide +kernel)
theorem w_46 : Cond.fieldLink "SmokeRelay$Sight" 32 (am_T1 0).1 (am_T1 0).2.1 (am_T1 0).2.2.1 ∈ lw_tbl := am_tb (i := 46) (by decide +kernel)
set_option maxRecDepth 100000 in
theorem w_337 : am_cw (am_mi 19) ∈ lw_tbl := am_tb (i := 337) rfl
theorem w_334 : Cond.methodLink "SmokeRelay$Sight" 28 (am_mi 19).1 ∈ lw_tbl := am_tb (i := 334) (by decide +kernel)
theorem w_336 : Cond.instanceMethod (am_mi 19).1 ∈ lw_tbl := am_tb (i := 336) (by decide +kernel)
theorem ws_19 : Cond.selects (am_mi 19).1.cls (am_mi 19).1 (am_mi 19).1 ∈ lw_tbl := List.mem_append_left _ (List.mem_of_getElem? (i := 1) (by decide +kernel))
theorem w_338 : Cond.methodLink "SmokeRelay$Sight" 35 Lib.Math.abs.name ∈ lw_tbl := am_tb (i := 338) (by decide +kernel)
theorem w_339 : Cond.static Lib.Math.abs.name ∈ lw_tbl := am_tb (i := 339) (by decide +kernel)
theorem w_340 : Cond.code Lib.Math.abs.name Lib.Math.abs.code 1 (some .int) ∈ lw_tbl := am_tb (i := 340) (by decide +kernel)
theorem w_17 : Cond.initialized "java/lang/Math" ∈ lw_tbl := am_tb (i := 17) (by decide +kernel)
set_option maxRecDepth 100000 in
theorem w_353 : am_cw (am_mi 22) ∈ lw_tbl := am_tb (i := 353) rfl
theorem w_350 : Cond.methodLink "SmokeRelay" 192 (am_mi 22).1 ∈ lw_tbl := am_tb (i := 350) (by decide +kernel)
theorem w_351 : Cond.instanceMethod (am_mi 22).1 ∈ lw_tbl := am_tb (i := 351) (by decide +kernel)
theorem w_352 : Cond.selects (am_mi 22).1.cls (am_mi 22).1 (am_mi 22).1 ∈ lw_tbl := am_tb (i := 352) (by decide +kernel)
set_option maxRecDepth 100000 in
theorem w_356 : am_cw (am_mi 23) ∈ lw_tbl := am_tb (i := 356) rfl
theorem w_354 : Cond.methodLink "SmokeRelay$Sight" 68 (am_mi 23).1 ∈ lw_tbl := am_tb (i := 354) (by decide +kernel)
theorem w_355 : Cond.static (am_mi 23).1 ∈ lw_tbl := am_tb (i := 355) (by decide +kernel)
theorem w_357 : Cond.methodLink "SmokeRelay$Sight" 72 Lib.Math.min.name ∈ lw_tbl := am_tb (i := 357) (by decide +kernel)
theorem w_358 : Cond.static Lib.Math.min.name ∈ lw_tbl := am_tb (i := 358) (by decide +kernel)
theorem w_359 : Cond.code Lib.Math.min.name Lib.Math.min.code 2 (some .int) ∈ lw_tbl := am_tb (i := 359) (by decide +kernel)
theorem w_69 : Cond.fieldLink "SmokeRelay" 200 (am_T1 9).1 (am_T1 9).2.1 (am_T1 9).2.2.1 ∈ lw_tbl := am_tb (i := 69) (by decide +kernel)
set_option maxRecDepth 100000 in
theorem w_371 : am_cw (am_mi 26) ∈ lw_tbl := am_tb (i := 371) rfl
theorem w_368 : Cond.methodLink "SmokeRelay" 228 (am_mi 26).1 ∈ lw_tbl := am_tb (i := 368) (by decide +kernel)
theorem w_369 : Cond.instanceMethod (am_mi 26).1 ∈ lw_tbl := am_tb (i := 369) (by decide +kernel)
theorem w_370 : Cond.selects (am_mi 26).1.cls (am_mi 26).1 (am_mi 26).1 ∈ lw_tbl := am_tb (i := 370) (by decide +kernel)
set_option maxRecDepth 100000 in
theorem w_375 : am_cw (am_mi 27) ∈ lw_tbl := am_tb (i := 375) rfl
theorem w_372 : Cond.methodLink "SmokeRelay$Relays" 68 (am_mi 27).1 ∈ lw_tbl := am_tb (i := 372) (by decide +kernel)
theorem w_374 : Cond.instanceMethod (am_mi 27).1 ∈ lw_tbl := am_tb (i := 374) (by decide +kernel)
theorem ws_27 : Cond.selects (am_mi 27).1.cls (am_mi 27).1 (am_mi 27).1 ∈ lw_tbl := List.mem_append_left _ (List.mem_of_getElem? (i := 3) (by decide +kernel))
set_option maxRecDepth 100000 in
theorem w_391 : am_cw (am_mi 30) ∈ lw_tbl := am_tb (i := 391) rfl
theorem w_388 : Cond.methodLink "SmokeRelay$Relays" 95 (am_mi 30).1 ∈ lw_tbl := am_tb (i := 388) (by decide +kernel)
theorem w_390 : Cond.instanceMethod (am_mi 30).1 ∈ lw_tbl := am_tb (i := 390) (by decide +kernel)
theorem ws_30 : Cond.selects (am_mi 30).1.cls (am_mi 30).1 (am_mi 30).1 ∈ lw_tbl := List.mem_append_left _ (List.mem_of_getElem? (i := 4) (by decide +kernel))
theorem w_64 : Cond.fieldLink "SmokeRelay$Relays" 55 (am_T1 8).1 (am_T1 8).2.1 (am_T1 8).2.2.1 ∈ lw_tbl := am_tb (i := 64) (by decide +kernel)
set_option maxRecDepth 100000 in
theorem w_396 : am_cw (am_mi 31) ∈ lw_tbl := am_tb (i := 396) rfl
theorem w_393 : Cond.methodLink "SmokeRelay$Relays" 98 (am_mi 31).1 ∈ lw_tbl := am_tb (i := 393) (by decide +kernel)
theorem w_395 : Cond.instanceMethod (am_mi 31).1 ∈ lw_tbl := am_tb (i := 395) (by decide +kernel)
theorem ws_31 : Cond.selects (am_mi 31).1.cls (am_mi 31).1 (am_mi 31).1 ∈ lw_tbl := List.mem_append_left _ (List.mem_of_getElem? (i := 5) (by decide +kernel))
set_option maxRecDepth 100000 in
theorem w_379 : am_cw (am_mi 28) ∈ lw_tbl := am_tb (i := 379) rfl
theorem w_376 : Cond.methodLink "SmokeRelay$Relays" 58 (am_mi 28).1 ∈ lw_tbl := am_tb (i := 376) (by decide +kernel)
theorem w_377 : Cond.instanceMethod (am_mi 28).1 ∈ lw_tbl := am_tb (i := 377) (by decide +kernel)
theorem w_378 : Cond.selects (am_mi 28).1.cls (am_mi 28).1 (am_mi 28).1 ∈ lw_tbl := am_tb (i := 378) (by decide +kernel)
set_option maxRecDepth 100000 in
theorem w_383 : am_cw (am_mi 29) ∈ lw_tbl := am_tb (i := 383) rfl
theorem w_380 : Cond.methodLink "SmokeRelay$Relays" 64 (am_mi 29).1 ∈ lw_tbl := am_tb (i := 380) (by decide +kernel)
theorem w_381 : Cond.instanceMethod (am_mi 29).1 ∈ lw_tbl := am_tb (i := 381) (by decide +kernel)
theorem w_382 : Cond.selects (am_mi 29).1.cls (am_mi 29).1 (am_mi 29).1 ∈ lw_tbl := am_tb (i := 382) (by decide +kernel)
theorem w_387 : Cond.constant "SmokeRelay$Relays" 67 1000000 ∈ lw_tbl := am_tb (i := 387) (by decide +kernel)
theorem w_48 : Cond.fieldLink "SmokeRelay$Relays" 41 (am_T1 1).1 (am_T1 1).2.1 (am_T1 1).2.2.1 ∈ lw_tbl := am_tb (i := 48) (by decide +kernel)
theorem w_68 : Cond.fieldLink "SmokeRelay$Relays" 46 (am_T1 9).1 (am_T1 9).2.1 (am_T1 9).2.2.1 ∈ lw_tbl := am_tb (i := 68) (by decide +kernel)
theorem w_384 : Cond.methodLink "SmokeRelay$Relays" 49 Lib.Math.max.name ∈ lw_tbl := am_tb (i := 384) (by decide +kernel)
theorem w_385 : Cond.static Lib.Math.max.name ∈ lw_tbl := am_tb (i := 385) (by decide +kernel)
theorem w_386 : Cond.code Lib.Math.max.name Lib.Math.max.code 2 (some .int) ∈ lw_tbl := am_tb (i := 386) (by decide +kernel)
theorem w_392 : Cond.methodLink "SmokeRelay$Relays" 91 Lib.Math.min.name ∈ lw_tbl := am_tb (i := 392) (by decide +kernel)
set_option maxRecDepth 100000 in
theorem w_404 : am_cw (am_mi 33) ∈ lw_tbl := am_tb (i := 404) rfl
theorem w_401 : Cond.methodLink "SmokeRelay" 290 (am_mi 33).1 ∈ lw_tbl := am_tb (i := 401) (by decide +kernel)
theorem w_402 : Cond.instanceMethod (am_mi 33).1 ∈ lw_tbl := am_tb (i := 402) (by decide +kernel)
theorem w_403 : Cond.selects (am_mi 33).1.cls (am_mi 33).1 (am_mi 33).1 ∈ lw_tbl := am_tb (i := 403) (by decide +kernel)
set_option maxRecDepth 100000 in
theorem w_408 : am_cw (am_mi 34) ∈ lw_tbl := am_tb (i := 408) rfl
theorem w_405 : Cond.methodLink "SmokeRelay$Codes" 40 (am_mi 34).1 ∈ lw_tbl := am_tb (i := 405) (by decide +kernel)
theorem w_407 : Cond.instanceMethod (am_mi 34).1 ∈ lw_tbl := am_tb (i := 407) (by decide +kernel)
theorem ws_34 : Cond.selects (am_mi 34).1.cls (am_mi 34).1 (am_mi 34).1 ∈ lw_tbl := List.mem_append_left _ (List.mem_of_getElem? (i := 6) (by decide +kernel))
set_option maxRecDepth 100000 in
theorem w_412 : am_cw (am_mi 35) ∈ lw_tbl := am_tb (i := 412) rfl
theorem w_409 : Cond.methodLink "SmokeRelay$Codes" 43 (am_mi 35).1 ∈ lw_tbl := am_tb (i := 409) (by decide +kernel)
theorem w_411 : Cond.instanceMethod (am_mi 35).1 ∈ lw_tbl := am_tb (i := 411) (by decide +kernel)
theorem ws_35 : Cond.selects (am_mi 35).1.cls (am_mi 35).1 (am_mi 35).1 ∈ lw_tbl := List.mem_append_left _ (List.mem_of_getElem? (i := 7) (by decide +kernel))
theorem w_61 : Cond.fieldLink "SmokeRelay$Codes" 35 (am_T1 7).1 (am_T1 7).2.1 (am_T1 7).2.2.1 ∈ lw_tbl := am_tb (i := 61) (by decide +kernel)
set_option maxRecDepth 100000 in
theorem w_416 : am_cw (am_mi 36) ∈ lw_tbl := am_tb (i := 416) rfl
theorem w_413 : Cond.methodLink "SmokeRelay$Codes" 47 (am_mi 36).1 ∈ lw_tbl := am_tb (i := 413) (by decide +kernel)
theorem w_415 : Cond.instanceMethod (am_mi 36).1 ∈ lw_tbl := am_tb (i := 415) (by decide +kernel)
theorem ws_36 : Cond.selects (am_mi 36).1.cls (am_mi 36).1 (am_mi 36).1 ∈ lw_tbl := List.mem_append_left _ (List.mem_of_getElem? (i := 8) (by decide +kernel))
set_option maxRecDepth 100000 in
theorem w_424 : am_cw (am_mi 38) ∈ lw_tbl := am_tb (i := 424) rfl
theorem w_421 : Cond.methodLink "SmokeRelay" 293 (am_mi 38).1 ∈ lw_tbl := am_tb (i := 421) (by decide +kernel)
theorem w_422 : Cond.instanceMethod (am_mi 38).1 ∈ lw_tbl := am_tb (i := 422) (by decide +kernel)
theorem w_423 : Cond.selects (am_mi 38).1.cls (am_mi 38).1 (am_mi 38).1 ∈ lw_tbl := am_tb (i := 423) (by decide +kernel)
set_option maxRecDepth 100000 in
theorem w_428 : am_cw (am_mi 39) ∈ lw_tbl := am_tb (i := 428) rfl
theorem w_425 : Cond.methodLink "SmokeRelay$Codes" 51 (am_mi 39).1 ∈ lw_tbl := am_tb (i := 425) (by decide +kernel)
theorem w_427 : Cond.instanceMethod (am_mi 39).1 ∈ lw_tbl := am_tb (i := 427) (by decide +kernel)
theorem ws_39 : Cond.selects (am_mi 39).1.cls (am_mi 39).1 (am_mi 39).1 ∈ lw_tbl := List.mem_append_left _ (List.mem_of_getElem? (i := 9) (by decide +kernel))
set_option maxRecDepth 100000 in
theorem w_432 : am_cw (am_mi 40) ∈ lw_tbl := am_tb (i := 432) rfl
theorem w_429 : Cond.methodLink "SmokeRelay$Codes" 54 (am_mi 40).1 ∈ lw_tbl := am_tb (i := 429) (by decide +kernel)
theorem w_431 : Cond.instanceMethod (am_mi 40).1 ∈ lw_tbl := am_tb (i := 431) (by decide +kernel)
theorem ws_40 : Cond.selects (am_mi 40).1.cls (am_mi 40).1 (am_mi 40).1 ∈ lw_tbl := List.mem_append_left _ (List.mem_of_getElem? (i := 10) (by decide +kernel))
set_option maxRecDepth 100000 in
theorem w_440 : am_cw (am_mi 42) ∈ lw_tbl := am_tb (i := 440) rfl
theorem w_437 : Cond.methodLink "SmokeRelay" 325 (am_mi 42).1 ∈ lw_tbl := am_tb (i := 437) (by decide +kernel)
theorem w_438 : Cond.instanceMethod (am_mi 42).1 ∈ lw_tbl := am_tb (i := 438) (by decide +kernel)
theorem w_439 : Cond.selects (am_mi 42).1.cls (am_mi 42).1 (am_mi 42).1 ∈ lw_tbl := am_tb (i := 439) (by decide +kernel)
set_option maxRecDepth 100000 in
theorem w_449 : am_cw (am_mi 44) ∈ lw_tbl := am_tb (i := 449) rfl
theorem w_446 : Cond.methodLink "SmokeRelay" 329 (am_mi 44).1 ∈ lw_tbl := am_tb (i := 446) (by decide +kernel)
theorem w_447 : Cond.instanceMethod (am_mi 44).1 ∈ lw_tbl := am_tb (i := 447) (by decide +kernel)
theorem w_448 : Cond.selects (am_mi 44).1.cls (am_mi 44).1 (am_mi 44).1 ∈ lw_tbl := am_tb (i := 448) (by decide +kernel)
set_option maxRecDepth 100000 in
theorem w_469 : am_cw (am_mi 49) ∈ lw_tbl := am_tb (i := 469) rfl
theorem w_466 : Cond.methodLink "SmokeRelay" 330 (am_mi 49).1 ∈ lw_tbl := am_tb (i := 466) (by decide +kernel)
theorem w_467 : Cond.instanceMethod (am_mi 49).1 ∈ lw_tbl := am_tb (i := 467) (by decide +kernel)
theorem w_468 : Cond.selects (am_mi 49).1.cls (am_mi 49).1 (am_mi 49).1 ∈ lw_tbl := am_tb (i := 468) (by decide +kernel)
theorem w_441 : Cond.methodLink "SmokeRelay$Sight" 44 (am_mi 28).1 ∈ lw_tbl := am_tb (i := 441) (by decide +kernel)
set_option maxRecDepth 100000 in
theorem w_445 : am_cw (am_mi 43) ∈ lw_tbl := am_tb (i := 445) rfl
theorem w_442 : Cond.methodLink "SmokeRelay$Sight" 48 (am_mi 43).1 ∈ lw_tbl := am_tb (i := 442) (by decide +kernel)
theorem w_443 : Cond.instanceMethod (am_mi 43).1 ∈ lw_tbl := am_tb (i := 443) (by decide +kernel)
theorem w_444 : Cond.selects (am_mi 43).1.cls (am_mi 43).1 (am_mi 43).1 ∈ lw_tbl := am_tb (i := 444) (by decide +kernel)
set_option maxRecDepth 100000 in
theorem w_453 : am_cw (am_mi 45) ∈ lw_tbl := am_tb (i := 453) rfl
theorem w_450 : Cond.methodLink "SmokeRelay$Relays" 71 (am_mi 45).1 ∈ lw_tbl := am_tb (i := 450) (by decide +kernel)
theorem w_452 : Cond.instanceMethod (am_mi 45).1 ∈ lw_tbl := am_tb (i := 452) (by decide +kernel)
theorem ws_45 : Cond.selects (am_mi 45).1.cls (am_mi 45).1 (am_mi 45).1 ∈ lw_tbl := List.mem_append_left _ (List.mem_of_getElem? (i := 11) (by decide +kernel))
set_option maxRecDepth 100000 in
theorem w_456 : am_cw (am_mi 46) ∈ lw_tbl := am_tb (i := 456) rfl
theorem w_23 : Cond.initialized "java/util/Arrays" ∈ lw_tbl := am_tb (i := 23) (by decide +kernel)
theorem w_454 : Cond.methodLink "SmokeRelay$Relays" 79 (am_mi 46).1 ∈ lw_tbl := am_tb (i := 454) (by decide +kernel)
theorem w_455 : Cond.static (am_mi 46).1 ∈ lw_tbl := am_tb (i := 455) (by decide +kernel)
set_option maxRecDepth 100000 in
theorem w_460 : am_cw (am_mi 47) ∈ lw_tbl := am_tb (i := 460) rfl
theorem w_457 : Cond.methodLink "SmokeRelay$Relays" 85 (am_mi 47).1 ∈ lw_tbl := am_tb (i := 457) (by decide +kernel)
theorem w_459 : Cond.instanceMethod (am_mi 47).1 ∈ lw_tbl := am_tb (i := 459) (by decide +kernel)
theorem ws_47 : Cond.selects (am_mi 47).1.cls (am_mi 47).1 (am_mi 47).1 ∈ lw_tbl := List.mem_append_left _ (List.mem_of_getElem? (i := 12) (by decide +kernel))
set_option maxRecDepth 100000 in
theorem w_465 : am_cw (am_mi 48) ∈ lw_tbl := am_tb (i := 465) rfl
theorem w_462 : Cond.methodLink "SmokeRelay$Relays" 88 (am_mi 48).1 ∈ lw_tbl := am_tb (i := 462) (by decide +kernel)
theorem w_464 : Cond.instanceMethod (am_mi 48).1 ∈ lw_tbl := am_tb (i := 464) (by decide +kernel)
theorem ws_48 : Cond.selects (am_mi 48).1.cls (am_mi 48).1 (am_mi 48).1 ∈ lw_tbl := List.mem_append_left _ (List.mem_of_getElem? (i := 13) (by decide +kernel))
theorem w_461 : Cond.constant "SmokeRelay$Relays" 94 1000001 ∈ lw_tbl := am_tb (i := 461) (by decide +kernel)
set_option maxRecDepth 100000 in
theorem w_473 : am_cw (am_mi 50) ∈ lw_tbl := am_tb (i := 473) rfl
theorem w_470 : Cond.methodLink "SmokeRelay$Smokes" 33 (am_mi 50).1 ∈ lw_tbl := am_tb (i := 470) (by decide +kernel)
theorem w_471 : Cond.instanceMethod (am_mi 50).1 ∈ lw_tbl := am_tb (i := 471) (by decide +kernel)
theorem w_472 : Cond.selects (am_mi 50).1.cls (am_mi 50).1 (am_mi 50).1 ∈ lw_tbl := am_tb (i := 472) (by decide +kernel)
set_option maxRecDepth 100000 in
theorem w_477 : am_cw (am_mi 51) ∈ lw_tbl := am_tb (i := 477) rfl
theorem w_474 : Cond.methodLink "SmokeRelay$Smokes" 36 (am_mi 51).1 ∈ lw_tbl := am_tb (i := 474) (by decide +kernel)
theorem w_475 : Cond.instanceMethod (am_mi 51).1 ∈ lw_tbl := am_tb (i := 475) (by decide +kernel)
theorem w_476 : Cond.selects (am_mi 51).1.cls (am_mi 51).1 (am_mi 51).1 ∈ lw_tbl := am_tb (i := 476) (by decide +kernel)
theorem w_104 : Cond.fieldLink "SmokeRelay" 364 (am_T2 2).1 (am_T2 2).2.1 (am_T2 2).2.2.1 ∈ lw_tbl := am_tb (i := 104) (by decide +kernel)
set_option maxRecDepth 100000 in
theorem w_489 : am_cw (am_mi 54) ∈ lw_tbl := am_tb (i := 489) rfl
theorem w_486 : Cond.methodLink "SmokeRelay" 257 (am_mi 54).1 ∈ lw_tbl := am_tb (i := 486) (by decide +kernel)
theorem w_487 : Cond.instanceMethod (am_mi 54).1 ∈ lw_tbl := am_tb (i := 487) (by decide +kernel)
theorem w_488 : Cond.selects (am_mi 54).1.cls (am_mi 54).1 (am_mi 54).1 ∈ lw_tbl := am_tb (i := 488) (by decide +kernel)
theorem w_490 : Cond.methodLink "SmokeRelay$Row" 43 arraycopyName ∈ lw_tbl := am_tb (i := 490) (by decide +kernel)
theorem w_492 : Cond.native arraycopyName ∈ lw_tbl := am_tb (i := 492) (by decide +kernel)
theorem w_491 : Cond.static arraycopyName ∈ lw_tbl := am_tb (i := 491) (by decide +kernel)
theorem w_16 : Cond.initialized "java/lang/System" ∈ lw_tbl := am_tb (i := 16) (by decide +kernel)
set_option maxRecDepth 100000 in
theorem w_500 : am_cw (am_mi 56) ∈ lw_tbl := am_tb (i := 500) rfl
theorem w_1 : Cond.initialized "SmokeRelay" ∈ lw_tbl := am_tb (i := 1) (by decide +kernel)
theorem w_497 : Cond.methodLink "SmokeRelayLaw" 7 (am_mi 56).1 ∈ lw_tbl := am_tb (i := 497) (by decide +kernel)
theorem w_498 : Cond.instanceMethod (am_mi 56).1 ∈ lw_tbl := am_tb (i := 498) (by decide +kernel)
theorem w_499 : Cond.selects (am_mi 56).1.cls (am_mi 56).1 (am_mi 56).1 ∈ lw_tbl := am_tb (i := 499) (by decide +kernel)
set_option maxRecDepth 100000 in
theorem w_503 : am_cw (am_mi 57) ∈ lw_tbl := am_tb (i := 503) rfl
theorem w_501 : Cond.methodLink "SmokeRelay" 92 (am_mi 57).1 ∈ lw_tbl := am_tb (i := 501) (by decide +kernel)
theorem w_502 : Cond.static (am_mi 57).1 ∈ lw_tbl := am_tb (i := 502) (by decide +kernel)
set_option maxRecDepth 100000 in
theorem w_582 : am_cw (am_mi 59) ∈ lw_tbl := am_tb (i := 582) rfl
theorem w_579 : Cond.methodLink "SmokeRelay" 103 (am_mi 59).1 ∈ lw_tbl := am_tb (i := 579) (by decide +kernel)
theorem w_580 : Cond.instanceMethod (am_mi 59).1 ∈ lw_tbl := am_tb (i := 580) (by decide +kernel)
theorem w_581 : Cond.selects (am_mi 59).1.cls (am_mi 59).1 (am_mi 59).1 ∈ lw_tbl := am_tb (i := 581) (by decide +kernel)
theorem w_45 : Cond.fieldLink "SmokeRelay" 106 (am_T1 0).1 (am_T1 0).2.1 (am_T1 0).2.2.1 ∈ lw_tbl := am_tb (i := 45) (by decide +kernel)
set_option maxRecDepth 100000 in
theorem w_506 : am_cw (am_mi 58) ∈ lw_tbl := am_tb (i := 506) rfl
theorem w_504 : Cond.methodLink "SmokeRelay" 370 (am_mi 58).1 ∈ lw_tbl := am_tb (i := 504) (by decide +kernel)
theorem w_505 : Cond.static (am_mi 58).1 ∈ lw_tbl := am_tb (i := 505) (by decide +kernel)
theorem w_583 : Cond.methodLink "SmokeRelay$History" 23 (am_mi 54).1 ∈ lw_tbl := am_tb (i := 583) (by decide +kernel)
theorem w_584 : Cond.methodLink "SmokeRelay$History" 27 Lib.Math.min.name ∈ lw_tbl := am_tb (i := 584) (by decide +kernel)
set_option maxRecDepth 100000 in
theorem w_592 : am_cw (am_mi 61) ∈ lw_tbl := am_tb (i := 592) rfl
theorem w_589 : Cond.methodLink "SmokeRelayLaw" 15 (am_mi 61).1 ∈ lw_tbl := am_tb (i := 589) (by decide +kernel)
theorem w_590 : Cond.instanceMethod (am_mi 61).1 ∈ lw_tbl := am_tb (i := 590) (by decide +kernel)
theorem w_591 : Cond.selects (am_mi 61).1.cls (am_mi 61).1 (am_mi 61).1 ∈ lw_tbl := am_tb (i := 591) (by decide +kernel)
set_option maxRecDepth 100000 in
theorem w_595 : am_cw (am_mi 62) ∈ lw_tbl := am_tb (i := 595) rfl
theorem w_593 : Cond.methodLink "SmokeRelay" 110 (am_mi 62).1 ∈ lw_tbl := am_tb (i := 593) (by decide +kernel)
theorem w_594 : Cond.static (am_mi 62).1 ∈ lw_tbl := am_tb (i := 594) (by decide +kernel)
set_option maxRecDepth 100000 in
theorem w_603 : am_cw (am_mi 64) ∈ lw_tbl := am_tb (i := 603) rfl
theorem w_600 : Cond.methodLink "SmokeRelay" 116 (am_mi 64).1 ∈ lw_tbl := am_tb (i := 600) (by decide +kernel)
theorem w_602 : Cond.instanceMethod (am_mi 64).1 ∈ lw_tbl := am_tb (i := 602) (by decide +kernel)
theorem ws_64 : Cond.selects (am_mi 64).1.cls (am_mi 64).1 (am_mi 64).1 ∈ lw_tbl := List.mem_append_left _ (List.mem_of_getElem? (i := 15) (by decide +kernel))
set_option maxRecDepth 100000 in
theorem w_627 : am_cw (am_mi 66) ∈ lw_tbl := am_tb (i := 627) rfl
theorem w_624 : Cond.methodLink "SmokeRelay" 125 (am_mi 66).1 ∈ lw_tbl := am_tb (i := 624) (by decide +kernel)
theorem w_625 : Cond.instanceMethod (am_mi 66).1 ∈ lw_tbl := am_tb (i := 625) (by decide +kernel)
theorem w_626 : Cond.selects (am_mi 66).1.cls (am_mi 66).1 (am_mi 66).1 ∈ lw_tbl := am_tb (i := 626) (by decide +kernel)
set_option maxRecDepth 100000 in
theorem w_598 : am_cw (am_mi 63) ∈ lw_tbl := am_tb (i := 598) rfl
theorem w_596 : Cond.methodLink "SmokeRelay" 133 (am_mi 63).1 ∈ lw_tbl := am_tb (i := 596) (by decide +kernel)
theorem w_597 : Cond.static (am_mi 63).1 ∈ lw_tbl := am_tb (i := 597) (by decide +kernel)
set_option maxRecDepth 100000 in
theorem w_607 : am_cw (am_mi 65) ∈ lw_tbl := am_tb (i := 607) rfl
theorem w_604 : Cond.methodLink "SmokeRelay" 154 (am_mi 65).1 ∈ lw_tbl := am_tb (i := 604) (by decide +kernel)
theorem w_605 : Cond.instanceMethod (am_mi 65).1 ∈ lw_tbl := am_tb (i := 605) (by decide +kernel)
theorem w_606 : Cond.selects (am_mi 65).1.cls (am_mi 65).1 (am_mi 65).1 ∈ lw_tbl := am_tb (i := 606) (by decide +kernel)
set_option maxRecDepth 100000 in
theorem w_658 : am_cw (am_mi 68) ∈ lw_tbl := am_tb (i := 658) rfl
theorem w_655 : Cond.methodLink "SmokeRelayLaw" 21 (am_mi 68).1 ∈ lw_tbl := am_tb (i := 655) (by decide +kernel)
theorem w_656 : Cond.instanceMethod (am_mi 68).1 ∈ lw_tbl := am_tb (i := 656) (by decide +kernel)
theorem w_657 : Cond.selects (am_mi 68).1.cls (am_mi 68).1 (am_mi 68).1 ∈ lw_tbl := am_tb (i := 657) (by decide +kernel)
set_option maxRecDepth 100000 in
theorem w_662 : am_cw (am_mi 69) ∈ lw_tbl := am_tb (i := 662) rfl
theorem w_659 : Cond.methodLink "SmokeRelay" 129 (am_mi 69).1 ∈ lw_tbl := am_tb (i := 659) (by decide +kernel)
theorem w_661 : Cond.instanceMethod (am_mi 69).1 ∈ lw_tbl := am_tb (i := 661) (by decide +kernel)
theorem ws_69 : Cond.selects (am_mi 69).1.cls (am_mi 69).1 (am_mi 69).1 ∈ lw_tbl := List.mem_append_left _ (List.mem_of_getElem? (i := 16) (by decide +kernel))
theorem w_54 : Cond.fieldLink "SmokeRelay" 138 (am_T1 3).1 (am_T1 3).2.1 (am_T1 3).2.2.1 ∈ lw_tbl := am_tb (i := 54) (by decide +kernel)
set_option maxRecDepth 100000 in
theorem w_666 : am_cw (am_mi 70) ∈ lw_tbl := am_tb (i := 666) rfl
theorem w_663 : Cond.methodLink "SmokeRelay" 379 (am_mi 70).1 ∈ lw_tbl := am_tb (i := 663) (by decide +kernel)
theorem w_665 : Cond.instanceMethod (am_mi 70).1 ∈ lw_tbl := am_tb (i := 665) (by decide +kernel)
theorem ws_70 : Cond.selects (am_mi 70).1.cls (am_mi 70).1 (am_mi 70).1 ∈ lw_tbl := List.mem_append_left _ (List.mem_of_getElem? (i := 17) (by decide +kernel))
set_option maxRecDepth 100000 in
theorem w_687 : am_cw (am_mi 72) ∈ lw_tbl := am_tb (i := 687) rfl
theorem w_684 : Cond.methodLink "SmokeRelayLaw" 26 (am_mi 72).1 ∈ lw_tbl := am_tb (i := 684) (by decide +kernel)
theorem w_685 : Cond.instanceMethod (am_mi 72).1 ∈ lw_tbl := am_tb (i := 685) (by decide +kernel)
theorem w_686 : Cond.selects (am_mi 72).1.cls (am_mi 72).1 (am_mi 72).1 ∈ lw_tbl := am_tb (i := 686) (by decide +kernel)
set_option maxRecDepth 100000 in
theorem w_690 : am_cw (am_mi 73) ∈ lw_tbl := am_tb (i := 690) rfl
theorem w_688 : Cond.methodLink "SmokeRelay" 141 (am_mi 73).1 ∈ lw_tbl := am_tb (i := 688) (by decide +kernel)
theorem w_689 : Cond.static (am_mi 73).1 ∈ lw_tbl := am_tb (i := 689) (by decide +kernel)
set_option maxRecDepth 100000 in
theorem w_698 : am_cw (am_mi 75) ∈ lw_tbl := am_tb (i := 698) rfl
theorem w_695 : Cond.methodLink "SmokeRelayLaw" 30 (am_mi 75).1 ∈ lw_tbl := am_tb (i := 695) (by decide +kernel)
theorem w_696 : Cond.instanceMethod (am_mi 75).1 ∈ lw_tbl := am_tb (i := 696) (by decide +kernel)
theorem w_697 : Cond.selects (am_mi 75).1.cls (am_mi 75).1 (am_mi 75).1 ∈ lw_tbl := am_tb (i := 697) (by decide +kernel)
theorem w_50 : Cond.fieldLink "SmokeRelay" 147 (am_T1 1).1 (am_T1 1).2.1 (am_T1 1).2.2.1 ∈ lw_tbl := am_tb (i := 50) (by decide +kernel)
set_option maxRecDepth 100000 in
theorem w_705 : am_cw (am_mi 77) ∈ lw_tbl := am_tb (i := 705) rfl
theorem w_702 : Cond.methodLink "SmokeRelayLaw" 33 (am_mi 77).1 ∈ lw_tbl := am_tb (i := 702) (by decide +kernel)
theorem w_703 : Cond.instanceMethod (am_mi 77).1 ∈ lw_tbl := am_tb (i := 703) (by decide +kernel)
theorem w_704 : Cond.selects (am_mi 77).1.cls (am_mi 77).1 (am_mi 77).1 ∈ lw_tbl := am_tb (i := 704) (by decide +kernel)
theorem w_706 : Cond.methodLink "SmokeRelay" 150 (am_mi 18).1 ∈ lw_tbl := am_tb (i := 706) (by decide +kernel)
set_option maxRecDepth 100000 in
theorem w_713 : am_cw (am_mi 79) ∈ lw_tbl := am_tb (i := 713) rfl
theorem w_710 : Cond.methodLink "SmokeRelayLaw" 36 (am_mi 79).1 ∈ lw_tbl := am_tb (i := 710) (by decide +kernel)
theorem w_711 : Cond.instanceMethod (am_mi 79).1 ∈ lw_tbl := am_tb (i := 711) (by decide +kernel)
theorem w_712 : Cond.selects (am_mi 79).1.cls (am_mi 79).1 (am_mi 79).1 ∈ lw_tbl := am_tb (i := 712) (by decide +kernel)
set_option maxRecDepth 100000 in
theorem w_721 : am_cw (am_mi 81) ∈ lw_tbl := am_tb (i := 721) rfl
theorem w_718 : Cond.methodLink "SmokeRelayLaw" 39 (am_mi 81).1 ∈ lw_tbl := am_tb (i := 718) (by decide +kernel)
theorem w_719 : Cond.instanceMethod (am_mi 81).1 ∈ lw_tbl := am_tb (i := 719) (by decide +kernel)
theorem w_720 : Cond.selects (am_mi 81).1.cls (am_mi 81).1 (am_mi 81).1 ∈ lw_tbl := am_tb (i := 720) (by decide +kernel)
set_option maxRecDepth 100000 in
theorem w_744 : am_cw (am_mi 83) ∈ lw_tbl := am_tb (i := 744) rfl
theorem w_741 : Cond.methodLink "SmokeRelayLaw" 44 (am_mi 83).1 ∈ lw_tbl := am_tb (i := 741) (by decide +kernel)
theorem w_742 : Cond.instanceMethod (am_mi 83).1 ∈ lw_tbl := am_tb (i := 742) (by decide +kernel)
theorem w_743 : Cond.selects (am_mi 83).1.cls (am_mi 83).1 (am_mi 83).1 ∈ lw_tbl := am_tb (i := 743) (by decide +kernel)
set_option maxRecDepth 100000 in
theorem w_748 : am_cw (am_mi 84) ∈ lw_tbl := am_tb (i := 748) rfl
theorem w_745 : Cond.methodLink "SmokeRelay" 162 (am_mi 84).1 ∈ lw_tbl := am_tb (i := 745) (by decide +kernel)
theorem w_746 : Cond.instanceMethod (am_mi 84).1 ∈ lw_tbl := am_tb (i := 746) (by decide +kernel)
theorem w_747 : Cond.selects (am_mi 84).1.cls (am_mi 84).1 (am_mi 84).1 ∈ lw_tbl := am_tb (i := 747) (by decide +kernel)
set_option maxRecDepth 100000 in
theorem w_752 : am_cw (am_mi 85) ∈ lw_tbl := am_tb (i := 752) rfl
theorem w_749 : Cond.methodLink "SmokeRelay$Row" 49 (am_mi 85).1 ∈ lw_tbl := am_tb (i := 749) (by decide +kernel)
theorem w_751 : Cond.instanceMethod (am_mi 85).1 ∈ lw_tbl := am_tb (i := 751) (by decide +kernel)
theorem ws_85 : Cond.selects (am_mi 85).1.cls (am_mi 85).1 (am_mi 85).1 ∈ lw_tbl := List.mem_append_left _ (List.mem_of_getElem? (i := 18) (by decide +kernel))
theorem w_753 : Cond.methodLink "SmokeRelay$Row" 53 (am_mi 18).1 ∈ lw_tbl := am_tb (i := 753) (by decide +kernel)
set_option maxRecDepth 100000 in
theorem w_761 : am_cw (am_mi 87) ∈ lw_tbl := am_tb (i := 761) rfl
theorem w_758 : Cond.methodLink "SmokeRelayLaw" 47 (am_mi 87).1 ∈ lw_tbl := am_tb (i := 758) (by decide +kernel)
theorem w_759 : Cond.instanceMethod (am_mi 87).1 ∈ lw_tbl := am_tb (i := 759) (by decide +kernel)
theorem w_760 : Cond.selects (am_mi 87).1.cls (am_mi 87).1 (am_mi 87).1 ∈ lw_tbl := am_tb (i := 760) (by decide +kernel)
set_option maxRecDepth 100000 in
theorem w_765 : am_cw (am_mi 88) ∈ lw_tbl := am_tb (i := 765) rfl
theorem w_762 : Cond.methodLink "SmokeRelay" 167 (am_mi 88).1 ∈ lw_tbl := am_tb (i := 762) (by decide +kernel)
theorem w_764 : Cond.instanceMethod (am_mi 88).1 ∈ lw_tbl := am_tb (i := 764) (by decide +kernel)
theorem ws_88 : Cond.selects (am_mi 88).1.cls (am_mi 88).1 (am_mi 88).1 ∈ lw_tbl := List.mem_append_left _ (List.mem_of_getElem? (i := 19) (by decide +kernel))
theorem w_766 : Cond.methodLink "SmokeRelay" 171 (am_mi 28).1 ∈ lw_tbl := am_tb (i := 766) (by decide +kernel)
set_option maxRecDepth 100000 in
theorem w_773 : am_cw (am_mi 90) ∈ lw_tbl := am_tb (i := 773) rfl
theorem w_770 : Cond.methodLink "SmokeRelayLaw" 51 (am_mi 90).1 ∈ lw_tbl := am_tb (i := 770) (by decide +kernel)
theorem w_771 : Cond.instanceMethod (am_mi 90).1 ∈ lw_tbl := am_tb (i := 771) (by decide +kernel)
theorem w_772 : Cond.selects (am_mi 90).1.cls (am_mi 90).1 (am_mi 90).1 ∈ lw_tbl := am_tb (i := 772) (by decide +kernel)
theorem w_774 : Cond.methodLink "SmokeRelay" 174 (am_mi 43).1 ∈ lw_tbl := am_tb (i := 774) (by decide +kernel)
set_option maxRecDepth 100000 in
theorem w_781 : am_cw (am_mi 92) ∈ lw_tbl := am_tb (i := 781) rfl
theorem w_778 : Cond.methodLink "SmokeRelayLaw" 54 (am_mi 92).1 ∈ lw_tbl := am_tb (i := 778) (by decide +kernel)
theorem w_779 : Cond.instanceMethod (am_mi 92).1 ∈ lw_tbl := am_tb (i := 779) (by decide +kernel)
theorem w_780 : Cond.selects (am_mi 92).1.cls (am_mi 92).1 (am_mi 92).1 ∈ lw_tbl := am_tb (i := 780) (by decide +kernel)
theorem w_782 : Cond.methodLink "SmokeRelay" 177 (am_mi 17).1 ∈ lw_tbl := am_tb (i := 782) (by decide +kernel)
set_option maxRecDepth 100000 in
theorem w_789 : am_cw (am_mi 94) ∈ lw_tbl := am_tb (i := 789) rfl
theorem w_786 : Cond.methodLink "SmokeRelayLaw" 57 (am_mi 94).1 ∈ lw_tbl := am_tb (i := 786) (by decide +kernel)
theorem w_787 : Cond.instanceMethod (am_mi 94).1 ∈ lw_tbl := am_tb (i := 787) (by decide +kernel)
theorem w_788 : Cond.selects (am_mi 94).1.cls (am_mi 94).1 (am_mi 94).1 ∈ lw_tbl := am_tb (i := 788) (by decide +kernel)
theorem w_790 : Cond.methodLink "SmokeRelay" 180 (am_mi 16).1 ∈ lw_tbl := am_tb (i := 790) (by decide +kernel)
theorem w_791 : Cond.methodLink "SmokeRelay" 183 (am_mi 8).1 ∈ lw_tbl := am_tb (i := 791) (by decide +kernel)
set_option maxRecDepth 100000 in
theorem w_798 : am_cw (am_mi 96) ∈ lw_tbl := am_tb (i := 798) rfl
theorem w_795 : Cond.methodLink "SmokeRelayLaw" 60 (am_mi 96).1 ∈ lw_tbl := am_tb (i := 795) (by decide +kernel)
theorem w_796 : Cond.instanceMethod (am_mi 96).1 ∈ lw_tbl := am_tb (i := 796) (by decide +kernel)
theorem w_797 : Cond.selects (am_mi 96).1.cls (am_mi 96).1 (am_mi 96).1 ∈ lw_tbl := am_tb (i := 797) (by decide +kernel)
set_option maxRecDepth 100000 in
theorem w_805 : am_cw (am_mi 98) ∈ lw_tbl := am_tb (i := 805) rfl
theorem w_802 : Cond.methodLink "SmokeRelayLaw" 63 (am_mi 98).1 ∈ lw_tbl := am_tb (i := 802) (by decide +kernel)
theorem w_803 : Cond.instanceMethod (am_mi 98).1 ∈ lw_tbl := am_tb (i := 803) (by decide +kernel)
theorem w_804 : Cond.selects (am_mi 98).1.cls (am_mi 98).1 (am_mi 98).1 ∈ lw_tbl := am_tb (i := 804) (by decide +kernel)
set_option maxRecDepth 100000 in
theorem w_808 : am_cw (am_mi 99) ∈ lw_tbl := am_tb (i := 808) rfl
theorem w_806 : Cond.methodLink "SmokeRelay" 195 (am_mi 99).1 ∈ lw_tbl := am_tb (i := 806) (by decide +kernel)
theorem w_807 : Cond.static (am_mi 99).1 ∈ lw_tbl := am_tb (i := 807) (by decide +kernel)
set_option maxRecDepth 100000 in
theorem w_816 : am_cw (am_mi 101) ∈ lw_tbl := am_tb (i := 816) rfl
theorem w_813 : Cond.methodLink "SmokeRelayLaw" 66 (am_mi 101).1 ∈ lw_tbl := am_tb (i := 813) (by decide +kernel)
theorem w_814 : Cond.instanceMethod (am_mi 101).1 ∈ lw_tbl := am_tb (i := 814) (by decide +kernel)
theorem w_815 : Cond.selects (am_mi 101).1.cls (am_mi 101).1 (am_mi 101).1 ∈ lw_tbl := am_tb (i := 815) (by decide +kernel)
theorem w_818 : Cond.methodLink "SmokeRelay" 205 (am_mi 29).1 ∈ lw_tbl := am_tb (i := 818) (by decide +kernel)
set_option maxRecDepth 100000 in
theorem w_825 : am_cw (am_mi 103) ∈ lw_tbl := am_tb (i := 825) rfl
theorem w_822 : Cond.methodLink "SmokeRelayLaw" 69 (am_mi 103).1 ∈ lw_tbl := am_tb (i := 822) (by decide +kernel)
theorem w_823 : Cond.instanceMethod (am_mi 103).1 ∈ lw_tbl := am_tb (i := 823) (by decide +kernel)
theorem w_824 : Cond.selects (am_mi 103).1.cls (am_mi 103).1 (am_mi 103).1 ∈ lw_tbl := am_tb (i := 824) (by decide +kernel)
set_option maxRecDepth 100000 in
theorem w_829 : am_cw (am_mi 104) ∈ lw_tbl := am_tb (i := 829) rfl
theorem w_826 : Cond.methodLink "SmokeRelay" 209 (am_mi 104).1 ∈ lw_tbl := am_tb (i := 826) (by decide +kernel)
theorem w_828 : Cond.instanceMethod (am_mi 104).1 ∈ lw_tbl := am_tb (i := 828) (by decide +kernel)
theorem ws_104 : Cond.selects (am_mi 104).1.cls (am_mi 104).1 (am_mi 104).1 ∈ lw_tbl := List.mem_append_left _ (List.mem_of_getElem? (i := 20) (by decide +kernel))
theorem w_143 : Cond.fieldLink "SmokeRelay" 212 (am_T4 7).1 (am_T4 7).2.1 (am_T4 7).2.2.1 ∈ lw_tbl := am_tb (i := 143) (by decide +kernel)
set_option maxRecDepth 100000 in
theorem w_833 : am_cw (am_mi 105) ∈ lw_tbl := am_tb (i := 833) rfl
theorem w_830 : Cond.methodLink "SmokeRelay" 269 (am_mi 105).1 ∈ lw_tbl := am_tb (i := 830) (by decide +kernel)
theorem w_831 : Cond.instanceMethod (am_mi 105).1 ∈ lw_tbl := am_tb (i := 831) (by decide +kernel)
theorem w_832 : Cond.selects (am_mi 105).1.cls (am_mi 105).1 (am_mi 105).1 ∈ lw_tbl := am_tb (i := 832) (by decide +kernel)
set_option maxRecDepth 100000 in
theorem w_837 : am_cw (am_mi 106) ∈ lw_tbl := am_tb (i := 837) rfl
theorem w_834 : Cond.methodLink "SmokeRelay$Relays" 75 (am_mi 106).1 ∈ lw_tbl := am_tb (i := 834) (by decide +kernel)
theorem w_836 : Cond.instanceMethod (am_mi 106).1 ∈ lw_tbl := am_tb (i := 836) (by decide +kernel)
theorem ws_106 : Cond.selects (am_mi 106).1.cls (am_mi 106).1 (am_mi 106).1 ∈ lw_tbl := List.mem_append_left _ (List.mem_of_getElem? (i := 21) (by decide +kernel))
set_option maxRecDepth 100000 in
theorem w_845 : am_cw (am_mi 108) ∈ lw_tbl := am_tb (i := 845) rfl
theorem w_842 : Cond.methodLink "SmokeRelayLaw" 72 (am_mi 108).1 ∈ lw_tbl := am_tb (i := 842) (by decide +kernel)
theorem w_843 : Cond.instanceMethod (am_mi 108).1 ∈ lw_tbl := am_tb (i := 843) (by decide +kernel)
theorem w_844 : Cond.selects (am_mi 108).1.cls (am_mi 108).1 (am_mi 108).1 ∈ lw_tbl := am_tb (i := 844) (by decide +kernel)
set_option maxRecDepth 100000 in
theorem w_849 : am_cw (am_mi 109) ∈ lw_tbl := am_tb (i := 849) rfl
theorem w_846 : Cond.methodLink "SmokeRelay" 215 (am_mi 109).1 ∈ lw_tbl := am_tb (i := 846) (by decide +kernel)
theorem w_847 : Cond.instanceMethod (am_mi 109).1 ∈ lw_tbl := am_tb (i := 847) (by decide +kernel)
theorem w_848 : Cond.selects (am_mi 109).1.cls (am_mi 109).1 (am_mi 109).1 ∈ lw_tbl := am_tb (i := 848) (by decide +kernel)
set_option maxRecDepth 100000 in
theorem w_856 : am_cw (am_mi 111) ∈ lw_tbl := am_tb (i := 856) rfl
theorem w_853 : Cond.methodLink "SmokeRelayLaw" 75 (am_mi 111).1 ∈ lw_tbl := am_tb (i := 853) (by decide +kernel)
theorem w_854 : Cond.instanceMethod (am_mi 111).1 ∈ lw_tbl := am_tb (i := 854) (by decide +kernel)
theorem w_855 : Cond.selects (am_mi 111).1.cls (am_mi 111).1 (am_mi 111).1 ∈ lw_tbl := am_tb (i := 855) (by decide +kernel)
theorem w_141 : Cond.fieldLink "SmokeRelay" 220 (am_T4 6).1 (am_T4 6).2.1 (am_T4 6).2.2.1 ∈ lw_tbl := am_tb (i := 141) (by decide +kernel)
set_option maxRecDepth 100000 in
theorem w_863 : am_cw (am_mi 113) ∈ lw_tbl := am_tb (i := 863) rfl
theorem w_860 : Cond.methodLink "SmokeRelayLaw" 78 (am_mi 113).1 ∈ lw_tbl := am_tb (i := 860) (by decide +kernel)
theorem w_861 : Cond.instanceMethod (am_mi 113).1 ∈ lw_tbl := am_tb (i := 861) (by decide +kernel)
theorem w_862 : Cond.selects (am_mi 113).1.cls (am_mi 113).1 (am_mi 113).1 ∈ lw_tbl := am_tb (i := 862) (by decide +kernel)
theorem w_139 : Cond.fieldLink "SmokeRelay" 225 (am_T4 5).1 (am_T4 5).2.1 (am_T4 5).2.2.1 ∈ lw_tbl := am_tb (i := 139) (by decide +kernel)
set_option maxRecDepth 100000 in
theorem w_871 : am_cw (am_mi 115) ∈ lw_tbl := am_tb (i := 871) rfl
theorem w_868 : Cond.methodLink "SmokeRelayLaw" 81 (am_mi 115).1 ∈ lw_tbl := am_tb (i := 868) (by decide +kernel)
theorem w_869 : Cond.instanceMethod (am_mi 115).1 ∈ lw_tbl := am_tb (i := 869) (by decide +kernel)
theorem w_870 : Cond.selects (am_mi 115).1.cls (am_mi 115).1 (am_mi 115).1 ∈ lw_tbl := am_tb (i := 870) (by decide +kernel)
set_option maxRecDepth 100000 in
theorem w_874 : am_cw (am_mi 116) ∈ lw_tbl := am_tb (i := 874) rfl
theorem w_872 : Cond.methodLink "SmokeRelay" 231 (am_mi 116).1 ∈ lw_tbl := am_tb (i := 872) (by decide +kernel)
theorem w_873 : Cond.static (am_mi 116).1 ∈ lw_tbl := am_tb (i := 873) (by decide +kernel)
set_option maxRecDepth 100000 in
theorem w_879 : am_cw (am_mi 117) ∈ lw_tbl := am_tb (i := 879) rfl
theorem w_876 : Cond.methodLink "SmokeRelay" 235 (am_mi 117).1 ∈ lw_tbl := am_tb (i := 876) (by decide +kernel)
theorem w_877 : Cond.instanceMethod (am_mi 117).1 ∈ lw_tbl := am_tb (i := 877) (by decide +kernel)
theorem w_878 : Cond.selects (am_mi 117).1.cls (am_mi 117).1 (am_mi 117).1 ∈ lw_tbl := am_tb (i := 878) (by decide +kernel)
set_option maxRecDepth 100000 in
theorem w_886 : am_cw (am_mi 119) ∈ lw_tbl := am_tb (i := 886) rfl
theorem w_883 : Cond.methodLink "SmokeRelayLaw" 85 (am_mi 119).1 ∈ lw_tbl := am_tb (i := 883) (by decide +kernel)
theorem w_884 : Cond.instanceMethod (am_mi 119).1 ∈ lw_tbl := am_tb (i := 884) (by decide +kernel)
theorem w_885 : Cond.selects (am_mi 119).1.cls (am_mi 119).1 (am_mi 119).1 ∈ lw_tbl := am_tb (i := 885) (by decide +kernel)
set_option maxRecDepth 100000 in
theorem w_889 : am_cw (am_mi 120) ∈ lw_tbl := am_tb (i := 889) rfl
theorem w_887 : Cond.methodLink "SmokeRelay" 239 (am_mi 120).1 ∈ lw_tbl := am_tb (i := 887) (by decide +kernel)
theorem w_888 : Cond.static (am_mi 120).1 ∈ lw_tbl := am_tb (i := 888) (by decide +kernel)
theorem w_891 : Cond.methodLink "SmokeRelay" 242 (am_mi 50).1 ∈ lw_tbl := am_tb (i := 891) (by decide +kernel)
set_option maxRecDepth 100000 in
theorem w_899 : am_cw (am_mi 122) ∈ lw_tbl := am_tb (i := 899) rfl
theorem w_896 : Cond.methodLink "SmokeRelayLaw" 89 (am_mi 122).1 ∈ lw_tbl := am_tb (i := 896) (by decide +kernel)
theorem w_897 : Cond.instanceMethod (am_mi 122).1 ∈ lw_tbl := am_tb (i := 897) (by decide +kernel)
theorem w_898 : Cond.selects (am_mi 122).1.cls (am_mi 122).1 (am_mi 122).1 ∈ lw_tbl := am_tb (i := 898) (by decide +kernel)
theorem w_900 : Cond.methodLink "SmokeRelay" 247 (am_mi 51).1 ∈ lw_tbl := am_tb (i := 900) (by decide +kernel)
set_option maxRecDepth 100000 in
theorem w_907 : am_cw (am_mi 124) ∈ lw_tbl := am_tb (i := 907) rfl
theorem w_904 : Cond.methodLink "SmokeRelayLaw" 92 (am_mi 124).1 ∈ lw_tbl := am_tb (i := 904) (by decide +kernel)
theorem w_905 : Cond.instanceMethod (am_mi 124).1 ∈ lw_tbl := am_tb (i := 905) (by decide +kernel)
theorem w_906 : Cond.selects (am_mi 124).1.cls (am_mi 124).1 (am_mi 124).1 ∈ lw_tbl := am_tb (i := 906) (by decide +kernel)
set_option maxRecDepth 100000 in
theorem w_911 : am_cw (am_mi 125) ∈ lw_tbl := am_tb (i := 911) rfl
theorem w_908 : Cond.methodLink "SmokeRelay" 250 (am_mi 125).1 ∈ lw_tbl := am_tb (i := 908) (by decide +kernel)
theorem w_909 : Cond.instanceMethod (am_mi 125).1 ∈ lw_tbl := am_tb (i := 909) (by decide +kernel)
theorem w_910 : Cond.selects (am_mi 125).1.cls (am_mi 125).1 (am_mi 125).1 ∈ lw_tbl := am_tb (i := 910) (by decide +kernel)
theorem w_912 : Cond.methodLink "SmokeRelay$Smokes" 27 Lib.Math.min.name ∈ lw_tbl := am_tb (i := 912) (by decide +kernel)
set_option maxRecDepth 100000 in
theorem w_919 : am_cw (am_mi 127) ∈ lw_tbl := am_tb (i := 919) rfl
theorem w_916 : Cond.methodLink "SmokeRelayLaw" 95 (am_mi 127).1 ∈ lw_tbl := am_tb (i := 916) (by decide +kernel)
theorem w_917 : Cond.instanceMethod (am_mi 127).1 ∈ lw_tbl := am_tb (i := 917) (by decide +kernel)
theorem w_918 : Cond.selects (am_mi 127).1.cls (am_mi 127).1 (am_mi 127).1 ∈ lw_tbl := am_tb (i := 918) (by decide +kernel)
set_option maxRecDepth 100000 in
theorem w_923 : am_cw (am_mi 128) ∈ lw_tbl := am_tb (i := 923) rfl
theorem w_920 : Cond.methodLink "SmokeRelay" 253 (am_mi 128).1 ∈ lw_tbl := am_tb (i := 920) (by decide +kernel)
theorem w_922 : Cond.instanceMethod (am_mi 128).1 ∈ lw_tbl := am_tb (i := 922) (by decide +kernel)
theorem ws_128 : Cond.selects (am_mi 128).1.cls (am_mi 128).1 (am_mi 128).1 ∈ lw_tbl := List.mem_append_left _ (List.mem_of_getElem? (i := 22) (by decide +kernel))
theorem w_56 : Cond.fieldLink "SmokeRelay" 275 (am_T1 4).1 (am_T1 4).2.1 (am_T1 4).2.2.1 ∈ lw_tbl := am_tb (i := 56) (by decide +kernel)
set_option maxRecDepth 100000 in
theorem w_926 : am_cw (am_mi 129) ∈ lw_tbl := am_tb (i := 926) rfl
theorem w_924 : Cond.methodLink "SmokeRelay" 384 (am_mi 129).1 ∈ lw_tbl := am_tb (i := 924) (by decide +kernel)
theorem w_925 : Cond.static (am_mi 129).1 ∈ lw_tbl := am_tb (i := 925) (by decide +kernel)
set_option maxRecDepth 100000 in
theorem w_934 : am_cw (am_mi 131) ∈ lw_tbl := am_tb (i := 934) rfl
theorem w_931 : Cond.methodLink "SmokeRelayLaw" 99 (am_mi 131).1 ∈ lw_tbl := am_tb (i := 931) (by decide +kernel)
theorem w_932 : Cond.instanceMethod (am_mi 131).1 ∈ lw_tbl := am_tb (i := 932) (by decide +kernel)
theorem w_933 : Cond.selects (am_mi 131).1.cls (am_mi 131).1 (am_mi 131).1 ∈ lw_tbl := am_tb (i := 933) (by decide +kernel)
set_option maxRecDepth 100000 in
theorem w_938 : am_cw (am_mi 132) ∈ lw_tbl := am_tb (i := 938) rfl
theorem w_935 : Cond.methodLink "SmokeRelay" 260 (am_mi 132).1 ∈ lw_tbl := am_tb (i := 935) (by decide +kernel)
theorem w_937 : Cond.instanceMethod (am_mi 132).1 ∈ lw_tbl := am_tb (i := 937) (by decide +kernel)
theorem ws_132 : Cond.selects (am_mi 132).1.cls (am_mi 132).1 (am_mi 132).1 ∈ lw_tbl := List.mem_append_left _ (List.mem_of_getElem? (i := 23) (by decide +kernel))
set_option maxRecDepth 100000 in
theorem w_942 : am_cw (am_mi 133) ∈ lw_tbl := am_tb (i := 942) rfl
theorem w_939 : Cond.methodLink "SmokeRelay" 387 (am_mi 133).1 ∈ lw_tbl := am_tb (i := 939) (by decide +kernel)
theorem w_941 : Cond.instanceMethod (am_mi 133).1 ∈ lw_tbl := am_tb (i := 941) (by decide +kernel)
theorem ws_133 : Cond.selects (am_mi 133).1.cls (am_mi 133).1 (am_mi 133).1 ∈ lw_tbl := List.mem_append_left _ (List.mem_of_getElem? (i := 24) (by decide +kernel))
set_option maxRecDepth 100000 in
theorem w_946 : am_cw (am_mi 134) ∈ lw_tbl := am_tb (i := 946) rfl
theorem w_943 : Cond.methodLink "SmokeRelay" 272 (am_mi 134).1 ∈ lw_tbl := am_tb (i := 943) (by decide +kernel)
theorem w_945 : Cond.instanceMethod (am_mi 134).1 ∈ lw_tbl := am_tb (i := 945) (by decide +kernel)
theorem ws_134 : Cond.selects (am_mi 134).1.cls (am_mi 134).1 (am_mi 134).1 ∈ lw_tbl := List.mem_append_left _ (List.mem_of_getElem? (i := 25) (by decide +kernel))
set_option maxRecDepth 100000 in
theorem w_950 : am_cw (am_mi 135) ∈ lw_tbl := am_tb (i := 950) rfl
theorem w_947 : Cond.methodLink "SmokeRelay" 390 (am_mi 135).1 ∈ lw_tbl := am_tb (i := 947) (by decide +kernel)
theorem w_949 : Cond.instanceMethod (am_mi 135).1 ∈ lw_tbl := am_tb (i := 949) (by decide +kernel)
theorem ws_135 : Cond.selects (am_mi 135).1.cls (am_mi 135).1 (am_mi 135).1 ∈ lw_tbl := List.mem_append_left _ (List.mem_of_getElem? (i := 26) (by decide +kernel))
set_option maxRecDepth 100000 in
theorem w_954 : am_cw (am_mi 136) ∈ lw_tbl := am_tb (i := 954) rfl
theorem w_951 : Cond.methodLink "SmokeRelay" 393 (am_mi 136).1 ∈ lw_tbl := am_tb (i := 951) (by decide +kernel)
theorem w_952 : Cond.instanceMethod (am_mi 136).1 ∈ lw_tbl := am_tb (i := 952) (by decide +kernel)
theorem w_953 : Cond.selects (am_mi 136).1.cls (am_mi 136).1 (am_mi 136).1 ∈ lw_tbl := am_tb (i := 953) (by decide +kernel)
theorem w_62 : Cond.fieldLink "SmokeRelay" 287 (am_T1 7).1 (am_T1 7).2.1 (am_T1 7).2.2.1 ∈ lw_tbl := am_tb (i := 62) (by decide +kernel)
set_option maxRecDepth 100000 in
theorem w_977 : am_cw (am_mi 138) ∈ lw_tbl := am_tb (i := 977) rfl
theorem w_974 : Cond.methodLink "SmokeRelayLaw" 105 (am_mi 138).1 ∈ lw_tbl := am_tb (i := 974) (by decide +kernel)
theorem w_975 : Cond.instanceMethod (am_mi 138).1 ∈ lw_tbl := am_tb (i := 975) (by decide +kernel)
theorem w_976 : Cond.selects (am_mi 138).1.cls (am_mi 138).1 (am_mi 138).1 ∈ lw_tbl := am_tb (i := 976) (by decide +kernel)
set_option maxRecDepth 100000 in
theorem w_984 : am_cw (am_mi 140) ∈ lw_tbl := am_tb (i := 984) rfl
theorem w_981 : Cond.methodLink "SmokeRelayLaw" 109 (am_mi 140).1 ∈ lw_tbl := am_tb (i := 981) (by decide +kernel)
theorem w_982 : Cond.instanceMethod (am_mi 140).1 ∈ lw_tbl := am_tb (i := 982) (by decide +kernel)
theorem w_983 : Cond.selects (am_mi 140).1.cls (am_mi 140).1 (am_mi 140).1 ∈ lw_tbl := am_tb (i := 983) (by decide +kernel)
set_option maxRecDepth 100000 in
theorem w_991 : am_cw (am_mi 142) ∈ lw_tbl := am_tb (i := 991) rfl
theorem w_988 : Cond.methodLink "SmokeRelayLaw" 112 (am_mi 142).1 ∈ lw_tbl := am_tb (i := 988) (by decide +kernel)
theorem w_989 : Cond.instanceMethod (am_mi 142).1 ∈ lw_tbl := am_tb (i := 989) (by decide +kernel)
theorem w_990 : Cond.selects (am_mi 142).1.cls (am_mi 142).1 (am_mi 142).1 ∈ lw_tbl := am_tb (i := 990) (by decide +kernel)
theorem w_58 : Cond.fieldLink "SmokeRelay" 278 (am_T1 5).1 (am_T1 5).2.1 (am_T1 5).2.2.1 ∈ lw_tbl := am_tb (i := 58) (by decide +kernel)
set_option maxRecDepth 100000 in
theorem w_998 : am_cw (am_mi 144) ∈ lw_tbl := am_tb (i := 998) rfl
theorem w_995 : Cond.methodLink "SmokeRelayLaw" 115 (am_mi 144).1 ∈ lw_tbl := am_tb (i := 995) (by decide +kernel)
theorem w_996 : Cond.instanceMethod (am_mi 144).1 ∈ lw_tbl := am_tb (i := 996) (by decide +kernel)
theorem w_997 : Cond.selects (am_mi 144).1.cls (am_mi 144).1 (am_mi 144).1 ∈ lw_tbl := am_tb (i := 997) (by decide +kernel)
set_option maxRecDepth 100000 in
theorem w_1003 : am_cw (am_mi 145) ∈ lw_tbl := am_tb (i := 1003) rfl
theorem w_1000 : Cond.methodLink "SmokeRelay" 283 (am_mi 145).1 ∈ lw_tbl := am_tb (i := 1000) (by decide +kernel)
theorem w_1001 : Cond.instanceMethod (am_mi 145).1 ∈ lw_tbl := am_tb (i := 1001) (by decide +kernel)
theorem w_1002 : Cond.selects (am_mi 145).1.cls (am_mi 145).1 (am_mi 145).1 ∈ lw_tbl := am_tb (i := 1002) (by decide +kernel)
set_option maxRecDepth 100000 in
theorem w_1010 : am_cw (am_mi 147) ∈ lw_tbl := am_tb (i := 1010) rfl
theorem w_1007 : Cond.methodLink "SmokeRelayLaw" 119 (am_mi 147).1 ∈ lw_tbl := am_tb (i := 1007) (by decide +kernel)
theorem w_1008 : Cond.instanceMethod (am_mi 147).1 ∈ lw_tbl := am_tb (i := 1008) (by decide +kernel)
theorem w_1009 : Cond.selects (am_mi 147).1.cls (am_mi 147).1 (am_mi 147).1 ∈ lw_tbl := am_tb (i := 1009) (by decide +kernel)
set_option maxRecDepth 100000 in
theorem w_1017 : am_cw (am_mi 149) ∈ lw_tbl := am_tb (i := 1017) rfl
theorem w_1014 : Cond.methodLink "SmokeRelayLaw" 122 (am_mi 149).1 ∈ lw_tbl := am_tb (i := 1014) (by decide +kernel)
theorem w_1015 : Cond.instanceMethod (am_mi 149).1 ∈ lw_tbl := am_tb (i := 1015) (by decide +kernel)
theorem w_1016 : Cond.selects (am_mi 149).1.cls (am_mi 149).1 (am_mi 149).1 ∈ lw_tbl := am_tb (i := 1016) (by decide +kernel)
set_option maxRecDepth 100000 in
theorem w_1025 : am_cw (am_mi 151) ∈ lw_tbl := am_tb (i := 1025) rfl
theorem w_1022 : Cond.methodLink "SmokeRelayLaw" 126 (am_mi 151).1 ∈ lw_tbl := am_tb (i := 1022) (by decide +kernel)
theorem w_1023 : Cond.instanceMethod (am_mi 151).1 ∈ lw_tbl := am_tb (i := 1023) (by decide +kernel)
theorem w_1024 : Cond.selects (am_mi 151).1.cls (am_mi 151).1 (am_mi 151).1 ∈ lw_tbl := am_tb (i := 1024) (by decide +kernel)
set_option maxRecDepth 100000 in
theorem w_1046 : am_cw (am_mi 153) ∈ lw_tbl := am_tb (i := 1046) rfl
theorem w_1043 : Cond.methodLink "SmokeRelayLaw" 129 (am_mi 153).1 ∈ lw_tbl := am_tb (i := 1043) (by decide +kernel)
theorem w_1044 : Cond.instanceMethod (am_mi 153).1 ∈ lw_tbl := am_tb (i := 1044) (by decide +kernel)
theorem w_1045 : Cond.selects (am_mi 153).1.cls (am_mi 153).1 (am_mi 153).1 ∈ lw_tbl := am_tb (i := 1045) (by decide +kernel)
set_option maxRecDepth 100000 in
theorem w_1056 : am_cw (am_mi 155) ∈ lw_tbl := am_tb (i := 1056) rfl
theorem w_1053 : Cond.methodLink "SmokeRelayLaw" 135 (am_mi 155).1 ∈ lw_tbl := am_tb (i := 1053) (by decide +kernel)
theorem w_1054 : Cond.instanceMethod (am_mi 155).1 ∈ lw_tbl := am_tb (i := 1054) (by decide +kernel)
theorem w_1055 : Cond.selects (am_mi 155).1.cls (am_mi 155).1 (am_mi 155).1 ∈ lw_tbl := am_tb (i := 1055) (by decide +kernel)
set_option maxRecDepth 100000 in
theorem w_1063 : am_cw (am_mi 157) ∈ lw_tbl := am_tb (i := 1063) rfl
theorem w_1060 : Cond.methodLink "SmokeRelayLaw" 139 (am_mi 157).1 ∈ lw_tbl := am_tb (i := 1060) (by decide +kernel)
theorem w_1061 : Cond.instanceMethod (am_mi 157).1 ∈ lw_tbl := am_tb (i := 1061) (by decide +kernel)
theorem w_1062 : Cond.selects (am_mi 157).1.cls (am_mi 157).1 (am_mi 157).1 ∈ lw_tbl := am_tb (i := 1062) (by decide +kernel)
set_option maxRecDepth 100000 in
theorem w_1067 : am_cw (am_mi 158) ∈ lw_tbl := am_tb (i := 1067) rfl
theorem w_1064 : Cond.methodLink "SmokeRelay" 303 (am_mi 158).1 ∈ lw_tbl := am_tb (i := 1064) (by decide +kernel)
theorem w_1065 : Cond.instanceMethod (am_mi 158).1 ∈ lw_tbl := am_tb (i := 1065) (by decide +kernel)
theorem w_1066 : Cond.selects (am_mi 158).1.cls (am_mi 158).1 (am_mi 158).1 ∈ lw_tbl := am_tb (i := 1066) (by decide +kernel)
set_option maxRecDepth 100000 in
theorem w_1071 : am_cw (am_mi 159) ∈ lw_tbl := am_tb (i := 1071) rfl
theorem w_1068 : Cond.methodLink "SmokeRelay" 306 (am_mi 159).1 ∈ lw_tbl := am_tb (i := 1068) (by decide +kernel)
theorem w_1069 : Cond.instanceMethod (am_mi 159).1 ∈ lw_tbl := am_tb (i := 1069) (by decide +kernel)
theorem w_1070 : Cond.selects (am_mi 159).1.cls (am_mi 159).1 (am_mi 159).1 ∈ lw_tbl := am_tb (i := 1070) (by decide +kernel)
set_option maxRecDepth 100000 in
theorem w_1075 : am_cw (am_mi 160) ∈ lw_tbl := am_tb (i := 1075) rfl
theorem w_1076 : Cond.methodLink "SmokeRelay" 309 (am_mi 160).1 ∈ lw_tbl := am_tb (i := 1076) (by decide +kernel)
theorem w_1073 : Cond.instanceMethod (am_mi 160).1 ∈ lw_tbl := am_tb (i := 1073) (by decide +kernel)
theorem w_1074 : Cond.selects (am_mi 160).1.cls (am_mi 160).1 (am_mi 160).1 ∈ lw_tbl := am_tb (i := 1074) (by decide +kernel)
theorem w_52 : Cond.fieldLink "SmokeRelay" 312 (am_T1 2).1 (am_T1 2).2.1 (am_T1 2).2.2.1 ∈ lw_tbl := am_tb (i := 52) (by decide +kernel)
theorem w_254 : Cond.fieldLink "SmokeRelay" 315 (am_T8 1).1 (am_T8 1).2.1 (am_T8 1).2.2.1 ∈ lw_tbl := am_tb (i := 254) (by decide +kernel)
theorem w_1072 : Cond.methodLink "SmokeRelay$Output" 17 (am_mi 160).1 ∈ lw_tbl := am_tb (i := 1072) (by decide +kernel)
set_option maxRecDepth 100000 in
theorem w_1083 : am_cw (am_mi 162) ∈ lw_tbl := am_tb (i := 1083) rfl
theorem w_1080 : Cond.methodLink "SmokeRelayLaw" 142 (am_mi 162).1 ∈ lw_tbl := am_tb (i := 1080) (by decide +kernel)
theorem w_1081 : Cond.instanceMethod (am_mi 162).1 ∈ lw_tbl := am_tb (i := 1081) (by decide +kernel)
theorem w_1082 : Cond.selects (am_mi 162).1.cls (am_mi 162).1 (am_mi 162).1 ∈ lw_tbl := am_tb (i := 1082) (by decide +kernel)
set_option maxRecDepth 100000 in
theorem w_1090 : am_cw (am_mi 164) ∈ lw_tbl := am_tb (i := 1090) rfl
theorem w_1087 : Cond.methodLink "SmokeRelayLaw" 145 (am_mi 164).1 ∈ lw_tbl := am_tb (i := 1087) (by decide +kernel)
theorem w_1088 : Cond.instanceMethod (am_mi 164).1 ∈ lw_tbl := am_tb (i := 1088) (by decide +kernel)
theorem w_1089 : Cond.selects (am_mi 164).1.cls (am_mi 164).1 (am_mi 164).1 ∈ lw_tbl := am_tb (i := 1089) (by decide +kernel)
set_option maxRecDepth 100000 in
theorem w_1097 : am_cw (am_mi 166) ∈ lw_tbl := am_tb (i := 1097) rfl
theorem w_1094 : Cond.methodLink "SmokeRelayLaw" 148 (am_mi 166).1 ∈ lw_tbl := am_tb (i := 1094) (by decide +kernel)
theorem w_1095 : Cond.instanceMethod (am_mi 166).1 ∈ lw_tbl := am_tb (i := 1095) (by decide +kernel)
theorem w_1096 : Cond.selects (am_mi 166).1.cls (am_mi 166).1 (am_mi 166).1 ∈ lw_tbl := am_tb (i := 1096) (by decide +kernel)
theorem w_252 : Cond.fieldLink "SmokeRelay" 321 (am_T8 0).1 (am_T8 0).2.1 (am_T8 0).2.2.1 ∈ lw_tbl := am_tb (i := 252) (by decide +kernel)
set_option maxRecDepth 100000 in
theorem w_1105 : am_cw (am_mi 168) ∈ lw_tbl := am_tb (i := 1105) rfl
theorem w_1102 : Cond.methodLink "SmokeRelayLaw" 151 (am_mi 168).1 ∈ lw_tbl := am_tb (i := 1102) (by decide +kernel)
theorem w_1103 : Cond.instanceMethod (am_mi 168).1 ∈ lw_tbl := am_tb (i := 1103) (by decide +kernel)
theorem w_1104 : Cond.selects (am_mi 168).1.cls (am_mi 168).1 (am_mi 168).1 ∈ lw_tbl := am_tb (i := 1104) (by decide +kernel)
set_option maxRecDepth 100000 in
theorem w_1109 : am_cw (am_mi 169) ∈ lw_tbl := am_tb (i := 1109) rfl
theorem w_1106 : Cond.methodLink "SmokeRelay" 331 (am_mi 169).1 ∈ lw_tbl := am_tb (i := 1106) (by decide +kernel)
theorem w_1107 : Cond.instanceMethod (am_mi 169).1 ∈ lw_tbl := am_tb (i := 1107) (by decide +kernel)
theorem w_1108 : Cond.selects (am_mi 169).1.cls (am_mi 169).1 (am_mi 169).1 ∈ lw_tbl := am_tb (i := 1108) (by decide +kernel)
theorem w_224 : Cond.fieldLink "SmokeRelay" 336 (am_T7 4).1 (am_T7 4).2.1 (am_T7 4).2.2.1 ∈ lw_tbl := am_tb (i := 224) (by decide +kernel)
set_option maxRecDepth 100000 in
theorem w_1117 : am_cw (am_mi 171) ∈ lw_tbl := am_tb (i := 1117) rfl
theorem w_1114 : Cond.methodLink "SmokeRelayLaw" 154 (am_mi 171).1 ∈ lw_tbl := am_tb (i := 1114) (by decide +kernel)
theorem w_1115 : Cond.instanceMethod (am_mi 171).1 ∈ lw_tbl := am_tb (i := 1115) (by decide +kernel)
theorem w_1116 : Cond.selects (am_mi 171).1.cls (am_mi 171).1 (am_mi 171).1 ∈ lw_tbl := am_tb (i := 1116) (by decide +kernel)
set_option maxRecDepth 100000 in
theorem w_1121 : am_cw (am_mi 172) ∈ lw_tbl := am_tb (i := 1121) rfl
theorem w_1118 : Cond.methodLink "SmokeRelay" 337 (am_mi 172).1 ∈ lw_tbl := am_tb (i := 1118) (by decide +kernel)
theorem w_1119 : Cond.instanceMethod (am_mi 172).1 ∈ lw_tbl := am_tb (i := 1119) (by decide +kernel)
theorem w_1120 : Cond.selects (am_mi 172).1.cls (am_mi 172).1 (am_mi 172).1 ∈ lw_tbl := am_tb (i := 1120) (by decide +kernel)
set_option maxRecDepth 100000 in
theorem w_1215 : am_cw (am_mi 190) ∈ lw_tbl := am_tb (i := 1215) rfl
theorem w_1212 : Cond.methodLink "SmokeRelay" 340 (am_mi 190).1 ∈ lw_tbl := am_tb (i := 1212) (by decide +kernel)
theorem w_1213 : Cond.instanceMethod (am_mi 190).1 ∈ lw_tbl := am_tb (i := 1213) (by decide +kernel)
theorem w_1214 : Cond.selects (am_mi 190).1.cls (am_mi 190).1 (am_mi 190).1 ∈ lw_tbl := am_tb (i := 1214) (by decide +kernel)
theorem w_226 : Cond.fieldLink "SmokeRelay" 341 (am_T7 5).1 (am_T7 5).2.1 (am_T7 5).2.2.1 ∈ lw_tbl := am_tb (i := 226) (by decide +kernel)
theorem w_228 : Cond.fieldLink "SmokeRelay" 346 (am_T7 6).1 (am_T7 6).2.1 (am_T7 6).2.2.1 ∈ lw_tbl := am_tb (i := 228) (by decide +kernel)
set_option maxRecDepth 100000 in
theorem w_1220 : am_cw (am_mi 191) ∈ lw_tbl := am_tb (i := 1220) rfl
theorem w_1217 : Cond.methodLink "SmokeRelay" 349 (am_mi 191).1 ∈ lw_tbl := am_tb (i := 1217) (by decide +kernel)
theorem w_1219 : Cond.instanceMethod (am_mi 191).1 ∈ lw_tbl := am_tb (i := 1219) (by decide +kernel)
theorem ws_191 : Cond.selects (am_mi 191).1.cls (am_mi 191).1 (am_mi 191).1 ∈ lw_tbl := List.mem_append_left _ (List.mem_of_getElem? (i := 37) (by decide +kernel))
set_option maxRecDepth 100000 in
theorem w_1125 : am_cw (am_mi 173) ∈ lw_tbl := am_tb (i := 1125) rfl
theorem w_1122 : Cond.methodLink "SmokeRelay$Input" 38 (am_mi 173).1 ∈ lw_tbl := am_tb (i := 1122) (by decide +kernel)
theorem w_1124 : Cond.instanceMethod (am_mi 173).1 ∈ lw_tbl := am_tb (i := 1124) (by decide +kernel)
theorem ws_173 : Cond.selects (am_mi 173).1.cls (am_mi 173).1 (am_mi 173).1 ∈ lw_tbl := List.mem_append_left _ (List.mem_of_getElem? (i := 27) (by decide +kernel))
set_option maxRecDepth 100000 in
theorem w_1207 : am_cw (am_mi 188) ∈ lw_tbl := am_tb (i := 1207) rfl
theorem w_1204 : Cond.methodLink "SmokeRelay$Input" 42 (am_mi 188).1 ∈ lw_tbl := am_tb (i := 1204) (by decide +kernel)
theorem w_1206 : Cond.instanceMethod (am_mi 188).1 ∈ lw_tbl := am_tb (i := 1206) (by decide +kernel)
theorem ws_188 : Cond.selects (am_mi 188).1.cls (am_mi 188).1 (am_mi 188).1 ∈ lw_tbl := List.mem_append_left _ (List.mem_of_getElem? (i := 35) (by decide +kernel))
set_option maxRecDepth 100000 in
theorem w_1129 : am_cw (am_mi 174) ∈ lw_tbl := am_tb (i := 1129) rfl
theorem w_1126 : Cond.methodLink "SmokeRelay$Input" 46 (am_mi 174).1 ∈ lw_tbl := am_tb (i := 1126) (by decide +kernel)
theorem w_1128 : Cond.instanceMethod (am_mi 174).1 ∈ lw_tbl := am_tb (i := 1128) (by decide +kernel)
theorem ws_174 : Cond.selects (am_mi 174).1.cls (am_mi 174).1 (am_mi 174).1 ∈ lw_tbl := List.mem_append_left _ (List.mem_of_getElem? (i := 28) (by decide +kernel))
theorem w_1800 : Cond.fieldLink "SmokeRelay$Input" 50 (am_wF 90 1).1 (am_wF 90 1).2.1 (am_wF 90 1).2.2 ∈ lw_tbl := am_tb (i := 1800) (by decide +kernel)
set_option maxRecDepth 100000 in
theorem w_1179 : am_cw (am_mi 181) ∈ lw_tbl := am_tb (i := 1179) rfl
theorem w_21 : Cond.initialized "java/lang/String" ∈ lw_tbl := am_tb (i := 21) (by decide +kernel)
theorem w_1176 : Cond.methodLink "SmokeRelay$Input" 54 (am_mi 181).1 ∈ lw_tbl := am_tb (i := 1176) (by decide +kernel)
theorem w_1177 : Cond.instanceMethod (am_mi 181).1 ∈ lw_tbl := am_tb (i := 1177) (by decide +kernel)
theorem w_1178 : Cond.selects (am_mi 181).1.cls (am_mi 181).1 (am_mi 181).1 ∈ lw_tbl := am_tb (i := 1178) (by decide +kernel)
set_option maxRecDepth 100000 in
theorem w_1135 : am_cw (am_mi 175) ∈ lw_tbl := am_tb (i := 1135) rfl
theorem w_1132 : Cond.methodLink "SmokeRelay$Input" 59 (am_mi 175).1 ∈ lw_tbl := am_tb (i := 1132) (by decide +kernel)
theorem w_1133 : Cond.instanceMethod (am_mi 175).1 ∈ lw_tbl := am_tb (i := 1133) (by decide +kernel)
theorem w_1134 : Cond.selects (am_mi 175).1.cls (am_mi 175).1 (am_mi 175).1 ∈ lw_tbl := am_tb (i := 1134) (by decide +kernel)
set_option maxRecDepth 100000 in
theorem w_1187 : am_cw (am_mi 183) ∈ lw_tbl := am_tb (i := 1187) rfl
theorem w_1184 : Cond.methodLink "SmokeRelay$Input" 63 (am_mi 183).1 ∈ lw_tbl := am_tb (i := 1184) (by decide +kernel)
theorem w_1186 : Cond.instanceMethod (am_mi 183).1 ∈ lw_tbl := am_tb (i := 1186) (by decide +kernel)
theorem ws_183 : Cond.selects (am_mi 183).1.cls (am_mi 183).1 (am_mi 183).1 ∈ lw_tbl := List.mem_append_left _ (List.mem_of_getElem? (i := 30) (by decide +kernel))
theorem w_1130 : Cond.fieldLink "SmokeRelay$Input" 66 (am_st 0).1 (am_st 0).2.1 (am_st 0).2.2.1 ∈ lw_tbl := am_tb (i := 1130) (by decide +kernel)
set_option maxRecDepth 100000 in
theorem w_1175 : am_cw (am_mi 180) ∈ lw_tbl := am_tb (i := 1175) rfl
theorem w_1172 : Cond.methodLink "SmokeRelay$Input" 69 (am_mi 180).1 ∈ lw_tbl := am_tb (i := 1172) (by decide +kernel)
theorem w_1174 : Cond.instanceMethod (am_mi 180).1 ∈ lw_tbl := am_tb (i := 1174) (by decide +kernel)
theorem ws_180 : Cond.selects (am_mi 180).1.cls (am_mi 180).1 (am_mi 180).1 ∈ lw_tbl := List.mem_append_left _ (List.mem_of_getElem? (i := 29) (by decide +kernel))
set_option maxRecDepth 100000 in
theorem w_1139 : am_cw (am_mi 176) ∈ lw_tbl := am_tb (i := 1139) rfl
theorem w_1136 : Cond.methodLink "java/lang/String" 492 (am_mi 176).1 ∈ lw_tbl := am_tb (i := 1136) (by decide +kernel)
theorem w_1137 : Cond.instanceMethod (am_mi 176).1 ∈ lw_tbl := am_tb (i := 1137) (by decide +kernel)
theorem w_1138 : Cond.selects (am_mi 176).1.cls (am_mi 176).1 (am_mi 176).1 ∈ lw_tbl := am_tb (i := 1138) (by decide +kernel)
theorem w_1802 : Cond.fieldLink "java/lang/String" 9 (am_wF 91 0).1 (am_wF 91 0).2.1 (am_wF 91 0).2.2 ∈ lw_tbl := am_tb (i := 1802) (by decide +kernel)
set_option maxRecDepth 100000 in
theorem w_1144 : am_cw (am_mi 177) ∈ lw_tbl := am_tb (i := 1144) rfl
theorem w_26 : Cond.initialized "java/lang/StringLatin1" ∈ lw_tbl := am_tb (i := 26) (by decide +kernel)
theorem w_1142 : Cond.methodLink "java/lang/String" 495 (am_mi 177).1 ∈ lw_tbl := am_tb (i := 1142) (by decide +kernel)
theorem w_1143 : Cond.static (am_mi 177).1 ∈ lw_tbl := am_tb (i := 1143) (by decide +kernel)
theorem w_1140 : Cond.fieldLink "java/lang/String" 38 (am_st 2).1 (am_st 2).2.1 (am_st 2).2.2.1 ∈ lw_tbl := am_tb (i := 1140) (by decide +kernel)
theorem w_1801 : Cond.fieldLink "java/lang/String" 15 (am_wF 91 1).1 (am_wF 91 1).2.1 (am_wF 91 1).2.2 ∈ lw_tbl := am_tb (i := 1801) (by decide +kernel)
set_option maxRecDepth 100000 in
theorem w_1147 : am_cw (am_mi 178) ∈ lw_tbl := am_tb (i := 1147) rfl
theorem w_1145 : Cond.methodLink "java/lang/StringLatin1" 9 (am_mi 178).1 ∈ lw_tbl := am_tb (i := 1145) (by decide +kernel)
theorem w_1146 : Cond.static (am_mi 178).1 ∈ lw_tbl := am_tb (i := 1146) (by decide +kernel)
theorem w_1148 : Cond.fieldLink "java/lang/String" 1053 (am_st 3).1 (am_st 3).2.1 (am_st 3).2.2.1 ∈ lw_tbl := am_tb (i := 1148) (by decide +kernel)
set_option maxRecDepth 100000 in
theorem w_1152 : am_cw (am_mi 179) ∈ lw_tbl := am_tb (i := 1152) rfl
theorem w_27 : Cond.initialized "jdk/internal/util/Preconditions" ∈ lw_tbl := am_tb (i := 27) (by decide +kernel)
theorem w_1150 : Cond.methodLink "java/lang/String" 1059 (am_mi 179).1 ∈ lw_tbl := am_tb (i := 1150) (by decide +kernel)
theorem w_1151 : Cond.static (am_mi 179).1 ∈ lw_tbl := am_tb (i := 1151) (by decide +kernel)
set_option maxRecDepth 100000 in
theorem w_1183 : am_cw (am_mi 182) ∈ lw_tbl := am_tb (i := 1183) rfl
theorem w_1180 : Cond.methodLink "java/lang/String" 335 (am_mi 182).1 ∈ lw_tbl := am_tb (i := 1180) (by decide +kernel)
theorem w_1181 : Cond.instanceMethod (am_mi 182).1 ∈ lw_tbl := am_tb (i := 1181) (by decide +kernel)
theorem w_1182 : Cond.selects (am_mi 182).1.cls (am_mi 182).1 (am_mi 182).1 ∈ lw_tbl := am_tb (i := 1182) (by decide +kernel)
set_option maxRecDepth 100000 in
theorem w_1191 : am_cw (am_mi 184) ∈ lw_tbl := am_tb (i := 1191) rfl
theorem w_1188 : Cond.methodLink "SmokeRelay$Input" 72 (am_mi 184).1 ∈ lw_tbl := am_tb (i := 1188) (by decide +kernel)
theorem w_1190 : Cond.instanceMethod (am_mi 184).1 ∈ lw_tbl := am_tb (i := 1190) (by decide +kernel)
theorem ws_184 : Cond.selects (am_mi 184).1.cls (am_mi 184).1 (am_mi 184).1 ∈ lw_tbl := List.mem_append_left _ (List.mem_of_getElem? (i := 31) (by decide +kernel))
set_option maxRecDepth 100000 in
theorem w_1203 : am_cw (am_mi 187) ∈ lw_tbl := am_tb (i := 1203) rfl
theorem w_1200 : Cond.methodLink "SmokeRelay$Input" 75 (am_mi 187).1 ∈ lw_tbl := am_tb (i := 1200) (by decide +kernel)
theorem w_1202 : Cond.instanceMethod (am_mi 187).1 ∈ lw_tbl := am_tb (i := 1202) (by decide +kernel)
theorem ws_187 : Cond.selects (am_mi 187).1.cls (am_mi 187).1 (am_mi 187).1 ∈ lw_tbl := List.mem_append_left _ (List.mem_of_getElem? (i := 34) (by decide +kernel))
set_option maxRecDepth 100000 in
theorem w_1211 : am_cw (am_mi 189) ∈ lw_tbl := am_tb (i := 1211) rfl
theorem w_1208 : Cond.methodLink "SmokeRelay$Input" 79 (am_mi 189).1 ∈ lw_tbl := am_tb (i := 1208) (by decide +kernel)
theorem w_1210 : Cond.instanceMethod (am_mi 189).1 ∈ lw_tbl := am_tb (i := 1210) (by decide +kernel)
theorem ws_189 : Cond.selects (am_mi 189).1.cls (am_mi 189).1 (am_mi 189).1 ∈ lw_tbl := List.mem_append_left _ (List.mem_of_getElem? (i := 36) (by decide +kernel))
set_option maxRecDepth 100000 in
theorem w_1195 : am_cw (am_mi 185) ∈ lw_tbl := am_tb (i := 1195) rfl
theorem w_1192 : Cond.methodLink "SmokeRelay$Input" 82 (am_mi 185).1 ∈ lw_tbl := am_tb (i := 1192) (by decide +kernel)
theorem w_1194 : Cond.instanceMethod (am_mi 185).1 ∈ lw_tbl := am_tb (i := 1194) (by decide +kernel)
theorem ws_185 : Cond.selects (am_mi 185).1.cls (am_mi 185).1 (am_mi 185).1 ∈ lw_tbl := List.mem_append_left _ (List.mem_of_getElem? (i := 32) (by decide +kernel))
set_option maxRecDepth 100000 in
theorem w_1199 : am_cw (am_mi 186) ∈ lw_tbl := am_tb (i := 1199) rfl
theorem w_1196 : Cond.methodLink "SmokeRelay$Input" 86 (am_mi 186).1 ∈ lw_tbl := am_tb (i := 1196) (by decide +kernel)
theorem w_1198 : Cond.instanceMethod (am_mi 186).1 ∈ lw_tbl := am_tb (i := 1198) (by decide +kernel)
theorem ws_186 : Cond.selects (am_mi 186).1.cls (am_mi 186).1 (am_mi 186).1 ∈ lw_tbl := List.mem_append_left _ (List.mem_of_getElem? (i := 33) (by decide +kernel))
set_option maxRecDepth 100000 in
theorem w_1224 : am_cw (am_mi 192) ∈ lw_tbl := am_tb (i := 1224) rfl
theorem w_1221 : Cond.methodLink "SmokeRelay" 397 (am_mi 192).1 ∈ lw_tbl := am_tb (i := 1221) (by decide +kernel)
theorem w_1222 : Cond.instanceMethod (am_mi 192).1 ∈ lw_tbl := am_tb (i := 1222) (by decide +kernel)
theorem w_1223 : Cond.selects (am_mi 192).1.cls (am_mi 192).1 (am_mi 192).1 ∈ lw_tbl := am_tb (i := 1223) (by decide +kernel)
set_option maxRecDepth 100000 in
theorem w_1228 : am_cw (am_mi 193) ∈ lw_tbl := am_tb (i := 1228) rfl
theorem w_1225 : Cond.methodLink "SmokeRelay" 401 (am_mi 193).1 ∈ lw_tbl := am_tb (i := 1225) (by decide +kernel)
theorem w_1226 : Cond.instanceMethod (am_mi 193).1 ∈ lw_tbl := am_tb (i := 1226) (by decide +kernel)
theorem w_1227 : Cond.selects (am_mi 193).1.cls (am_mi 193).1 (am_mi 193).1 ∈ lw_tbl := am_tb (i := 1227) (by decide +kernel)
theorem w_1229 : Cond.fieldLink "SmokeRelay" 404 (am_st 1).1 (am_st 1).2.1 (am_st 1).2.2.1 ∈ lw_tbl := am_tb (i := 1229) (by decide +kernel)
theorem w_1231 : Cond.methodLink "SmokeRelay" 409 am_ordX ∈ lw_tbl := am_tb (i := 1231) (by decide +kernel)
theorem w_1232 : Cond.sameMethod "SmokeRelay$Kind" "java/lang/Enum" "ordinal" "()I" ∈ lw_tbl := am_tb (i := 1232) (by decide +kernel)
theorem w_1234 : Cond.selects "SmokeRelay$Kind" am_ordX am_ordY ∈ lw_tbl := am_tb (i := 1234) (by decide +kernel)
theorem w_1235 : Cond.instanceMethod am_ordY ∈ lw_tbl := am_tb (i := 1235) (by decide +kernel)
theorem w_1236 : Cond.code am_ordY prog_19_method_2_code 1 (some .int) ∈ lw_tbl := am_tb (i := 1236) (by decide +kernel)
theorem w_1803 : Cond.fieldLink "java/lang/Enum" 7 "java/lang/Enum" "ordinal" "I" ∈ lw_tbl := am_tb (i := 1803) (by decide +kernel)
set_option maxRecDepth 100000 in
theorem w_1240 : am_cw (am_mi 195) ∈ lw_tbl := am_tb (i := 1240) rfl
theorem w_1237 : Cond.methodLink "SmokeRelay" 414 (am_mi 195).1 ∈ lw_tbl := am_tb (i := 1237) (by decide +kernel)
theorem w_1239 : Cond.instanceMethod (am_mi 195).1 ∈ lw_tbl := am_tb (i := 1239) (by decide +kernel)
theorem ws_195 : Cond.selects (am_mi 195).1.cls (am_mi 195).1 (am_mi 195).1 ∈ lw_tbl := List.mem_append_left _ (List.mem_of_getElem? (i := 38) (by decide +kernel))
set_option maxRecDepth 100000 in
theorem w_1244 : am_cw (am_mi 196) ∈ lw_tbl := am_tb (i := 1244) rfl
theorem w_1241 : Cond.methodLink "SmokeRelay" 417 (am_mi 196).1 ∈ lw_tbl := am_tb (i := 1241) (by decide +kernel)
theorem w_1243 : Cond.instanceMethod (am_mi 196).1 ∈ lw_tbl := am_tb (i := 1243) (by decide +kernel)
theorem ws_196 : Cond.selects (am_mi 196).1.cls (am_mi 196).1 (am_mi 196).1 ∈ lw_tbl := List.mem_append_left _ (List.mem_of_getElem? (i := 39) (by decide +kernel))
set_option maxRecDepth 100000 in
theorem w_1248 : am_cw (am_mi 197) ∈ lw_tbl := am_tb (i := 1248) rfl
theorem w_1245 : Cond.methodLink "SmokeRelay" 420 (am_mi 197).1 ∈ lw_tbl := am_tb (i := 1245) (by decide +kernel)
theorem w_1247 : Cond.instanceMethod (am_mi 197).1 ∈ lw_tbl := am_tb (i := 1247) (by decide +kernel)
theorem ws_197 : Cond.selects (am_mi 197).1.cls (am_mi 197).1 (am_mi 197).1 ∈ lw_tbl := List.mem_append_left _ (List.mem_of_getElem? (i := 40) (by decide +kernel))
set_option maxRecDepth 100000 in
theorem w_1256 : am_cw (am_mi 199) ∈ lw_tbl := am_tb (i := 1256) rfl
theorem w_1253 : Cond.methodLink "SmokeRelayLaw" 157 (am_mi 199).1 ∈ lw_tbl := am_tb (i := 1253) (by decide +kernel)
theorem w_1254 : Cond.instanceMethod (am_mi 199).1 ∈ lw_tbl := am_tb (i := 1254) (by decide +kernel)
theorem w_1255 : Cond.selects (am_mi 199).1.cls (am_mi 199).1 (am_mi 199).1 ∈ lw_tbl := am_tb (i := 1255) (by decide +kernel)
set_option maxRecDepth 100000 in
theorem w_1264 : am_cw (am_mi 201) ∈ lw_tbl := am_tb (i := 1264) rfl
theorem w_1261 : Cond.methodLink "SmokeRelayLaw" 160 (am_mi 201).1 ∈ lw_tbl := am_tb (i := 1261) (by decide +kernel)
theorem w_1262 : Cond.instanceMethod (am_mi 201).1 ∈ lw_tbl := am_tb (i := 1262) (by decide +kernel)
theorem w_1263 : Cond.selects (am_mi 201).1.cls (am_mi 201).1 (am_mi 201).1 ∈ lw_tbl := am_tb (i := 1263) (by decide +kernel)
set_option maxRecDepth 100000 in
theorem w_1272 : am_cw (am_mi 203) ∈ lw_tbl := am_tb (i := 1272) rfl
theorem w_1269 : Cond.methodLink "SmokeRelayLaw" 163 (am_mi 203).1 ∈ lw_tbl := am_tb (i := 1269) (by decide +kernel)
theorem w_1270 : Cond.instanceMethod (am_mi 203).1 ∈ lw_tbl := am_tb (i := 1270) (by decide +kernel)
theorem w_1271 : Cond.selects (am_mi 203).1.cls (am_mi 203).1 (am_mi 203).1 ∈ lw_tbl := am_tb (i := 1271) (by decide +kernel)
set_option maxRecDepth 100000 in
theorem w_1276 : am_cw (am_mi 204) ∈ lw_tbl := am_tb (i := 1276) rfl
theorem w_1273 : Cond.methodLink "SmokeRelay" 358 (am_mi 204).1 ∈ lw_tbl := am_tb (i := 1273) (by decide +kernel)
theorem w_1274 : Cond.instanceMethod (am_mi 204).1 ∈ lw_tbl := am_tb (i := 1274) (by decide +kernel)
theorem w_1275 : Cond.selects (am_mi 204).1.cls (am_mi 204).1 (am_mi 204).1 ∈ lw_tbl := am_tb (i := 1275) (by decide +kernel)
set_option maxRecDepth 100000 in
theorem w_1284 : am_cw (am_mi 206) ∈ lw_tbl := am_tb (i := 1284) rfl
theorem w_1281 : Cond.methodLink "SmokeRelayLaw" 166 (am_mi 206).1 ∈ lw_tbl := am_tb (i := 1281) (by decide +kernel)
theorem w_1282 : Cond.instanceMethod (am_mi 206).1 ∈ lw_tbl := am_tb (i := 1282) (by decide +kernel)
theorem w_1283 : Cond.selects (am_mi 206).1.cls (am_mi 206).1 (am_mi 206).1 ∈ lw_tbl := am_tb (i := 1283) (by decide +kernel)
set_option maxRecDepth 100000 in
theorem w_1289 : am_cw (am_mi 207) ∈ lw_tbl := am_tb (i := 1289) rfl
theorem w_1286 : Cond.methodLink "SmokeRelay" 369 (am_mi 207).1 ∈ lw_tbl := am_tb (i := 1286) (by decide +kernel)
theorem w_1287 : Cond.instanceMethod (am_mi 207).1 ∈ lw_tbl := am_tb (i := 1287) (by decide +kernel)
theorem w_1288 : Cond.selects (am_mi 207).1.cls (am_mi 207).1 (am_mi 207).1 ∈ lw_tbl := am_tb (i := 1288) (by decide +kernel)
theorem w_1295 : Cond.methodLink "SmokeRelayModel" 3 Lib.objectInit ∈ lw_tbl := am_tb (i := 1295) (by decide +kernel)
theorem w_1296 : Cond.fieldLink "SmokeRelayModel" 9 (am_T9 0).1 (am_T9 0).2.1 (am_T9 0).2.2.1 ∈ lw_tbl := am_tb (i := 1296) (by decide +kernel)
theorem w_1297 : Cond.fieldLink "SmokeRelayModel" 13 (am_T9 1).1 (am_T9 1).2.1 (am_T9 1).2.2.1 ∈ lw_tbl := am_tb (i := 1297) (by decide +kernel)
theorem w_1298 : Cond.fieldLink "SmokeRelayModel" 16 (am_T9 2).1 (am_T9 2).2.1 (am_T9 2).2.2.1 ∈ lw_tbl := am_tb (i := 1298) (by decide +kernel)
theorem w_1300 : Cond.fieldLink "SmokeRelayModel" 19 (am_T9 4).1 (am_T9 4).2.1 (am_T9 4).2.2.1 ∈ lw_tbl := am_tb (i := 1300) (by decide +kernel)
theorem w_1305 : Cond.fieldLink "SmokeRelayModel" 22 (am_T9 9).1 (am_T9 9).2.1 (am_T9 9).2.2.1 ∈ lw_tbl := am_tb (i := 1305) (by decide +kernel)
theorem w_1306 : Cond.fieldLink "SmokeRelayModel" 25 (am_T9 10).1 (am_T9 10).2.1 (am_T9 10).2.2.1 ∈ lw_tbl := am_tb (i := 1306) (by decide +kernel)
theorem w_1309 : Cond.fieldLink "SmokeRelayModel" 28 (am_T9 13).1 (am_T9 13).2.1 (am_T9 13).2.2.1 ∈ lw_tbl := am_tb (i := 1309) (by decide +kernel)
theorem w_1310 : Cond.fieldLink "SmokeRelayModel" 31 (am_T9 14).1 (am_T9 14).2.1 (am_T9 14).2.2.1 ∈ lw_tbl := am_tb (i := 1310) (by decide +kernel)
theorem w_1312 : Cond.fieldLink "SmokeRelayModel" 35 (am_T9 16).1 (am_T9 16).2.1 (am_T9 16).2.2.1 ∈ lw_tbl := am_tb (i := 1312) (by decide +kernel)
theorem w_1316 : Cond.fieldLink "SmokeRelayModel" 38 (am_T9 20).1 (am_T9 20).2.1 (am_T9 20).2.2.1 ∈ lw_tbl := am_tb (i := 1316) (by decide +kernel)
theorem w_1317 : Cond.fieldLink "SmokeRelayModel" 42 (am_T9 21).1 (am_T9 21).2.1 (am_T9 21).2.2.1 ∈ lw_tbl := am_tb (i := 1317) (by decide +kernel)
theorem w_1318 : Cond.fieldLink "SmokeRelayModel" 45 (am_T9 22).1 (am_T9 22).2.1 (am_T9 22).2.2.1 ∈ lw_tbl := am_tb (i := 1318) (by decide +kernel)
theorem w_1302 : Cond.fieldLink "SmokeRelayModel" 48 (am_T9 6).1 (am_T9 6).2.1 (am_T9 6).2.2.1 ∈ lw_tbl := am_tb (i := 1302) (by decide +kernel)
set_option maxRecDepth 100000 in
theorem w_1380 : am_cw (am_mi 211) ∈ lw_tbl := am_tb (i := 1380) rfl
theorem w_11 : Cond.initialized "SmokeRelayModel" ∈ lw_tbl := am_tb (i := 11) (by decide +kernel)
theorem w_1377 : Cond.methodLink "SmokeRelayModel" 79 (am_mi 211).1 ∈ lw_tbl := am_tb (i := 1377) (by decide +kernel)
theorem w_1379 : Cond.instanceMethod (am_mi 211).1 ∈ lw_tbl := am_tb (i := 1379) (by decide +kernel)
theorem ws_211 : Cond.selects (am_mi 211).1.cls (am_mi 211).1 (am_mi 211).1 ∈ lw_tbl := List.mem_append_left _ (List.mem_of_getElem? (i := 41) (by decide +kernel))
set_option maxRecDepth 100000 in
theorem w_1385 : am_cw (am_mi 212) ∈ lw_tbl := am_tb (i := 1385) rfl
theorem w_1382 : Cond.methodLink "SmokeRelayModel" 82 (am_mi 212).1 ∈ lw_tbl := am_tb (i := 1382) (by decide +kernel)
theorem w_1384 : Cond.instanceMethod (am_mi 212).1 ∈ lw_tbl := am_tb (i := 1384) (by decide +kernel)
theorem ws_212 : Cond.selects (am_mi 212).1.cls (am_mi 212).1 (am_mi 212).1 ∈ lw_tbl := List.mem_append_left _ (List.mem_of_getElem? (i := 42) (by decide +kernel))
set_option maxRecDepth 100000 in
theorem w_1399 : am_cw (am_mi 216) ∈ lw_tbl := am_tb (i := 1399) rfl
theorem w_1396 : Cond.methodLink "SmokeRelayModel" 85 (am_mi 216).1 ∈ lw_tbl := am_tb (i := 1396) (by decide +kernel)
theorem w_1398 : Cond.instanceMethod (am_mi 216).1 ∈ lw_tbl := am_tb (i := 1398) (by decide +kernel)
theorem ws_216 : Cond.selects (am_mi 216).1.cls (am_mi 216).1 (am_mi 216).1 ∈ lw_tbl := List.mem_append_left _ (List.mem_of_getElem? (i := 44) (by decide +kernel))
theorem w_1381 : Cond.methodLink "SmokeRelayModel" 51 arraycopyName ∈ lw_tbl := am_tb (i := 1381) (by decide +kernel)
set_option maxRecDepth 100000 in
theorem w_1388 : am_cw (am_mi 213) ∈ lw_tbl := am_tb (i := 1388) rfl
theorem w_1386 : Cond.methodLink "SmokeRelayModel" 72 (am_mi 213).1 ∈ lw_tbl := am_tb (i := 1386) (by decide +kernel)
theorem w_1387 : Cond.static (am_mi 213).1 ∈ lw_tbl := am_tb (i := 1387) (by decide +kernel)
set_option maxRecDepth 100000 in
theorem w_1391 : am_cw (am_mi 214) ∈ lw_tbl := am_tb (i := 1391) rfl
theorem w_1389 : Cond.methodLink "SmokeRelayModel" 60 (am_mi 214).1 ∈ lw_tbl := am_tb (i := 1389) (by decide +kernel)
theorem w_1390 : Cond.static (am_mi 214).1 ∈ lw_tbl := am_tb (i := 1390) (by decide +kernel)
set_option maxRecDepth 100000 in
theorem w_1395 : am_cw (am_mi 215) ∈ lw_tbl := am_tb (i := 1395) rfl
theorem w_1392 : Cond.methodLink "SmokeRelayModel" 75 (am_mi 215).1 ∈ lw_tbl := am_tb (i := 1392) (by decide +kernel)
theorem w_1394 : Cond.instanceMethod (am_mi 215).1 ∈ lw_tbl := am_tb (i := 1394) (by decide +kernel)
theorem ws_215 : Cond.selects (am_mi 215).1.cls (am_mi 215).1 (am_mi 215).1 ∈ lw_tbl := List.mem_append_left _ (List.mem_of_getElem? (i := 43) (by decide +kernel))
theorem w_1301 : Cond.fieldLink "SmokeRelayModel" 57 (am_T9 5).1 (am_T9 5).2.1 (am_T9 5).2.2.1 ∈ lw_tbl := am_tb (i := 1301) (by decide +kernel)
set_option maxRecDepth 100000 in
theorem w_1407 : am_cw (am_mi 218) ∈ lw_tbl := am_tb (i := 1407) rfl
theorem w_1404 : Cond.methodLink "SmokeRelayModel" 95 (am_mi 218).1 ∈ lw_tbl := am_tb (i := 1404) (by decide +kernel)
theorem w_1406 : Cond.instanceMethod (am_mi 218).1 ∈ lw_tbl := am_tb (i := 1406) (by decide +kernel)
theorem ws_218 : Cond.selects (am_mi 218).1.cls (am_mi 218).1 (am_mi 218).1 ∈ lw_tbl := List.mem_append_left _ (List.mem_of_getElem? (i := 45) (by decide +kernel))
set_option maxRecDepth 100000 in
theorem w_1411 : am_cw (am_mi 219) ∈ lw_tbl := am_tb (i := 1411) rfl
theorem w_1408 : Cond.methodLink "SmokeRelayModel" 88 (am_mi 219).1 ∈ lw_tbl := am_tb (i := 1408) (by decide +kernel)
theorem w_1410 : Cond.instanceMethod (am_mi 219).1 ∈ lw_tbl := am_tb (i := 1410) (by decide +kernel)
theorem ws_219 : Cond.selects (am_mi 219).1.cls (am_mi 219).1 (am_mi 219).1 ∈ lw_tbl := List.mem_append_left _ (List.mem_of_getElem? (i := 46) (by decide +kernel))
set_option maxRecDepth 100000 in
theorem w_1419 : am_cw (am_mi 221) ∈ lw_tbl := am_tb (i := 1419) rfl
theorem w_1416 : Cond.methodLink "SmokeRelayModel" 91 (am_mi 221).1 ∈ lw_tbl := am_tb (i := 1416) (by decide +kernel)
theorem w_1418 : Cond.instanceMethod (am_mi 221).1 ∈ lw_tbl := am_tb (i := 1418) (by decide +kernel)
theorem ws_221 : Cond.selects (am_mi 221).1.cls (am_mi 221).1 (am_mi 221).1 ∈ lw_tbl := List.mem_append_left _ (List.mem_of_getElem? (i := 48) (by decide +kernel))
set_option maxRecDepth 100000 in
theorem w_1415 : am_cw (am_mi 220) ∈ lw_tbl := am_tb (i := 1415) rfl
theorem w_1412 : Cond.methodLink "SmokeRelayModel" 68 (am_mi 220).1 ∈ lw_tbl := am_tb (i := 1412) (by decide +kernel)
theorem w_1414 : Cond.instanceMethod (am_mi 220).1 ∈ lw_tbl := am_tb (i := 1414) (by decide +kernel)
theorem ws_220 : Cond.selects (am_mi 220).1.cls (am_mi 220).1 (am_mi 220).1 ∈ lw_tbl := List.mem_append_left _ (List.mem_of_getElem? (i := 47) (by decide +kernel))
set_option maxRecDepth 100000 in
theorem w_1427 : am_cw (am_mi 223) ∈ lw_tbl := am_tb (i := 1427) rfl
theorem w_1424 : Cond.methodLink "SmokeRelayModel" 99 (am_mi 223).1 ∈ lw_tbl := am_tb (i := 1424) (by decide +kernel)
theorem w_1426 : Cond.instanceMethod (am_mi 223).1 ∈ lw_tbl := am_tb (i := 1426) (by decide +kernel)
theorem ws_223 : Cond.selects (am_mi 223).1.cls (am_mi 223).1 (am_mi 223).1 ∈ lw_tbl := List.mem_append_left _ (List.mem_of_getElem? (i := 49) (by decide +kernel))
set_option maxRecDepth 100000 in
theorem w_1431 : am_cw (am_mi 224) ∈ lw_tbl := am_tb (i := 1431) rfl
theorem w_1428 : Cond.methodLink "SmokeRelayModel" 64 (am_mi 224).1 ∈ lw_tbl := am_tb (i := 1428) (by decide +kernel)
theorem w_1430 : Cond.instanceMethod (am_mi 224).1 ∈ lw_tbl := am_tb (i := 1430) (by decide +kernel)
theorem ws_224 : Cond.selects (am_mi 224).1.cls (am_mi 224).1 (am_mi 224).1 ∈ lw_tbl := List.mem_append_left _ (List.mem_of_getElem? (i := 50) (by decide +kernel))
set_option maxRecDepth 100000 in
theorem w_1439 : am_cw (am_mi 226) ∈ lw_tbl := am_tb (i := 1439) rfl
theorem w_1436 : Cond.methodLink "SmokeRelayModel" 102 (am_mi 226).1 ∈ lw_tbl := am_tb (i := 1436) (by decide +kernel)
theorem w_1438 : Cond.instanceMethod (am_mi 226).1 ∈ lw_tbl := am_tb (i := 1438) (by decide +kernel)
theorem ws_226 : Cond.selects (am_mi 226).1.cls (am_mi 226).1 (am_mi 226).1 ∈ lw_tbl := List.mem_append_left _ (List.mem_of_getElem? (i := 51) (by decide +kernel))
set_option maxRecDepth 100000 in
theorem w_1451 : am_cw (am_mi 229) ∈ lw_tbl := am_tb (i := 1451) rfl
theorem w_1448 : Cond.methodLink "SmokeRelayModel" 106 (am_mi 229).1 ∈ lw_tbl := am_tb (i := 1448) (by decide +kernel)
theorem w_1450 : Cond.instanceMethod (am_mi 229).1 ∈ lw_tbl := am_tb (i := 1450) (by decide +kernel)
theorem ws_229 : Cond.selects (am_mi 229).1.cls (am_mi 229).1 (am_mi 229).1 ∈ lw_tbl := List.mem_append_left _ (List.mem_of_getElem? (i := 52) (by decide +kernel))
set_option maxRecDepth 100000 in
theorem w_1459 : am_cw (am_mi 231) ∈ lw_tbl := am_tb (i := 1459) rfl
theorem w_1456 : Cond.methodLink "SmokeRelayModel" 109 (am_mi 231).1 ∈ lw_tbl := am_tb (i := 1456) (by decide +kernel)
theorem w_1458 : Cond.instanceMethod (am_mi 231).1 ∈ lw_tbl := am_tb (i := 1458) (by decide +kernel)
theorem ws_231 : Cond.selects (am_mi 231).1.cls (am_mi 231).1 (am_mi 231).1 ∈ lw_tbl := List.mem_append_left _ (List.mem_of_getElem? (i := 53) (by decide +kernel))
set_option maxRecDepth 100000 in
theorem w_1479 : am_cw (am_mi 236) ∈ lw_tbl := am_tb (i := 1479) rfl
theorem w_1476 : Cond.methodLink "SmokeRelayModel" 121 (am_mi 236).1 ∈ lw_tbl := am_tb (i := 1476) (by decide +kernel)
theorem w_1478 : Cond.instanceMethod (am_mi 236).1 ∈ lw_tbl := am_tb (i := 1478) (by decide +kernel)
theorem ws_236 : Cond.selects (am_mi 236).1.cls (am_mi 236).1 (am_mi 236).1 ∈ lw_tbl := List.mem_append_left _ (List.mem_of_getElem? (i := 54) (by decide +kernel))
set_option maxRecDepth 100000 in
theorem w_1483 : am_cw (am_mi 237) ∈ lw_tbl := am_tb (i := 1483) rfl
theorem w_1480 : Cond.methodLink "SmokeRelayModel" 125 (am_mi 237).1 ∈ lw_tbl := am_tb (i := 1480) (by decide +kernel)
theorem w_1482 : Cond.instanceMethod (am_mi 237).1 ∈ lw_tbl := am_tb (i := 1482) (by decide +kernel)
theorem ws_237 : Cond.selects (am_mi 237).1.cls (am_mi 237).1 (am_mi 237).1 ∈ lw_tbl := List.mem_append_left _ (List.mem_of_getElem? (i := 55) (by decide +kernel))
set_option maxRecDepth 100000 in
theorem w_1487 : am_cw (am_mi 238) ∈ lw_tbl := am_tb (i := 1487) rfl
theorem w_1484 : Cond.methodLink "SmokeRelayModel" 117 (am_mi 238).1 ∈ lw_tbl := am_tb (i := 1484) (by decide +kernel)
theorem w_1486 : Cond.instanceMethod (am_mi 238).1 ∈ lw_tbl := am_tb (i := 1486) (by decide +kernel)
theorem ws_238 : Cond.selects (am_mi 238).1.cls (am_mi 238).1 (am_mi 238).1 ∈ lw_tbl := List.mem_append_left _ (List.mem_of_getElem? (i := 56) (by decide +kernel))
theorem w_1488 : Cond.methodLink "SmokeRelayModel" 112 Lib.Math.abs.name ∈ lw_tbl := am_tb (i := 1488) (by decide +kernel)
set_option maxRecDepth 100000 in
theorem w_1475 : am_cw (am_mi 235) ∈ lw_tbl := am_tb (i := 1475) rfl
theorem w_1493 : Cond.methodLink "SmokeRelayModel" 128 (am_mi 235).1 ∈ lw_tbl := am_tb (i := 1493) (by decide +kernel)
theorem w_1473 : Cond.instanceMethod (am_mi 235).1 ∈ lw_tbl := am_tb (i := 1473) (by decide +kernel)
theorem w_1474 : Cond.selects (am_mi 235).1.cls (am_mi 235).1 (am_mi 235).1 ∈ lw_tbl := am_tb (i := 1474) (by decide +kernel)
set_option maxRecDepth 100000 in
theorem w_1501 : am_cw (am_mi 241) ∈ lw_tbl := am_tb (i := 1501) rfl
theorem w_1498 : Cond.methodLink "SmokeRelayModel" 131 (am_mi 241).1 ∈ lw_tbl := am_tb (i := 1498) (by decide +kernel)
theorem w_1500 : Cond.instanceMethod (am_mi 241).1 ∈ lw_tbl := am_tb (i := 1500) (by decide +kernel)
theorem ws_241 : Cond.selects (am_mi 241).1.cls (am_mi 241).1 (am_mi 241).1 ∈ lw_tbl := List.mem_append_left _ (List.mem_of_getElem? (i := 57) (by decide +kernel))
set_option maxRecDepth 100000 in
theorem w_1516 : am_cw (am_mi 245) ∈ lw_tbl := am_tb (i := 1516) rfl
theorem w_1514 : Cond.methodLink "SmokeRelayModel" 134 (am_mi 245).1 ∈ lw_tbl := am_tb (i := 1514) (by decide +kernel)
theorem w_1515 : Cond.static (am_mi 245).1 ∈ lw_tbl := am_tb (i := 1515) (by decide +kernel)
theorem w_1517 : Cond.methodLink "SmokeRelayModel" 137 Lib.Math.min.name ∈ lw_tbl := am_tb (i := 1517) (by decide +kernel)
set_option maxRecDepth 100000 in
theorem w_1513 : am_cw (am_mi 244) ∈ lw_tbl := am_tb (i := 1513) rfl
theorem w_1522 : Cond.methodLink "SmokeRelayModel" 140 (am_mi 244).1 ∈ lw_tbl := am_tb (i := 1522) (by decide +kernel)
theorem w_1511 : Cond.instanceMethod (am_mi 244).1 ∈ lw_tbl := am_tb (i := 1511) (by decide +kernel)
theorem w_1512 : Cond.selects (am_mi 244).1.cls (am_mi 244).1 (am_mi 244).1 ∈ lw_tbl := am_tb (i := 1512) (by decide +kernel)
set_option maxRecDepth 100000 in
theorem w_1530 : am_cw (am_mi 248) ∈ lw_tbl := am_tb (i := 1530) rfl
theorem w_1527 : Cond.methodLink "SmokeRelayModel" 144 (am_mi 248).1 ∈ lw_tbl := am_tb (i := 1527) (by decide +kernel)
theorem w_1529 : Cond.instanceMethod (am_mi 248).1 ∈ lw_tbl := am_tb (i := 1529) (by decide +kernel)
theorem ws_248 : Cond.selects (am_mi 248).1.cls (am_mi 248).1 (am_mi 248).1 ∈ lw_tbl := List.mem_append_left _ (List.mem_of_getElem? (i := 58) (by decide +kernel))
set_option maxRecDepth 100000 in
theorem w_1542 : am_cw (am_mi 251) ∈ lw_tbl := am_tb (i := 1542) rfl
theorem w_1539 : Cond.methodLink "SmokeRelayModel" 150 (am_mi 251).1 ∈ lw_tbl := am_tb (i := 1539) (by decide +kernel)
theorem w_1541 : Cond.instanceMethod (am_mi 251).1 ∈ lw_tbl := am_tb (i := 1541) (by decide +kernel)
theorem ws_251 : Cond.selects (am_mi 251).1.cls (am_mi 251).1 (am_mi 251).1 ∈ lw_tbl := List.mem_append_left _ (List.mem_of_getElem? (i := 59) (by decide +kernel))
theorem w_1543 : Cond.methodLink "SmokeRelayModel" 147 Lib.Math.max.name ∈ lw_tbl := am_tb (i := 1543) (by decide +kernel)
set_option maxRecDepth 100000 in
theorem w_1551 : am_cw (am_mi 253) ∈ lw_tbl := am_tb (i := 1551) rfl
theorem w_1548 : Cond.methodLink "SmokeRelayModel" 158 (am_mi 253).1 ∈ lw_tbl := am_tb (i := 1548) (by decide +kernel)
theorem w_1550 : Cond.instanceMethod (am_mi 253).1 ∈ lw_tbl := am_tb (i := 1550) (by decide +kernel)
theorem ws_253 : Cond.selects (am_mi 253).1.cls (am_mi 253).1 (am_mi 253).1 ∈ lw_tbl := List.mem_append_left _ (List.mem_of_getElem? (i := 60) (by decide +kernel))
set_option maxRecDepth 100000 in
theorem w_1555 : am_cw (am_mi 254) ∈ lw_tbl := am_tb (i := 1555) rfl
theorem w_1552 : Cond.methodLink "SmokeRelayModel" 154 (am_mi 254).1 ∈ lw_tbl := am_tb (i := 1552) (by decide +kernel)
theorem w_1554 : Cond.instanceMethod (am_mi 254).1 ∈ lw_tbl := am_tb (i := 1554) (by decide +kernel)
theorem ws_254 : Cond.selects (am_mi 254).1.cls (am_mi 254).1 (am_mi 254).1 ∈ lw_tbl := List.mem_append_left _ (List.mem_of_getElem? (i := 61) (by decide +kernel))
theorem w_1556 : Cond.constant "SmokeRelayModel" 153 100000 ∈ lw_tbl := am_tb (i := 1556) (by decide +kernel)
set_option maxRecDepth 100000 in
theorem w_1547 : am_cw (am_mi 252) ∈ lw_tbl := am_tb (i := 1547) rfl
theorem w_1561 : Cond.methodLink "SmokeRelayModel" 161 (am_mi 252).1 ∈ lw_tbl := am_tb (i := 1561) (by decide +kernel)
theorem w_1545 : Cond.instanceMethod (am_mi 252).1 ∈ lw_tbl := am_tb (i := 1545) (by decide +kernel)
theorem w_1546 : Cond.selects (am_mi 252).1.cls (am_mi 252).1 (am_mi 252).1 ∈ lw_tbl := am_tb (i := 1546) (by decide +kernel)
set_option maxRecDepth 100000 in
theorem w_1573 : am_cw (am_mi 258) ∈ lw_tbl := am_tb (i := 1573) rfl
theorem w_1570 : Cond.methodLink "SmokeRelayModel" 164 (am_mi 258).1 ∈ lw_tbl := am_tb (i := 1570) (by decide +kernel)
theorem w_1572 : Cond.instanceMethod (am_mi 258).1 ∈ lw_tbl := am_tb (i := 1572) (by decide +kernel)
theorem ws_258 : Cond.selects (am_mi 258).1.cls (am_mi 258).1 (am_mi 258).1 ∈ lw_tbl := List.mem_append_left _ (List.mem_of_getElem? (i := 62) (by decide +kernel))
set_option maxRecDepth 100000 in
theorem w_1584 : am_cw (am_mi 261) ∈ lw_tbl := am_tb (i := 1584) rfl
theorem w_1582 : Cond.methodLink "SmokeRelayModel" 173 (am_mi 261).1 ∈ lw_tbl := am_tb (i := 1582) (by decide +kernel)
theorem w_1583 : Cond.static (am_mi 261).1 ∈ lw_tbl := am_tb (i := 1583) (by decide +kernel)
set_option maxRecDepth 100000 in
theorem w_1587 : am_cw (am_mi 262) ∈ lw_tbl := am_tb (i := 1587) rfl
theorem w_1585 : Cond.methodLink "SmokeRelayModel" 167 (am_mi 262).1 ∈ lw_tbl := am_tb (i := 1585) (by decide +kernel)
theorem w_1586 : Cond.static (am_mi 262).1 ∈ lw_tbl := am_tb (i := 1586) (by decide +kernel)
set_option maxRecDepth 100000 in
theorem w_1594 : am_cw (am_mi 264) ∈ lw_tbl := am_tb (i := 1594) rfl
theorem w_1592 : Cond.methodLink "SmokeRelayModel" 176 (am_mi 264).1 ∈ lw_tbl := am_tb (i := 1592) (by decide +kernel)
theorem w_1593 : Cond.static (am_mi 264).1 ∈ lw_tbl := am_tb (i := 1593) (by decide +kernel)
set_option maxRecDepth 100000 in
theorem w_1597 : am_cw (am_mi 265) ∈ lw_tbl := am_tb (i := 1597) rfl
theorem w_1595 : Cond.methodLink "SmokeRelayModel" 170 (am_mi 265).1 ∈ lw_tbl := am_tb (i := 1595) (by decide +kernel)
theorem w_1596 : Cond.static (am_mi 265).1 ∈ lw_tbl := am_tb (i := 1596) (by decide +kernel)
set_option maxRecDepth 100000 in
theorem w_1591 : am_cw (am_mi 263) ∈ lw_tbl := am_tb (i := 1591) rfl
theorem w_1602 : Cond.methodLink "SmokeRelayModel" 179 (am_mi 263).1 ∈ lw_tbl := am_tb (i := 1602) (by decide +kernel)
theorem w_1589 : Cond.instanceMethod (am_mi 263).1 ∈ lw_tbl := am_tb (i := 1589) (by decide +kernel)
theorem w_1590 : Cond.selects (am_mi 263).1.cls (am_mi 263).1 (am_mi 263).1 ∈ lw_tbl := am_tb (i := 1590) (by decide +kernel)
set_option maxRecDepth 100000 in
theorem w_1614 : am_cw (am_mi 269) ∈ lw_tbl := am_tb (i := 1614) rfl
theorem w_1611 : Cond.methodLink "SmokeRelayModel" 183 (am_mi 269).1 ∈ lw_tbl := am_tb (i := 1611) (by decide +kernel)
theorem w_1613 : Cond.instanceMethod (am_mi 269).1 ∈ lw_tbl := am_tb (i := 1613) (by decide +kernel)
theorem ws_269 : Cond.selects (am_mi 269).1.cls (am_mi 269).1 (am_mi 269).1 ∈ lw_tbl := List.mem_append_left _ (List.mem_of_getElem? (i := 63) (by decide +kernel))
set_option maxRecDepth 100000 in
theorem w_1622 : am_cw (am_mi 271) ∈ lw_tbl := am_tb (i := 1622) rfl
theorem w_1619 : Cond.methodLink "SmokeRelayModel" 201 (am_mi 271).1 ∈ lw_tbl := am_tb (i := 1619) (by decide +kernel)
theorem w_1621 : Cond.instanceMethod (am_mi 271).1 ∈ lw_tbl := am_tb (i := 1621) (by decide +kernel)
theorem ws_271 : Cond.selects (am_mi 271).1.cls (am_mi 271).1 (am_mi 271).1 ∈ lw_tbl := List.mem_append_left _ (List.mem_of_getElem? (i := 64) (by decide +kernel))
set_option maxRecDepth 100000 in
theorem w_1626 : am_cw (am_mi 272) ∈ lw_tbl := am_tb (i := 1626) rfl
theorem w_1623 : Cond.methodLink "SmokeRelayModel" 192 (am_mi 272).1 ∈ lw_tbl := am_tb (i := 1623) (by decide +kernel)
theorem w_1625 : Cond.instanceMethod (am_mi 272).1 ∈ lw_tbl := am_tb (i := 1625) (by decide +kernel)
theorem ws_272 : Cond.selects (am_mi 272).1.cls (am_mi 272).1 (am_mi 272).1 ∈ lw_tbl := List.mem_append_left _ (List.mem_of_getElem? (i := 65) (by decide +kernel))
theorem w_1307 : Cond.fieldLink "SmokeRelayModel" 186 (am_T9 11).1 (am_T9 11).2.1 (am_T9 11).2.2.1 ∈ lw_tbl := am_tb (i := 1307) (by decide +kernel)
theorem w_1303 : Cond.fieldLink "SmokeRelayModel" 195 (am_T9 7).1 (am_T9 7).2.1 (am_T9 7).2.2.1 ∈ lw_tbl := am_tb (i := 1303) (by decide +kernel)
theorem w_1308 : Cond.fieldLink "SmokeRelayModel" 189 (am_T9 12).1 (am_T9 12).2.1 (am_T9 12).2.2.1 ∈ lw_tbl := am_tb (i := 1308) (by decide +kernel)
theorem w_1304 : Cond.fieldLink "SmokeRelayModel" 198 (am_T9 8).1 (am_T9 8).2.1 (am_T9 8).2.2.1 ∈ lw_tbl := am_tb (i := 1304) (by decide +kernel)
set_option maxRecDepth 100000 in
theorem w_1654 : am_cw (am_mi 279) ∈ lw_tbl := am_tb (i := 1654) rfl
theorem w_1651 : Cond.methodLink "SmokeRelayModel" 204 (am_mi 279).1 ∈ lw_tbl := am_tb (i := 1651) (by decide +kernel)
theorem w_1653 : Cond.instanceMethod (am_mi 279).1 ∈ lw_tbl := am_tb (i := 1653) (by decide +kernel)
theorem ws_279 : Cond.selects (am_mi 279).1.cls (am_mi 279).1 (am_mi 279).1 ∈ lw_tbl := List.mem_append_left _ (List.mem_of_getElem? (i := 66) (by decide +kernel))
set_option maxRecDepth 100000 in
theorem w_1650 : am_cw (am_mi 278) ∈ lw_tbl := am_tb (i := 1650) rfl
theorem w_1659 : Cond.methodLink "SmokeRelayModel" 207 (am_mi 278).1 ∈ lw_tbl := am_tb (i := 1659) (by decide +kernel)
theorem w_1648 : Cond.instanceMethod (am_mi 278).1 ∈ lw_tbl := am_tb (i := 1648) (by decide +kernel)
theorem w_1649 : Cond.selects (am_mi 278).1.cls (am_mi 278).1 (am_mi 278).1 ∈ lw_tbl := am_tb (i := 1649) (by decide +kernel)
theorem w_1311 : Cond.fieldLink "SmokeRelayModel" 210 (am_T9 15).1 (am_T9 15).2.1 (am_T9 15).2.2.1 ∈ lw_tbl := am_tb (i := 1311) (by decide +kernel)
set_option maxRecDepth 100000 in
theorem w_1687 : am_cw (am_mi 287) ∈ lw_tbl := am_tb (i := 1687) rfl
theorem w_1684 : Cond.methodLink "SmokeRelayModel" 216 (am_mi 287).1 ∈ lw_tbl := am_tb (i := 1684) (by decide +kernel)
theorem w_1686 : Cond.instanceMethod (am_mi 287).1 ∈ lw_tbl := am_tb (i := 1686) (by decide +kernel)
theorem ws_287 : Cond.selects (am_mi 287).1.cls (am_mi 287).1 (am_mi 287).1 ∈ lw_tbl := List.mem_append_left _ (List.mem_of_getElem? (i := 67) (by decide +kernel))
set_option maxRecDepth 100000 in
theorem w_1691 : am_cw (am_mi 288) ∈ lw_tbl := am_tb (i := 1691) rfl
theorem w_1688 : Cond.methodLink "SmokeRelayModel" 213 (am_mi 288).1 ∈ lw_tbl := am_tb (i := 1688) (by decide +kernel)
theorem w_1690 : Cond.instanceMethod (am_mi 288).1 ∈ lw_tbl := am_tb (i := 1690) (by decide +kernel)
theorem ws_288 : Cond.selects (am_mi 288).1.cls (am_mi 288).1 (am_mi 288).1 ∈ lw_tbl := List.mem_append_left _ (List.mem_of_getElem? (i := 68) (by decide +kernel))
theorem w_1313 : Cond.fieldLink "SmokeRelayModel" 219 (am_T9 17).1 (am_T9 17).2.1 (am_T9 17).2.2.1 ∈ lw_tbl := am_tb (i := 1313) (by decide +kernel)
theorem w_1314 : Cond.fieldLink "SmokeRelayModel" 222 (am_T9 18).1 (am_T9 18).2.1 (am_T9 18).2.2.1 ∈ lw_tbl := am_tb (i := 1314) (by decide +kernel)
theorem w_1315 : Cond.fieldLink "SmokeRelayModel" 229 (am_T9 19).1 (am_T9 19).2.1 (am_T9 19).2.2.1 ∈ lw_tbl := am_tb (i := 1315) (by decide +kernel)
theorem w_1319 : Cond.fieldLink "SmokeRelayModel" 243 (am_T9 23).1 (am_T9 23).2.1 (am_T9 23).2.2.1 ∈ lw_tbl := am_tb (i := 1319) (by decide +kernel)
set_option maxRecDepth 100000 in
theorem w_1715 : am_cw (am_mi 294) ∈ lw_tbl := am_tb (i := 1715) rfl
theorem w_1712 : Cond.methodLink "SmokeRelayModel" 276 (am_mi 294).1 ∈ lw_tbl := am_tb (i := 1712) (by decide +kernel)
theorem w_1714 : Cond.instanceMethod (am_mi 294).1 ∈ lw_tbl := am_tb (i := 1714) (by decide +kernel)
theorem ws_294 : Cond.selects (am_mi 294).1.cls (am_mi 294).1 (am_mi 294).1 ∈ lw_tbl := List.mem_append_left _ (List.mem_of_getElem? (i := 69) (by decide +kernel))
set_option maxRecDepth 100000 in
theorem w_1719 : am_cw (am_mi 295) ∈ lw_tbl := am_tb (i := 1719) rfl
theorem w_1716 : Cond.methodLink "SmokeRelayModel" 233 (am_mi 295).1 ∈ lw_tbl := am_tb (i := 1716) (by decide +kernel)
theorem w_1718 : Cond.instanceMethod (am_mi 295).1 ∈ lw_tbl := am_tb (i := 1718) (by decide +kernel)
theorem ws_295 : Cond.selects (am_mi 295).1.cls (am_mi 295).1 (am_mi 295).1 ∈ lw_tbl := List.mem_append_left _ (List.mem_of_getElem? (i := 70) (by decide +kernel))
set_option maxRecDepth 100000 in
theorem w_1751 : am_cw (am_mi 300) ∈ lw_tbl := am_tb (i := 1751) rfl
theorem w_1748 : Cond.methodLink "SmokeRelayModel" 279 (am_mi 300).1 ∈ lw_tbl := am_tb (i := 1748) (by decide +kernel)
theorem w_1750 : Cond.instanceMethod (am_mi 300).1 ∈ lw_tbl := am_tb (i := 1750) (by decide +kernel)
theorem ws_300 : Cond.selects (am_mi 300).1.cls (am_mi 300).1 (am_mi 300).1 ∈ lw_tbl := List.mem_append_left _ (List.mem_of_getElem? (i := 75) (by decide +kernel))
set_option maxRecDepth 100000 in
theorem w_1724 : am_cw (am_mi 296) ∈ lw_tbl := am_tb (i := 1724) rfl
theorem w_1721 : Cond.methodLink "SmokeRelayModel" 248 (am_mi 296).1 ∈ lw_tbl := am_tb (i := 1721) (by decide +kernel)
theorem w_1723 : Cond.instanceMethod (am_mi 296).1 ∈ lw_tbl := am_tb (i := 1723) (by decide +kernel)
theorem ws_296 : Cond.selects (am_mi 296).1.cls (am_mi 296).1 (am_mi 296).1 ∈ lw_tbl := List.mem_append_left _ (List.mem_of_getElem? (i := 71) (by decide +kernel))
set_option maxRecDepth 100000 in
theorem w_1730 : am_cw (am_mi 297) ∈ lw_tbl := am_tb (i := 1730) rfl
theorem w_1727 : Cond.methodLink "SmokeRelayModel" 252 (am_mi 297).1 ∈ lw_tbl := am_tb (i := 1727) (by decide +kernel)
theorem w_1729 : Cond.instanceMethod (am_mi 297).1 ∈ lw_tbl := am_tb (i := 1729) (by decide +kernel)
theorem ws_297 : Cond.selects (am_mi 297).1.cls (am_mi 297).1 (am_mi 297).1 ∈ lw_tbl := List.mem_append_left _ (List.mem_of_getElem? (i := 72) (by decide +kernel))
set_option maxRecDepth 100000 in
theorem w_1747 : am_cw (am_mi 299) ∈ lw_tbl := am_tb (i := 1747) rfl
theorem w_1744 : Cond.methodLink "SmokeRelayModel" 273 (am_mi 299).1 ∈ lw_tbl := am_tb (i := 1744) (by decide +kernel)
theorem w_1746 : Cond.instanceMethod (am_mi 299).1 ∈ lw_tbl := am_tb (i := 1746) (by decide +kernel)
theorem ws_299 : Cond.selects (am_mi 299).1.cls (am_mi 299).1 (am_mi 299).1 ∈ lw_tbl := List.mem_append_left _ (List.mem_of_getElem? (i := 74) (by decide +kernel))
theorem w_1725 : Cond.methodLink "SmokeRelayModel" 225 (am_mi 181).1 ∈ lw_tbl := am_tb (i := 1725) (by decide +kernel)
theorem w_1726 : Cond.methodLink "SmokeRelayModel" 236 (am_mi 175).1 ∈ lw_tbl := am_tb (i := 1726) (by decide +kernel)
set_option maxRecDepth 100000 in
theorem w_1734 : am_cw (am_mi 298) ∈ lw_tbl := am_tb (i := 1734) rfl
theorem w_1731 : Cond.methodLink "SmokeRelayModel" 239 (am_mi 298).1 ∈ lw_tbl := am_tb (i := 1731) (by decide +kernel)
theorem w_1733 : Cond.instanceMethod (am_mi 298).1 ∈ lw_tbl := am_tb (i := 1733) (by decide +kernel)
theorem ws_298 : Cond.selects (am_mi 298).1.cls (am_mi 298).1 (am_mi 298).1 ∈ lw_tbl := List.mem_append_left _ (List.mem_of_getElem? (i := 73) (by decide +kernel))
theorem w_1299 : Cond.fieldLink "SmokeRelayModel" 282 (am_T9 3).1 (am_T9 3).2.1 (am_T9 3).2.2.1 ∈ lw_tbl := am_tb (i := 1299) (by decide +kernel)
theorem w_30 : Cond.classLink "SmokeRelayLaw" 8 "SmokeRelay" ∈ lw_tbl := am_tb (i := 30) (by decide +kernel)
theorem w_31 : Cond.instantiable "SmokeRelay" 15 ∈ lw_tbl := am_tb (i := 31) (by decide +kernel)
set_option maxRecDepth 100000 in
theorem w_34 : am_cw (am_mi 0) ∈ lw_tbl := am_tb (i := 34) rfl
theorem w_32 : Cond.methodLink "SmokeRelayLaw" 169 (am_mi 0).1 ∈ lw_tbl := am_tb (i := 32) (by decide +kernel)
theorem w_33 : Cond.instanceMethod (am_mi 0).1 ∈ lw_tbl := am_tb (i := 33) (by decide +kernel)
theorem w_1290 : Cond.classLink "SmokeRelayLaw" 170 "SmokeRelayModel" ∈ lw_tbl := am_tb (i := 1290) (by decide +kernel)
theorem w_1291 : Cond.instantiable "SmokeRelayModel" 24 ∈ lw_tbl := am_tb (i := 1291) (by decide +kernel)
set_option maxRecDepth 100000 in
theorem w_1294 : am_cw (am_mi 208) ∈ lw_tbl := am_tb (i := 1294) rfl
theorem w_1292 : Cond.methodLink "SmokeRelayLaw" 172 (am_mi 208).1 ∈ lw_tbl := am_tb (i := 1292) (by decide +kernel)
theorem w_1293 : Cond.instanceMethod (am_mi 208).1 ∈ lw_tbl := am_tb (i := 1293) (by decide +kernel)
theorem w_1776 : Cond.arrayClass .long ∈ lw_tbl := am_tb (i := 1776) (by decide +kernel)
theorem w_1777 : Cond.arrayClass .double ∈ lw_tbl := am_tb (i := 1777) (by decide +kernel)
set_option maxRecDepth 100000 in
theorem w_495 : am_cw (am_mi 55) ∈ lw_tbl := am_tb (i := 495) rfl
theorem w_0 : Cond.initialized "SmokeRelayLaw" ∈ lw_tbl := am_tb (i := 0) (by decide +kernel)
theorem w_493 : Cond.methodLink "SmokeRelayLaw" 173 (am_mi 55).1 ∈ lw_tbl := am_tb (i := 493) (by decide +kernel)
theorem w_494 : Cond.static (am_mi 55).1 ∈ lw_tbl := am_tb (i := 494) (by decide +kernel)
set_option maxRecDepth 100000 in
theorem w_1376 : am_cw (am_mi 210) ∈ lw_tbl := am_tb (i := 1376) rfl
theorem w_1373 : Cond.methodLink "SmokeRelayLaw" 178 (am_mi 210).1 ∈ lw_tbl := am_tb (i := 1373) (by decide +kernel)
theorem w_1374 : Cond.instanceMethod (am_mi 210).1 ∈ lw_tbl := am_tb (i := 1374) (by decide +kernel)
theorem w_1375 : Cond.selects (am_mi 210).1.cls (am_mi 210).1 (am_mi 210).1 ∈ lw_tbl := am_tb (i := 1375) (by decide +kernel)
set_option maxRecDepth 100000 in
theorem w_1372 : am_cw (am_mi 209) ∈ lw_tbl := am_tb (i := 1372) rfl
theorem w_1369 : Cond.methodLink "SmokeRelayLaw" 179 (am_mi 209).1 ∈ lw_tbl := am_tb (i := 1369) (by decide +kernel)
theorem w_1370 : Cond.instanceMethod (am_mi 209).1 ∈ lw_tbl := am_tb (i := 1370) (by decide +kernel)
theorem w_1371 : Cond.selects (am_mi 209).1.cls (am_mi 209).1 (am_mi 209).1 ∈ lw_tbl := am_tb (i := 1371) (by decide +kernel)
set_option maxRecDepth 100000 in
theorem w_587 : am_cw (am_mi 60) ∈ lw_tbl := am_tb (i := 587) rfl
theorem w_585 : Cond.methodLink "SmokeRelayLaw" 182 (am_mi 60).1 ∈ lw_tbl := am_tb (i := 585) (by decide +kernel)
theorem w_586 : Cond.static (am_mi 60).1 ∈ lw_tbl := am_tb (i := 586) (by decide +kernel)
set_option maxRecDepth 100000 in
theorem w_1403 : am_cw (am_mi 217) ∈ lw_tbl := am_tb (i := 1403) rfl
theorem w_1400 : Cond.methodLink "SmokeRelayLaw" 185 (am_mi 217).1 ∈ lw_tbl := am_tb (i := 1400) (by decide +kernel)
theorem w_1401 : Cond.instanceMethod (am_mi 217).1 ∈ lw_tbl := am_tb (i := 1401) (by decide +kernel)
theorem w_1402 : Cond.selects (am_mi 217).1.cls (am_mi 217).1 (am_mi 217).1 ∈ lw_tbl := am_tb (i := 1402) (by decide +kernel)
set_option maxRecDepth 100000 in
theorem w_630 : am_cw (am_mi 67) ∈ lw_tbl := am_tb (i := 630) rfl
theorem w_628 : Cond.methodLink "SmokeRelayLaw" 186 (am_mi 67).1 ∈ lw_tbl := am_tb (i := 628) (by decide +kernel)
theorem w_629 : Cond.static (am_mi 67).1 ∈ lw_tbl := am_tb (i := 629) (by decide +kernel)
set_option maxRecDepth 100000 in
theorem w_1423 : am_cw (am_mi 222) ∈ lw_tbl := am_tb (i := 1423) rfl
theorem w_1420 : Cond.methodLink "SmokeRelayLaw" 188 (am_mi 222).1 ∈ lw_tbl := am_tb (i := 1420) (by decide +kernel)
theorem w_1421 : Cond.instanceMethod (am_mi 222).1 ∈ lw_tbl := am_tb (i := 1421) (by decide +kernel)
theorem w_1422 : Cond.selects (am_mi 222).1.cls (am_mi 222).1 (am_mi 222).1 ∈ lw_tbl := am_tb (i := 1422) (by decide +kernel)
set_option maxRecDepth 100000 in
theorem w_683 : am_cw (am_mi 71) ∈ lw_tbl := am_tb (i := 683) rfl
theorem w_681 : Cond.methodLink "SmokeRelayLaw" 189 (am_mi 71).1 ∈ lw_tbl := am_tb (i := 681) (by decide +kernel)
theorem w_682 : Cond.static (am_mi 71).1 ∈ lw_tbl := am_tb (i := 682) (by decide +kernel)
set_option maxRecDepth 100000 in
theorem w_1435 : am_cw (am_mi 225) ∈ lw_tbl := am_tb (i := 1435) rfl
theorem w_1432 : Cond.methodLink "SmokeRelayLaw" 192 (am_mi 225).1 ∈ lw_tbl := am_tb (i := 1432) (by decide +kernel)
theorem w_1433 : Cond.instanceMethod (am_mi 225).1 ∈ lw_tbl := am_tb (i := 1433) (by decide +kernel)
theorem w_1434 : Cond.selects (am_mi 225).1.cls (am_mi 225).1 (am_mi 225).1 ∈ lw_tbl := am_tb (i := 1434) (by decide +kernel)
set_option maxRecDepth 100000 in
theorem w_309 : am_cw (am_mi 12) ∈ lw_tbl := am_tb (i := 309) rfl
theorem w_306 : Cond.methodLink "SmokeRelayLaw" 193 (am_mi 12).1 ∈ lw_tbl := am_tb (i := 306) (by decide +kernel)
theorem w_307 : Cond.instanceMethod (am_mi 12).1 ∈ lw_tbl := am_tb (i := 307) (by decide +kernel)
theorem w_308 : Cond.selects (am_mi 12).1.cls (am_mi 12).1 (am_mi 12).1 ∈ lw_tbl := am_tb (i := 308) (by decide +kernel)
set_option maxRecDepth 100000 in
theorem w_1443 : am_cw (am_mi 227) ∈ lw_tbl := am_tb (i := 1443) rfl
theorem w_1440 : Cond.methodLink "SmokeRelayLaw" 196 (am_mi 227).1 ∈ lw_tbl := am_tb (i := 1440) (by decide +kernel)
theorem w_1441 : Cond.instanceMethod (am_mi 227).1 ∈ lw_tbl := am_tb (i := 1441) (by decide +kernel)
theorem w_1442 : Cond.selects (am_mi 227).1.cls (am_mi 227).1 (am_mi 227).1 ∈ lw_tbl := am_tb (i := 1442) (by decide +kernel)
set_option maxRecDepth 100000 in
theorem w_694 : am_cw (am_mi 74) ∈ lw_tbl := am_tb (i := 694) rfl
theorem w_692 : Cond.methodLink "SmokeRelayLaw" 197 (am_mi 74).1 ∈ lw_tbl := am_tb (i := 692) (by decide +kernel)
theorem w_693 : Cond.static (am_mi 74).1 ∈ lw_tbl := am_tb (i := 693) (by decide +kernel)
set_option maxRecDepth 100000 in
theorem w_1447 : am_cw (am_mi 228) ∈ lw_tbl := am_tb (i := 1447) rfl
theorem w_1444 : Cond.methodLink "SmokeRelayLaw" 199 (am_mi 228).1 ∈ lw_tbl := am_tb (i := 1444) (by decide +kernel)
theorem w_1445 : Cond.instanceMethod (am_mi 228).1 ∈ lw_tbl := am_tb (i := 1445) (by decide +kernel)
theorem w_1446 : Cond.selects (am_mi 228).1.cls (am_mi 228).1 (am_mi 228).1 ∈ lw_tbl := am_tb (i := 1446) (by decide +kernel)
set_option maxRecDepth 100000 in
theorem w_701 : am_cw (am_mi 76) ∈ lw_tbl := am_tb (i := 701) rfl
theorem w_699 : Cond.methodLink "SmokeRelayLaw" 200 (am_mi 76).1 ∈ lw_tbl := am_tb (i := 699) (by decide +kernel)
theorem w_700 : Cond.static (am_mi 76).1 ∈ lw_tbl := am_tb (i := 700) (by decide +kernel)
set_option maxRecDepth 100000 in
theorem w_1455 : am_cw (am_mi 230) ∈ lw_tbl := am_tb (i := 1455) rfl
theorem w_1452 : Cond.methodLink "SmokeRelayLaw" 202 (am_mi 230).1 ∈ lw_tbl := am_tb (i := 1452) (by decide +kernel)
theorem w_1453 : Cond.instanceMethod (am_mi 230).1 ∈ lw_tbl := am_tb (i := 1453) (by decide +kernel)
theorem w_1454 : Cond.selects (am_mi 230).1.cls (am_mi 230).1 (am_mi 230).1 ∈ lw_tbl := am_tb (i := 1454) (by decide +kernel)
set_option maxRecDepth 100000 in
theorem w_709 : am_cw (am_mi 78) ∈ lw_tbl := am_tb (i := 709) rfl
theorem w_707 : Cond.methodLink "SmokeRelayLaw" 203 (am_mi 78).1 ∈ lw_tbl := am_tb (i := 707) (by decide +kernel)
theorem w_708 : Cond.static (am_mi 78).1 ∈ lw_tbl := am_tb (i := 708) (by decide +kernel)
set_option maxRecDepth 100000 in
theorem w_1463 : am_cw (am_mi 232) ∈ lw_tbl := am_tb (i := 1463) rfl
theorem w_1460 : Cond.methodLink "SmokeRelayLaw" 205 (am_mi 232).1 ∈ lw_tbl := am_tb (i := 1460) (by decide +kernel)
theorem w_1461 : Cond.instanceMethod (am_mi 232).1 ∈ lw_tbl := am_tb (i := 1461) (by decide +kernel)
theorem w_1462 : Cond.selects (am_mi 232).1.cls (am_mi 232).1 (am_mi 232).1 ∈ lw_tbl := am_tb (i := 1462) (by decide +kernel)
set_option maxRecDepth 100000 in
theorem w_716 : am_cw (am_mi 80) ∈ lw_tbl := am_tb (i := 716) rfl
theorem w_714 : Cond.methodLink "SmokeRelayLaw" 206 (am_mi 80).1 ∈ lw_tbl := am_tb (i := 714) (by decide +kernel)
theorem w_715 : Cond.static (am_mi 80).1 ∈ lw_tbl := am_tb (i := 715) (by decide +kernel)
set_option maxRecDepth 100000 in
theorem w_1467 : am_cw (am_mi 233) ∈ lw_tbl := am_tb (i := 1467) rfl
theorem w_1464 : Cond.methodLink "SmokeRelayLaw" 208 (am_mi 233).1 ∈ lw_tbl := am_tb (i := 1464) (by decide +kernel)
theorem w_1465 : Cond.instanceMethod (am_mi 233).1 ∈ lw_tbl := am_tb (i := 1465) (by decide +kernel)
theorem w_1466 : Cond.selects (am_mi 233).1.cls (am_mi 233).1 (am_mi 233).1 ∈ lw_tbl := am_tb (i := 1466) (by decide +kernel)
set_option maxRecDepth 100000 in
theorem w_740 : am_cw (am_mi 82) ∈ lw_tbl := am_tb (i := 740) rfl
theorem w_738 : Cond.methodLink "SmokeRelayLaw" 209 (am_mi 82).1 ∈ lw_tbl := am_tb (i := 738) (by decide +kernel)
theorem w_739 : Cond.static (am_mi 82).1 ∈ lw_tbl := am_tb (i := 739) (by decide +kernel)
set_option maxRecDepth 100000 in
theorem w_1471 : am_cw (am_mi 234) ∈ lw_tbl := am_tb (i := 1471) rfl
theorem w_1468 : Cond.methodLink "SmokeRelayLaw" 211 (am_mi 234).1 ∈ lw_tbl := am_tb (i := 1468) (by decide +kernel)
theorem w_1469 : Cond.instanceMethod (am_mi 234).1 ∈ lw_tbl := am_tb (i := 1469) (by decide +kernel)
theorem w_1470 : Cond.selects (am_mi 234).1.cls (am_mi 234).1 (am_mi 234).1 ∈ lw_tbl := am_tb (i := 1470) (by decide +kernel)
set_option maxRecDepth 100000 in
theorem w_757 : am_cw (am_mi 86) ∈ lw_tbl := am_tb (i := 757) rfl
theorem w_755 : Cond.methodLink "SmokeRelayLaw" 212 (am_mi 86).1 ∈ lw_tbl := am_tb (i := 755) (by decide +kernel)
theorem w_756 : Cond.static (am_mi 86).1 ∈ lw_tbl := am_tb (i := 756) (by decide +kernel)
theorem w_1472 : Cond.methodLink "SmokeRelayLaw" 214 (am_mi 235).1 ∈ lw_tbl := am_tb (i := 1472) (by decide +kernel)
set_option maxRecDepth 100000 in
theorem w_769 : am_cw (am_mi 89) ∈ lw_tbl := am_tb (i := 769) rfl
theorem w_767 : Cond.methodLink "SmokeRelayLaw" 215 (am_mi 89).1 ∈ lw_tbl := am_tb (i := 767) (by decide +kernel)
theorem w_768 : Cond.static (am_mi 89).1 ∈ lw_tbl := am_tb (i := 768) (by decide +kernel)
set_option maxRecDepth 100000 in
theorem w_1492 : am_cw (am_mi 239) ∈ lw_tbl := am_tb (i := 1492) rfl
theorem w_1489 : Cond.methodLink "SmokeRelayLaw" 217 (am_mi 239).1 ∈ lw_tbl := am_tb (i := 1489) (by decide +kernel)
theorem w_1490 : Cond.instanceMethod (am_mi 239).1 ∈ lw_tbl := am_tb (i := 1490) (by decide +kernel)
theorem w_1491 : Cond.selects (am_mi 239).1.cls (am_mi 239).1 (am_mi 239).1 ∈ lw_tbl := am_tb (i := 1491) (by decide +kernel)
set_option maxRecDepth 100000 in
theorem w_777 : am_cw (am_mi 91) ∈ lw_tbl := am_tb (i := 777) rfl
theorem w_775 : Cond.methodLink "SmokeRelayLaw" 218 (am_mi 91).1 ∈ lw_tbl := am_tb (i := 775) (by decide +kernel)
theorem w_776 : Cond.static (am_mi 91).1 ∈ lw_tbl := am_tb (i := 776) (by decide +kernel)
set_option maxRecDepth 100000 in
theorem w_1497 : am_cw (am_mi 240) ∈ lw_tbl := am_tb (i := 1497) rfl
theorem w_1494 : Cond.methodLink "SmokeRelayLaw" 220 (am_mi 240).1 ∈ lw_tbl := am_tb (i := 1494) (by decide +kernel)
theorem w_1495 : Cond.instanceMethod (am_mi 240).1 ∈ lw_tbl := am_tb (i := 1495) (by decide +kernel)
theorem w_1496 : Cond.selects (am_mi 240).1.cls (am_mi 240).1 (am_mi 240).1 ∈ lw_tbl := am_tb (i := 1496) (by decide +kernel)
set_option maxRecDepth 100000 in
theorem w_785 : am_cw (am_mi 93) ∈ lw_tbl := am_tb (i := 785) rfl
theorem w_783 : Cond.methodLink "SmokeRelayLaw" 221 (am_mi 93).1 ∈ lw_tbl := am_tb (i := 783) (by decide +kernel)
theorem w_784 : Cond.static (am_mi 93).1 ∈ lw_tbl := am_tb (i := 784) (by decide +kernel)
set_option maxRecDepth 100000 in
theorem w_1505 : am_cw (am_mi 242) ∈ lw_tbl := am_tb (i := 1505) rfl
theorem w_1502 : Cond.methodLink "SmokeRelayLaw" 223 (am_mi 242).1 ∈ lw_tbl := am_tb (i := 1502) (by decide +kernel)
theorem w_1503 : Cond.instanceMethod (am_mi 242).1 ∈ lw_tbl := am_tb (i := 1503) (by decide +kernel)
theorem w_1504 : Cond.selects (am_mi 242).1.cls (am_mi 242).1 (am_mi 242).1 ∈ lw_tbl := am_tb (i := 1504) (by decide +kernel)
set_option maxRecDepth 100000 in
theorem w_794 : am_cw (am_mi 95) ∈ lw_tbl := am_tb (i := 794) rfl
theorem w_792 : Cond.methodLink "SmokeRelayLaw" 224 (am_mi 95).1 ∈ lw_tbl := am_tb (i := 792) (by decide +kernel)
theorem w_793 : Cond.static (am_mi 95).1 ∈ lw_tbl := am_tb (i := 793) (by decide +kernel)
set_option maxRecDepth 100000 in
theorem w_1509 : am_cw (am_mi 243) ∈ lw_tbl := am_tb (i := 1509) rfl
theorem w_1506 : Cond.methodLink "SmokeRelayLaw" 226 (am_mi 243).1 ∈ lw_tbl := am_tb (i := 1506) (by decide +kernel)
theorem w_1507 : Cond.instanceMethod (am_mi 243).1 ∈ lw_tbl := am_tb (i := 1507) (by decide +kernel)
theorem w_1508 : Cond.selects (am_mi 243).1.cls (am_mi 243).1 (am_mi 243).1 ∈ lw_tbl := am_tb (i := 1508) (by decide +kernel)
set_option maxRecDepth 100000 in
theorem w_313 : am_cw (am_mi 13) ∈ lw_tbl := am_tb (i := 313) rfl
theorem w_310 : Cond.methodLink "SmokeRelayLaw" 227 (am_mi 13).1 ∈ lw_tbl := am_tb (i := 310) (by decide +kernel)
theorem w_311 : Cond.instanceMethod (am_mi 13).1 ∈ lw_tbl := am_tb (i := 311) (by decide +kernel)
theorem w_312 : Cond.selects (am_mi 13).1.cls (am_mi 13).1 (am_mi 13).1 ∈ lw_tbl := am_tb (i := 312) (by decide +kernel)
theorem w_1510 : Cond.methodLink "SmokeRelayLaw" 230 (am_mi 244).1 ∈ lw_tbl := am_tb (i := 1510) (by decide +kernel)
set_option maxRecDepth 100000 in
theorem w_349 : am_cw (am_mi 21) ∈ lw_tbl := am_tb (i := 349) rfl
theorem w_346 : Cond.methodLink "SmokeRelayLaw" 231 (am_mi 21).1 ∈ lw_tbl := am_tb (i := 346) (by decide +kernel)
theorem w_347 : Cond.instanceMethod (am_mi 21).1 ∈ lw_tbl := am_tb (i := 347) (by decide +kernel)
theorem w_348 : Cond.selects (am_mi 21).1.cls (am_mi 21).1 (am_mi 21).1 ∈ lw_tbl := am_tb (i := 348) (by decide +kernel)
set_option maxRecDepth 100000 in
theorem w_1521 : am_cw (am_mi 246) ∈ lw_tbl := am_tb (i := 1521) rfl
theorem w_1518 : Cond.methodLink "SmokeRelayLaw" 234 (am_mi 246).1 ∈ lw_tbl := am_tb (i := 1518) (by decide +kernel)
theorem w_1519 : Cond.instanceMethod (am_mi 246).1 ∈ lw_tbl := am_tb (i := 1519) (by decide +kernel)
theorem w_1520 : Cond.selects (am_mi 246).1.cls (am_mi 246).1 (am_mi 246).1 ∈ lw_tbl := am_tb (i := 1520) (by decide +kernel)
set_option maxRecDepth 100000 in
theorem w_801 : am_cw (am_mi 97) ∈ lw_tbl := am_tb (i := 801) rfl
theorem w_799 : Cond.methodLink "SmokeRelayLaw" 235 (am_mi 97).1 ∈ lw_tbl := am_tb (i := 799) (by decide +kernel)
theorem w_800 : Cond.static (am_mi 97).1 ∈ lw_tbl := am_tb (i := 800) (by decide +kernel)
set_option maxRecDepth 100000 in
theorem w_1526 : am_cw (am_mi 247) ∈ lw_tbl := am_tb (i := 1526) rfl
theorem w_1523 : Cond.methodLink "SmokeRelayLaw" 237 (am_mi 247).1 ∈ lw_tbl := am_tb (i := 1523) (by decide +kernel)
theorem w_1524 : Cond.instanceMethod (am_mi 247).1 ∈ lw_tbl := am_tb (i := 1524) (by decide +kernel)
theorem w_1525 : Cond.selects (am_mi 247).1.cls (am_mi 247).1 (am_mi 247).1 ∈ lw_tbl := am_tb (i := 1525) (by decide +kernel)
set_option maxRecDepth 100000 in
theorem w_363 : am_cw (am_mi 24) ∈ lw_tbl := am_tb (i := 363) rfl
theorem w_360 : Cond.methodLink "SmokeRelayLaw" 238 (am_mi 24).1 ∈ lw_tbl := am_tb (i := 360) (by decide +kernel)
theorem w_361 : Cond.instanceMethod (am_mi 24).1 ∈ lw_tbl := am_tb (i := 361) (by decide +kernel)
theorem w_362 : Cond.selects (am_mi 24).1.cls (am_mi 24).1 (am_mi 24).1 ∈ lw_tbl := am_tb (i := 362) (by decide +kernel)
set_option maxRecDepth 100000 in
theorem w_1534 : am_cw (am_mi 249) ∈ lw_tbl := am_tb (i := 1534) rfl
theorem w_1531 : Cond.methodLink "SmokeRelayLaw" 241 (am_mi 249).1 ∈ lw_tbl := am_tb (i := 1531) (by decide +kernel)
theorem w_1532 : Cond.instanceMethod (am_mi 249).1 ∈ lw_tbl := am_tb (i := 1532) (by decide +kernel)
theorem w_1533 : Cond.selects (am_mi 249).1.cls (am_mi 249).1 (am_mi 249).1 ∈ lw_tbl := am_tb (i := 1533) (by decide +kernel)
set_option maxRecDepth 100000 in
theorem w_812 : am_cw (am_mi 100) ∈ lw_tbl := am_tb (i := 812) rfl
theorem w_810 : Cond.methodLink "SmokeRelayLaw" 242 (am_mi 100).1 ∈ lw_tbl := am_tb (i := 810) (by decide +kernel)
theorem w_811 : Cond.static (am_mi 100).1 ∈ lw_tbl := am_tb (i := 811) (by decide +kernel)
set_option maxRecDepth 100000 in
theorem w_1538 : am_cw (am_mi 250) ∈ lw_tbl := am_tb (i := 1538) rfl
theorem w_1535 : Cond.methodLink "SmokeRelayLaw" 244 (am_mi 250).1 ∈ lw_tbl := am_tb (i := 1535) (by decide +kernel)
theorem w_1536 : Cond.instanceMethod (am_mi 250).1 ∈ lw_tbl := am_tb (i := 1536) (by decide +kernel)
theorem w_1537 : Cond.selects (am_mi 250).1.cls (am_mi 250).1 (am_mi 250).1 ∈ lw_tbl := am_tb (i := 1537) (by decide +kernel)
set_option maxRecDepth 100000 in
theorem w_821 : am_cw (am_mi 102) ∈ lw_tbl := am_tb (i := 821) rfl
theorem w_819 : Cond.methodLink "SmokeRelayLaw" 245 (am_mi 102).1 ∈ lw_tbl := am_tb (i := 819) (by decide +kernel)
theorem w_820 : Cond.static (am_mi 102).1 ∈ lw_tbl := am_tb (i := 820) (by decide +kernel)
theorem w_1544 : Cond.methodLink "SmokeRelayLaw" 247 (am_mi 252).1 ∈ lw_tbl := am_tb (i := 1544) (by decide +kernel)
set_option maxRecDepth 100000 in
theorem w_841 : am_cw (am_mi 107) ∈ lw_tbl := am_tb (i := 841) rfl
theorem w_839 : Cond.methodLink "SmokeRelayLaw" 248 (am_mi 107).1 ∈ lw_tbl := am_tb (i := 839) (by decide +kernel)
theorem w_840 : Cond.static (am_mi 107).1 ∈ lw_tbl := am_tb (i := 840) (by decide +kernel)
set_option maxRecDepth 100000 in
theorem w_1560 : am_cw (am_mi 255) ∈ lw_tbl := am_tb (i := 1560) rfl
theorem w_1557 : Cond.methodLink "SmokeRelayLaw" 250 (am_mi 255).1 ∈ lw_tbl := am_tb (i := 1557) (by decide +kernel)
theorem w_1558 : Cond.instanceMethod (am_mi 255).1 ∈ lw_tbl := am_tb (i := 1558) (by decide +kernel)
theorem w_1559 : Cond.selects (am_mi 255).1.cls (am_mi 255).1 (am_mi 255).1 ∈ lw_tbl := am_tb (i := 1559) (by decide +kernel)
set_option maxRecDepth 100000 in
theorem w_852 : am_cw (am_mi 110) ∈ lw_tbl := am_tb (i := 852) rfl
theorem w_850 : Cond.methodLink "SmokeRelayLaw" 251 (am_mi 110).1 ∈ lw_tbl := am_tb (i := 850) (by decide +kernel)
theorem w_851 : Cond.static (am_mi 110).1 ∈ lw_tbl := am_tb (i := 851) (by decide +kernel)
set_option maxRecDepth 100000 in
theorem w_1565 : am_cw (am_mi 256) ∈ lw_tbl := am_tb (i := 1565) rfl
theorem w_1562 : Cond.methodLink "SmokeRelayLaw" 253 (am_mi 256).1 ∈ lw_tbl := am_tb (i := 1562) (by decide +kernel)
theorem w_1563 : Cond.instanceMethod (am_mi 256).1 ∈ lw_tbl := am_tb (i := 1563) (by decide +kernel)
theorem w_1564 : Cond.selects (am_mi 256).1.cls (am_mi 256).1 (am_mi 256).1 ∈ lw_tbl := am_tb (i := 1564) (by decide +kernel)
set_option maxRecDepth 100000 in
theorem w_859 : am_cw (am_mi 112) ∈ lw_tbl := am_tb (i := 859) rfl
theorem w_857 : Cond.methodLink "SmokeRelayLaw" 254 (am_mi 112).1 ∈ lw_tbl := am_tb (i := 857) (by decide +kernel)
theorem w_858 : Cond.static (am_mi 112).1 ∈ lw_tbl := am_tb (i := 858) (by decide +kernel)
set_option maxRecDepth 100000 in
theorem w_1569 : am_cw (am_mi 257) ∈ lw_tbl := am_tb (i := 1569) rfl
theorem w_1566 : Cond.methodLink "SmokeRelayLaw" 256 (am_mi 257).1 ∈ lw_tbl := am_tb (i := 1566) (by decide +kernel)
theorem w_1567 : Cond.instanceMethod (am_mi 257).1 ∈ lw_tbl := am_tb (i := 1567) (by decide +kernel)
theorem w_1568 : Cond.selects (am_mi 257).1.cls (am_mi 257).1 (am_mi 257).1 ∈ lw_tbl := am_tb (i := 1568) (by decide +kernel)
set_option maxRecDepth 100000 in
theorem w_367 : am_cw (am_mi 25) ∈ lw_tbl := am_tb (i := 367) rfl
theorem w_364 : Cond.methodLink "SmokeRelayLaw" 257 (am_mi 25).1 ∈ lw_tbl := am_tb (i := 364) (by decide +kernel)
theorem w_365 : Cond.instanceMethod (am_mi 25).1 ∈ lw_tbl := am_tb (i := 365) (by decide +kernel)
theorem w_366 : Cond.selects (am_mi 25).1.cls (am_mi 25).1 (am_mi 25).1 ∈ lw_tbl := am_tb (i := 366) (by decide +kernel)
set_option maxRecDepth 100000 in
theorem w_1577 : am_cw (am_mi 259) ∈ lw_tbl := am_tb (i := 1577) rfl
theorem w_1574 : Cond.methodLink "SmokeRelayLaw" 260 (am_mi 259).1 ∈ lw_tbl := am_tb (i := 1574) (by decide +kernel)
theorem w_1575 : Cond.instanceMethod (am_mi 259).1 ∈ lw_tbl := am_tb (i := 1575) (by decide +kernel)
theorem w_1576 : Cond.selects (am_mi 259).1.cls (am_mi 259).1 (am_mi 259).1 ∈ lw_tbl := am_tb (i := 1576) (by decide +kernel)
set_option maxRecDepth 100000 in
theorem w_867 : am_cw (am_mi 114) ∈ lw_tbl := am_tb (i := 867) rfl
theorem w_865 : Cond.methodLink "SmokeRelayLaw" 261 (am_mi 114).1 ∈ lw_tbl := am_tb (i := 865) (by decide +kernel)
theorem w_866 : Cond.static (am_mi 114).1 ∈ lw_tbl := am_tb (i := 866) (by decide +kernel)
set_option maxRecDepth 100000 in
theorem w_1581 : am_cw (am_mi 260) ∈ lw_tbl := am_tb (i := 1581) rfl
theorem w_1578 : Cond.methodLink "SmokeRelayLaw" 264 (am_mi 260).1 ∈ lw_tbl := am_tb (i := 1578) (by decide +kernel)
theorem w_1579 : Cond.instanceMethod (am_mi 260).1 ∈ lw_tbl := am_tb (i := 1579) (by decide +kernel)
theorem w_1580 : Cond.selects (am_mi 260).1.cls (am_mi 260).1 (am_mi 260).1 ∈ lw_tbl := am_tb (i := 1580) (by decide +kernel)
set_option maxRecDepth 100000 in
theorem w_882 : am_cw (am_mi 118) ∈ lw_tbl := am_tb (i := 882) rfl
theorem w_880 : Cond.methodLink "SmokeRelayLaw" 265 (am_mi 118).1 ∈ lw_tbl := am_tb (i := 880) (by decide +kernel)
theorem w_881 : Cond.static (am_mi 118).1 ∈ lw_tbl := am_tb (i := 881) (by decide +kernel)
theorem w_1588 : Cond.methodLink "SmokeRelayLaw" 267 (am_mi 263).1 ∈ lw_tbl := am_tb (i := 1588) (by decide +kernel)
set_option maxRecDepth 100000 in
theorem w_895 : am_cw (am_mi 121) ∈ lw_tbl := am_tb (i := 895) rfl
theorem w_893 : Cond.methodLink "SmokeRelayLaw" 268 (am_mi 121).1 ∈ lw_tbl := am_tb (i := 893) (by decide +kernel)
theorem w_894 : Cond.static (am_mi 121).1 ∈ lw_tbl := am_tb (i := 894) (by decide +kernel)
set_option maxRecDepth 100000 in
theorem w_1601 : am_cw (am_mi 266) ∈ lw_tbl := am_tb (i := 1601) rfl
theorem w_1598 : Cond.methodLink "SmokeRelayLaw" 270 (am_mi 266).1 ∈ lw_tbl := am_tb (i := 1598) (by decide +kernel)
theorem w_1599 : Cond.instanceMethod (am_mi 266).1 ∈ lw_tbl := am_tb (i := 1599) (by decide +kernel)
theorem w_1600 : Cond.selects (am_mi 266).1.cls (am_mi 266).1 (am_mi 266).1 ∈ lw_tbl := am_tb (i := 1600) (by decide +kernel)
set_option maxRecDepth 100000 in
theorem w_903 : am_cw (am_mi 123) ∈ lw_tbl := am_tb (i := 903) rfl
theorem w_901 : Cond.methodLink "SmokeRelayLaw" 271 (am_mi 123).1 ∈ lw_tbl := am_tb (i := 901) (by decide +kernel)
theorem w_902 : Cond.static (am_mi 123).1 ∈ lw_tbl := am_tb (i := 902) (by decide +kernel)
set_option maxRecDepth 100000 in
theorem w_1606 : am_cw (am_mi 267) ∈ lw_tbl := am_tb (i := 1606) rfl
theorem w_1603 : Cond.methodLink "SmokeRelayLaw" 273 (am_mi 267).1 ∈ lw_tbl := am_tb (i := 1603) (by decide +kernel)
theorem w_1604 : Cond.instanceMethod (am_mi 267).1 ∈ lw_tbl := am_tb (i := 1604) (by decide +kernel)
theorem w_1605 : Cond.selects (am_mi 267).1.cls (am_mi 267).1 (am_mi 267).1 ∈ lw_tbl := am_tb (i := 1605) (by decide +kernel)
set_option maxRecDepth 100000 in
theorem w_915 : am_cw (am_mi 126) ∈ lw_tbl := am_tb (i := 915) rfl
theorem w_913 : Cond.methodLink "SmokeRelayLaw" 274 (am_mi 126).1 ∈ lw_tbl := am_tb (i := 913) (by decide +kernel)
theorem w_914 : Cond.static (am_mi 126).1 ∈ lw_tbl := am_tb (i := 914) (by decide +kernel)
set_option maxRecDepth 100000 in
theorem w_1610 : am_cw (am_mi 268) ∈ lw_tbl := am_tb (i := 1610) rfl
theorem w_1607 : Cond.methodLink "SmokeRelayLaw" 277 (am_mi 268).1 ∈ lw_tbl := am_tb (i := 1607) (by decide +kernel)
theorem w_1608 : Cond.instanceMethod (am_mi 268).1 ∈ lw_tbl := am_tb (i := 1608) (by decide +kernel)
theorem w_1609 : Cond.selects (am_mi 268).1.cls (am_mi 268).1 (am_mi 268).1 ∈ lw_tbl := am_tb (i := 1609) (by decide +kernel)
set_option maxRecDepth 100000 in
theorem w_929 : am_cw (am_mi 130) ∈ lw_tbl := am_tb (i := 929) rfl
theorem w_927 : Cond.methodLink "SmokeRelayLaw" 278 (am_mi 130).1 ∈ lw_tbl := am_tb (i := 927) (by decide +kernel)
theorem w_928 : Cond.static (am_mi 130).1 ∈ lw_tbl := am_tb (i := 928) (by decide +kernel)
set_option maxRecDepth 100000 in
theorem w_1618 : am_cw (am_mi 270) ∈ lw_tbl := am_tb (i := 1618) rfl
theorem w_1615 : Cond.methodLink "SmokeRelayLaw" 281 (am_mi 270).1 ∈ lw_tbl := am_tb (i := 1615) (by decide +kernel)
theorem w_1616 : Cond.instanceMethod (am_mi 270).1 ∈ lw_tbl := am_tb (i := 1616) (by decide +kernel)
theorem w_1617 : Cond.selects (am_mi 270).1.cls (am_mi 270).1 (am_mi 270).1 ∈ lw_tbl := am_tb (i := 1617) (by decide +kernel)
set_option maxRecDepth 100000 in
theorem w_973 : am_cw (am_mi 137) ∈ lw_tbl := am_tb (i := 973) rfl
theorem w_971 : Cond.methodLink "SmokeRelayLaw" 282 (am_mi 137).1 ∈ lw_tbl := am_tb (i := 971) (by decide +kernel)
theorem w_972 : Cond.static (am_mi 137).1 ∈ lw_tbl := am_tb (i := 972) (by decide +kernel)
set_option maxRecDepth 100000 in
theorem w_1630 : am_cw (am_mi 273) ∈ lw_tbl := am_tb (i := 1630) rfl
theorem w_1627 : Cond.methodLink "SmokeRelayLaw" 284 (am_mi 273).1 ∈ lw_tbl := am_tb (i := 1627) (by decide +kernel)
theorem w_1628 : Cond.instanceMethod (am_mi 273).1 ∈ lw_tbl := am_tb (i := 1628) (by decide +kernel)
theorem w_1629 : Cond.selects (am_mi 273).1.cls (am_mi 273).1 (am_mi 273).1 ∈ lw_tbl := am_tb (i := 1629) (by decide +kernel)
set_option maxRecDepth 100000 in
theorem w_980 : am_cw (am_mi 139) ∈ lw_tbl := am_tb (i := 980) rfl
theorem w_978 : Cond.methodLink "SmokeRelayLaw" 285 (am_mi 139).1 ∈ lw_tbl := am_tb (i := 978) (by decide +kernel)
theorem w_979 : Cond.static (am_mi 139).1 ∈ lw_tbl := am_tb (i := 979) (by decide +kernel)
set_option maxRecDepth 100000 in
theorem w_1634 : am_cw (am_mi 274) ∈ lw_tbl := am_tb (i := 1634) rfl
theorem w_1631 : Cond.methodLink "SmokeRelayLaw" 287 (am_mi 274).1 ∈ lw_tbl := am_tb (i := 1631) (by decide +kernel)
theorem w_1632 : Cond.instanceMethod (am_mi 274).1 ∈ lw_tbl := am_tb (i := 1632) (by decide +kernel)
theorem w_1633 : Cond.selects (am_mi 274).1.cls (am_mi 274).1 (am_mi 274).1 ∈ lw_tbl := am_tb (i := 1633) (by decide +kernel)
set_option maxRecDepth 100000 in
theorem w_987 : am_cw (am_mi 141) ∈ lw_tbl := am_tb (i := 987) rfl
theorem w_985 : Cond.methodLink "SmokeRelayLaw" 288 (am_mi 141).1 ∈ lw_tbl := am_tb (i := 985) (by decide +kernel)
theorem w_986 : Cond.static (am_mi 141).1 ∈ lw_tbl := am_tb (i := 986) (by decide +kernel)
set_option maxRecDepth 100000 in
theorem w_1638 : am_cw (am_mi 275) ∈ lw_tbl := am_tb (i := 1638) rfl
theorem w_1635 : Cond.methodLink "SmokeRelayLaw" 290 (am_mi 275).1 ∈ lw_tbl := am_tb (i := 1635) (by decide +kernel)
theorem w_1636 : Cond.instanceMethod (am_mi 275).1 ∈ lw_tbl := am_tb (i := 1636) (by decide +kernel)
theorem w_1637 : Cond.selects (am_mi 275).1.cls (am_mi 275).1 (am_mi 275).1 ∈ lw_tbl := am_tb (i := 1637) (by decide +kernel)
set_option maxRecDepth 100000 in
theorem w_994 : am_cw (am_mi 143) ∈ lw_tbl := am_tb (i := 994) rfl
theorem w_992 : Cond.methodLink "SmokeRelayLaw" 291 (am_mi 143).1 ∈ lw_tbl := am_tb (i := 992) (by decide +kernel)
theorem w_993 : Cond.static (am_mi 143).1 ∈ lw_tbl := am_tb (i := 993) (by decide +kernel)
set_option maxRecDepth 100000 in
theorem w_1642 : am_cw (am_mi 276) ∈ lw_tbl := am_tb (i := 1642) rfl
theorem w_1639 : Cond.methodLink "SmokeRelayLaw" 293 (am_mi 276).1 ∈ lw_tbl := am_tb (i := 1639) (by decide +kernel)
theorem w_1640 : Cond.instanceMethod (am_mi 276).1 ∈ lw_tbl := am_tb (i := 1640) (by decide +kernel)
theorem w_1641 : Cond.selects (am_mi 276).1.cls (am_mi 276).1 (am_mi 276).1 ∈ lw_tbl := am_tb (i := 1641) (by decide +kernel)
set_option maxRecDepth 100000 in
theorem w_1006 : am_cw (am_mi 146) ∈ lw_tbl := am_tb (i := 1006) rfl
theorem w_1004 : Cond.methodLink "SmokeRelayLaw" 294 (am_mi 146).1 ∈ lw_tbl := am_tb (i := 1004) (by decide +kernel)
theorem w_1005 : Cond.static (am_mi 146).1 ∈ lw_tbl := am_tb (i := 1005) (by decide +kernel)
set_option maxRecDepth 100000 in
theorem w_1646 : am_cw (am_mi 277) ∈ lw_tbl := am_tb (i := 1646) rfl
theorem w_1643 : Cond.methodLink "SmokeRelayLaw" 296 (am_mi 277).1 ∈ lw_tbl := am_tb (i := 1643) (by decide +kernel)
theorem w_1644 : Cond.instanceMethod (am_mi 277).1 ∈ lw_tbl := am_tb (i := 1644) (by decide +kernel)
theorem w_1645 : Cond.selects (am_mi 277).1.cls (am_mi 277).1 (am_mi 277).1 ∈ lw_tbl := am_tb (i := 1645) (by decide +kernel)
set_option maxRecDepth 100000 in
theorem w_400 : am_cw (am_mi 32) ∈ lw_tbl := am_tb (i := 400) rfl
theorem w_397 : Cond.methodLink "SmokeRelayLaw" 297 (am_mi 32).1 ∈ lw_tbl := am_tb (i := 397) (by decide +kernel)
theorem w_398 : Cond.instanceMethod (am_mi 32).1 ∈ lw_tbl := am_tb (i := 398) (by decide +kernel)
theorem w_399 : Cond.selects (am_mi 32).1.cls (am_mi 32).1 (am_mi 32).1 ∈ lw_tbl := am_tb (i := 399) (by decide +kernel)
theorem w_1647 : Cond.methodLink "SmokeRelayLaw" 300 (am_mi 278).1 ∈ lw_tbl := am_tb (i := 1647) (by decide +kernel)
set_option maxRecDepth 100000 in
theorem w_420 : am_cw (am_mi 37) ∈ lw_tbl := am_tb (i := 420) rfl
theorem w_417 : Cond.methodLink "SmokeRelayLaw" 301 (am_mi 37).1 ∈ lw_tbl := am_tb (i := 417) (by decide +kernel)
theorem w_418 : Cond.instanceMethod (am_mi 37).1 ∈ lw_tbl := am_tb (i := 418) (by decide +kernel)
theorem w_419 : Cond.selects (am_mi 37).1.cls (am_mi 37).1 (am_mi 37).1 ∈ lw_tbl := am_tb (i := 419) (by decide +kernel)
set_option maxRecDepth 100000 in
theorem w_1658 : am_cw (am_mi 280) ∈ lw_tbl := am_tb (i := 1658) rfl
theorem w_1655 : Cond.methodLink "SmokeRelayLaw" 304 (am_mi 280).1 ∈ lw_tbl := am_tb (i := 1655) (by decide +kernel)
theorem w_1656 : Cond.instanceMethod (am_mi 280).1 ∈ lw_tbl := am_tb (i := 1656) (by decide +kernel)
theorem w_1657 : Cond.selects (am_mi 280).1.cls (am_mi 280).1 (am_mi 280).1 ∈ lw_tbl := am_tb (i := 1657) (by decide +kernel)
set_option maxRecDepth 100000 in
theorem w_1013 : am_cw (am_mi 148) ∈ lw_tbl := am_tb (i := 1013) rfl
theorem w_1011 : Cond.methodLink "SmokeRelayLaw" 305 (am_mi 148).1 ∈ lw_tbl := am_tb (i := 1011) (by decide +kernel)
theorem w_1012 : Cond.static (am_mi 148).1 ∈ lw_tbl := am_tb (i := 1012) (by decide +kernel)
set_option maxRecDepth 100000 in
theorem w_1663 : am_cw (am_mi 281) ∈ lw_tbl := am_tb (i := 1663) rfl
theorem w_1660 : Cond.methodLink "SmokeRelayLaw" 308 (am_mi 281).1 ∈ lw_tbl := am_tb (i := 1660) (by decide +kernel)
theorem w_1661 : Cond.instanceMethod (am_mi 281).1 ∈ lw_tbl := am_tb (i := 1661) (by decide +kernel)
theorem w_1662 : Cond.selects (am_mi 281).1.cls (am_mi 281).1 (am_mi 281).1 ∈ lw_tbl := am_tb (i := 1662) (by decide +kernel)
set_option maxRecDepth 100000 in
theorem w_1021 : am_cw (am_mi 150) ∈ lw_tbl := am_tb (i := 1021) rfl
theorem w_1019 : Cond.methodLink "SmokeRelayLaw" 309 (am_mi 150).1 ∈ lw_tbl := am_tb (i := 1019) (by decide +kernel)
theorem w_1020 : Cond.static (am_mi 150).1 ∈ lw_tbl := am_tb (i := 1020) (by decide +kernel)
set_option maxRecDepth 100000 in
theorem w_1667 : am_cw (am_mi 282) ∈ lw_tbl := am_tb (i := 1667) rfl
theorem w_1664 : Cond.methodLink "SmokeRelayLaw" 311 (am_mi 282).1 ∈ lw_tbl := am_tb (i := 1664) (by decide +kernel)
theorem w_1665 : Cond.instanceMethod (am_mi 282).1 ∈ lw_tbl := am_tb (i := 1665) (by decide +kernel)
theorem w_1666 : Cond.selects (am_mi 282).1.cls (am_mi 282).1 (am_mi 282).1 ∈ lw_tbl := am_tb (i := 1666) (by decide +kernel)
set_option maxRecDepth 100000 in
theorem w_1028 : am_cw (am_mi 152) ∈ lw_tbl := am_tb (i := 1028) rfl
theorem w_1026 : Cond.methodLink "SmokeRelayLaw" 312 (am_mi 152).1 ∈ lw_tbl := am_tb (i := 1026) (by decide +kernel)
theorem w_1027 : Cond.static (am_mi 152).1 ∈ lw_tbl := am_tb (i := 1027) (by decide +kernel)
set_option maxRecDepth 100000 in
theorem w_1671 : am_cw (am_mi 283) ∈ lw_tbl := am_tb (i := 1671) rfl
theorem w_1668 : Cond.methodLink "SmokeRelayLaw" 315 (am_mi 283).1 ∈ lw_tbl := am_tb (i := 1668) (by decide +kernel)
theorem w_1669 : Cond.instanceMethod (am_mi 283).1 ∈ lw_tbl := am_tb (i := 1669) (by decide +kernel)
theorem w_1670 : Cond.selects (am_mi 283).1.cls (am_mi 283).1 (am_mi 283).1 ∈ lw_tbl := am_tb (i := 1670) (by decide +kernel)
set_option maxRecDepth 100000 in
theorem w_1052 : am_cw (am_mi 154) ∈ lw_tbl := am_tb (i := 1052) rfl
theorem w_1050 : Cond.methodLink "SmokeRelayLaw" 316 (am_mi 154).1 ∈ lw_tbl := am_tb (i := 1050) (by decide +kernel)
theorem w_1051 : Cond.static (am_mi 154).1 ∈ lw_tbl := am_tb (i := 1051) (by decide +kernel)
set_option maxRecDepth 100000 in
theorem w_1675 : am_cw (am_mi 284) ∈ lw_tbl := am_tb (i := 1675) rfl
theorem w_1672 : Cond.methodLink "SmokeRelayLaw" 318 (am_mi 284).1 ∈ lw_tbl := am_tb (i := 1672) (by decide +kernel)
theorem w_1673 : Cond.instanceMethod (am_mi 284).1 ∈ lw_tbl := am_tb (i := 1673) (by decide +kernel)
theorem w_1674 : Cond.selects (am_mi 284).1.cls (am_mi 284).1 (am_mi 284).1 ∈ lw_tbl := am_tb (i := 1674) (by decide +kernel)
set_option maxRecDepth 100000 in
theorem w_1059 : am_cw (am_mi 156) ∈ lw_tbl := am_tb (i := 1059) rfl
theorem w_1057 : Cond.methodLink "SmokeRelayLaw" 319 (am_mi 156).1 ∈ lw_tbl := am_tb (i := 1057) (by decide +kernel)
theorem w_1058 : Cond.static (am_mi 156).1 ∈ lw_tbl := am_tb (i := 1058) (by decide +kernel)
set_option maxRecDepth 100000 in
theorem w_1683 : am_cw (am_mi 286) ∈ lw_tbl := am_tb (i := 1683) rfl
theorem w_1680 : Cond.methodLink "SmokeRelayLaw" 321 (am_mi 286).1 ∈ lw_tbl := am_tb (i := 1680) (by decide +kernel)
theorem w_1681 : Cond.instanceMethod (am_mi 286).1 ∈ lw_tbl := am_tb (i := 1681) (by decide +kernel)
theorem w_1682 : Cond.selects (am_mi 286).1.cls (am_mi 286).1 (am_mi 286).1 ∈ lw_tbl := am_tb (i := 1682) (by decide +kernel)
set_option maxRecDepth 100000 in
theorem w_1079 : am_cw (am_mi 161) ∈ lw_tbl := am_tb (i := 1079) rfl
theorem w_1077 : Cond.methodLink "SmokeRelayLaw" 322 (am_mi 161).1 ∈ lw_tbl := am_tb (i := 1077) (by decide +kernel)
theorem w_1078 : Cond.static (am_mi 161).1 ∈ lw_tbl := am_tb (i := 1078) (by decide +kernel)
set_option maxRecDepth 100000 in
theorem w_1695 : am_cw (am_mi 289) ∈ lw_tbl := am_tb (i := 1695) rfl
theorem w_1692 : Cond.methodLink "SmokeRelayLaw" 324 (am_mi 289).1 ∈ lw_tbl := am_tb (i := 1692) (by decide +kernel)
theorem w_1693 : Cond.instanceMethod (am_mi 289).1 ∈ lw_tbl := am_tb (i := 1693) (by decide +kernel)
theorem w_1694 : Cond.selects (am_mi 289).1.cls (am_mi 289).1 (am_mi 289).1 ∈ lw_tbl := am_tb (i := 1694) (by decide +kernel)
set_option maxRecDepth 100000 in
theorem w_1086 : am_cw (am_mi 163) ∈ lw_tbl := am_tb (i := 1086) rfl
theorem w_1084 : Cond.methodLink "SmokeRelayLaw" 325 (am_mi 163).1 ∈ lw_tbl := am_tb (i := 1084) (by decide +kernel)
theorem w_1085 : Cond.static (am_mi 163).1 ∈ lw_tbl := am_tb (i := 1085) (by decide +kernel)
set_option maxRecDepth 100000 in
theorem w_1699 : am_cw (am_mi 290) ∈ lw_tbl := am_tb (i := 1699) rfl
theorem w_1696 : Cond.methodLink "SmokeRelayLaw" 327 (am_mi 290).1 ∈ lw_tbl := am_tb (i := 1696) (by decide +kernel)
theorem w_1697 : Cond.instanceMethod (am_mi 290).1 ∈ lw_tbl := am_tb (i := 1697) (by decide +kernel)
theorem w_1698 : Cond.selects (am_mi 290).1.cls (am_mi 290).1 (am_mi 290).1 ∈ lw_tbl := am_tb (i := 1698) (by decide +kernel)
set_option maxRecDepth 100000 in
theorem w_1093 : am_cw (am_mi 165) ∈ lw_tbl := am_tb (i := 1093) rfl
theorem w_1091 : Cond.methodLink "SmokeRelayLaw" 328 (am_mi 165).1 ∈ lw_tbl := am_tb (i := 1091) (by decide +kernel)
theorem w_1092 : Cond.static (am_mi 165).1 ∈ lw_tbl := am_tb (i := 1092) (by decide +kernel)
set_option maxRecDepth 100000 in
theorem w_1703 : am_cw (am_mi 291) ∈ lw_tbl := am_tb (i := 1703) rfl
theorem w_1700 : Cond.methodLink "SmokeRelayLaw" 330 (am_mi 291).1 ∈ lw_tbl := am_tb (i := 1700) (by decide +kernel)
theorem w_1701 : Cond.instanceMethod (am_mi 291).1 ∈ lw_tbl := am_tb (i := 1701) (by decide +kernel)
theorem w_1702 : Cond.selects (am_mi 291).1.cls (am_mi 291).1 (am_mi 291).1 ∈ lw_tbl := am_tb (i := 1702) (by decide +kernel)
set_option maxRecDepth 100000 in
theorem w_436 : am_cw (am_mi 41) ∈ lw_tbl := am_tb (i := 436) rfl
theorem w_433 : Cond.methodLink "SmokeRelayLaw" 331 (am_mi 41).1 ∈ lw_tbl := am_tb (i := 433) (by decide +kernel)
theorem w_434 : Cond.instanceMethod (am_mi 41).1 ∈ lw_tbl := am_tb (i := 434) (by decide +kernel)
theorem w_435 : Cond.selects (am_mi 41).1.cls (am_mi 41).1 (am_mi 41).1 ∈ lw_tbl := am_tb (i := 435) (by decide +kernel)
set_option maxRecDepth 100000 in
theorem w_1679 : am_cw (am_mi 285) ∈ lw_tbl := am_tb (i := 1679) rfl
theorem w_1676 : Cond.methodLink "SmokeRelayLaw" 335 (am_mi 285).1 ∈ lw_tbl := am_tb (i := 1676) (by decide +kernel)
theorem w_1677 : Cond.instanceMethod (am_mi 285).1 ∈ lw_tbl := am_tb (i := 1677) (by decide +kernel)
theorem w_1678 : Cond.selects (am_mi 285).1.cls (am_mi 285).1 (am_mi 285).1 ∈ lw_tbl := am_tb (i := 1678) (by decide +kernel)
set_option maxRecDepth 100000 in
theorem w_1101 : am_cw (am_mi 167) ∈ lw_tbl := am_tb (i := 1101) rfl
theorem w_1099 : Cond.methodLink "SmokeRelayLaw" 336 (am_mi 167).1 ∈ lw_tbl := am_tb (i := 1099) (by decide +kernel)
theorem w_1100 : Cond.static (am_mi 167).1 ∈ lw_tbl := am_tb (i := 1100) (by decide +kernel)
set_option maxRecDepth 100000 in
theorem w_1707 : am_cw (am_mi 292) ∈ lw_tbl := am_tb (i := 1707) rfl
theorem w_1704 : Cond.methodLink "SmokeRelayLaw" 338 (am_mi 292).1 ∈ lw_tbl := am_tb (i := 1704) (by decide +kernel)
theorem w_1705 : Cond.instanceMethod (am_mi 292).1 ∈ lw_tbl := am_tb (i := 1705) (by decide +kernel)
theorem w_1706 : Cond.selects (am_mi 292).1.cls (am_mi 292).1 (am_mi 292).1 ∈ lw_tbl := am_tb (i := 1706) (by decide +kernel)
set_option maxRecDepth 100000 in
theorem w_1113 : am_cw (am_mi 170) ∈ lw_tbl := am_tb (i := 1113) rfl
theorem w_1111 : Cond.methodLink "SmokeRelayLaw" 339 (am_mi 170).1 ∈ lw_tbl := am_tb (i := 1111) (by decide +kernel)
theorem w_1112 : Cond.static (am_mi 170).1 ∈ lw_tbl := am_tb (i := 1112) (by decide +kernel)
set_option maxRecDepth 100000 in
theorem w_1711 : am_cw (am_mi 293) ∈ lw_tbl := am_tb (i := 1711) rfl
theorem w_1708 : Cond.methodLink "SmokeRelayLaw" 341 (am_mi 293).1 ∈ lw_tbl := am_tb (i := 1708) (by decide +kernel)
theorem w_1709 : Cond.instanceMethod (am_mi 293).1 ∈ lw_tbl := am_tb (i := 1709) (by decide +kernel)
theorem w_1710 : Cond.selects (am_mi 293).1.cls (am_mi 293).1 (am_mi 293).1 ∈ lw_tbl := am_tb (i := 1710) (by decide +kernel)
set_option maxRecDepth 100000 in
theorem w_1252 : am_cw (am_mi 198) ∈ lw_tbl := am_tb (i := 1252) rfl
theorem w_1250 : Cond.methodLink "SmokeRelayLaw" 342 (am_mi 198).1 ∈ lw_tbl := am_tb (i := 1250) (by decide +kernel)
theorem w_1251 : Cond.static (am_mi 198).1 ∈ lw_tbl := am_tb (i := 1251) (by decide +kernel)
set_option maxRecDepth 100000 in
theorem w_1755 : am_cw (am_mi 301) ∈ lw_tbl := am_tb (i := 1755) rfl
theorem w_1752 : Cond.methodLink "SmokeRelayLaw" 344 (am_mi 301).1 ∈ lw_tbl := am_tb (i := 1752) (by decide +kernel)
theorem w_1753 : Cond.instanceMethod (am_mi 301).1 ∈ lw_tbl := am_tb (i := 1753) (by decide +kernel)
theorem w_1754 : Cond.selects (am_mi 301).1.cls (am_mi 301).1 (am_mi 301).1 ∈ lw_tbl := am_tb (i := 1754) (by decide +kernel)
set_option maxRecDepth 100000 in
theorem w_1260 : am_cw (am_mi 200) ∈ lw_tbl := am_tb (i := 1260) rfl
theorem w_1258 : Cond.methodLink "SmokeRelayLaw" 345 (am_mi 200).1 ∈ lw_tbl := am_tb (i := 1258) (by decide +kernel)
theorem w_1259 : Cond.static (am_mi 200).1 ∈ lw_tbl := am_tb (i := 1259) (by decide +kernel)
set_option maxRecDepth 100000 in
theorem w_1759 : am_cw (am_mi 302) ∈ lw_tbl := am_tb (i := 1759) rfl
theorem w_1756 : Cond.methodLink "SmokeRelayLaw" 347 (am_mi 302).1 ∈ lw_tbl := am_tb (i := 1756) (by decide +kernel)
theorem w_1757 : Cond.instanceMethod (am_mi 302).1 ∈ lw_tbl := am_tb (i := 1757) (by decide +kernel)
theorem w_1758 : Cond.selects (am_mi 302).1.cls (am_mi 302).1 (am_mi 302).1 ∈ lw_tbl := am_tb (i := 1758) (by decide +kernel)
set_option maxRecDepth 100000 in
theorem w_1268 : am_cw (am_mi 202) ∈ lw_tbl := am_tb (i := 1268) rfl
theorem w_1266 : Cond.methodLink "SmokeRelayLaw" 348 (am_mi 202).1 ∈ lw_tbl := am_tb (i := 1266) (by decide +kernel)
theorem w_1267 : Cond.static (am_mi 202).1 ∈ lw_tbl := am_tb (i := 1267) (by decide +kernel)
set_option maxRecDepth 100000 in
theorem w_1763 : am_cw (am_mi 303) ∈ lw_tbl := am_tb (i := 1763) rfl
theorem w_1760 : Cond.methodLink "SmokeRelayLaw" 350 (am_mi 303).1 ∈ lw_tbl := am_tb (i := 1760) (by decide +kernel)
theorem w_1761 : Cond.instanceMethod (am_mi 303).1 ∈ lw_tbl := am_tb (i := 1761) (by decide +kernel)
theorem w_1762 : Cond.selects (am_mi 303).1.cls (am_mi 303).1 (am_mi 303).1 ∈ lw_tbl := am_tb (i := 1762) (by decide +kernel)
set_option maxRecDepth 100000 in
theorem w_481 : am_cw (am_mi 52) ∈ lw_tbl := am_tb (i := 481) rfl
theorem w_478 : Cond.methodLink "SmokeRelayLaw" 351 (am_mi 52).1 ∈ lw_tbl := am_tb (i := 478) (by decide +kernel)
theorem w_479 : Cond.instanceMethod (am_mi 52).1 ∈ lw_tbl := am_tb (i := 479) (by decide +kernel)
theorem w_480 : Cond.selects (am_mi 52).1.cls (am_mi 52).1 (am_mi 52).1 ∈ lw_tbl := am_tb (i := 480) (by decide +kernel)
set_option maxRecDepth 100000 in
theorem w_1767 : am_cw (am_mi 304) ∈ lw_tbl := am_tb (i := 1767) rfl
theorem w_1764 : Cond.methodLink "SmokeRelayLaw" 354 (am_mi 304).1 ∈ lw_tbl := am_tb (i := 1764) (by decide +kernel)
theorem w_1765 : Cond.instanceMethod (am_mi 304).1 ∈ lw_tbl := am_tb (i := 1765) (by decide +kernel)
theorem w_1766 : Cond.selects (am_mi 304).1.cls (am_mi 304).1 (am_mi 304).1 ∈ lw_tbl := am_tb (i := 1766) (by decide +kernel)
set_option maxRecDepth 100000 in
theorem w_485 : am_cw (am_mi 53) ∈ lw_tbl := am_tb (i := 485) rfl
theorem w_482 : Cond.methodLink "SmokeRelayLaw" 355 (am_mi 53).1 ∈ lw_tbl := am_tb (i := 482) (by decide +kernel)
theorem w_483 : Cond.instanceMethod (am_mi 53).1 ∈ lw_tbl := am_tb (i := 483) (by decide +kernel)
theorem w_484 : Cond.selects (am_mi 53).1.cls (am_mi 53).1 (am_mi 53).1 ∈ lw_tbl := am_tb (i := 484) (by decide +kernel)
set_option maxRecDepth 100000 in
theorem w_1771 : am_cw (am_mi 305) ∈ lw_tbl := am_tb (i := 1771) rfl
theorem w_1768 : Cond.methodLink "SmokeRelayLaw" 358 (am_mi 305).1 ∈ lw_tbl := am_tb (i := 1768) (by decide +kernel)
theorem w_1769 : Cond.instanceMethod (am_mi 305).1 ∈ lw_tbl := am_tb (i := 1769) (by decide +kernel)
theorem w_1770 : Cond.selects (am_mi 305).1.cls (am_mi 305).1 (am_mi 305).1 ∈ lw_tbl := am_tb (i := 1770) (by decide +kernel)
set_option maxRecDepth 100000 in
theorem w_1280 : am_cw (am_mi 205) ∈ lw_tbl := am_tb (i := 1280) rfl
theorem w_1278 : Cond.methodLink "SmokeRelayLaw" 359 (am_mi 205).1 ∈ lw_tbl := am_tb (i := 1278) (by decide +kernel)
theorem w_1279 : Cond.static (am_mi 205).1 ∈ lw_tbl := am_tb (i := 1279) (by decide +kernel)
set_option maxRecDepth 100000 in
theorem w_1775 : am_cw (am_mi 306) ∈ lw_tbl := am_tb (i := 1775) rfl
theorem w_1772 : Cond.methodLink "SmokeRelayLaw" 361 (am_mi 306).1 ∈ lw_tbl := am_tb (i := 1772) (by decide +kernel)
theorem w_1773 : Cond.instanceMethod (am_mi 306).1 ∈ lw_tbl := am_tb (i := 1773) (by decide +kernel)
theorem w_1774 : Cond.selects (am_mi 306).1.cls (am_mi 306).1 (am_mi 306).1 ∈ lw_tbl := am_tb (i := 1774) (by decide +kernel)
theorem ok_1 : am_okC 1 0 := ⟨w_42, w_2, by decide +kernel, by decide +kernel, ⟨by decide +kernel, by decide +kernel⟩, by decide +kernel⟩
theorem ok_2 : am_okC 2 0 := ⟨w_96, w_3, by decide +kernel, by decide +kernel, ⟨by decide +kernel, by decide +kernel⟩, by decide +kernel⟩
theorem ok_3 : am_okC 3 1 := ⟨w_116, w_4, by decide +kernel, by decide +kernel, ⟨by decide +kernel, by decide +kernel⟩, by decide +kernel⟩
theorem ok_4 : am_okC 4 2 := ⟨w_129, w_5, by decide +kernel, by decide +kernel, ⟨by decide +kernel, by decide +kernel⟩, by decide +kernel⟩
theorem ok_5 : am_okC 5 0 := ⟨w_165, w_6, by decide +kernel, by decide +kernel, ⟨by decide +kernel, by decide +kernel⟩, by decide +kernel⟩
theorem ok_9 : am_okC 9 1 := ⟨w_187, w_8, by decide +kernel, by decide +kernel, ⟨by decide +kernel, by decide +kernel⟩, by decide +kernel⟩
theorem ok_10 : am_okC 10 0 := ⟨w_215, w_9, by decide +kernel, by decide +kernel, ⟨by decide +kernel, by decide +kernel⟩, by decide +kernel⟩
theorem ok_11 : am_okC 11 0 := ⟨w_249, w_10, by decide +kernel, by decide +kernel, ⟨by decide +kernel, by decide +kernel⟩, by decide +kernel⟩
theorem ok_6 : am_okC 6 1 := ⟨w_169, w_6, by decide +kernel, by decide +kernel, ⟨by decide +kernel, by decide +kernel⟩, by decide +kernel⟩
theorem ok_7 : am_okC 7 1 := ⟨w_172, w_6, by decide +kernel, by decide +kernel, ⟨by decide +kernel, by decide +kernel⟩, by decide +kernel⟩
theorem ok_8 : am_okC 8 1 := ⟨w_175, w_7, by decide +kernel, by decide +kernel, ⟨by decide +kernel, by decide +kernel⟩, by decide +kernel⟩
theorem ok_14 : am_okC 14 0 := ⟨w_317, w_4, by decide +kernel, by decide +kernel, ⟨by decide +kernel, by decide +kernel⟩, by decide +kernel⟩
theorem ok_15 : am_okC 15 0 := ⟨w_321, w_4, by decide +kernel, by decide +kernel, ⟨by decide +kernel, by decide +kernel⟩, by decide +kernel⟩
theorem ok_20 : am_okC 20 1 := ⟨w_344, w_4, by decide +kernel, by decide +kernel, ⟨by decide +kernel, by decide +kernel⟩, by decide +kernel⟩
theorem ok_16 : am_okC 16 1 := ⟨w_325, w_4, by decide +kernel, by decide +kernel, ⟨by decide +kernel, by decide +kernel⟩, by decide +kernel⟩
theorem ok_17 : am_okC 17 2 := ⟨w_329, w_4, by decide +kernel, by decide +kernel, ⟨by decide +kernel, by decide +kernel⟩, by decide +kernel⟩
theorem ok_18 : am_okC 18 1 := ⟨w_333, w_2, by decide +kernel, by decide +kernel, ⟨by decide +kernel, by decide +kernel⟩, by decide +kernel⟩
theorem ok_19 : am_okC 19 4 := ⟨w_337, w_4, by decide +kernel, by decide +kernel, ⟨by decide +kernel, by decide +kernel⟩, by decide +kernel⟩
theorem ok_22 : am_okC 22 0 := ⟨w_353, w_4, by decide +kernel, by decide +kernel, ⟨by decide +kernel, by decide +kernel⟩, by decide +kernel⟩
theorem ok_23 : am_okC 23 3 := ⟨w_356, w_4, by decide +kernel, by decide +kernel, ⟨by decide +kernel, by decide +kernel⟩, by decide +kernel⟩
theorem ok_26 : am_okC 26 0 := ⟨w_371, w_5, by decide +kernel, by decide +kernel, ⟨by decide +kernel, by decide +kernel⟩, by decide +kernel⟩
theorem ok_27 : am_okC 27 0 := ⟨w_375, w_5, by decide +kernel, by decide +kernel, ⟨by decide +kernel, by decide +kernel⟩, by decide +kernel⟩
theorem ok_30 : am_okC 30 0 := ⟨w_391, w_5, by decide +kernel, by decide +kernel, ⟨by decide +kernel, by decide +kernel⟩, by decide +kernel⟩
theorem ok_31 : am_okC 31 1 := ⟨w_396, w_5, by decide +kernel, by decide +kernel, ⟨by decide +kernel, by decide +kernel⟩, by decide +kernel⟩
theorem ok_28 : am_okC 28 2 := ⟨w_379, w_4, by decide +kernel, by decide +kernel, ⟨by decide +kernel, by decide +kernel⟩, by decide +kernel⟩
theorem ok_29 : am_okC 29 2 := ⟨w_383, w_5, by decide +kernel, by decide +kernel, ⟨by decide +kernel, by decide +kernel⟩, by decide +kernel⟩
theorem ok_33 : am_okC 33 0 := ⟨w_404, w_8, by decide +kernel, by decide +kernel, ⟨by decide +kernel, by decide +kernel⟩, by decide +kernel⟩
theorem ok_34 : am_okC 34 0 := ⟨w_408, w_8, by decide +kernel, by decide +kernel, ⟨by decide +kernel, by decide +kernel⟩, by decide +kernel⟩
theorem ok_35 : am_okC 35 1 := ⟨w_412, w_8, by decide +kernel, by decide +kernel, ⟨by decide +kernel, by decide +kernel⟩, by decide +kernel⟩
theorem ok_36 : am_okC 36 2 := ⟨w_416, w_8, by decide +kernel, by decide +kernel, ⟨by decide +kernel, by decide +kernel⟩, by decide +kernel⟩
theorem ok_38 : am_okC 38 0 := ⟨w_424, w_8, by decide +kernel, by decide +kernel, ⟨by decide +kernel, by decide +kernel⟩, by decide +kernel⟩
theorem ok_39 : am_okC 39 1 := ⟨w_428, w_8, by decide +kernel, by decide +kernel, ⟨by decide +kernel, by decide +kernel⟩, by decide +kernel⟩
theorem ok_40 : am_okC 40 0 := ⟨w_432, w_8, by decide +kernel, by decide +kernel, ⟨by decide +kernel, by decide +kernel⟩, by decide +kernel⟩
theorem ok_42 : am_okC 42 0 := ⟨w_440, w_4, by decide +kernel, by decide +kernel, ⟨by decide +kernel, by decide +kernel⟩, by decide +kernel⟩
theorem ok_44 : am_okC 44 0 := ⟨w_449, w_5, by decide +kernel, by decide +kernel, ⟨by decide +kernel, by decide +kernel⟩, by decide +kernel⟩
theorem ok_49 : am_okC 49 0 := ⟨w_469, w_6, by decide +kernel, by decide +kernel, ⟨by decide +kernel, by decide +kernel⟩, by decide +kernel⟩
theorem ok_43 : am_okC 43 2 := ⟨w_445, w_4, by decide +kernel, by decide +kernel, ⟨by decide +kernel, by decide +kernel⟩, by decide +kernel⟩
theorem ok_45 : am_okC 45 1 := ⟨w_453, w_5, by decide +kernel, by decide +kernel, ⟨by decide +kernel, by decide +kernel⟩, by decide +kernel⟩
theorem ok_46 : am_okC 46 2 := ⟨w_456, w_23, by decide +kernel, by decide +kernel, ⟨by decide +kernel, by decide +kernel⟩, by decide +kernel⟩
theorem ok_47 : am_okC 47 1 := ⟨w_460, w_5, by decide +kernel, by decide +kernel, ⟨by decide +kernel, by decide +kernel⟩, by decide +kernel⟩
theorem ok_48 : am_okC 48 2 := ⟨w_465, w_5, by decide +kernel, by decide +kernel, ⟨by decide +kernel, by decide +kernel⟩, by decide +kernel⟩
theorem ok_50 : am_okC 50 1 := ⟨w_473, w_6, by decide +kernel, by decide +kernel, ⟨by decide +kernel, by decide +kernel⟩, by decide +kernel⟩
theorem ok_51 : am_okC 51 1 := ⟨w_477, w_6, by decide +kernel, by decide +kernel, ⟨by decide +kernel, by decide +kernel⟩, by decide +kernel⟩
theorem ok_54 : am_okC 54 1 := ⟨w_489, w_2, by decide +kernel, by decide +kernel, ⟨by decide +kernel, by decide +kernel⟩, by decide +kernel⟩
theorem ok_56 : am_okC 56 2 := ⟨w_500, w_1, by decide +kernel, by decide +kernel, ⟨by decide +kernel, by decide +kernel⟩, by decide +kernel⟩
theorem ok_57 : am_okC 57 2 := ⟨w_503, w_1, by decide +kernel, by decide +kernel, ⟨by decide +kernel, by decide +kernel⟩, by decide +kernel⟩
theorem ok_59 : am_okC 59 1 := ⟨w_582, w_3, by decide +kernel, by decide +kernel, ⟨by decide +kernel, by decide +kernel⟩, by decide +kernel⟩
theorem ok_58 : am_okC 58 1 := ⟨w_506, w_1, by decide +kernel, by decide +kernel, ⟨by decide +kernel, by decide +kernel⟩, by decide +kernel⟩
theorem ok_61 : am_okC 61 3 := ⟨w_592, w_1, by decide +kernel, by decide +kernel, ⟨by decide +kernel, by decide +kernel⟩, by decide +kernel⟩
theorem ok_62 : am_okC 62 3 := ⟨w_595, w_1, by decide +kernel, by decide +kernel, ⟨by decide +kernel, by decide +kernel⟩, by decide +kernel⟩
theorem ok_64 : am_okC 64 1 := ⟨w_603, w_1, by decide +kernel, by decide +kernel, ⟨by decide +kernel, by decide +kernel⟩, by decide +kernel⟩
theorem ok_66 : am_okC 66 3 := ⟨w_627, w_2, by decide +kernel, by decide +kernel, ⟨by decide +kernel, by decide +kernel⟩, by decide +kernel⟩
theorem ok_63 : am_okC 63 1 := ⟨w_598, w_1, by decide +kernel, by decide +kernel, ⟨by decide +kernel, by decide +kernel⟩, by decide +kernel⟩
theorem ok_65 : am_okC 65 1 := ⟨w_607, w_2, by decide +kernel, by decide +kernel, ⟨by decide +kernel, by decide +kernel⟩, by decide +kernel⟩
theorem ok_68 : am_okC 68 2 := ⟨w_658, w_1, by decide +kernel, by decide +kernel, ⟨by decide +kernel, by decide +kernel⟩, by decide +kernel⟩
theorem ok_69 : am_okC 69 1 := ⟨w_662, w_1, by decide +kernel, by decide +kernel, ⟨by decide +kernel, by decide +kernel⟩, by decide +kernel⟩
theorem ok_70 : am_okC 70 1 := ⟨w_666, w_1, by decide +kernel, by decide +kernel, ⟨by decide +kernel, by decide +kernel⟩, by decide +kernel⟩
theorem ok_72 : am_okC 72 1 := ⟨w_687, w_1, by decide +kernel, by decide +kernel, ⟨by decide +kernel, by decide +kernel⟩, by decide +kernel⟩
theorem ok_73 : am_okC 73 1 := ⟨w_690, w_1, by decide +kernel, by decide +kernel, ⟨by decide +kernel, by decide +kernel⟩, by decide +kernel⟩
theorem ok_75 : am_okC 75 1 := ⟨w_698, w_1, by decide +kernel, by decide +kernel, ⟨by decide +kernel, by decide +kernel⟩, by decide +kernel⟩
theorem ok_77 : am_okC 77 1 := ⟨w_705, w_1, by decide +kernel, by decide +kernel, ⟨by decide +kernel, by decide +kernel⟩, by decide +kernel⟩
theorem ok_79 : am_okC 79 1 := ⟨w_713, w_1, by decide +kernel, by decide +kernel, ⟨by decide +kernel, by decide +kernel⟩, by decide +kernel⟩
theorem ok_81 : am_okC 81 1 := ⟨w_721, w_1, by decide +kernel, by decide +kernel, ⟨by decide +kernel, by decide +kernel⟩, by decide +kernel⟩
theorem ok_83 : am_okC 83 1 := ⟨w_744, w_1, by decide +kernel, by decide +kernel, ⟨by decide +kernel, by decide +kernel⟩, by decide +kernel⟩
theorem ok_84 : am_okC 84 1 := ⟨w_748, w_2, by decide +kernel, by decide +kernel, ⟨by decide +kernel, by decide +kernel⟩, by decide +kernel⟩
theorem ok_85 : am_okC 85 1 := ⟨w_752, w_2, by decide +kernel, by decide +kernel, ⟨by decide +kernel, by decide +kernel⟩, by decide +kernel⟩
theorem ok_87 : am_okC 87 2 := ⟨w_761, w_1, by decide +kernel, by decide +kernel, ⟨by decide +kernel, by decide +kernel⟩, by decide +kernel⟩
theorem ok_88 : am_okC 88 2 := ⟨w_765, w_1, by decide +kernel, by decide +kernel, ⟨by decide +kernel, by decide +kernel⟩, by decide +kernel⟩
theorem ok_90 : am_okC 90 2 := ⟨w_773, w_1, by decide +kernel, by decide +kernel, ⟨by decide +kernel, by decide +kernel⟩, by decide +kernel⟩
theorem ok_92 : am_okC 92 2 := ⟨w_781, w_1, by decide +kernel, by decide +kernel, ⟨by decide +kernel, by decide +kernel⟩, by decide +kernel⟩
theorem ok_94 : am_okC 94 1 := ⟨w_789, w_1, by decide +kernel, by decide +kernel, ⟨by decide +kernel, by decide +kernel⟩, by decide +kernel⟩
theorem ok_96 : am_okC 96 1 := ⟨w_798, w_1, by decide +kernel, by decide +kernel, ⟨by decide +kernel, by decide +kernel⟩, by decide +kernel⟩
theorem ok_98 : am_okC 98 1 := ⟨w_805, w_1, by decide +kernel, by decide +kernel, ⟨by decide +kernel, by decide +kernel⟩, by decide +kernel⟩
theorem ok_99 : am_okC 99 1 := ⟨w_808, w_1, by decide +kernel, by decide +kernel, ⟨by decide +kernel, by decide +kernel⟩, by decide +kernel⟩
theorem ok_101 : am_okC 101 2 := ⟨w_816, w_1, by decide +kernel, by decide +kernel, ⟨by decide +kernel, by decide +kernel⟩, by decide +kernel⟩
theorem ok_103 : am_okC 103 2 := ⟨w_825, w_1, by decide +kernel, by decide +kernel, ⟨by decide +kernel, by decide +kernel⟩, by decide +kernel⟩
theorem ok_104 : am_okC 104 2 := ⟨w_829, w_1, by decide +kernel, by decide +kernel, ⟨by decide +kernel, by decide +kernel⟩, by decide +kernel⟩
theorem ok_105 : am_okC 105 2 := ⟨w_833, w_5, by decide +kernel, by decide +kernel, ⟨by decide +kernel, by decide +kernel⟩, by decide +kernel⟩
theorem ok_106 : am_okC 106 1 := ⟨w_837, w_5, by decide +kernel, by decide +kernel, ⟨by decide +kernel, by decide +kernel⟩, by decide +kernel⟩
theorem ok_108 : am_okC 108 2 := ⟨w_845, w_1, by decide +kernel, by decide +kernel, ⟨by decide +kernel, by decide +kernel⟩, by decide +kernel⟩
theorem ok_109 : am_okC 109 2 := ⟨w_849, w_5, by decide +kernel, by decide +kernel, ⟨by decide +kernel, by decide +kernel⟩, by decide +kernel⟩
theorem ok_111 : am_okC 111 2 := ⟨w_856, w_1, by decide +kernel, by decide +kernel, ⟨by decide +kernel, by decide +kernel⟩, by decide +kernel⟩
theorem ok_113 : am_okC 113 3 := ⟨w_863, w_1, by decide +kernel, by decide +kernel, ⟨by decide +kernel, by decide +kernel⟩, by decide +kernel⟩
theorem ok_115 : am_okC 115 1 := ⟨w_871, w_1, by decide +kernel, by decide +kernel, ⟨by decide +kernel, by decide +kernel⟩, by decide +kernel⟩
theorem ok_116 : am_okC 116 1 := ⟨w_874, w_1, by decide +kernel, by decide +kernel, ⟨by decide +kernel, by decide +kernel⟩, by decide +kernel⟩
theorem ok_117 : am_okC 117 1 := ⟨w_879, w_6, by decide +kernel, by decide +kernel, ⟨by decide +kernel, by decide +kernel⟩, by decide +kernel⟩
theorem ok_119 : am_okC 119 1 := ⟨w_886, w_1, by decide +kernel, by decide +kernel, ⟨by decide +kernel, by decide +kernel⟩, by decide +kernel⟩
theorem ok_120 : am_okC 120 1 := ⟨w_889, w_1, by decide +kernel, by decide +kernel, ⟨by decide +kernel, by decide +kernel⟩, by decide +kernel⟩
theorem ok_122 : am_okC 122 1 := ⟨w_899, w_1, by decide +kernel, by decide +kernel, ⟨by decide +kernel, by decide +kernel⟩, by decide +kernel⟩
theorem ok_124 : am_okC 124 1 := ⟨w_907, w_1, by decide +kernel, by decide +kernel, ⟨by decide +kernel, by decide +kernel⟩, by decide +kernel⟩
theorem ok_125 : am_okC 125 1 := ⟨w_911, w_6, by decide +kernel, by decide +kernel, ⟨by decide +kernel, by decide +kernel⟩, by decide +kernel⟩
theorem ok_127 : am_okC 127 2 := ⟨w_919, w_1, by decide +kernel, by decide +kernel, ⟨by decide +kernel, by decide +kernel⟩, by decide +kernel⟩
theorem ok_128 : am_okC 128 2 := ⟨w_923, w_1, by decide +kernel, by decide +kernel, ⟨by decide +kernel, by decide +kernel⟩, by decide +kernel⟩
theorem ok_129 : am_okC 129 2 := ⟨w_926, w_6, by decide +kernel, by decide +kernel, ⟨by decide +kernel, by decide +kernel⟩, by decide +kernel⟩
theorem ok_131 : am_okC 131 3 := ⟨w_934, w_1, by decide +kernel, by decide +kernel, ⟨by decide +kernel, by decide +kernel⟩, by decide +kernel⟩
theorem ok_132 : am_okC 132 3 := ⟨w_938, w_1, by decide +kernel, by decide +kernel, ⟨by decide +kernel, by decide +kernel⟩, by decide +kernel⟩
theorem ok_133 : am_okC 133 2 := ⟨w_942, w_1, by decide +kernel, by decide +kernel, ⟨by decide +kernel, by decide +kernel⟩, by decide +kernel⟩
theorem ok_134 : am_okC 134 1 := ⟨w_946, w_1, by decide +kernel, by decide +kernel, ⟨by decide +kernel, by decide +kernel⟩, by decide +kernel⟩
theorem ok_135 : am_okC 135 1 := ⟨w_950, w_1, by decide +kernel, by decide +kernel, ⟨by decide +kernel, by decide +kernel⟩, by decide +kernel⟩
theorem ok_136 : am_okC 136 2 := ⟨w_954, w_2, by decide +kernel, by decide +kernel, ⟨by decide +kernel, by decide +kernel⟩, by decide +kernel⟩
theorem ok_138 : am_okC 138 3 := ⟨w_977, w_1, by decide +kernel, by decide +kernel, ⟨by decide +kernel, by decide +kernel⟩, by decide +kernel⟩
theorem ok_140 : am_okC 140 1 := ⟨w_984, w_1, by decide +kernel, by decide +kernel, ⟨by decide +kernel, by decide +kernel⟩, by decide +kernel⟩
theorem ok_142 : am_okC 142 1 := ⟨w_991, w_1, by decide +kernel, by decide +kernel, ⟨by decide +kernel, by decide +kernel⟩, by decide +kernel⟩
theorem ok_144 : am_okC 144 2 := ⟨w_998, w_1, by decide +kernel, by decide +kernel, ⟨by decide +kernel, by decide +kernel⟩, by decide +kernel⟩
theorem ok_145 : am_okC 145 2 := ⟨w_1003, w_2, by decide +kernel, by decide +kernel, ⟨by decide +kernel, by decide +kernel⟩, by decide +kernel⟩
theorem ok_147 : am_okC 147 1 := ⟨w_1010, w_1, by decide +kernel, by decide +kernel, ⟨by decide +kernel, by decide +kernel⟩, by decide +kernel⟩
theorem ok_149 : am_okC 149 0 := ⟨w_1017, w_1, by decide +kernel, by decide +kernel, ⟨by decide +kernel, by decide +kernel⟩, by decide +kernel⟩
theorem ok_151 : am_okC 151 0 := ⟨w_1025, w_1, by decide +kernel, by decide +kernel, ⟨by decide +kernel, by decide +kernel⟩, by decide +kernel⟩
theorem ok_153 : am_okC 153 0 := ⟨w_1046, w_1, by decide +kernel, by decide +kernel, ⟨by decide +kernel, by decide +kernel⟩, by decide +kernel⟩
theorem ok_155 : am_okC 155 0 := ⟨w_1056, w_1, by decide +kernel, by decide +kernel, ⟨by decide +kernel, by decide +kernel⟩, by decide +kernel⟩
theorem ok_157 : am_okC 157 1 := ⟨w_1063, w_1, by decide +kernel, by decide +kernel, ⟨by decide +kernel, by decide +kernel⟩, by decide +kernel⟩
theorem ok_158 : am_okC 158 0 := ⟨w_1067, w_10, by decide +kernel, by decide +kernel, ⟨by decide +kernel, by decide +kernel⟩, by decide +kernel⟩
theorem ok_159 : am_okC 159 1 := ⟨w_1071, w_10, by decide +kernel, by decide +kernel, ⟨by decide +kernel, by decide +kernel⟩, by decide +kernel⟩
theorem ok_160 : am_okC 160 1 := ⟨w_1075, w_10, by decide +kernel, by decide +kernel, ⟨by decide +kernel, by decide +kernel⟩, by decide +kernel⟩
theorem ok_162 : am_okC 162 2 := ⟨w_1083, w_1, by decide +kernel, by decide +kernel, ⟨by decide +kernel, by decide +kernel⟩, by decide +kernel⟩
theorem ok_164 : am_okC 164 1 := ⟨w_1090, w_1, by decide +kernel, by decide +kernel, ⟨by decide +kernel, by decide +kernel⟩, by decide +kernel⟩
theorem ok_166 : am_okC 166 1 := ⟨w_1097, w_1, by decide +kernel, by decide +kernel, ⟨by decide +kernel, by decide +kernel⟩, by decide +kernel⟩
theorem ok_168 : am_okC 168 1 := ⟨w_1105, w_1, by decide +kernel, by decide +kernel, ⟨by decide +kernel, by decide +kernel⟩, by decide +kernel⟩
theorem ok_169 : am_okC 169 1 := ⟨w_1109, w_9, by decide +kernel, by decide +kernel, ⟨by decide +kernel, by decide +kernel⟩, by decide +kernel⟩
theorem ok_171 : am_okC 171 0 := ⟨w_1117, w_1, by decide +kernel, by decide +kernel, ⟨by decide +kernel, by decide +kernel⟩, by decide +kernel⟩
theorem ok_172 : am_okC 172 0 := ⟨w_1121, w_9, by decide +kernel, by decide +kernel, ⟨by decide +kernel, by decide +kernel⟩, by decide +kernel⟩
theorem ok_190 : am_okC 190 0 := ⟨w_1215, w_9, by decide +kernel, by decide +kernel, ⟨by decide +kernel, by decide +kernel⟩, by decide +kernel⟩
theorem ok_191 : am_okC 191 1 := ⟨w_1220, w_1, by decide +kernel, by decide +kernel, ⟨by decide +kernel, by decide +kernel⟩, by decide +kernel⟩
theorem ok_173 : am_okC 173 0 := ⟨w_1125, w_9, by decide +kernel, by decide +kernel, ⟨by decide +kernel, by decide +kernel⟩, by decide +kernel⟩
theorem ok_188 : am_okC 188 1 := ⟨w_1207, w_9, by decide +kernel, by decide +kernel, ⟨by decide +kernel, by decide +kernel⟩, by decide +kernel⟩
theorem ok_174 : am_okC 174 0 := ⟨w_1129, w_9, by decide +kernel, by decide +kernel, ⟨by decide +kernel, by decide +kernel⟩, by decide +kernel⟩
theorem ok_181 : am_okC 181 0 := ⟨w_1179, w_21, by decide +kernel, by decide +kernel, ⟨by decide +kernel, by decide +kernel⟩, by decide +kernel⟩
theorem ok_175 : am_okC 175 1 := ⟨w_1135, w_21, by decide +kernel, by decide +kernel, ⟨by decide +kernel, by decide +kernel⟩, by decide +kernel⟩
theorem ok_183 : am_okC 183 1 := ⟨w_1187, w_9, by decide +kernel, by decide +kernel, ⟨by decide +kernel, by decide +kernel⟩, by decide +kernel⟩
theorem ok_180 : am_okC 180 1 := ⟨w_1175, w_9, by decide +kernel, by decide +kernel, ⟨by decide +kernel, by decide +kernel⟩, by decide +kernel⟩
theorem ok_176 : am_okC 176 0 := ⟨w_1139, w_21, by decide +kernel, by decide +kernel, ⟨by decide +kernel, by decide +kernel⟩, by decide +kernel⟩
theorem ok_177 : am_okC 177 2 := ⟨w_1144, w_26, by decide +kernel, by decide +kernel, ⟨by decide +kernel, by decide +kernel⟩, by decide +kernel⟩
theorem ok_178 : am_okC 178 2 := ⟨w_1147, w_21, by decide +kernel, by decide +kernel, ⟨by decide +kernel, by decide +kernel⟩, by decide +kernel⟩
theorem ok_179 : am_okC 179 3 := ⟨w_1152, w_27, by decide +kernel, by decide +kernel, ⟨by decide +kernel, by decide +kernel⟩, by decide +kernel⟩
theorem ok_182 : am_okC 182 0 := ⟨w_1183, w_21, by decide +kernel, by decide +kernel, ⟨by decide +kernel, by decide +kernel⟩, by decide +kernel⟩
theorem ok_184 : am_okC 184 0 := ⟨w_1191, w_9, by decide +kernel, by decide +kernel, ⟨by decide +kernel, by decide +kernel⟩, by decide +kernel⟩
theorem ok_187 : am_okC 187 1 := ⟨w_1203, w_9, by decide +kernel, by decide +kernel, ⟨by decide +kernel, by decide +kernel⟩, by decide +kernel⟩
theorem ok_189 : am_okC 189 0 := ⟨w_1211, w_9, by decide +kernel, by decide +kernel, ⟨by decide +kernel, by decide +kernel⟩, by decide +kernel⟩
theorem ok_185 : am_okC 185 2 := ⟨w_1195, w_9, by decide +kernel, by decide +kernel, ⟨by decide +kernel, by decide +kernel⟩, by decide +kernel⟩
theorem ok_186 : am_okC 186 1 := ⟨w_1199, w_9, by decide +kernel, by decide +kernel, ⟨by decide +kernel, by decide +kernel⟩, by decide +kernel⟩
theorem ok_192 : am_okC 192 1 := ⟨w_1224, w_9, by decide +kernel, by decide +kernel, ⟨by decide +kernel, by decide +kernel⟩, by decide +kernel⟩
theorem ok_193 : am_okC 193 2 := ⟨w_1228, w_9, by decide +kernel, by decide +kernel, ⟨by decide +kernel, by decide +kernel⟩, by decide +kernel⟩
theorem ok_195 : am_okC 195 2 := ⟨w_1240, w_1, by decide +kernel, by decide +kernel, ⟨by decide +kernel, by decide +kernel⟩, by decide +kernel⟩
theorem ok_196 : am_okC 196 3 := ⟨w_1244, w_1, by decide +kernel, by decide +kernel, ⟨by decide +kernel, by decide +kernel⟩, by decide +kernel⟩
theorem ok_197 : am_okC 197 2 := ⟨w_1248, w_1, by decide +kernel, by decide +kernel, ⟨by decide +kernel, by decide +kernel⟩, by decide +kernel⟩
theorem ok_199 : am_okC 199 0 := ⟨w_1256, w_1, by decide +kernel, by decide +kernel, ⟨by decide +kernel, by decide +kernel⟩, by decide +kernel⟩
theorem ok_201 : am_okC 201 0 := ⟨w_1264, w_1, by decide +kernel, by decide +kernel, ⟨by decide +kernel, by decide +kernel⟩, by decide +kernel⟩
theorem ok_203 : am_okC 203 0 := ⟨w_1272, w_1, by decide +kernel, by decide +kernel, ⟨by decide +kernel, by decide +kernel⟩, by decide +kernel⟩
theorem ok_204 : am_okC 204 1 := ⟨w_1276, w_3, by decide +kernel, by decide +kernel, ⟨by decide +kernel, by decide +kernel⟩, by decide +kernel⟩
theorem ok_206 : am_okC 206 0 := ⟨w_1284, w_1, by decide +kernel, by decide +kernel, ⟨by decide +kernel, by decide +kernel⟩, by decide +kernel⟩
theorem ok_207 : am_okC 207 0 := ⟨w_1289, w_3, by decide +kernel, by decide +kernel, ⟨by decide +kernel, by decide +kernel⟩, by decide +kernel⟩
theorem ok_211 : am_okC 211 0 := ⟨w_1380, w_11, by decide +kernel, by decide +kernel, ⟨by decide +kernel, by decide +kernel⟩, by decide +kernel⟩
theorem ok_212 : am_okC 212 2 := ⟨w_1385, w_11, by decide +kernel, by decide +kernel, ⟨by decide +kernel, by decide +kernel⟩, by decide +kernel⟩
theorem ok_216 : am_okC 216 1 := ⟨w_1399, w_11, by decide +kernel, by decide +kernel, ⟨by decide +kernel, by decide +kernel⟩, by decide +kernel⟩
theorem ok_213 : am_okC 213 1 := ⟨w_1388, w_11, by decide +kernel, by decide +kernel, ⟨by decide +kernel, by decide +kernel⟩, by decide +kernel⟩
theorem ok_214 : am_okC 214 3 := ⟨w_1391, w_11, by decide +kernel, by decide +kernel, ⟨by decide +kernel, by decide +kernel⟩, by decide +kernel⟩
theorem ok_215 : am_okC 215 1 := ⟨w_1395, w_11, by decide +kernel, by decide +kernel, ⟨by decide +kernel, by decide +kernel⟩, by decide +kernel⟩
theorem ok_218 : am_okC 218 3 := ⟨w_1407, w_11, by decide +kernel, by decide +kernel, ⟨by decide +kernel, by decide +kernel⟩, by decide +kernel⟩
theorem ok_219 : am_okC 219 1 := ⟨w_1411, w_11, by decide +kernel, by decide +kernel, ⟨by decide +kernel, by decide +kernel⟩, by decide +kernel⟩
theorem ok_221 : am_okC 221 3 := ⟨w_1419, w_11, by decide +kernel, by decide +kernel, ⟨by decide +kernel, by decide +kernel⟩, by decide +kernel⟩
theorem ok_220 : am_okC 220 2 := ⟨w_1415, w_11, by decide +kernel, by decide +kernel, ⟨by decide +kernel, by decide +kernel⟩, by decide +kernel⟩
theorem ok_223 : am_okC 223 2 := ⟨w_1427, w_11, by decide +kernel, by decide +kernel, ⟨by decide +kernel, by decide +kernel⟩, by decide +kernel⟩
theorem ok_224 : am_okC 224 1 := ⟨w_1431, w_11, by decide +kernel, by decide +kernel, ⟨by decide +kernel, by decide +kernel⟩, by decide +kernel⟩
theorem ok_226 : am_okC 226 1 := ⟨w_1439, w_11, by decide +kernel, by decide +kernel, ⟨by decide +kernel, by decide +kernel⟩, by decide +kernel⟩
theorem ok_229 : am_okC 229 2 := ⟨w_1451, w_11, by decide +kernel, by decide +kernel, ⟨by decide +kernel, by decide +kernel⟩, by decide +kernel⟩
theorem ok_231 : am_okC 231 1 := ⟨w_1459, w_11, by decide +kernel, by decide +kernel, ⟨by decide +kernel, by decide +kernel⟩, by decide +kernel⟩
theorem ok_236 : am_okC 236 2 := ⟨w_1479, w_11, by decide +kernel, by decide +kernel, ⟨by decide +kernel, by decide +kernel⟩, by decide +kernel⟩
theorem ok_237 : am_okC 237 2 := ⟨w_1483, w_11, by decide +kernel, by decide +kernel, ⟨by decide +kernel, by decide +kernel⟩, by decide +kernel⟩
theorem ok_238 : am_okC 238 4 := ⟨w_1487, w_11, by decide +kernel, by decide +kernel, ⟨by decide +kernel, by decide +kernel⟩, by decide +kernel⟩
theorem ok_235 : am_okC 235 2 := ⟨w_1475, w_11, by decide +kernel, by decide +kernel, ⟨by decide +kernel, by decide +kernel⟩, by decide +kernel⟩
theorem ok_241 : am_okC 241 2 := ⟨w_1501, w_11, by decide +kernel, by decide +kernel, ⟨by decide +kernel, by decide +kernel⟩, by decide +kernel⟩
theorem ok_245 : am_okC 245 1 := ⟨w_1516, w_11, by decide +kernel, by decide +kernel, ⟨by decide +kernel, by decide +kernel⟩, by decide +kernel⟩
theorem ok_244 : am_okC 244 0 := ⟨w_1513, w_11, by decide +kernel, by decide +kernel, ⟨by decide +kernel, by decide +kernel⟩, by decide +kernel⟩
theorem ok_248 : am_okC 248 1 := ⟨w_1530, w_11, by decide +kernel, by decide +kernel, ⟨by decide +kernel, by decide +kernel⟩, by decide +kernel⟩
theorem ok_251 : am_okC 251 2 := ⟨w_1542, w_11, by decide +kernel, by decide +kernel, ⟨by decide +kernel, by decide +kernel⟩, by decide +kernel⟩
theorem ok_253 : am_okC 253 2 := ⟨w_1551, w_11, by decide +kernel, by decide +kernel, ⟨by decide +kernel, by decide +kernel⟩, by decide +kernel⟩
theorem ok_254 : am_okC 254 1 := ⟨w_1555, w_11, by decide +kernel, by decide +kernel, ⟨by decide +kernel, by decide +kernel⟩, by decide +kernel⟩
theorem ok_252 : am_okC 252 2 := ⟨w_1547, w_11, by decide +kernel, by decide +kernel, ⟨by decide +kernel, by decide +kernel⟩, by decide +kernel⟩
theorem ok_258 : am_okC 258 1 := ⟨w_1573, w_11, by decide +kernel, by decide +kernel, ⟨by decide +kernel, by decide +kernel⟩, by decide +kernel⟩
theorem ok_261 : am_okC 261 1 := ⟨w_1584, w_11, by decide +kernel, by decide +kernel, ⟨by decide +kernel, by decide +kernel⟩, by decide +kernel⟩
theorem ok_262 : am_okC 262 1 := ⟨w_1587, w_11, by decide +kernel, by decide +kernel, ⟨by decide +kernel, by decide +kernel⟩, by decide +kernel⟩
theorem ok_264 : am_okC 264 1 := ⟨w_1594, w_11, by decide +kernel, by decide +kernel, ⟨by decide +kernel, by decide +kernel⟩, by decide +kernel⟩
theorem ok_265 : am_okC 265 1 := ⟨w_1597, w_11, by decide +kernel, by decide +kernel, ⟨by decide +kernel, by decide +kernel⟩, by decide +kernel⟩
theorem ok_263 : am_okC 263 1 := ⟨w_1591, w_11, by decide +kernel, by decide +kernel, ⟨by decide +kernel, by decide +kernel⟩, by decide +kernel⟩
theorem ok_269 : am_okC 269 2 := ⟨w_1614, w_11, by decide +kernel, by decide +kernel, ⟨by decide +kernel, by decide +kernel⟩, by decide +kernel⟩
theorem ok_271 : am_okC 271 3 := ⟨w_1622, w_11, by decide +kernel, by decide +kernel, ⟨by decide +kernel, by decide +kernel⟩, by decide +kernel⟩
theorem ok_272 : am_okC 272 3 := ⟨w_1626, w_11, by decide +kernel, by decide +kernel, ⟨by decide +kernel, by decide +kernel⟩, by decide +kernel⟩
theorem ok_279 : am_okC 279 1 := ⟨w_1654, w_11, by decide +kernel, by decide +kernel, ⟨by decide +kernel, by decide +kernel⟩, by decide +kernel⟩
theorem ok_278 : am_okC 278 0 := ⟨w_1650, w_11, by decide +kernel, by decide +kernel, ⟨by decide +kernel, by decide +kernel⟩, by decide +kernel⟩
theorem ok_287 : am_okC 287 1 := ⟨w_1687, w_11, by decide +kernel, by decide +kernel, ⟨by decide +kernel, by decide +kernel⟩, by decide +kernel⟩
theorem ok_288 : am_okC 288 1 := ⟨w_1691, w_11, by decide +kernel, by decide +kernel, ⟨by decide +kernel, by decide +kernel⟩, by decide +kernel⟩
theorem ok_294 : am_okC 294 0 := ⟨w_1715, w_11, by decide +kernel, by decide +kernel, ⟨by decide +kernel, by decide +kernel⟩, by decide +kernel⟩
theorem ok_295 : am_okC 295 0 := ⟨w_1719, w_11, by decide +kernel, by decide +kernel, ⟨by decide +kernel, by decide +kernel⟩, by decide +kernel⟩
theorem ok_300 : am_okC 300 1 := ⟨w_1751, w_11, by decide +kernel, by decide +kernel, ⟨by decide +kernel, by decide +kernel⟩, by decide +kernel⟩
theorem ok_296 : am_okC 296 1 := ⟨w_1724, w_11, by decide +kernel, by decide +kernel, ⟨by decide +kernel, by decide +kernel⟩, by decide +kernel⟩
theorem ok_297 : am_okC 297 1 := ⟨w_1730, w_11, by decide +kernel, by decide +kernel, ⟨by decide +kernel, by decide +kernel⟩, by decide +kernel⟩
theorem ok_299 : am_okC 299 0 := ⟨w_1747, w_11, by decide +kernel, by decide +kernel, ⟨by decide +kernel, by decide +kernel⟩, by decide +kernel⟩
theorem ok_298 : am_okC 298 0 := ⟨w_1734, w_11, by decide +kernel, by decide +kernel, ⟨by decide +kernel, by decide +kernel⟩, by decide +kernel⟩
theorem ok_0 : am_okC 0 0 := ⟨w_34, w_1, by decide +kernel, by decide +kernel, ⟨by decide +kernel, by decide +kernel⟩, by decide +kernel⟩
theorem ok_208 : am_okC 208 0 := ⟨w_1294, w_11, by decide +kernel, by decide +kernel, ⟨by decide +kernel, by decide +kernel⟩, by decide +kernel⟩
theorem ok_55 : am_okC 55 4 := ⟨w_495, w_0, by decide +kernel, by decide +kernel, ⟨by decide +kernel, by decide +kernel⟩, by decide +kernel⟩
theorem ok_210 : am_okC 210 2 := ⟨w_1376, w_11, by decide +kernel, by decide +kernel, ⟨by decide +kernel, by decide +kernel⟩, by decide +kernel⟩
theorem ok_209 : am_okC 209 0 := ⟨w_1372, w_11, by decide +kernel, by decide +kernel, ⟨by decide +kernel, by decide +kernel⟩, by decide +kernel⟩
theorem ok_60 : am_okC 60 5 := ⟨w_587, w_0, by decide +kernel, by decide +kernel, ⟨by decide +kernel, by decide +kernel⟩, by decide +kernel⟩
theorem ok_217 : am_okC 217 3 := ⟨w_1403, w_11, by decide +kernel, by decide +kernel, ⟨by decide +kernel, by decide +kernel⟩, by decide +kernel⟩
theorem ok_67 : am_okC 67 4 := ⟨w_630, w_0, by decide +kernel, by decide +kernel, ⟨by decide +kernel, by decide +kernel⟩, by decide +kernel⟩
theorem ok_222 : am_okC 222 2 := ⟨w_1423, w_11, by decide +kernel, by decide +kernel, ⟨by decide +kernel, by decide +kernel⟩, by decide +kernel⟩
theorem ok_71 : am_okC 71 3 := ⟨w_683, w_0, by decide +kernel, by decide +kernel, ⟨by decide +kernel, by decide +kernel⟩, by decide +kernel⟩
theorem ok_225 : am_okC 225 1 := ⟨w_1435, w_11, by decide +kernel, by decide +kernel, ⟨by decide +kernel, by decide +kernel⟩, by decide +kernel⟩
theorem ok_12 : am_okC 12 0 := ⟨w_309, w_1, by decide +kernel, by decide +kernel, ⟨by decide +kernel, by decide +kernel⟩, by decide +kernel⟩
theorem ok_227 : am_okC 227 0 := ⟨w_1443, w_11, by decide +kernel, by decide +kernel, ⟨by decide +kernel, by decide +kernel⟩, by decide +kernel⟩
theorem ok_74 : am_okC 74 3 := ⟨w_694, w_0, by decide +kernel, by decide +kernel, ⟨by decide +kernel, by decide +kernel⟩, by decide +kernel⟩
theorem ok_228 : am_okC 228 1 := ⟨w_1447, w_11, by decide +kernel, by decide +kernel, ⟨by decide +kernel, by decide +kernel⟩, by decide +kernel⟩
theorem ok_76 : am_okC 76 3 := ⟨w_701, w_0, by decide +kernel, by decide +kernel, ⟨by decide +kernel, by decide +kernel⟩, by decide +kernel⟩
theorem ok_230 : am_okC 230 1 := ⟨w_1455, w_11, by decide +kernel, by decide +kernel, ⟨by decide +kernel, by decide +kernel⟩, by decide +kernel⟩
theorem ok_78 : am_okC 78 3 := ⟨w_709, w_0, by decide +kernel, by decide +kernel, ⟨by decide +kernel, by decide +kernel⟩, by decide +kernel⟩
theorem ok_232 : am_okC 232 1 := ⟨w_1463, w_11, by decide +kernel, by decide +kernel, ⟨by decide +kernel, by decide +kernel⟩, by decide +kernel⟩
theorem ok_80 : am_okC 80 3 := ⟨w_716, w_0, by decide +kernel, by decide +kernel, ⟨by decide +kernel, by decide +kernel⟩, by decide +kernel⟩
theorem ok_233 : am_okC 233 1 := ⟨w_1467, w_11, by decide +kernel, by decide +kernel, ⟨by decide +kernel, by decide +kernel⟩, by decide +kernel⟩
theorem ok_82 : am_okC 82 3 := ⟨w_740, w_0, by decide +kernel, by decide +kernel, ⟨by decide +kernel, by decide +kernel⟩, by decide +kernel⟩
theorem ok_234 : am_okC 234 1 := ⟨w_1471, w_11, by decide +kernel, by decide +kernel, ⟨by decide +kernel, by decide +kernel⟩, by decide +kernel⟩
theorem ok_86 : am_okC 86 4 := ⟨w_757, w_0, by decide +kernel, by decide +kernel, ⟨by decide +kernel, by decide +kernel⟩, by decide +kernel⟩
theorem ok_89 : am_okC 89 4 := ⟨w_769, w_0, by decide +kernel, by decide +kernel, ⟨by decide +kernel, by decide +kernel⟩, by decide +kernel⟩
theorem ok_239 : am_okC 239 2 := ⟨w_1492, w_11, by decide +kernel, by decide +kernel, ⟨by decide +kernel, by decide +kernel⟩, by decide +kernel⟩
theorem ok_91 : am_okC 91 4 := ⟨w_777, w_0, by decide +kernel, by decide +kernel, ⟨by decide +kernel, by decide +kernel⟩, by decide +kernel⟩
theorem ok_240 : am_okC 240 2 := ⟨w_1497, w_11, by decide +kernel, by decide +kernel, ⟨by decide +kernel, by decide +kernel⟩, by decide +kernel⟩
theorem ok_93 : am_okC 93 3 := ⟨w_785, w_0, by decide +kernel, by decide +kernel, ⟨by decide +kernel, by decide +kernel⟩, by decide +kernel⟩
theorem ok_242 : am_okC 242 1 := ⟨w_1505, w_11, by decide +kernel, by decide +kernel, ⟨by decide +kernel, by decide +kernel⟩, by decide +kernel⟩
theorem ok_95 : am_okC 95 3 := ⟨w_794, w_0, by decide +kernel, by decide +kernel, ⟨by decide +kernel, by decide +kernel⟩, by decide +kernel⟩
theorem ok_243 : am_okC 243 1 := ⟨w_1509, w_11, by decide +kernel, by decide +kernel, ⟨by decide +kernel, by decide +kernel⟩, by decide +kernel⟩
theorem ok_13 : am_okC 13 0 := ⟨w_313, w_1, by decide +kernel, by decide +kernel, ⟨by decide +kernel, by decide +kernel⟩, by decide +kernel⟩
theorem ok_21 : am_okC 21 0 := ⟨w_349, w_1, by decide +kernel, by decide +kernel, ⟨by decide +kernel, by decide +kernel⟩, by decide +kernel⟩
theorem ok_246 : am_okC 246 0 := ⟨w_1521, w_11, by decide +kernel, by decide +kernel, ⟨by decide +kernel, by decide +kernel⟩, by decide +kernel⟩
theorem ok_97 : am_okC 97 3 := ⟨w_801, w_0, by decide +kernel, by decide +kernel, ⟨by decide +kernel, by decide +kernel⟩, by decide +kernel⟩
theorem ok_247 : am_okC 247 1 := ⟨w_1526, w_11, by decide +kernel, by decide +kernel, ⟨by decide +kernel, by decide +kernel⟩, by decide +kernel⟩
theorem ok_24 : am_okC 24 0 := ⟨w_363, w_1, by decide +kernel, by decide +kernel, ⟨by decide +kernel, by decide +kernel⟩, by decide +kernel⟩
theorem ok_249 : am_okC 249 0 := ⟨w_1534, w_11, by decide +kernel, by decide +kernel, ⟨by decide +kernel, by decide +kernel⟩, by decide +kernel⟩
theorem ok_100 : am_okC 100 4 := ⟨w_812, w_0, by decide +kernel, by decide +kernel, ⟨by decide +kernel, by decide +kernel⟩, by decide +kernel⟩
theorem ok_250 : am_okC 250 2 := ⟨w_1538, w_11, by decide +kernel, by decide +kernel, ⟨by decide +kernel, by decide +kernel⟩, by decide +kernel⟩
theorem ok_102 : am_okC 102 4 := ⟨w_821, w_0, by decide +kernel, by decide +kernel, ⟨by decide +kernel, by decide +kernel⟩, by decide +kernel⟩
theorem ok_107 : am_okC 107 4 := ⟨w_841, w_0, by decide +kernel, by decide +kernel, ⟨by decide +kernel, by decide +kernel⟩, by decide +kernel⟩
theorem ok_255 : am_okC 255 2 := ⟨w_1560, w_11, by decide +kernel, by decide +kernel, ⟨by decide +kernel, by decide +kernel⟩, by decide +kernel⟩
theorem ok_110 : am_okC 110 4 := ⟨w_852, w_0, by decide +kernel, by decide +kernel, ⟨by decide +kernel, by decide +kernel⟩, by decide +kernel⟩
theorem ok_256 : am_okC 256 2 := ⟨w_1565, w_11, by decide +kernel, by decide +kernel, ⟨by decide +kernel, by decide +kernel⟩, by decide +kernel⟩
theorem ok_112 : am_okC 112 5 := ⟨w_859, w_0, by decide +kernel, by decide +kernel, ⟨by decide +kernel, by decide +kernel⟩, by decide +kernel⟩
theorem ok_257 : am_okC 257 3 := ⟨w_1569, w_11, by decide +kernel, by decide +kernel, ⟨by decide +kernel, by decide +kernel⟩, by decide +kernel⟩
theorem ok_25 : am_okC 25 0 := ⟨w_367, w_1, by decide +kernel, by decide +kernel, ⟨by decide +kernel, by decide +kernel⟩, by decide +kernel⟩
theorem ok_259 : am_okC 259 0 := ⟨w_1577, w_11, by decide +kernel, by decide +kernel, ⟨by decide +kernel, by decide +kernel⟩, by decide +kernel⟩
theorem ok_114 : am_okC 114 3 := ⟨w_867, w_0, by decide +kernel, by decide +kernel, ⟨by decide +kernel, by decide +kernel⟩, by decide +kernel⟩
theorem ok_260 : am_okC 260 1 := ⟨w_1581, w_11, by decide +kernel, by decide +kernel, ⟨by decide +kernel, by decide +kernel⟩, by decide +kernel⟩
theorem ok_118 : am_okC 118 3 := ⟨w_882, w_0, by decide +kernel, by decide +kernel, ⟨by decide +kernel, by decide +kernel⟩, by decide +kernel⟩
theorem ok_121 : am_okC 121 3 := ⟨w_895, w_0, by decide +kernel, by decide +kernel, ⟨by decide +kernel, by decide +kernel⟩, by decide +kernel⟩
theorem ok_266 : am_okC 266 1 := ⟨w_1601, w_11, by decide +kernel, by decide +kernel, ⟨by decide +kernel, by decide +kernel⟩, by decide +kernel⟩
theorem ok_123 : am_okC 123 3 := ⟨w_903, w_0, by decide +kernel, by decide +kernel, ⟨by decide +kernel, by decide +kernel⟩, by decide +kernel⟩
theorem ok_267 : am_okC 267 1 := ⟨w_1606, w_11, by decide +kernel, by decide +kernel, ⟨by decide +kernel, by decide +kernel⟩, by decide +kernel⟩
theorem ok_126 : am_okC 126 4 := ⟨w_915, w_0, by decide +kernel, by decide +kernel, ⟨by decide +kernel, by decide +kernel⟩, by decide +kernel⟩
theorem ok_268 : am_okC 268 2 := ⟨w_1610, w_11, by decide +kernel, by decide +kernel, ⟨by decide +kernel, by decide +kernel⟩, by decide +kernel⟩
theorem ok_130 : am_okC 130 5 := ⟨w_929, w_0, by decide +kernel, by decide +kernel, ⟨by decide +kernel, by decide +kernel⟩, by decide +kernel⟩
theorem ok_270 : am_okC 270 3 := ⟨w_1618, w_11, by decide +kernel, by decide +kernel, ⟨by decide +kernel, by decide +kernel⟩, by decide +kernel⟩
theorem ok_137 : am_okC 137 5 := ⟨w_973, w_0, by decide +kernel, by decide +kernel, ⟨by decide +kernel, by decide +kernel⟩, by decide +kernel⟩
theorem ok_273 : am_okC 273 3 := ⟨w_1630, w_11, by decide +kernel, by decide +kernel, ⟨by decide +kernel, by decide +kernel⟩, by decide +kernel⟩
theorem ok_139 : am_okC 139 3 := ⟨w_980, w_0, by decide +kernel, by decide +kernel, ⟨by decide +kernel, by decide +kernel⟩, by decide +kernel⟩
theorem ok_274 : am_okC 274 1 := ⟨w_1634, w_11, by decide +kernel, by decide +kernel, ⟨by decide +kernel, by decide +kernel⟩, by decide +kernel⟩
theorem ok_141 : am_okC 141 3 := ⟨w_987, w_0, by decide +kernel, by decide +kernel, ⟨by decide +kernel, by decide +kernel⟩, by decide +kernel⟩
theorem ok_275 : am_okC 275 1 := ⟨w_1638, w_11, by decide +kernel, by decide +kernel, ⟨by decide +kernel, by decide +kernel⟩, by decide +kernel⟩
theorem ok_143 : am_okC 143 4 := ⟨w_994, w_0, by decide +kernel, by decide +kernel, ⟨by decide +kernel, by decide +kernel⟩, by decide +kernel⟩
theorem ok_276 : am_okC 276 2 := ⟨w_1642, w_11, by decide +kernel, by decide +kernel, ⟨by decide +kernel, by decide +kernel⟩, by decide +kernel⟩
theorem ok_146 : am_okC 146 3 := ⟨w_1006, w_0, by decide +kernel, by decide +kernel, ⟨by decide +kernel, by decide +kernel⟩, by decide +kernel⟩
theorem ok_277 : am_okC 277 1 := ⟨w_1646, w_11, by decide +kernel, by decide +kernel, ⟨by decide +kernel, by decide +kernel⟩, by decide +kernel⟩
theorem ok_32 : am_okC 32 0 := ⟨w_400, w_1, by decide +kernel, by decide +kernel, ⟨by decide +kernel, by decide +kernel⟩, by decide +kernel⟩
theorem ok_37 : am_okC 37 0 := ⟨w_420, w_1, by decide +kernel, by decide +kernel, ⟨by decide +kernel, by decide +kernel⟩, by decide +kernel⟩
theorem ok_280 : am_okC 280 0 := ⟨w_1658, w_11, by decide +kernel, by decide +kernel, ⟨by decide +kernel, by decide +kernel⟩, by decide +kernel⟩
theorem ok_148 : am_okC 148 2 := ⟨w_1013, w_0, by decide +kernel, by decide +kernel, ⟨by decide +kernel, by decide +kernel⟩, by decide +kernel⟩
theorem ok_281 : am_okC 281 0 := ⟨w_1663, w_11, by decide +kernel, by decide +kernel, ⟨by decide +kernel, by decide +kernel⟩, by decide +kernel⟩
theorem ok_150 : am_okC 150 2 := ⟨w_1021, w_0, by decide +kernel, by decide +kernel, ⟨by decide +kernel, by decide +kernel⟩, by decide +kernel⟩
theorem ok_282 : am_okC 282 0 := ⟨w_1667, w_11, by decide +kernel, by decide +kernel, ⟨by decide +kernel, by decide +kernel⟩, by decide +kernel⟩
theorem ok_152 : am_okC 152 2 := ⟨w_1028, w_0, by decide +kernel, by decide +kernel, ⟨by decide +kernel, by decide +kernel⟩, by decide +kernel⟩
theorem ok_283 : am_okC 283 0 := ⟨w_1671, w_11, by decide +kernel, by decide +kernel, ⟨by decide +kernel, by decide +kernel⟩, by decide +kernel⟩
theorem ok_154 : am_okC 154 2 := ⟨w_1052, w_0, by decide +kernel, by decide +kernel, ⟨by decide +kernel, by decide +kernel⟩, by decide +kernel⟩
theorem ok_284 : am_okC 284 0 := ⟨w_1675, w_11, by decide +kernel, by decide +kernel, ⟨by decide +kernel, by decide +kernel⟩, by decide +kernel⟩
theorem ok_156 : am_okC 156 3 := ⟨w_1059, w_0, by decide +kernel, by decide +kernel, ⟨by decide +kernel, by decide +kernel⟩, by decide +kernel⟩
theorem ok_286 : am_okC 286 1 := ⟨w_1683, w_11, by decide +kernel, by decide +kernel, ⟨by decide +kernel, by decide +kernel⟩, by decide +kernel⟩
theorem ok_161 : am_okC 161 4 := ⟨w_1079, w_0, by decide +kernel, by decide +kernel, ⟨by decide +kernel, by decide +kernel⟩, by decide +kernel⟩
theorem ok_289 : am_okC 289 2 := ⟨w_1695, w_11, by decide +kernel, by decide +kernel, ⟨by decide +kernel, by decide +kernel⟩, by decide +kernel⟩
theorem ok_163 : am_okC 163 3 := ⟨w_1086, w_0, by decide +kernel, by decide +kernel, ⟨by decide +kernel, by decide +kernel⟩, by decide +kernel⟩
theorem ok_290 : am_okC 290 1 := ⟨w_1699, w_11, by decide +kernel, by decide +kernel, ⟨by decide +kernel, by decide +kernel⟩, by decide +kernel⟩
theorem ok_165 : am_okC 165 3 := ⟨w_1093, w_0, by decide +kernel, by decide +kernel, ⟨by decide +kernel, by decide +kernel⟩, by decide +kernel⟩
theorem ok_291 : am_okC 291 1 := ⟨w_1703, w_11, by decide +kernel, by decide +kernel, ⟨by decide +kernel, by decide +kernel⟩, by decide +kernel⟩
theorem ok_41 : am_okC 41 0 := ⟨w_436, w_1, by decide +kernel, by decide +kernel, ⟨by decide +kernel, by decide +kernel⟩, by decide +kernel⟩
theorem ok_285 : am_okC 285 0 := ⟨w_1679, w_11, by decide +kernel, by decide +kernel, ⟨by decide +kernel, by decide +kernel⟩, by decide +kernel⟩
theorem ok_167 : am_okC 167 3 := ⟨w_1101, w_0, by decide +kernel, by decide +kernel, ⟨by decide +kernel, by decide +kernel⟩, by decide +kernel⟩
theorem ok_292 : am_okC 292 1 := ⟨w_1707, w_11, by decide +kernel, by decide +kernel, ⟨by decide +kernel, by decide +kernel⟩, by decide +kernel⟩
theorem ok_170 : am_okC 170 2 := ⟨w_1113, w_0, by decide +kernel, by decide +kernel, ⟨by decide +kernel, by decide +kernel⟩, by decide +kernel⟩
theorem ok_293 : am_okC 293 0 := ⟨w_1711, w_11, by decide +kernel, by decide +kernel, ⟨by decide +kernel, by decide +kernel⟩, by decide +kernel⟩
theorem ok_198 : am_okC 198 2 := ⟨w_1252, w_0, by decide +kernel, by decide +kernel, ⟨by decide +kernel, by decide +kernel⟩, by decide +kernel⟩
theorem ok_301 : am_okC 301 0 := ⟨w_1755, w_11, by decide +kernel, by decide +kernel, ⟨by decide +kernel, by decide +kernel⟩, by decide +kernel⟩
theorem ok_200 : am_okC 200 2 := ⟨w_1260, w_0, by decide +kernel, by decide +kernel, ⟨by decide +kernel, by decide +kernel⟩, by decide +kernel⟩
theorem ok_302 : am_okC 302 0 := ⟨w_1759, w_11, by decide +kernel, by decide +kernel, ⟨by decide +kernel, by decide +kernel⟩, by decide +kernel⟩
theorem ok_202 : am_okC 202 2 := ⟨w_1268, w_0, by decide +kernel, by decide +kernel, ⟨by decide +kernel, by decide +kernel⟩, by decide +kernel⟩
theorem ok_303 : am_okC 303 0 := ⟨w_1763, w_11, by decide +kernel, by decide +kernel, ⟨by decide +kernel, by decide +kernel⟩, by decide +kernel⟩
theorem ok_52 : am_okC 52 0 := ⟨w_481, w_1, by decide +kernel, by decide +kernel, ⟨by decide +kernel, by decide +kernel⟩, by decide +kernel⟩
theorem ok_304 : am_okC 304 0 := ⟨w_1767, w_11, by decide +kernel, by decide +kernel, ⟨by decide +kernel, by decide +kernel⟩, by decide +kernel⟩
theorem ok_53 : am_okC 53 0 := ⟨w_485, w_1, by decide +kernel, by decide +kernel, ⟨by decide +kernel, by decide +kernel⟩, by decide +kernel⟩
theorem ok_305 : am_okC 305 0 := ⟨w_1771, w_11, by decide +kernel, by decide +kernel, ⟨by decide +kernel, by decide +kernel⟩, by decide +kernel⟩
theorem ok_205 : am_okC 205 2 := ⟨w_1280, w_0, by decide +kernel, by decide +kernel, ⟨by decide +kernel, by decide +kernel⟩, by decide +kernel⟩
theorem ok_306 : am_okC 306 0 := ⟨w_1775, w_11, by decide +kernel, by decide +kernel, ⟨by decide +kernel, by decide +kernel⟩, by decide +kernel⟩
theorem nf_0 (k : C0) : ∀ j, j < 15 → defaultValue (am_ft 0 j) = am_cv k (match ([aN, aN, aN, aN, aN, aN, aN, aN, aN, aN, aI 0, aI 0, aI 0, aI 0, aI 0] : List AV).getD j aN with | Sum.inl _ => aI 0 | v => v) := fun j h => match j, h with | 0, _ => rfl | 1, _ => rfl | 2, _ => rfl | 3, _ => rfl | 4, _ => rfl | 5, _ => rfl | 6, _ => rfl | 7, _ => rfl | 8, _ => rfl | 9, _ => rfl | 10, _ => rfl | 11, _ => rfl | 12, _ => rfl | 13, _ => rfl | 14, _ => rfl | n + 15, h => absurd h (Nat.not_lt.mpr (Nat.le_add_left _ _))
theorem nf_1 (k : C0) : ∀ j, j < 10 → defaultValue (am_ft 1 j) = am_cv k (match ([aN, aN, aN, aN, aN, aN, aN, aN, aI 0, aI 0] : List AV).getD j aN with | Sum.inl _ => aI 0 | v => v) := fun j h => match j, h with | 0, _ => rfl | 1, _ => rfl | 2, _ => rfl | 3, _ => rfl | 4, _ => rfl | 5, _ => rfl | 6, _ => rfl | 7, _ => rfl | 8, _ => rfl | 9, _ => rfl | n + 10, h => absurd h (Nat.not_lt.mpr (Nat.le_add_left _ _))
theorem nf_2 (k : C0) : ∀ j, j < 3 → defaultValue (am_ft 2 j) = am_cv k (match ([aN, aI 0, aI 0] : List AV).getD j aN with | Sum.inl _ => aI 0 | v => v) := fun j h => match j, h with | 0, _ => rfl | 1, _ => rfl | 2, _ => rfl | n + 3, h => absurd h (Nat.not_lt.mpr (Nat.le_add_left _ _))
theorem nf_3 (k : C0) : ∀ j, j < 2 → defaultValue (am_ft 3 j) = am_cv k (match ([aN, aN] : List AV).getD j aN with | Sum.inl _ => aI 0 | v => v) := fun j h => match j, h with | 0, _ => rfl | 1, _ => rfl | n + 2, h => absurd h (Nat.not_lt.mpr (Nat.le_add_left _ _))
theorem nf_4 (k : C0) : ∀ j, j < 8 → defaultValue (am_ft 4 j) = am_cv k (match ([aN, aN, aN, aN, aN, aN, aI 0, aI 0] : List AV).getD j aN with | Sum.inl _ => aI 0 | v => v) := fun j h => match j, h with | 0, _ => rfl | 1, _ => rfl | 2, _ => rfl | 3, _ => rfl | 4, _ => rfl | 5, _ => rfl | 6, _ => rfl | 7, _ => rfl | n + 8, h => absurd h (Nat.not_lt.mpr (Nat.le_add_left _ _))
theorem nf_5 (k : C0) : ∀ j, j < 1 → defaultValue (am_ft 5 j) = am_cv k (match ([aN] : List AV).getD j aN with | Sum.inl _ => aI 0 | v => v) := fun j h => match j, h with | 0, _ => rfl | n + 1, h => absurd h (Nat.not_lt.mpr (Nat.le_add_left _ _))
theorem nf_6 (k : C0) : ∀ j, j < 7 → defaultValue (am_ft 6 j) = am_cv k (match ([aN, aN, aN, aI 0, aI 0, aI 0, aI 0] : List AV).getD j aN with | Sum.inl _ => aI 0 | v => v) := fun j h => match j, h with | 0, _ => rfl | 1, _ => rfl | 2, _ => rfl | 3, _ => rfl | 4, _ => rfl | 5, _ => rfl | 6, _ => rfl | n + 7, h => absurd h (Nat.not_lt.mpr (Nat.le_add_left _ _))
theorem nf_7 (k : C0) : ∀ j, j < 7 → defaultValue (am_ft 7 j) = am_cv k (match ([aN, aN, aN, aI 0, aI 0, aI 0, aI 0] : List AV).getD j aN with | Sum.inl _ => aI 0 | v => v) := fun j h => match j, h with | 0, _ => rfl | 1, _ => rfl | 2, _ => rfl | 3, _ => rfl | 4, _ => rfl | 5, _ => rfl | 6, _ => rfl | n + 7, h => absurd h (Nat.not_lt.mpr (Nat.le_add_left _ _))
theorem nf_8 (k : C0) : ∀ j, j < 2 → defaultValue (am_ft 8 j) = am_cv k (match ([aN, aI 0] : List AV).getD j aN with | Sum.inl _ => aI 0 | v => v) := fun j h => match j, h with | 0, _ => rfl | 1, _ => rfl | n + 2, h => absurd h (Nat.not_lt.mpr (Nat.le_add_left _ _))
theorem nf_9 (k : C0) : ∀ j, j < 24 → defaultValue (am_ft 9 j) = am_cv k (match ([aN, aN, aN, aI 0, aN, aI 0, aI 0, aI 0, aI 0, aN, aN, aI 0, aI 0, aN, aN, aI 0, aN, aI 0, aI 0, aI 0, aI 0, aI 0, aN, aI 0] : List AV).getD j aN with | Sum.inl _ => aI 0 | v => v) := fun j h => match j, h with | 0, _ => rfl | 1, _ => rfl | 2, _ => rfl | 3, _ => rfl | 4, _ => rfl | 5, _ => rfl | 6, _ => rfl | 7, _ => rfl | 8, _ => rfl | 9, _ => rfl | 10, _ => rfl | 11, _ => rfl | 12, _ => rfl | 13, _ => rfl | 14, _ => rfl | 15, _ => rfl | 16, _ => rfl | 17, _ => rfl | 18, _ => rfl | 19, _ => rfl | 20, _ => rfl | 21, _ => rfl | 22, _ => rfl | 23, _ => rfl | n + 24, h => absurd h (Nat.not_lt.mpr (Nat.le_add_left _ _))
