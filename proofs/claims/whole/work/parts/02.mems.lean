theorem mem_44 : Cond.initialized RL ∈ lw_T := zmem (i := 44) (by decide +kernel) rfl
theorem mem_45 : Cond.initialized RX11 ∈ lw_T := zmem (i := 45) (by decide +kernel) rfl
theorem mem_46 : Cond.initialized RX7 ∈ lw_T := zmem (i := 46) (by decide +kernel) rfl
theorem mem_47 : Cond.initialized RX8 ∈ lw_T := zmem (i := 47) (by decide +kernel) rfl
theorem mem_48 : Cond.initialized RX5 ∈ lw_T := zmem (i := 48) (by decide +kernel) rfl
theorem mem_49 : Cond.initialized RX10 ∈ lw_T := zmem (i := 49) (by decide +kernel) rfl
theorem mem_50 : Cond.initialized RX0 ∈ lw_T := zmem (i := 50) (by decide +kernel) rfl
theorem mem_51 : Cond.initialized RX9 ∈ lw_T := zmem (i := 51) (by decide +kernel) rfl
theorem mem_52 : Cond.initialized RX6 ∈ lw_T := zmem (i := 52) (by decide +kernel) rfl
theorem mem_53 : Cond.initialized RX4 ∈ lw_T := zmem (i := 53) (by decide +kernel) rfl
theorem mem_54 : Cond.initialized RX12 ∈ lw_T := zmem (i := 54) (by decide +kernel) rfl
theorem mem_55 : Cond.initialized RJ10 ∈ lw_T := zmem (i := 55) (by decide +kernel) rfl
theorem mem_56 : Cond.initialized RJ6 ∈ lw_T := zmem (i := 56) (by decide +kernel) rfl
theorem mem_57 : Cond.initialized RJ7 ∈ lw_T := zmem (i := 57) (by decide +kernel) rfl
theorem mem_58 : Cond.initialized RX2 ∈ lw_T := zmem (i := 58) (by decide +kernel) rfl
theorem mem_59 : Cond.initialized RJ9 ∈ lw_T := zmem (i := 59) (by decide +kernel) rfl
theorem mem_60 : Cond.initialized RX3 ∈ lw_T := zmem (i := 60) (by decide +kernel) rfl
theorem mem_61 : Cond.initialized RX1 ∈ lw_T := zmem (i := 61) (by decide +kernel) rfl
theorem mem_62 : Cond.classLink RL 7 RX11 ∈ lw_T := zmem (i := 62) (by decide +kernel) rfl
theorem mem_63 : Cond.instantiable RX11 9 ∈ lw_T := zmem (i := 63) (by decide +kernel) rfl
theorem mem_64 : Cond.methodLink RL 9 yX11_init ∈ lw_T := zmem (i := 64) (by decide +kernel) rfl
theorem mem_65 : Cond.instanceMethod yX11_init ∈ lw_T := zmem (i := 65) (by decide +kernel) rfl
theorem mem_67 : Cond.methodLink RX11 1 objectInit ∈ lw_T := zmem (i := 67) (by decide +kernel) rfl
theorem mem_68 : Cond.instanceMethod objectInit ∈ lw_T := zmem (i := 68) (by decide +kernel) rfl
theorem mem_70 : Cond.classLink RX11 7 RX7 ∈ lw_T := zmem (i := 70) (by decide +kernel) rfl
theorem mem_71 : Cond.instantiable RX7 3 ∈ lw_T := zmem (i := 71) (by decide +kernel) rfl
theorem mem_72 : Cond.methodLinkNest RX11 9 yX7_init RX11 ∈ lw_T := zmem (i := 72) (by decide +kernel) rfl
theorem mem_73 : Cond.instanceMethod yX7_init ∈ lw_T := zmem (i := 73) (by decide +kernel) rfl
theorem mem_75 : Cond.methodLink RX7 3 objectInit ∈ lw_T := zmem (i := 75) (by decide +kernel) rfl
theorem mem_76 : Cond.fieldLink RX7 9 RX7 (TX7 0).2.1 (TX7 0).2.2.1 ∈ lw_T := zmem (i := 76) (by decide +kernel) rfl
theorem mem_77 : Cond.fieldLink RX7 15 RX7 (TX7 1).2.1 (TX7 1).2.2.1 ∈ lw_T := zmem (i := 77) (by decide +kernel) rfl
theorem mem_78 : Cond.fieldLinkNest RX11 67 RX7 (TX7 1).2.1 (TX7 1).2.2.1 RX11 ∈ lw_T := zmem (i := 78) (by decide +kernel) rfl
theorem mem_79 : Cond.fieldLink RX7 24 RX7 (TX7 2).2.1 (TX7 2).2.2.1 ∈ lw_T := zmem (i := 79) (by decide +kernel) rfl
theorem mem_87 : Cond.arrayClass .byte ∈ lw_T := zmem (i := 87) (by decide +kernel) rfl
theorem mem_88 : Cond.classLink RX11 16 RX8 ∈ lw_T := zmem (i := 88) (by decide +kernel) rfl
theorem mem_89 : Cond.instantiable RX8 6 ∈ lw_T := zmem (i := 89) (by decide +kernel) rfl
theorem mem_90 : Cond.methodLinkNest RX11 18 yX8_init RX11 ∈ lw_T := zmem (i := 90) (by decide +kernel) rfl
theorem mem_91 : Cond.instanceMethod yX8_init ∈ lw_T := zmem (i := 91) (by decide +kernel) rfl
theorem mem_93 : Cond.methodLink RX8 3 objectInit ∈ lw_T := zmem (i := 93) (by decide +kernel) rfl
theorem mem_94 : Cond.fieldLink RX8 24 RX8 (TX8 0).2.1 (TX8 0).2.2.1 ∈ lw_T := zmem (i := 94) (by decide +kernel) rfl
theorem mem_95 : Cond.fieldLinkNest RX1 21 RX8 (TX8 0).2.1 (TX8 0).2.2.1 RX11 ∈ lw_T := zmem (i := 95) (by decide +kernel) rfl
theorem mem_96 : Cond.fieldLinkNest RX9 40 RX8 (TX8 0).2.1 (TX8 0).2.2.1 RX11 ∈ lw_T := zmem (i := 96) (by decide +kernel) rfl
theorem mem_97 : Cond.fieldLinkNest RX4 35 RX8 (TX8 0).2.1 (TX8 0).2.2.1 RX11 ∈ lw_T := zmem (i := 97) (by decide +kernel) rfl
theorem mem_98 : Cond.fieldLinkNest RX7 35 RX8 (TX8 0).2.1 (TX8 0).2.2.1 RX11 ∈ lw_T := zmem (i := 98) (by decide +kernel) rfl
theorem mem_99 : Cond.fieldLinkNest RX6 72 RX8 (TX8 0).2.1 (TX8 0).2.2.1 RX11 ∈ lw_T := zmem (i := 99) (by decide +kernel) rfl
theorem mem_100 : Cond.fieldLinkNest RX11 97 RX8 (TX8 0).2.1 (TX8 0).2.2.1 RX11 ∈ lw_T := zmem (i := 100) (by decide +kernel) rfl
theorem mem_101 : Cond.fieldLink RX8 28 RX8 (TX8 1).2.1 (TX8 1).2.2.1 ∈ lw_T := zmem (i := 101) (by decide +kernel) rfl
theorem mem_102 : Cond.fieldLinkNest RX7 72 RX8 (TX8 1).2.1 (TX8 1).2.2.1 RX11 ∈ lw_T := zmem (i := 102) (by decide +kernel) rfl
theorem mem_103 : Cond.fieldLinkNest RX11 240 RX8 (TX8 1).2.1 (TX8 1).2.2.1 RX11 ∈ lw_T := zmem (i := 103) (by decide +kernel) rfl
theorem mem_104 : Cond.fieldLink RX8 9 RX8 (TX8 2).2.1 (TX8 2).2.2.1 ∈ lw_T := zmem (i := 104) (by decide +kernel) rfl
theorem mem_105 : Cond.fieldLinkNest RX6 45 RX8 (TX8 2).2.1 (TX8 2).2.2.1 RX11 ∈ lw_T := zmem (i := 105) (by decide +kernel) rfl
theorem mem_106 : Cond.fieldLinkNest RX11 104 RX8 (TX8 2).2.1 (TX8 2).2.2.1 RX11 ∈ lw_T := zmem (i := 106) (by decide +kernel) rfl
theorem mem_107 : Cond.fieldLink RX8 15 RX8 (TX8 3).2.1 (TX8 3).2.2.1 ∈ lw_T := zmem (i := 107) (by decide +kernel) rfl
theorem mem_108 : Cond.fieldLink RX8 18 RX8 (TX8 4).2.1 (TX8 4).2.2.1 ∈ lw_T := zmem (i := 108) (by decide +kernel) rfl
theorem mem_109 : Cond.fieldLink RX8 21 RX8 (TX8 5).2.1 (TX8 5).2.2.1 ∈ lw_T := zmem (i := 109) (by decide +kernel) rfl
theorem mem_123 : Cond.arrayClass .int ∈ lw_T := zmem (i := 123) (by decide +kernel) rfl
theorem mem_124 : Cond.classLink RX11 23 RX5 ∈ lw_T := zmem (i := 124) (by decide +kernel) rfl
theorem mem_125 : Cond.instantiable RX5 4 ∈ lw_T := zmem (i := 125) (by decide +kernel) rfl
theorem mem_126 : Cond.methodLinkNest RX11 25 yX5_init RX11 ∈ lw_T := zmem (i := 126) (by decide +kernel) rfl
theorem mem_127 : Cond.instanceMethod yX5_init ∈ lw_T := zmem (i := 127) (by decide +kernel) rfl
theorem mem_129 : Cond.methodLink RX5 1 objectInit ∈ lw_T := zmem (i := 129) (by decide +kernel) rfl
theorem mem_130 : Cond.classLink RX5 7 RX8 ∈ lw_T := zmem (i := 130) (by decide +kernel) rfl
theorem mem_131 : Cond.methodLinkNest RX5 9 yX8_init RX11 ∈ lw_T := zmem (i := 131) (by decide +kernel) rfl
theorem mem_132 : Cond.classLink RX5 16 RX10 ∈ lw_T := zmem (i := 132) (by decide +kernel) rfl
theorem mem_133 : Cond.instantiable RX10 2 ∈ lw_T := zmem (i := 133) (by decide +kernel) rfl
theorem mem_134 : Cond.methodLinkNest RX5 18 yX10_init RX11 ∈ lw_T := zmem (i := 134) (by decide +kernel) rfl
theorem mem_135 : Cond.instanceMethod yX10_init ∈ lw_T := zmem (i := 135) (by decide +kernel) rfl
theorem mem_137 : Cond.methodLink RX10 3 objectInit ∈ lw_T := zmem (i := 137) (by decide +kernel) rfl
theorem mem_138 : Cond.fieldLink RX10 9 RX10 (TX10 0).2.1 (TX10 0).2.2.1 ∈ lw_T := zmem (i := 138) (by decide +kernel) rfl
theorem mem_139 : Cond.fieldLink RX10 15 RX10 (TX10 1).2.1 (TX10 1).2.2.1 ∈ lw_T := zmem (i := 139) (by decide +kernel) rfl
theorem mem_140 : Cond.fieldLinkNest RX11 87 RX10 (TX10 1).2.1 (TX10 1).2.2.1 RX11 ∈ lw_T := zmem (i := 140) (by decide +kernel) rfl
theorem mem_146 : Cond.classLink RX5 23 RX0 ∈ lw_T := zmem (i := 146) (by decide +kernel) rfl
theorem mem_147 : Cond.instantiable RX0 2 ∈ lw_T := zmem (i := 147) (by decide +kernel) rfl
theorem mem_148 : Cond.methodLinkNest RX5 25 yX0_init RX11 ∈ lw_T := zmem (i := 148) (by decide +kernel) rfl
theorem mem_149 : Cond.instanceMethod yX0_init ∈ lw_T := zmem (i := 149) (by decide +kernel) rfl
theorem mem_151 : Cond.methodLink RX0 3 objectInit ∈ lw_T := zmem (i := 151) (by decide +kernel) rfl
theorem mem_152 : Cond.fieldLink RX0 9 RX0 (TX0 0).2.1 (TX0 0).2.2.1 ∈ lw_T := zmem (i := 152) (by decide +kernel) rfl
theorem mem_153 : Cond.fieldLinkNest RX9 46 RX0 (TX0 0).2.1 (TX0 0).2.2.1 RX11 ∈ lw_T := zmem (i := 153) (by decide +kernel) rfl
theorem mem_154 : Cond.fieldLink RX0 15 RX0 (TX0 1).2.1 (TX0 1).2.2.1 ∈ lw_T := zmem (i := 154) (by decide +kernel) rfl
theorem mem_155 : Cond.fieldLinkNest RX9 43 RX0 (TX0 1).2.1 (TX0 1).2.2.1 RX11 ∈ lw_T := zmem (i := 155) (by decide +kernel) rfl
theorem mem_156 : Cond.fieldLinkNest RX11 94 RX0 (TX0 1).2.1 (TX0 1).2.2.1 RX11 ∈ lw_T := zmem (i := 156) (by decide +kernel) rfl
theorem mem_162 : Cond.fieldLink RX5 10 RX5 (TX5 0).2.1 (TX5 0).2.2.1 ∈ lw_T := zmem (i := 162) (by decide +kernel) rfl
theorem mem_163 : Cond.fieldLinkNest RX11 60 RX5 (TX5 0).2.1 (TX5 0).2.2.1 RX11 ∈ lw_T := zmem (i := 163) (by decide +kernel) rfl
theorem mem_164 : Cond.fieldLink RX5 19 RX5 (TX5 1).2.1 (TX5 1).2.2.1 ∈ lw_T := zmem (i := 164) (by decide +kernel) rfl
theorem mem_165 : Cond.fieldLinkNest RX11 83 RX5 (TX5 1).2.1 (TX5 1).2.2.1 RX11 ∈ lw_T := zmem (i := 165) (by decide +kernel) rfl
theorem mem_166 : Cond.fieldLink RX5 26 RX5 (TX5 2).2.1 (TX5 2).2.2.1 ∈ lw_T := zmem (i := 166) (by decide +kernel) rfl
theorem mem_167 : Cond.fieldLinkNest RX11 90 RX5 (TX5 2).2.1 (TX5 2).2.2.1 RX11 ∈ lw_T := zmem (i := 167) (by decide +kernel) rfl
theorem mem_168 : Cond.fieldLinkNest RX11 233 RX5 (TX5 3).2.1 (TX5 3).2.2.1 RX11 ∈ lw_T := zmem (i := 168) (by decide +kernel) rfl
theorem mem_178 : Cond.classLink RX11 36 RX9 ∈ lw_T := zmem (i := 178) (by decide +kernel) rfl
theorem mem_179 : Cond.instantiable RX9 4 ∈ lw_T := zmem (i := 179) (by decide +kernel) rfl
theorem mem_180 : Cond.methodLinkNest RX11 38 yX9_init RX11 ∈ lw_T := zmem (i := 180) (by decide +kernel) rfl
theorem mem_181 : Cond.instanceMethod yX9_init ∈ lw_T := zmem (i := 181) (by decide +kernel) rfl
theorem mem_183 : Cond.methodLink RX9 3 objectInit ∈ lw_T := zmem (i := 183) (by decide +kernel) rfl
theorem mem_184 : Cond.fieldLinkNest RX2 9 RX9 (TX9 0).2.1 (TX9 0).2.2.1 RX11 ∈ lw_T := zmem (i := 184) (by decide +kernel) rfl
theorem mem_185 : Cond.fieldLink RX9 28 RX9 (TX9 0).2.1 (TX9 0).2.2.1 ∈ lw_T := zmem (i := 185) (by decide +kernel) rfl
theorem mem_186 : Cond.fieldLinkNest RX10 25 RX9 (TX9 0).2.1 (TX9 0).2.2.1 RX11 ∈ lw_T := zmem (i := 186) (by decide +kernel) rfl
theorem mem_187 : Cond.fieldLinkNest RX11 201 RX9 (TX9 0).2.1 (TX9 0).2.2.1 RX11 ∈ lw_T := zmem (i := 187) (by decide +kernel) rfl
theorem mem_188 : Cond.fieldLink RX9 11 RX9 (TX9 1).2.1 (TX9 1).2.2.1 ∈ lw_T := zmem (i := 188) (by decide +kernel) rfl
theorem mem_189 : Cond.fieldLink RX9 15 RX9 (TX9 2).2.1 (TX9 2).2.2.1 ∈ lw_T := zmem (i := 189) (by decide +kernel) rfl
theorem mem_190 : Cond.fieldLink RX9 18 RX9 (TX9 3).2.1 (TX9 3).2.2.1 ∈ lw_T := zmem (i := 190) (by decide +kernel) rfl
theorem mem_200 : Cond.arrayClass .long ∈ lw_T := zmem (i := 200) (by decide +kernel) rfl
theorem mem_201 : Cond.classLink RX11 46 RX6 ∈ lw_T := zmem (i := 201) (by decide +kernel) rfl
theorem mem_202 : Cond.instantiable RX6 8 ∈ lw_T := zmem (i := 202) (by decide +kernel) rfl
theorem mem_203 : Cond.methodLinkNest RX11 48 yX6_init RX11 ∈ lw_T := zmem (i := 203) (by decide +kernel) rfl
theorem mem_204 : Cond.instanceMethod yX6_init ∈ lw_T := zmem (i := 204) (by decide +kernel) rfl
theorem mem_206 : Cond.methodLink RX6 5 objectInit ∈ lw_T := zmem (i := 206) (by decide +kernel) rfl
theorem mem_207 : Cond.fieldLink RX6 37 RX6 (TX6 0).2.1 (TX6 0).2.2.1 ∈ lw_T := zmem (i := 207) (by decide +kernel) rfl
theorem mem_208 : Cond.fieldLink RX6 11 RX6 (TX6 1).2.1 (TX6 1).2.2.1 ∈ lw_T := zmem (i := 208) (by decide +kernel) rfl
theorem mem_209 : Cond.fieldLink RX6 15 RX6 (TX6 2).2.1 (TX6 2).2.2.1 ∈ lw_T := zmem (i := 209) (by decide +kernel) rfl
theorem mem_210 : Cond.fieldLink RX6 18 RX6 (TX6 3).2.1 (TX6 3).2.2.1 ∈ lw_T := zmem (i := 210) (by decide +kernel) rfl
theorem mem_211 : Cond.fieldLink RX6 21 RX6 (TX6 4).2.1 (TX6 4).2.2.1 ∈ lw_T := zmem (i := 211) (by decide +kernel) rfl
theorem mem_212 : Cond.fieldLink RX6 54 RX6 (TX6 5).2.1 (TX6 5).2.2.1 ∈ lw_T := zmem (i := 212) (by decide +kernel) rfl
theorem mem_213 : Cond.fieldLink RX6 24 RX6 (TX6 6).2.1 (TX6 6).2.2.1 ∈ lw_T := zmem (i := 213) (by decide +kernel) rfl
theorem mem_214 : Cond.fieldLink RX6 28 RX6 (TX6 7).2.1 (TX6 7).2.2.1 ∈ lw_T := zmem (i := 214) (by decide +kernel) rfl
theorem mem_232 : Cond.classLink RX11 53 RX4 ∈ lw_T := zmem (i := 232) (by decide +kernel) rfl
theorem mem_233 : Cond.instantiable RX4 1 ∈ lw_T := zmem (i := 233) (by decide +kernel) rfl
theorem mem_234 : Cond.methodLinkNest RX11 55 yX4_init RX11 ∈ lw_T := zmem (i := 234) (by decide +kernel) rfl
theorem mem_235 : Cond.instanceMethod yX4_init ∈ lw_T := zmem (i := 235) (by decide +kernel) rfl
theorem mem_237 : Cond.methodLink RX4 3 objectInit ∈ lw_T := zmem (i := 237) (by decide +kernel) rfl
theorem mem_238 : Cond.fieldLink RX4 9 RX4 (TX4 0).2.1 (TX4 0).2.2.1 ∈ lw_T := zmem (i := 238) (by decide +kernel) rfl
theorem mem_242 : Cond.methodLink RX11 63 yX8_addDoor ∈ lw_T := zmem (i := 242) (by decide +kernel) rfl
theorem mem_243 : Cond.instanceMethod yX8_addDoor ∈ lw_T := zmem (i := 243) (by decide +kernel) rfl
theorem mem_244 : Cond.selects RX8 yX8_addDoor yX8_addDoor ∈ lw_T := zmem (i := 244) (by decide +kernel) rfl
theorem mem_246 : Cond.fieldLink RX11 10 RX11 (TX11 0).2.1 (TX11 0).2.2.1 ∈ lw_T := zmem (i := 246) (by decide +kernel) rfl
theorem mem_247 : Cond.fieldLink RX11 19 RX11 (TX11 1).2.1 (TX11 1).2.2.1 ∈ lw_T := zmem (i := 247) (by decide +kernel) rfl
theorem mem_248 : Cond.fieldLink RX11 26 RX11 (TX11 2).2.1 (TX11 2).2.2.1 ∈ lw_T := zmem (i := 248) (by decide +kernel) rfl
theorem mem_249 : Cond.fieldLink RX11 30 RX11 (TX11 3).2.1 (TX11 3).2.2.1 ∈ lw_T := zmem (i := 249) (by decide +kernel) rfl
theorem mem_250 : Cond.fieldLink RX11 33 RX11 (TX11 4).2.1 (TX11 4).2.2.1 ∈ lw_T := zmem (i := 250) (by decide +kernel) rfl
theorem mem_251 : Cond.fieldLink RX11 39 RX11 (TX11 5).2.1 (TX11 5).2.2.1 ∈ lw_T := zmem (i := 251) (by decide +kernel) rfl
theorem mem_252 : Cond.fieldLink RX11 43 RX11 (TX11 6).2.1 (TX11 6).2.2.1 ∈ lw_T := zmem (i := 252) (by decide +kernel) rfl
theorem mem_253 : Cond.fieldLink RX11 49 RX11 (TX11 7).2.1 (TX11 7).2.2.1 ∈ lw_T := zmem (i := 253) (by decide +kernel) rfl
theorem mem_254 : Cond.fieldLink RX11 56 RX11 (TX11 8).2.1 (TX11 8).2.2.1 ∈ lw_T := zmem (i := 254) (by decide +kernel) rfl
theorem mem_274 : Cond.methodLink RL 15 yX11_write ∈ lw_T := zmem (i := 274) (by decide +kernel) rfl
theorem mem_275 : Cond.instanceMethod yX11_write ∈ lw_T := zmem (i := 275) (by decide +kernel) rfl
theorem mem_276 : Cond.selects RX11 yX11_write yX11_write ∈ lw_T := zmem (i := 276) (by decide +kernel) rfl
theorem mem_278 : Cond.methodLink RX11 71 yX7_append ∈ lw_T := zmem (i := 278) (by decide +kernel) rfl
theorem mem_279 : Cond.instanceMethod yX7_append ∈ lw_T := zmem (i := 279) (by decide +kernel) rfl
theorem mem_280 : Cond.selects RX7 yX7_append yX7_append ∈ lw_T := zmem (i := 280) (by decide +kernel) rfl
theorem mem_282 : Cond.methodLink RL 20 yX11_wipe ∈ lw_T := zmem (i := 282) (by decide +kernel) rfl
theorem mem_283 : Cond.instanceMethod yX11_wipe ∈ lw_T := zmem (i := 283) (by decide +kernel) rfl
theorem mem_284 : Cond.selects RX11 yX11_wipe yX11_wipe ∈ lw_T := zmem (i := 284) (by decide +kernel) rfl
theorem mem_286 : Cond.methodLink RL 25 yX11_fault ∈ lw_T := zmem (i := 286) (by decide +kernel) rfl
theorem mem_287 : Cond.instanceMethod yX11_fault ∈ lw_T := zmem (i := 287) (by decide +kernel) rfl
theorem mem_288 : Cond.selects RX11 yX11_fault yX11_fault ∈ lw_T := zmem (i := 288) (by decide +kernel) rfl
theorem mem_290 : Cond.methodLink RX11 75 yX7_readInto ∈ lw_T := zmem (i := 290) (by decide +kernel) rfl
theorem mem_291 : Cond.instanceMethod yX7_readInto ∈ lw_T := zmem (i := 291) (by decide +kernel) rfl
theorem mem_292 : Cond.selects RX7 yX7_readInto yX7_readInto ∈ lw_T := zmem (i := 292) (by decide +kernel) rfl
theorem mem_294 : Cond.methodLink RX7 19 yX8_clear ∈ lw_T := zmem (i := 294) (by decide +kernel) rfl
theorem mem_295 : Cond.instanceMethod yX8_clear ∈ lw_T := zmem (i := 295) (by decide +kernel) rfl
theorem mem_296 : Cond.selects RX8 yX8_clear yX8_clear ∈ lw_T := zmem (i := 296) (by decide +kernel) rfl
theorem mem_298 : Cond.methodLink RX7 27 yX7_byteHere ∈ lw_T := zmem (i := 298) (by decide +kernel) rfl
theorem mem_300 : Cond.instanceMethod yX7_byteHere ∈ lw_T := zmem (i := 300) (by decide +kernel) rfl
theorem mem_302 : Cond.methodLink RX7 31 yX7_readDoors ∈ lw_T := zmem (i := 302) (by decide +kernel) rfl
theorem mem_304 : Cond.instanceMethod yX7_readDoors ∈ lw_T := zmem (i := 304) (by decide +kernel) rfl
theorem mem_306 : Cond.methodLink RX7 45 yX7_letterHere ∈ lw_T := zmem (i := 306) (by decide +kernel) rfl
theorem mem_308 : Cond.instanceMethod yX7_letterHere ∈ lw_T := zmem (i := 308) (by decide +kernel) rfl
theorem mem_310 : Cond.methodLink RX7 48 yX8_addDoor ∈ lw_T := zmem (i := 310) (by decide +kernel) rfl
theorem mem_311 : Cond.methodLink RX7 38 yX7_readStreet ∈ lw_T := zmem (i := 311) (by decide +kernel) rfl
theorem mem_313 : Cond.instanceMethod yX7_readStreet ∈ lw_T := zmem (i := 313) (by decide +kernel) rfl
theorem mem_315 : Cond.methodLink RX7 52 yX8_hasRoomForStreet ∈ lw_T := zmem (i := 315) (by decide +kernel) rfl
theorem mem_316 : Cond.instanceMethod yX8_hasRoomForStreet ∈ lw_T := zmem (i := 316) (by decide +kernel) rfl
theorem mem_317 : Cond.selects RX8 yX8_hasRoomForStreet yX8_hasRoomForStreet ∈ lw_T := zmem (i := 317) (by decide +kernel) rfl
theorem mem_319 : Cond.methodLink RX8 59 yX8_isJoinedToAll ∈ lw_T := zmem (i := 319) (by decide +kernel) rfl
theorem mem_320 : Cond.instanceMethod yX8_isJoinedToAll ∈ lw_T := zmem (i := 320) (by decide +kernel) rfl
theorem mem_321 : Cond.selects RX8 yX8_isJoinedToAll yX8_isJoinedToAll ∈ lw_T := zmem (i := 321) (by decide +kernel) rfl
theorem mem_323 : Cond.methodLink RX8 41 yX8_isDoor ∈ lw_T := zmem (i := 323) (by decide +kernel) rfl
theorem mem_324 : Cond.instanceMethod yX8_isDoor ∈ lw_T := zmem (i := 324) (by decide +kernel) rfl
theorem mem_325 : Cond.selects RX8 yX8_isDoor yX8_isDoor ∈ lw_T := zmem (i := 325) (by decide +kernel) rfl
theorem mem_327 : Cond.methodLink RX8 55 yX8_allDoors ∈ lw_T := zmem (i := 327) (by decide +kernel) rfl
theorem mem_328 : Cond.instanceMethod yX8_allDoors ∈ lw_T := zmem (i := 328) (by decide +kernel) rfl
theorem mem_329 : Cond.selects RX8 yX8_allDoors yX8_allDoors ∈ lw_T := zmem (i := 329) (by decide +kernel) rfl
theorem mem_331 : Cond.methodLink RX7 56 yX7_doorHere ∈ lw_T := zmem (i := 331) (by decide +kernel) rfl
theorem mem_333 : Cond.instanceMethod yX7_doorHere ∈ lw_T := zmem (i := 333) (by decide +kernel) rfl
theorem mem_335 : Cond.methodLink RX7 84 yX8_isDoor ∈ lw_T := zmem (i := 335) (by decide +kernel) rfl
theorem mem_336 : Cond.methodLink RX7 60 yX8_isJoinedToAll ∈ lw_T := zmem (i := 336) (by decide +kernel) rfl
theorem mem_337 : Cond.methodLink RX7 64 yX8_isJoined ∈ lw_T := zmem (i := 337) (by decide +kernel) rfl
theorem mem_338 : Cond.instanceMethod yX8_isJoined ∈ lw_T := zmem (i := 338) (by decide +kernel) rfl
theorem mem_339 : Cond.selects RX8 yX8_isJoined yX8_isJoined ∈ lw_T := zmem (i := 339) (by decide +kernel) rfl
theorem mem_341 : Cond.methodLink RX8 48 yX8_joinedTo ∈ lw_T := zmem (i := 341) (by decide +kernel) rfl
theorem mem_342 : Cond.instanceMethod yX8_joinedTo ∈ lw_T := zmem (i := 342) (by decide +kernel) rfl
theorem mem_343 : Cond.selects RX8 yX8_joinedTo yX8_joinedTo ∈ lw_T := zmem (i := 343) (by decide +kernel) rfl
theorem mem_345 : Cond.methodLinkNest RX8 52 yX11_has RX11 ∈ lw_T := zmem (i := 345) (by decide +kernel) rfl
theorem mem_346 : Cond.static yX11_has ∈ lw_T := zmem (i := 346) (by decide +kernel) rfl
theorem mem_348 : Cond.methodLink RX7 68 yX8_join ∈ lw_T := zmem (i := 348) (by decide +kernel) rfl
theorem mem_349 : Cond.instanceMethod yX8_join ∈ lw_T := zmem (i := 349) (by decide +kernel) rfl
theorem mem_350 : Cond.selects RX8 yX8_join yX8_join ∈ lw_T := zmem (i := 350) (by decide +kernel) rfl
theorem mem_352 : Cond.methodLink RX7 42 yX7_readSong ∈ lw_T := zmem (i := 352) (by decide +kernel) rfl
theorem mem_354 : Cond.instanceMethod yX7_readSong ∈ lw_T := zmem (i := 354) (by decide +kernel) rfl
theorem mem_356 : Cond.methodLink RX7 75 yX7_signHere ∈ lw_T := zmem (i := 356) (by decide +kernel) rfl
theorem mem_358 : Cond.instanceMethod yX7_signHere ∈ lw_T := zmem (i := 358) (by decide +kernel) rfl
theorem mem_360 : Cond.methodLink RX7 78 yX8_addSong ∈ lw_T := zmem (i := 360) (by decide +kernel) rfl
theorem mem_361 : Cond.instanceMethod yX8_addSong ∈ lw_T := zmem (i := 361) (by decide +kernel) rfl
theorem mem_362 : Cond.selects RX8 yX8_addSong yX8_addSong ∈ lw_T := zmem (i := 362) (by decide +kernel) rfl
theorem mem_364 : Cond.methodLink RX7 81 yX8_addSign ∈ lw_T := zmem (i := 364) (by decide +kernel) rfl
theorem mem_365 : Cond.instanceMethod yX8_addSign ∈ lw_T := zmem (i := 365) (by decide +kernel) rfl
theorem mem_366 : Cond.selects RX8 yX8_addSign yX8_addSign ∈ lw_T := zmem (i := 366) (by decide +kernel) rfl
theorem mem_368 : Cond.methodLink RX8 37 yX8_isSong ∈ lw_T := zmem (i := 368) (by decide +kernel) rfl
theorem mem_369 : Cond.instanceMethod yX8_isSong ∈ lw_T := zmem (i := 369) (by decide +kernel) rfl
theorem mem_370 : Cond.selects RX8 yX8_isSong yX8_isSong ∈ lw_T := zmem (i := 370) (by decide +kernel) rfl
theorem mem_372 : Cond.methodLink RL 29 yX11_town ∈ lw_T := zmem (i := 372) (by decide +kernel) rfl
theorem mem_373 : Cond.instanceMethod yX11_town ∈ lw_T := zmem (i := 373) (by decide +kernel) rfl
theorem mem_374 : Cond.selects RX11 yX11_town yX11_town ∈ lw_T := zmem (i := 374) (by decide +kernel) rfl
theorem mem_376 : Cond.methodLink RX11 79 yX8_copyFrom ∈ lw_T := zmem (i := 376) (by decide +kernel) rfl
theorem mem_377 : Cond.instanceMethod yX8_copyFrom ∈ lw_T := zmem (i := 377) (by decide +kernel) rfl
theorem mem_378 : Cond.selects RX8 yX8_copyFrom yX8_copyFrom ∈ lw_T := zmem (i := 378) (by decide +kernel) rfl
theorem mem_380 : Cond.methodLink RX8 31 arraycopyName ∈ lw_T := zmem (i := 380) (by decide +kernel) rfl
theorem mem_381 : Cond.static arraycopyName ∈ lw_T := zmem (i := 381) (by decide +kernel) rfl
theorem mem_382 : Cond.native arraycopyName ∈ lw_T := zmem (i := 382) (by decide +kernel) rfl
theorem mem_383 : Cond.methodLink RL 33 yX11_note ∈ lw_T := zmem (i := 383) (by decide +kernel) rfl
theorem mem_384 : Cond.instanceMethod yX11_note ∈ lw_T := zmem (i := 384) (by decide +kernel) rfl
theorem mem_385 : Cond.selects RX11 yX11_note yX11_note ∈ lw_T := zmem (i := 385) (by decide +kernel) rfl
theorem mem_387 : Cond.methodLink RX11 100 yX8_isDoor ∈ lw_T := zmem (i := 387) (by decide +kernel) rfl
theorem mem_388 : Cond.methodLink RL 38 yX11_let ∈ lw_T := zmem (i := 388) (by decide +kernel) rfl
theorem mem_389 : Cond.instanceMethod yX11_let ∈ lw_T := zmem (i := 389) (by decide +kernel) rfl
theorem mem_390 : Cond.selects RX11 yX11_let yX11_let ∈ lw_T := zmem (i := 390) (by decide +kernel) rfl
theorem mem_392 : Cond.methodLink RL 43 yX11_street ∈ lw_T := zmem (i := 392) (by decide +kernel) rfl
theorem mem_393 : Cond.instanceMethod yX11_street ∈ lw_T := zmem (i := 393) (by decide +kernel) rfl
theorem mem_394 : Cond.selects RX11 yX11_street yX11_street ∈ lw_T := zmem (i := 394) (by decide +kernel) rfl
theorem mem_396 : Cond.methodLink RX11 108 yX8_isJoined ∈ lw_T := zmem (i := 396) (by decide +kernel) rfl
theorem mem_397 : Cond.methodLink RL 47 yX11_road ∈ lw_T := zmem (i := 397) (by decide +kernel) rfl
theorem mem_398 : Cond.instanceMethod yX11_road ∈ lw_T := zmem (i := 398) (by decide +kernel) rfl
theorem mem_399 : Cond.selects RX11 yX11_road yX11_road ∈ lw_T := zmem (i := 399) (by decide +kernel) rfl
theorem mem_401 : Cond.methodLink RX11 112 yX8_join ∈ lw_T := zmem (i := 401) (by decide +kernel) rfl
theorem mem_402 : Cond.methodLink RL 52 yX11_song ∈ lw_T := zmem (i := 402) (by decide +kernel) rfl
theorem mem_403 : Cond.instanceMethod yX11_song ∈ lw_T := zmem (i := 403) (by decide +kernel) rfl
theorem mem_404 : Cond.selects RX11 yX11_song yX11_song ∈ lw_T := zmem (i := 404) (by decide +kernel) rfl
theorem mem_406 : Cond.methodLink RX11 116 yX8_isSong ∈ lw_T := zmem (i := 406) (by decide +kernel) rfl
theorem mem_407 : Cond.methodLink RX11 119 yX8_signOf ∈ lw_T := zmem (i := 407) (by decide +kernel) rfl
theorem mem_408 : Cond.instanceMethod yX8_signOf ∈ lw_T := zmem (i := 408) (by decide +kernel) rfl
theorem mem_409 : Cond.selects RX8 yX8_signOf yX8_signOf ∈ lw_T := zmem (i := 409) (by decide +kernel) rfl
theorem mem_411 : Cond.methodLink RL 56 yX11_spring ∈ lw_T := zmem (i := 411) (by decide +kernel) rfl
theorem mem_412 : Cond.instanceMethod yX11_spring ∈ lw_T := zmem (i := 412) (by decide +kernel) rfl
theorem mem_413 : Cond.selects RX11 yX11_spring yX11_spring ∈ lw_T := zmem (i := 413) (by decide +kernel) rfl
theorem mem_415 : Cond.methodLink RX11 123 yX8_turnNotes ∈ lw_T := zmem (i := 415) (by decide +kernel) rfl
theorem mem_416 : Cond.instanceMethod yX8_turnNotes ∈ lw_T := zmem (i := 416) (by decide +kernel) rfl
theorem mem_417 : Cond.selects RX8 yX8_turnNotes yX8_turnNotes ∈ lw_T := zmem (i := 417) (by decide +kernel) rfl
theorem mem_419 : Cond.methodLink RL 60 yX11_go ∈ lw_T := zmem (i := 419) (by decide +kernel) rfl
theorem mem_420 : Cond.instanceMethod yX11_go ∈ lw_T := zmem (i := 420) (by decide +kernel) rfl
theorem mem_421 : Cond.selects RX11 yX11_go yX11_go ∈ lw_T := zmem (i := 421) (by decide +kernel) rfl
theorem mem_423 : Cond.methodLink RX11 127 yX10_doorAt ∈ lw_T := zmem (i := 423) (by decide +kernel) rfl
theorem mem_424 : Cond.instanceMethod yX10_doorAt ∈ lw_T := zmem (i := 424) (by decide +kernel) rfl
theorem mem_425 : Cond.selects RX10 yX10_doorAt yX10_doorAt ∈ lw_T := zmem (i := 425) (by decide +kernel) rfl
theorem mem_427 : Cond.methodLink RX11 131 yX10_add ∈ lw_T := zmem (i := 427) (by decide +kernel) rfl
theorem mem_428 : Cond.instanceMethod yX10_add ∈ lw_T := zmem (i := 428) (by decide +kernel) rfl
theorem mem_429 : Cond.selects RX10 yX10_add yX10_add ∈ lw_T := zmem (i := 429) (by decide +kernel) rfl
theorem mem_431 : Cond.methodLink RL 64 yX11_home ∈ lw_T := zmem (i := 431) (by decide +kernel) rfl
theorem mem_432 : Cond.instanceMethod yX11_home ∈ lw_T := zmem (i := 432) (by decide +kernel) rfl
theorem mem_433 : Cond.selects RX11 yX11_home yX11_home ∈ lw_T := zmem (i := 433) (by decide +kernel) rfl
theorem mem_435 : Cond.methodLink RL 68 yX11_at ∈ lw_T := zmem (i := 435) (by decide +kernel) rfl
theorem mem_436 : Cond.instanceMethod yX11_at ∈ lw_T := zmem (i := 436) (by decide +kernel) rfl
theorem mem_437 : Cond.selects RX11 yX11_at yX11_at ∈ lw_T := zmem (i := 437) (by decide +kernel) rfl
theorem mem_439 : Cond.methodLink RL 72 yX11_heard ∈ lw_T := zmem (i := 439) (by decide +kernel) rfl
theorem mem_440 : Cond.instanceMethod yX11_heard ∈ lw_T := zmem (i := 440) (by decide +kernel) rfl
theorem mem_441 : Cond.selects RX11 yX11_heard yX11_heard ∈ lw_T := zmem (i := 441) (by decide +kernel) rfl
theorem mem_443 : Cond.methodLink RX11 134 yX9_takeSong ∈ lw_T := zmem (i := 443) (by decide +kernel) rfl
theorem mem_444 : Cond.instanceMethod yX9_takeSong ∈ lw_T := zmem (i := 444) (by decide +kernel) rfl
theorem mem_445 : Cond.selects RX9 yX9_takeSong yX9_takeSong ∈ lw_T := zmem (i := 445) (by decide +kernel) rfl
theorem mem_447 : Cond.methodLink RX9 22 yX8_lengthOf ∈ lw_T := zmem (i := 447) (by decide +kernel) rfl
theorem mem_448 : Cond.instanceMethod yX8_lengthOf ∈ lw_T := zmem (i := 448) (by decide +kernel) rfl
theorem mem_449 : Cond.selects RX8 yX8_lengthOf yX8_lengthOf ∈ lw_T := zmem (i := 449) (by decide +kernel) rfl
theorem mem_451 : Cond.methodLink RX9 32 yX8_signOf ∈ lw_T := zmem (i := 451) (by decide +kernel) rfl
theorem mem_452 : Cond.methodLink RX9 36 yX9_take ∈ lw_T := zmem (i := 452) (by decide +kernel) rfl
theorem mem_454 : Cond.instanceMethod yX9_take ∈ lw_T := zmem (i := 454) (by decide +kernel) rfl
theorem mem_456 : Cond.methodLink RX9 49 yX8_doorsThatSound ∈ lw_T := zmem (i := 456) (by decide +kernel) rfl
theorem mem_457 : Cond.instanceMethod yX8_doorsThatSound ∈ lw_T := zmem (i := 457) (by decide +kernel) rfl
theorem mem_458 : Cond.selects RX8 yX8_doorsThatSound yX8_doorsThatSound ∈ lw_T := zmem (i := 458) (by decide +kernel) rfl
theorem mem_460 : Cond.methodLink RX8 44 yX8_sounds ∈ lw_T := zmem (i := 460) (by decide +kernel) rfl
theorem mem_461 : Cond.instanceMethod yX8_sounds ∈ lw_T := zmem (i := 461) (by decide +kernel) rfl
theorem mem_462 : Cond.selects RX8 yX8_sounds yX8_sounds ∈ lw_T := zmem (i := 462) (by decide +kernel) rfl
theorem mem_464 : Cond.methodLink RX9 52 yX8_allDoors ∈ lw_T := zmem (i := 464) (by decide +kernel) rfl
theorem mem_465 : Cond.methodLink RX11 138 yX10_firstPlaceOf ∈ lw_T := zmem (i := 465) (by decide +kernel) rfl
theorem mem_466 : Cond.instanceMethod yX10_firstPlaceOf ∈ lw_T := zmem (i := 466) (by decide +kernel) rfl
theorem mem_467 : Cond.selects RX10 yX10_firstPlaceOf yX10_firstPlaceOf ∈ lw_T := zmem (i := 467) (by decide +kernel) rfl
theorem mem_469 : Cond.methodLink RX10 28 yX10_isHereThroughout ∈ lw_T := zmem (i := 469) (by decide +kernel) rfl
theorem mem_471 : Cond.instanceMethod yX10_isHereThroughout ∈ lw_T := zmem (i := 471) (by decide +kernel) rfl
theorem mem_473 : Cond.methodLink RX10 32 yX10_doorAt ∈ lw_T := zmem (i := 473) (by decide +kernel) rfl
theorem mem_474 : Cond.methodLink RX10 36 yX9_fitsAt ∈ lw_T := zmem (i := 474) (by decide +kernel) rfl
theorem mem_475 : Cond.instanceMethod yX9_fitsAt ∈ lw_T := zmem (i := 475) (by decide +kernel) rfl
theorem mem_476 : Cond.selects RX9 yX9_fitsAt yX9_fitsAt ∈ lw_T := zmem (i := 476) (by decide +kernel) rfl
theorem mem_478 : Cond.methodLinkNest RX10 39 yX11_has RX11 ∈ lw_T := zmem (i := 478) (by decide +kernel) rfl
theorem mem_479 : Cond.methodLink RL 76 yX11_ways ∈ lw_T := zmem (i := 479) (by decide +kernel) rfl
theorem mem_480 : Cond.instanceMethod yX11_ways ∈ lw_T := zmem (i := 480) (by decide +kernel) rfl
theorem mem_481 : Cond.selects RX11 yX11_ways yX11_ways ∈ lw_T := zmem (i := 481) (by decide +kernel) rfl
theorem mem_483 : Cond.methodLink RX11 142 yX11_isDoorOrNone ∈ lw_T := zmem (i := 483) (by decide +kernel) rfl
theorem mem_485 : Cond.instanceMethod yX11_isDoorOrNone ∈ lw_T := zmem (i := 485) (by decide +kernel) rfl
theorem mem_487 : Cond.constantLong RX11 145 (-1) ∈ lw_T := zmem (i := 487) (by decide +kernel) rfl
theorem mem_488 : Cond.methodLink RX11 147 yX11_doorsMeant ∈ lw_T := zmem (i := 488) (by decide +kernel) rfl
theorem mem_490 : Cond.instanceMethod yX11_doorsMeant ∈ lw_T := zmem (i := 490) (by decide +kernel) rfl
theorem mem_492 : Cond.methodLink RX11 198 yX8_allDoors ∈ lw_T := zmem (i := 492) (by decide +kernel) rfl
theorem mem_493 : Cond.methodLink RX11 150 yX9_countWays ∈ lw_T := zmem (i := 493) (by decide +kernel) rfl
theorem mem_494 : Cond.instanceMethod yX9_countWays ∈ lw_T := zmem (i := 494) (by decide +kernel) rfl
theorem mem_495 : Cond.selects RX9 yX9_countWays yX9_countWays ∈ lw_T := zmem (i := 495) (by decide +kernel) rfl
theorem mem_497 : Cond.methodLink RX9 56 yX9_fitsAt ∈ lw_T := zmem (i := 497) (by decide +kernel) rfl
theorem mem_498 : Cond.methodLinkNest RX9 72 yX11_has RX11 ∈ lw_T := zmem (i := 498) (by decide +kernel) rfl
theorem mem_499 : Cond.methodLink RX9 76 yX9_countPlace ∈ lw_T := zmem (i := 499) (by decide +kernel) rfl
theorem mem_501 : Cond.instanceMethod yX9_countPlace ∈ lw_T := zmem (i := 501) (by decide +kernel) rfl
theorem mem_503 : Cond.methodLink RX9 69 yX8_joinedTo ∈ lw_T := zmem (i := 503) (by decide +kernel) rfl
theorem mem_504 : Cond.methodLink RX9 80 yX9_countedAt ∈ lw_T := zmem (i := 504) (by decide +kernel) rfl
theorem mem_506 : Cond.instanceMethod yX9_countedAt ∈ lw_T := zmem (i := 506) (by decide +kernel) rfl
theorem mem_508 : Cond.methodLink RL 81 yX11_first ∈ lw_T := zmem (i := 508) (by decide +kernel) rfl
theorem mem_509 : Cond.instanceMethod yX11_first ∈ lw_T := zmem (i := 509) (by decide +kernel) rfl
theorem mem_510 : Cond.selects RX11 yX11_first yX11_first ∈ lw_T := zmem (i := 510) (by decide +kernel) rfl
theorem mem_512 : Cond.methodLink RX11 154 yX9_doorOfFirst ∈ lw_T := zmem (i := 512) (by decide +kernel) rfl
theorem mem_513 : Cond.instanceMethod yX9_doorOfFirst ∈ lw_T := zmem (i := 513) (by decide +kernel) rfl
theorem mem_514 : Cond.selects RX9 yX9_doorOfFirst yX9_doorOfFirst ∈ lw_T := zmem (i := 514) (by decide +kernel) rfl
theorem mem_516 : Cond.methodLink RX9 62 yX9_openAt ∈ lw_T := zmem (i := 516) (by decide +kernel) rfl
theorem mem_517 : Cond.instanceMethod yX9_openAt ∈ lw_T := zmem (i := 517) (by decide +kernel) rfl
theorem mem_518 : Cond.selects RX9 yX9_openAt yX9_openAt ∈ lw_T := zmem (i := 518) (by decide +kernel) rfl
theorem mem_520 : Cond.methodLink RX9 59 yX8_around ∈ lw_T := zmem (i := 520) (by decide +kernel) rfl
theorem mem_521 : Cond.instanceMethod yX8_around ∈ lw_T := zmem (i := 521) (by decide +kernel) rfl
theorem mem_522 : Cond.selects RX8 yX8_around yX8_around ∈ lw_T := zmem (i := 522) (by decide +kernel) rfl
theorem mem_524 : Cond.methodLinkNest RX9 66 yX11_leastOf RX11 ∈ lw_T := zmem (i := 524) (by decide +kernel) rfl
theorem mem_525 : Cond.static yX11_leastOf ∈ lw_T := zmem (i := 525) (by decide +kernel) rfl
theorem mem_527 : Cond.methodLink RX11 251 yJ6_numberOfTrailingZeros_0f7a4 ∈ lw_T := zmem (i := 527) (by decide +kernel) rfl
theorem mem_528 : Cond.static yJ6_numberOfTrailingZeros_0f7a4 ∈ lw_T := zmem (i := 528) (by decide +kernel) rfl
theorem mem_530 : Cond.constant RJ6 264 (65536) ∈ lw_T := zmem (i := 530) (by decide +kernel) rfl
theorem mem_531 : Cond.methodLink RL 85 yX11_begun ∈ lw_T := zmem (i := 531) (by decide +kernel) rfl
theorem mem_532 : Cond.instanceMethod yX11_begun ∈ lw_T := zmem (i := 532) (by decide +kernel) rfl
theorem mem_533 : Cond.selects RX11 yX11_begun yX11_begun ∈ lw_T := zmem (i := 533) (by decide +kernel) rfl
theorem mem_535 : Cond.methodLink RX11 158 yX9_placesBegun ∈ lw_T := zmem (i := 535) (by decide +kernel) rfl
theorem mem_536 : Cond.instanceMethod yX9_placesBegun ∈ lw_T := zmem (i := 536) (by decide +kernel) rfl
theorem mem_537 : Cond.selects RX9 yX9_placesBegun yX9_placesBegun ∈ lw_T := zmem (i := 537) (by decide +kernel) rfl
theorem mem_539 : Cond.methodLink RL 89 yX11_round ∈ lw_T := zmem (i := 539) (by decide +kernel) rfl
theorem mem_540 : Cond.instanceMethod yX11_round ∈ lw_T := zmem (i := 540) (by decide +kernel) rfl
theorem mem_541 : Cond.selects RX11 yX11_round yX11_round ∈ lw_T := zmem (i := 541) (by decide +kernel) rfl
theorem mem_543 : Cond.methodLink RX11 161 yX11_areSongAndDoors ∈ lw_T := zmem (i := 543) (by decide +kernel) rfl
theorem mem_545 : Cond.instanceMethod yX11_areSongAndDoors ∈ lw_T := zmem (i := 545) (by decide +kernel) rfl
theorem mem_547 : Cond.methodLink RX11 165 yX6_takeSong ∈ lw_T := zmem (i := 547) (by decide +kernel) rfl
theorem mem_548 : Cond.instanceMethod yX6_takeSong ∈ lw_T := zmem (i := 548) (by decide +kernel) rfl
theorem mem_549 : Cond.selects RX6 yX6_takeSong yX6_takeSong ∈ lw_T := zmem (i := 549) (by decide +kernel) rfl
theorem mem_551 : Cond.methodLink RX6 31 yX8_lengthOf ∈ lw_T := zmem (i := 551) (by decide +kernel) rfl
theorem mem_552 : Cond.methodLink RX6 41 yX8_signOf ∈ lw_T := zmem (i := 552) (by decide +kernel) rfl
theorem mem_553 : Cond.methodLink RX11 166 yX6_findWay ∈ lw_T := zmem (i := 553) (by decide +kernel) rfl
theorem mem_554 : Cond.instanceMethod yX6_findWay ∈ lw_T := zmem (i := 554) (by decide +kernel) rfl
theorem mem_555 : Cond.selects RX6 yX6_findWay yX6_findWay ∈ lw_T := zmem (i := 555) (by decide +kernel) rfl
theorem mem_557 : Cond.methodLink RX6 48 yJ7_fill_53178 ∈ lw_T := zmem (i := 557) (by decide +kernel) rfl
theorem mem_558 : Cond.static yJ7_fill_53178 ∈ lw_T := zmem (i := 558) (by decide +kernel) rfl
theorem mem_560 : Cond.methodLink RX6 57 yX6_stateAt ∈ lw_T := zmem (i := 560) (by decide +kernel) rfl
theorem mem_562 : Cond.instanceMethod yX6_stateAt ∈ lw_T := zmem (i := 562) (by decide +kernel) rfl
theorem mem_564 : Cond.methodLink RX6 61 yX6_enqueue ∈ lw_T := zmem (i := 564) (by decide +kernel) rfl
theorem mem_566 : Cond.instanceMethod yX6_enqueue ∈ lw_T := zmem (i := 566) (by decide +kernel) rfl
theorem mem_568 : Cond.methodLink RX6 65 yX6_enqueueAround ∈ lw_T := zmem (i := 568) (by decide +kernel) rfl
theorem mem_570 : Cond.instanceMethod yX6_enqueueAround ∈ lw_T := zmem (i := 570) (by decide +kernel) rfl
theorem mem_572 : Cond.methodLink RX6 69 yX8_joinedTo ∈ lw_T := zmem (i := 572) (by decide +kernel) rfl
theorem mem_573 : Cond.methodLinkNest RX6 75 yX11_has RX11 ∈ lw_T := zmem (i := 573) (by decide +kernel) rfl
theorem mem_574 : Cond.methodLink RX11 170 yX6_stepsOfWay ∈ lw_T := zmem (i := 574) (by decide +kernel) rfl
theorem mem_575 : Cond.instanceMethod yX6_stepsOfWay ∈ lw_T := zmem (i := 575) (by decide +kernel) rfl
theorem mem_576 : Cond.selects RX6 yX6_stepsOfWay yX6_stepsOfWay ∈ lw_T := zmem (i := 576) (by decide +kernel) rfl
theorem mem_578 : Cond.methodLink RL 94 yX11_roundAt ∈ lw_T := zmem (i := 578) (by decide +kernel) rfl
theorem mem_579 : Cond.instanceMethod yX11_roundAt ∈ lw_T := zmem (i := 579) (by decide +kernel) rfl
theorem mem_580 : Cond.selects RX11 yX11_roundAt yX11_roundAt ∈ lw_T := zmem (i := 580) (by decide +kernel) rfl
theorem mem_582 : Cond.methodLink RX11 173 yX6_doorOfWay ∈ lw_T := zmem (i := 582) (by decide +kernel) rfl
theorem mem_583 : Cond.instanceMethod yX6_doorOfWay ∈ lw_T := zmem (i := 583) (by decide +kernel) rfl
theorem mem_584 : Cond.selects RX6 yX6_doorOfWay yX6_doorOfWay ∈ lw_T := zmem (i := 584) (by decide +kernel) rfl
theorem mem_586 : Cond.methodLink RX6 79 yX6_stepsOfWay ∈ lw_T := zmem (i := 586) (by decide +kernel) rfl
theorem mem_587 : Cond.methodLink RL 99 yX11_safe ∈ lw_T := zmem (i := 587) (by decide +kernel) rfl
theorem mem_588 : Cond.instanceMethod yX11_safe ∈ lw_T := zmem (i := 588) (by decide +kernel) rfl
theorem mem_589 : Cond.selects RX11 yX11_safe yX11_safe ∈ lw_T := zmem (i := 589) (by decide +kernel) rfl
theorem mem_591 : Cond.constantLong RX11 176 (-2) ∈ lw_T := zmem (i := 591) (by decide +kernel) rfl
theorem mem_592 : Cond.methodLink RX11 178 yX6_countWays ∈ lw_T := zmem (i := 592) (by decide +kernel) rfl
theorem mem_593 : Cond.instanceMethod yX6_countWays ∈ lw_T := zmem (i := 593) (by decide +kernel) rfl
theorem mem_594 : Cond.selects RX6 yX6_countWays yX6_countWays ∈ lw_T := zmem (i := 594) (by decide +kernel) rfl
theorem mem_596 : Cond.methodLink RX6 82 yJ7_fill_d0a16 ∈ lw_T := zmem (i := 596) (by decide +kernel) rfl
theorem mem_597 : Cond.static yJ7_fill_d0a16 ∈ lw_T := zmem (i := 597) (by decide +kernel) rfl
theorem mem_599 : Cond.methodLink RX6 85 yX6_countStep ∈ lw_T := zmem (i := 599) (by decide +kernel) rfl
theorem mem_601 : Cond.instanceMethod yX6_countStep ∈ lw_T := zmem (i := 601) (by decide +kernel) rfl
theorem mem_603 : Cond.methodLink RX6 89 yX6_countAround ∈ lw_T := zmem (i := 603) (by decide +kernel) rfl
theorem mem_605 : Cond.instanceMethod yX6_countAround ∈ lw_T := zmem (i := 605) (by decide +kernel) rfl
theorem mem_607 : Cond.methodLink RL 104 yX11_both ∈ lw_T := zmem (i := 607) (by decide +kernel) rfl
theorem mem_608 : Cond.instanceMethod yX11_both ∈ lw_T := zmem (i := 608) (by decide +kernel) rfl
theorem mem_609 : Cond.selects RX11 yX11_both yX11_both ∈ lw_T := zmem (i := 609) (by decide +kernel) rfl
theorem mem_611 : Cond.methodLink RX11 181 yX2_fewestDoors ∈ lw_T := zmem (i := 611) (by decide +kernel) rfl
theorem mem_612 : Cond.static yX2_fewestDoors ∈ lw_T := zmem (i := 612) (by decide +kernel) rfl
theorem mem_614 : Cond.methodLink RX2 15 yJ9_min_7cf53 ∈ lw_T := zmem (i := 614) (by decide +kernel) rfl
theorem mem_615 : Cond.static yJ9_min_7cf53 ∈ lw_T := zmem (i := 615) (by decide +kernel) rfl
theorem mem_617 : Cond.methodLink RX2 21 yJ9_max_7cf53 ∈ lw_T := zmem (i := 617) (by decide +kernel) rfl
theorem mem_618 : Cond.static yJ9_max_7cf53 ∈ lw_T := zmem (i := 618) (by decide +kernel) rfl
theorem mem_620 : Cond.methodLink RX2 24 yX2_canSoundBoth ∈ lw_T := zmem (i := 620) (by decide +kernel) rfl
theorem mem_621 : Cond.static yX2_canSoundBoth ∈ lw_T := zmem (i := 621) (by decide +kernel) rfl
theorem mem_623 : Cond.methodLink RX2 30 yX8_allDoors ∈ lw_T := zmem (i := 623) (by decide +kernel) rfl
theorem mem_624 : Cond.methodLink RX2 36 yX8_around ∈ lw_T := zmem (i := 624) (by decide +kernel) rfl
theorem mem_625 : Cond.methodLink RX2 40 yX9_fitsOrAny ∈ lw_T := zmem (i := 625) (by decide +kernel) rfl
theorem mem_626 : Cond.instanceMethod yX9_fitsOrAny ∈ lw_T := zmem (i := 626) (by decide +kernel) rfl
theorem mem_627 : Cond.selects RX9 yX9_fitsOrAny yX9_fitsOrAny ∈ lw_T := zmem (i := 627) (by decide +kernel) rfl
theorem mem_629 : Cond.methodLink RL 108 yX11_hear ∈ lw_T := zmem (i := 629) (by decide +kernel) rfl
theorem mem_630 : Cond.instanceMethod yX11_hear ∈ lw_T := zmem (i := 630) (by decide +kernel) rfl
theorem mem_631 : Cond.selects RX11 yX11_hear yX11_hear ∈ lw_T := zmem (i := 631) (by decide +kernel) rfl
theorem mem_633 : Cond.methodLink RX11 187 yX0_add ∈ lw_T := zmem (i := 633) (by decide +kernel) rfl
theorem mem_634 : Cond.instanceMethod yX0_add ∈ lw_T := zmem (i := 634) (by decide +kernel) rfl
theorem mem_635 : Cond.selects RX0 yX0_add yX0_add ∈ lw_T := zmem (i := 635) (by decide +kernel) rfl
theorem mem_637 : Cond.methodLink RL 112 yX11_deaf ∈ lw_T := zmem (i := 637) (by decide +kernel) rfl
theorem mem_638 : Cond.instanceMethod yX11_deaf ∈ lw_T := zmem (i := 638) (by decide +kernel) rfl
theorem mem_639 : Cond.selects RX11 yX11_deaf yX11_deaf ∈ lw_T := zmem (i := 639) (by decide +kernel) rfl
theorem mem_641 : Cond.methodLink RL 116 yX11_mayBe ∈ lw_T := zmem (i := 641) (by decide +kernel) rfl
theorem mem_642 : Cond.instanceMethod yX11_mayBe ∈ lw_T := zmem (i := 642) (by decide +kernel) rfl
theorem mem_643 : Cond.selects RX11 yX11_mayBe yX11_mayBe ∈ lw_T := zmem (i := 643) (by decide +kernel) rfl
theorem mem_645 : Cond.methodLink RX11 188 yX9_takeHeard ∈ lw_T := zmem (i := 645) (by decide +kernel) rfl
theorem mem_646 : Cond.instanceMethod yX9_takeHeard ∈ lw_T := zmem (i := 646) (by decide +kernel) rfl
theorem mem_647 : Cond.selects RX9 yX9_takeHeard yX9_takeHeard ∈ lw_T := zmem (i := 647) (by decide +kernel) rfl
theorem mem_649 : Cond.methodLink RX11 192 yX9_reachedAt ∈ lw_T := zmem (i := 649) (by decide +kernel) rfl
theorem mem_650 : Cond.instanceMethod yX9_reachedAt ∈ lw_T := zmem (i := 650) (by decide +kernel) rfl
theorem mem_651 : Cond.selects RX9 yX9_reachedAt yX9_reachedAt ∈ lw_T := zmem (i := 651) (by decide +kernel) rfl
theorem mem_653 : Cond.methodLink RX11 195 yX9_openAt ∈ lw_T := zmem (i := 653) (by decide +kernel) rfl
theorem mem_654 : Cond.methodLink RL 120 yX11_fitting ∈ lw_T := zmem (i := 654) (by decide +kernel) rfl
theorem mem_655 : Cond.instanceMethod yX11_fitting ∈ lw_T := zmem (i := 655) (by decide +kernel) rfl
theorem mem_656 : Cond.selects RX11 yX11_fitting yX11_fitting ∈ lw_T := zmem (i := 656) (by decide +kernel) rfl
theorem mem_658 : Cond.methodLink RL 125 yX11_parted ∈ lw_T := zmem (i := 658) (by decide +kernel) rfl
theorem mem_659 : Cond.instanceMethod yX11_parted ∈ lw_T := zmem (i := 659) (by decide +kernel) rfl
theorem mem_660 : Cond.selects RX11 yX11_parted yX11_parted ∈ lw_T := zmem (i := 660) (by decide +kernel) rfl
theorem mem_662 : Cond.methodLinkNest RX11 202 yX3_leastBits RX11 ∈ lw_T := zmem (i := 662) (by decide +kernel) rfl
theorem mem_663 : Cond.static yX3_leastBits ∈ lw_T := zmem (i := 663) (by decide +kernel) rfl
theorem mem_665 : Cond.methodLink RX3 9 yX9_fitsAt ∈ lw_T := zmem (i := 665) (by decide +kernel) rfl
theorem mem_666 : Cond.methodLink RX3 15 yX8_around ∈ lw_T := zmem (i := 666) (by decide +kernel) rfl
theorem mem_667 : Cond.methodLink RX3 26 yX3_leastBits ∈ lw_T := zmem (i := 667) (by decide +kernel) rfl
theorem mem_668 : Cond.methodLinkNest RX11 208 yX3_countBits RX11 ∈ lw_T := zmem (i := 668) (by decide +kernel) rfl
theorem mem_669 : Cond.static yX3_countBits ∈ lw_T := zmem (i := 669) (by decide +kernel) rfl
theorem mem_671 : Cond.methodLink RX3 20 yX3_countBits ∈ lw_T := zmem (i := 671) (by decide +kernel) rfl
theorem mem_672 : Cond.methodLink RL 130 yX11_best ∈ lw_T := zmem (i := 672) (by decide +kernel) rfl
theorem mem_673 : Cond.instanceMethod yX11_best ∈ lw_T := zmem (i := 673) (by decide +kernel) rfl
theorem mem_674 : Cond.selects RX11 yX11_best yX11_best ∈ lw_T := zmem (i := 674) (by decide +kernel) rfl
theorem mem_676 : Cond.methodLink RX11 211 yX9_takeAnthem ∈ lw_T := zmem (i := 676) (by decide +kernel) rfl
theorem mem_677 : Cond.instanceMethod yX9_takeAnthem ∈ lw_T := zmem (i := 677) (by decide +kernel) rfl
theorem mem_678 : Cond.selects RX9 yX9_takeAnthem yX9_takeAnthem ∈ lw_T := zmem (i := 678) (by decide +kernel) rfl
theorem mem_680 : Cond.methodLink RX11 214 yX4_greatestWorth ∈ lw_T := zmem (i := 680) (by decide +kernel) rfl
theorem mem_681 : Cond.instanceMethod yX4_greatestWorth ∈ lw_T := zmem (i := 681) (by decide +kernel) rfl
theorem mem_682 : Cond.selects RX4 yX4_greatestWorth yX4_greatestWorth ∈ lw_T := zmem (i := 682) (by decide +kernel) rfl
theorem mem_684 : Cond.methodLink RX4 15 yJ7_fill_d0a16 ∈ lw_T := zmem (i := 684) (by decide +kernel) rfl
theorem mem_685 : Cond.methodLink RX4 21 yX4_othersThan ∈ lw_T := zmem (i := 685) (by decide +kernel) rfl
theorem mem_686 : Cond.static yX4_othersThan ∈ lw_T := zmem (i := 686) (by decide +kernel) rfl
theorem mem_688 : Cond.methodLink RX4 45 yX8_allDoors ∈ lw_T := zmem (i := 688) (by decide +kernel) rfl
theorem mem_689 : Cond.methodLink RX4 25 yX4_gainOf ∈ lw_T := zmem (i := 689) (by decide +kernel) rfl
theorem mem_690 : Cond.static yX4_gainOf ∈ lw_T := zmem (i := 690) (by decide +kernel) rfl
theorem mem_692 : Cond.methodLink RX4 49 yX8_joinedTo ∈ lw_T := zmem (i := 692) (by decide +kernel) rfl
theorem mem_693 : Cond.methodLinkNest RX4 53 yX11_has RX11 ∈ lw_T := zmem (i := 693) (by decide +kernel) rfl
theorem mem_694 : Cond.methodLink RX4 57 yX4_gainThrough ∈ lw_T := zmem (i := 694) (by decide +kernel) rfl
theorem mem_695 : Cond.static yX4_gainThrough ∈ lw_T := zmem (i := 695) (by decide +kernel) rfl
theorem mem_697 : Cond.methodLink RX4 65 yJ6_bitCount_0f7a4 ∈ lw_T := zmem (i := 697) (by decide +kernel) rfl
theorem mem_698 : Cond.static yJ6_bitCount_0f7a4 ∈ lw_T := zmem (i := 698) (by decide +kernel) rfl
theorem mem_700 : Cond.constant RJ6 265 (1431655765) ∈ lw_T := zmem (i := 700) (by decide +kernel) rfl
theorem mem_701 : Cond.constant RJ6 266 (858993459) ∈ lw_T := zmem (i := 701) (by decide +kernel) rfl
theorem mem_702 : Cond.constant RJ6 267 (252645135) ∈ lw_T := zmem (i := 702) (by decide +kernel) rfl
theorem mem_703 : Cond.methodLink RX4 29 yX9_worthAt ∈ lw_T := zmem (i := 703) (by decide +kernel) rfl
theorem mem_704 : Cond.instanceMethod yX9_worthAt ∈ lw_T := zmem (i := 704) (by decide +kernel) rfl
theorem mem_705 : Cond.selects RX9 yX9_worthAt yX9_worthAt ∈ lw_T := zmem (i := 705) (by decide +kernel) rfl
theorem mem_707 : Cond.methodLink RX4 60 yJ9_max_7cf53 ∈ lw_T := zmem (i := 707) (by decide +kernel) rfl
theorem mem_708 : Cond.methodLink RL 134 yX11_bestAt ∈ lw_T := zmem (i := 708) (by decide +kernel) rfl
theorem mem_709 : Cond.instanceMethod yX11_bestAt ∈ lw_T := zmem (i := 709) (by decide +kernel) rfl
theorem mem_710 : Cond.selects RX11 yX11_bestAt yX11_bestAt ∈ lw_T := zmem (i := 710) (by decide +kernel) rfl
theorem mem_712 : Cond.methodLink RX11 218 yX4_doorOfBest ∈ lw_T := zmem (i := 712) (by decide +kernel) rfl
theorem mem_713 : Cond.instanceMethod yX4_doorOfBest ∈ lw_T := zmem (i := 713) (by decide +kernel) rfl
theorem mem_714 : Cond.selects RX4 yX4_doorOfBest yX4_doorOfBest ∈ lw_T := zmem (i := 714) (by decide +kernel) rfl
theorem mem_716 : Cond.methodLink RX4 41 yX4_nextOfBest ∈ lw_T := zmem (i := 716) (by decide +kernel) rfl
theorem mem_718 : Cond.instanceMethod yX4_nextOfBest ∈ lw_T := zmem (i := 718) (by decide +kernel) rfl
theorem mem_720 : Cond.methodLink RL 138 yX11_hush ∈ lw_T := zmem (i := 720) (by decide +kernel) rfl
theorem mem_721 : Cond.instanceMethod yX11_hush ∈ lw_T := zmem (i := 721) (by decide +kernel) rfl
theorem mem_722 : Cond.selects RX11 yX11_hush yX11_hush ∈ lw_T := zmem (i := 722) (by decide +kernel) rfl
theorem mem_724 : Cond.methodLink RX11 222 yX1_fewestDoors ∈ lw_T := zmem (i := 724) (by decide +kernel) rfl
theorem mem_725 : Cond.static yX1_fewestDoors ∈ lw_T := zmem (i := 725) (by decide +kernel) rfl
theorem mem_727 : Cond.methodLink RX1 9 yX8_allDoors ∈ lw_T := zmem (i := 727) (by decide +kernel) rfl
theorem mem_728 : Cond.methodLink RX1 15 yX9_canBeSung ∈ lw_T := zmem (i := 728) (by decide +kernel) rfl
theorem mem_729 : Cond.instanceMethod yX9_canBeSung ∈ lw_T := zmem (i := 729) (by decide +kernel) rfl
theorem mem_730 : Cond.selects RX9 yX9_canBeSung yX9_canBeSung ∈ lw_T := zmem (i := 730) (by decide +kernel) rfl
theorem mem_732 : Cond.methodLink RX1 25 yX1_leastOfSize ∈ lw_T := zmem (i := 732) (by decide +kernel) rfl
theorem mem_733 : Cond.static yX1_leastOfSize ∈ lw_T := zmem (i := 733) (by decide +kernel) rfl
theorem mem_735 : Cond.methodLink RX1 31 yX1_nextOfLikeSize ∈ lw_T := zmem (i := 735) (by decide +kernel) rfl
theorem mem_736 : Cond.static yX1_nextOfLikeSize ∈ lw_T := zmem (i := 736) (by decide +kernel) rfl
theorem mem_738 : Cond.methodLink RX1 35 yJ6_numberOfTrailingZeros_0f7a4 ∈ lw_T := zmem (i := 738) (by decide +kernel) rfl
theorem mem_739 : Cond.methodLink RL 142 yX11_keep ∈ lw_T := zmem (i := 739) (by decide +kernel) rfl
theorem mem_740 : Cond.instanceMethod yX11_keep ∈ lw_T := zmem (i := 740) (by decide +kernel) rfl
theorem mem_741 : Cond.selects RX11 yX11_keep yX11_keep ∈ lw_T := zmem (i := 741) (by decide +kernel) rfl
theorem mem_743 : Cond.methodLink RX11 226 yX11_slotOf ∈ lw_T := zmem (i := 743) (by decide +kernel) rfl
theorem mem_745 : Cond.instanceMethod yX11_slotOf ∈ lw_T := zmem (i := 745) (by decide +kernel) rfl
theorem mem_747 : Cond.methodLink RX11 230 yX5_copyFrom ∈ lw_T := zmem (i := 747) (by decide +kernel) rfl
theorem mem_748 : Cond.instanceMethod yX5_copyFrom ∈ lw_T := zmem (i := 748) (by decide +kernel) rfl
theorem mem_749 : Cond.selects RX5 yX5_copyFrom yX5_copyFrom ∈ lw_T := zmem (i := 749) (by decide +kernel) rfl
theorem mem_751 : Cond.methodLink RX5 30 yX8_copyFrom ∈ lw_T := zmem (i := 751) (by decide +kernel) rfl
theorem mem_752 : Cond.methodLink RX5 34 yX10_copyFrom ∈ lw_T := zmem (i := 752) (by decide +kernel) rfl
theorem mem_753 : Cond.instanceMethod yX10_copyFrom ∈ lw_T := zmem (i := 753) (by decide +kernel) rfl
theorem mem_754 : Cond.selects RX10 yX10_copyFrom yX10_copyFrom ∈ lw_T := zmem (i := 754) (by decide +kernel) rfl
theorem mem_756 : Cond.methodLink RX10 19 arraycopyName ∈ lw_T := zmem (i := 756) (by decide +kernel) rfl
theorem mem_757 : Cond.methodLink RX5 37 yX0_copyFrom ∈ lw_T := zmem (i := 757) (by decide +kernel) rfl
theorem mem_758 : Cond.instanceMethod yX0_copyFrom ∈ lw_T := zmem (i := 758) (by decide +kernel) rfl
theorem mem_759 : Cond.selects RX0 yX0_copyFrom yX0_copyFrom ∈ lw_T := zmem (i := 759) (by decide +kernel) rfl
theorem mem_761 : Cond.methodLink RX0 19 arraycopyName ∈ lw_T := zmem (i := 761) (by decide +kernel) rfl
theorem mem_762 : Cond.methodLink RL 146 yX11_again ∈ lw_T := zmem (i := 762) (by decide +kernel) rfl
theorem mem_763 : Cond.instanceMethod yX11_again ∈ lw_T := zmem (i := 763) (by decide +kernel) rfl
theorem mem_764 : Cond.selects RX11 yX11_again yX11_again ∈ lw_T := zmem (i := 764) (by decide +kernel) rfl
theorem mem_766 : Cond.methodLink RL 150 yX11_count ∈ lw_T := zmem (i := 766) (by decide +kernel) rfl
theorem mem_767 : Cond.instanceMethod yX11_count ∈ lw_T := zmem (i := 767) (by decide +kernel) rfl
theorem mem_768 : Cond.selects RX11 yX11_count yX11_count ∈ lw_T := zmem (i := 768) (by decide +kernel) rfl
theorem mem_770 : Cond.methodLink RX11 237 yX8_countStreets ∈ lw_T := zmem (i := 770) (by decide +kernel) rfl
theorem mem_771 : Cond.instanceMethod yX8_countStreets ∈ lw_T := zmem (i := 771) (by decide +kernel) rfl
theorem mem_772 : Cond.selects RX8 yX8_countStreets yX8_countStreets ∈ lw_T := zmem (i := 772) (by decide +kernel) rfl
theorem mem_774 : Cond.methodLink RX8 62 yJ6_bitCount_0f7a4 ∈ lw_T := zmem (i := 774) (by decide +kernel) rfl
theorem mem_775 : Cond.methodLink RX11 243 yX8_doorsThatSound ∈ lw_T := zmem (i := 775) (by decide +kernel) rfl
theorem mem_776 : Cond.methodLink RX11 246 yJ6_bitCount_0f7a4 ∈ lw_T := zmem (i := 776) (by decide +kernel) rfl
theorem mem_777 : Cond.classLink RL 10 RX12 ∈ lw_T := zmem (i := 777) (by decide +kernel) rfl
theorem mem_778 : Cond.instantiable RX12 34 ∈ lw_T := zmem (i := 778) (by decide +kernel) rfl
theorem mem_779 : Cond.methodLink RL 12 yX12_init ∈ lw_T := zmem (i := 779) (by decide +kernel) rfl
theorem mem_780 : Cond.instanceMethod yX12_init ∈ lw_T := zmem (i := 780) (by decide +kernel) rfl
theorem mem_782 : Cond.methodLink RX12 1 objectInit ∈ lw_T := zmem (i := 782) (by decide +kernel) rfl
theorem mem_783 : Cond.constant RX12 59 (49152) ∈ lw_T := zmem (i := 783) (by decide +kernel) rfl
theorem mem_784 : Cond.fieldLink RX12 7 RX12 (TX12 0).2.1 (TX12 0).2.2.1 ∈ lw_T := zmem (i := 784) (by decide +kernel) rfl
theorem mem_785 : Cond.fieldLink RX12 13 RX12 (TX12 1).2.1 (TX12 1).2.2.1 ∈ lw_T := zmem (i := 785) (by decide +kernel) rfl
theorem mem_786 : Cond.fieldLink RX12 16 RX12 (TX12 2).2.1 (TX12 2).2.2.1 ∈ lw_T := zmem (i := 786) (by decide +kernel) rfl
theorem mem_787 : Cond.fieldLink RX12 19 RX12 (TX12 3).2.1 (TX12 3).2.2.1 ∈ lw_T := zmem (i := 787) (by decide +kernel) rfl
theorem mem_788 : Cond.fieldLink RX12 124 RX12 (TX12 4).2.1 (TX12 4).2.2.1 ∈ lw_T := zmem (i := 788) (by decide +kernel) rfl
theorem mem_789 : Cond.fieldLink RX12 131 RX12 (TX12 5).2.1 (TX12 5).2.2.1 ∈ lw_T := zmem (i := 789) (by decide +kernel) rfl
theorem mem_790 : Cond.fieldLink RX12 22 RX12 (TX12 6).2.1 (TX12 6).2.2.1 ∈ lw_T := zmem (i := 790) (by decide +kernel) rfl
theorem mem_791 : Cond.fieldLink RX12 25 RX12 (TX12 7).2.1 (TX12 7).2.2.1 ∈ lw_T := zmem (i := 791) (by decide +kernel) rfl
theorem mem_792 : Cond.fieldLink RX12 28 RX12 (TX12 8).2.1 (TX12 8).2.2.1 ∈ lw_T := zmem (i := 792) (by decide +kernel) rfl
theorem mem_793 : Cond.fieldLink RX12 31 RX12 (TX12 9).2.1 (TX12 9).2.2.1 ∈ lw_T := zmem (i := 793) (by decide +kernel) rfl
theorem mem_794 : Cond.fieldLink RX12 88 RX12 (TX12 10).2.1 (TX12 10).2.2.1 ∈ lw_T := zmem (i := 794) (by decide +kernel) rfl
theorem mem_795 : Cond.fieldLink RX12 148 RX12 (TX12 11).2.1 (TX12 11).2.2.1 ∈ lw_T := zmem (i := 795) (by decide +kernel) rfl
theorem mem_796 : Cond.fieldLink RX12 34 RX12 (TX12 12).2.1 (TX12 12).2.2.1 ∈ lw_T := zmem (i := 796) (by decide +kernel) rfl
theorem mem_797 : Cond.fieldLink RX12 98 RX12 (TX12 13).2.1 (TX12 13).2.2.1 ∈ lw_T := zmem (i := 797) (by decide +kernel) rfl
theorem mem_798 : Cond.fieldLink RX12 106 RX12 (TX12 14).2.1 (TX12 14).2.2.1 ∈ lw_T := zmem (i := 798) (by decide +kernel) rfl
theorem mem_799 : Cond.fieldLink RX12 103 RX12 (TX12 15).2.1 (TX12 15).2.2.1 ∈ lw_T := zmem (i := 799) (by decide +kernel) rfl
theorem mem_800 : Cond.fieldLink RX12 151 RX12 (TX12 16).2.1 (TX12 16).2.2.1 ∈ lw_T := zmem (i := 800) (by decide +kernel) rfl
theorem mem_801 : Cond.fieldLink RX12 37 RX12 (TX12 17).2.1 (TX12 17).2.2.1 ∈ lw_T := zmem (i := 801) (by decide +kernel) rfl
theorem mem_802 : Cond.fieldLink RX12 40 RX12 (TX12 18).2.1 (TX12 18).2.2.1 ∈ lw_T := zmem (i := 802) (by decide +kernel) rfl
theorem mem_803 : Cond.fieldLink RX12 44 RX12 (TX12 19).2.1 (TX12 19).2.2.1 ∈ lw_T := zmem (i := 803) (by decide +kernel) rfl
theorem mem_804 : Cond.fieldLink RX12 47 RX12 (TX12 20).2.1 (TX12 20).2.2.1 ∈ lw_T := zmem (i := 804) (by decide +kernel) rfl
theorem mem_805 : Cond.fieldLink RX12 50 RX12 (TX12 21).2.1 (TX12 21).2.2.1 ∈ lw_T := zmem (i := 805) (by decide +kernel) rfl
theorem mem_806 : Cond.fieldLink RX12 53 RX12 (TX12 22).2.1 (TX12 22).2.2.1 ∈ lw_T := zmem (i := 806) (by decide +kernel) rfl
theorem mem_807 : Cond.fieldLink RX12 154 RX12 (TX12 23).2.1 (TX12 23).2.2.1 ∈ lw_T := zmem (i := 807) (by decide +kernel) rfl
theorem mem_808 : Cond.fieldLink RX12 56 RX12 (TX12 24).2.1 (TX12 24).2.2.1 ∈ lw_T := zmem (i := 808) (by decide +kernel) rfl
theorem mem_809 : Cond.fieldLink RX12 60 RX12 (TX12 25).2.1 (TX12 25).2.2.1 ∈ lw_T := zmem (i := 809) (by decide +kernel) rfl
theorem mem_810 : Cond.fieldLink RX12 63 RX12 (TX12 26).2.1 (TX12 26).2.2.1 ∈ lw_T := zmem (i := 810) (by decide +kernel) rfl
theorem mem_811 : Cond.fieldLink RX12 67 RX12 (TX12 27).2.1 (TX12 27).2.2.1 ∈ lw_T := zmem (i := 811) (by decide +kernel) rfl
theorem mem_812 : Cond.fieldLink RX12 70 RX12 (TX12 28).2.1 (TX12 28).2.2.1 ∈ lw_T := zmem (i := 812) (by decide +kernel) rfl
theorem mem_813 : Cond.fieldLink RX12 73 RX12 (TX12 29).2.1 (TX12 29).2.2.1 ∈ lw_T := zmem (i := 813) (by decide +kernel) rfl
theorem mem_814 : Cond.fieldLink RX12 76 RX12 (TX12 30).2.1 (TX12 30).2.2.1 ∈ lw_T := zmem (i := 814) (by decide +kernel) rfl
theorem mem_815 : Cond.fieldLink RX12 79 RX12 (TX12 31).2.1 (TX12 31).2.2.1 ∈ lw_T := zmem (i := 815) (by decide +kernel) rfl
theorem mem_816 : Cond.fieldLink RX12 82 RX12 (TX12 32).2.1 (TX12 32).2.2.1 ∈ lw_T := zmem (i := 816) (by decide +kernel) rfl
theorem mem_817 : Cond.fieldLink RX12 85 RX12 (TX12 33).2.1 (TX12 33).2.2.1 ∈ lw_T := zmem (i := 817) (by decide +kernel) rfl
theorem mem_887 : Cond.arrayClass .boolean ∈ lw_T := zmem (i := 887) (by decide +kernel) rfl
theorem mem_888 : Cond.methodLink RL 19 yX12_write ∈ lw_T := zmem (i := 888) (by decide +kernel) rfl
theorem mem_889 : Cond.instanceMethod yX12_write ∈ lw_T := zmem (i := 889) (by decide +kernel) rfl
theorem mem_890 : Cond.selects RX12 yX12_write yX12_write ∈ lw_T := zmem (i := 890) (by decide +kernel) rfl
theorem mem_892 : Cond.constantLong RX12 92 (8) ∈ lw_T := zmem (i := 892) (by decide +kernel) rfl
theorem mem_893 : Cond.methodLink RX12 94 yX12_in ∈ lw_T := zmem (i := 893) (by decide +kernel) rfl
theorem mem_894 : Cond.static yX12_in ∈ lw_T := zmem (i := 894) (by decide +kernel) rfl
theorem mem_896 : Cond.constantLong RX12 101 (255) ∈ lw_T := zmem (i := 896) (by decide +kernel) rfl
theorem mem_897 : Cond.methodLink RL 24 yX12_wipe ∈ lw_T := zmem (i := 897) (by decide +kernel) rfl
theorem mem_898 : Cond.instanceMethod yX12_wipe ∈ lw_T := zmem (i := 898) (by decide +kernel) rfl
theorem mem_899 : Cond.selects RX12 yX12_wipe yX12_wipe ∈ lw_T := zmem (i := 899) (by decide +kernel) rfl
theorem mem_901 : Cond.methodLink RL 28 yX12_fault ∈ lw_T := zmem (i := 901) (by decide +kernel) rfl
theorem mem_902 : Cond.instanceMethod yX12_fault ∈ lw_T := zmem (i := 902) (by decide +kernel) rfl
theorem mem_903 : Cond.selects RX12 yX12_fault yX12_fault ∈ lw_T := zmem (i := 903) (by decide +kernel) rfl
theorem mem_905 : Cond.methodLink RX12 145 yX12_readText ∈ lw_T := zmem (i := 905) (by decide +kernel) rfl
theorem mem_907 : Cond.instanceMethod yX12_readText ∈ lw_T := zmem (i := 907) (by decide +kernel) rfl
theorem mem_909 : Cond.methodLink RX12 109 yX12_here ∈ lw_T := zmem (i := 909) (by decide +kernel) rfl
theorem mem_911 : Cond.instanceMethod yX12_here ∈ lw_T := zmem (i := 911) (by decide +kernel) rfl
theorem mem_913 : Cond.constantLong RX12 117 (97) ∈ lw_T := zmem (i := 913) (by decide +kernel) rfl
theorem mem_914 : Cond.constantLong RX12 134 (103) ∈ lw_T := zmem (i := 914) (by decide +kernel) rfl
theorem mem_915 : Cond.methodLink RX12 121 yX12_fail ∈ lw_T := zmem (i := 915) (by decide +kernel) rfl
theorem mem_917 : Cond.instanceMethod yX12_fail ∈ lw_T := zmem (i := 917) (by decide +kernel) rfl
theorem mem_919 : Cond.methodLink RX12 136 yX12_readPart ∈ lw_T := zmem (i := 919) (by decide +kernel) rfl
theorem mem_921 : Cond.instanceMethod yX12_readPart ∈ lw_T := zmem (i := 921) (by decide +kernel) rfl
theorem mem_923 : Cond.methodLink RX12 139 yX12_frees ∈ lw_T := zmem (i := 923) (by decide +kernel) rfl
theorem mem_925 : Cond.instanceMethod yX12_frees ∈ lw_T := zmem (i := 925) (by decide +kernel) rfl
theorem mem_927 : Cond.methodLink RX12 127 yX12_free ∈ lw_T := zmem (i := 927) (by decide +kernel) rfl
theorem mem_929 : Cond.instanceMethod yX12_free ∈ lw_T := zmem (i := 929) (by decide +kernel) rfl
theorem mem_931 : Cond.methodLink RX12 142 yX12_doorOf ∈ lw_T := zmem (i := 931) (by decide +kernel) rfl
theorem mem_933 : Cond.instanceMethod yX12_doorOf ∈ lw_T := zmem (i := 933) (by decide +kernel) rfl
theorem mem_935 : Cond.constantLong RX12 113 (48) ∈ lw_T := zmem (i := 935) (by decide +kernel) rfl
theorem mem_936 : Cond.constantLong RX12 115 (57) ∈ lw_T := zmem (i := 936) (by decide +kernel) rfl
theorem mem_937 : Cond.constantLong RX12 119 (98) ∈ lw_T := zmem (i := 937) (by decide +kernel) rfl
theorem mem_938 : Cond.methodLink RL 32 yX12_town ∈ lw_T := zmem (i := 938) (by decide +kernel) rfl
theorem mem_939 : Cond.instanceMethod yX12_town ∈ lw_T := zmem (i := 939) (by decide +kernel) rfl
theorem mem_940 : Cond.selects RX12 yX12_town yX12_town ∈ lw_T := zmem (i := 940) (by decide +kernel) rfl
theorem mem_942 : Cond.methodLink RL 37 yX12_note ∈ lw_T := zmem (i := 942) (by decide +kernel) rfl
theorem mem_943 : Cond.instanceMethod yX12_note ∈ lw_T := zmem (i := 943) (by decide +kernel) rfl
theorem mem_944 : Cond.selects RX12 yX12_note yX12_note ∈ lw_T := zmem (i := 944) (by decide +kernel) rfl
theorem mem_946 : Cond.methodLink RX12 157 yX12_isDoor ∈ lw_T := zmem (i := 946) (by decide +kernel) rfl
theorem mem_948 : Cond.instanceMethod yX12_isDoor ∈ lw_T := zmem (i := 948) (by decide +kernel) rfl
theorem mem_950 : Cond.methodLink RL 42 yX12_let ∈ lw_T := zmem (i := 950) (by decide +kernel) rfl
theorem mem_951 : Cond.instanceMethod yX12_let ∈ lw_T := zmem (i := 951) (by decide +kernel) rfl
theorem mem_952 : Cond.selects RX12 yX12_let yX12_let ∈ lw_T := zmem (i := 952) (by decide +kernel) rfl
theorem mem_954 : Cond.constantLong RX12 161 (7) ∈ lw_T := zmem (i := 954) (by decide +kernel) rfl
theorem mem_955 : Cond.methodLink RL 46 yX12_street ∈ lw_T := zmem (i := 955) (by decide +kernel) rfl
theorem mem_956 : Cond.instanceMethod yX12_street ∈ lw_T := zmem (i := 956) (by decide +kernel) rfl
theorem mem_957 : Cond.selects RX12 yX12_street yX12_street ∈ lw_T := zmem (i := 957) (by decide +kernel) rfl
theorem mem_959 : Cond.methodLink RL 51 yX12_road ∈ lw_T := zmem (i := 959) (by decide +kernel) rfl
theorem mem_960 : Cond.instanceMethod yX12_road ∈ lw_T := zmem (i := 960) (by decide +kernel) rfl
theorem mem_961 : Cond.selects RX12 yX12_road yX12_road ∈ lw_T := zmem (i := 961) (by decide +kernel) rfl
theorem mem_963 : Cond.methodLink RL 55 yX12_song ∈ lw_T := zmem (i := 963) (by decide +kernel) rfl
theorem mem_964 : Cond.instanceMethod yX12_song ∈ lw_T := zmem (i := 964) (by decide +kernel) rfl
theorem mem_965 : Cond.selects RX12 yX12_song yX12_song ∈ lw_T := zmem (i := 965) (by decide +kernel) rfl
theorem mem_967 : Cond.methodLink RX12 163 yX12_isSong ∈ lw_T := zmem (i := 967) (by decide +kernel) rfl
theorem mem_969 : Cond.instanceMethod yX12_isSong ∈ lw_T := zmem (i := 969) (by decide +kernel) rfl
theorem mem_971 : Cond.methodLink RL 59 yX12_spring ∈ lw_T := zmem (i := 971) (by decide +kernel) rfl
theorem mem_972 : Cond.instanceMethod yX12_spring ∈ lw_T := zmem (i := 972) (by decide +kernel) rfl
theorem mem_973 : Cond.selects RX12 yX12_spring yX12_spring ∈ lw_T := zmem (i := 973) (by decide +kernel) rfl
theorem mem_975 : Cond.methodLink RL 63 yX12_go ∈ lw_T := zmem (i := 975) (by decide +kernel) rfl
theorem mem_976 : Cond.instanceMethod yX12_go ∈ lw_T := zmem (i := 976) (by decide +kernel) rfl
theorem mem_977 : Cond.selects RX12 yX12_go yX12_go ∈ lw_T := zmem (i := 977) (by decide +kernel) rfl
theorem mem_979 : Cond.methodLink RL 67 yX12_home ∈ lw_T := zmem (i := 979) (by decide +kernel) rfl
theorem mem_980 : Cond.instanceMethod yX12_home ∈ lw_T := zmem (i := 980) (by decide +kernel) rfl
theorem mem_981 : Cond.selects RX12 yX12_home yX12_home ∈ lw_T := zmem (i := 981) (by decide +kernel) rfl
theorem mem_983 : Cond.methodLink RL 71 yX12_at ∈ lw_T := zmem (i := 983) (by decide +kernel) rfl
theorem mem_984 : Cond.instanceMethod yX12_at ∈ lw_T := zmem (i := 984) (by decide +kernel) rfl
theorem mem_985 : Cond.selects RX12 yX12_at yX12_at ∈ lw_T := zmem (i := 985) (by decide +kernel) rfl
theorem mem_987 : Cond.methodLink RL 75 yX12_heard ∈ lw_T := zmem (i := 987) (by decide +kernel) rfl
theorem mem_988 : Cond.instanceMethod yX12_heard ∈ lw_T := zmem (i := 988) (by decide +kernel) rfl
theorem mem_989 : Cond.selects RX12 yX12_heard yX12_heard ∈ lw_T := zmem (i := 989) (by decide +kernel) rfl
theorem mem_991 : Cond.constantLong RX12 166 (23) ∈ lw_T := zmem (i := 991) (by decide +kernel) rfl
theorem mem_992 : Cond.methodLink RX12 168 yX12_fits ∈ lw_T := zmem (i := 992) (by decide +kernel) rfl
theorem mem_994 : Cond.instanceMethod yX12_fits ∈ lw_T := zmem (i := 994) (by decide +kernel) rfl
theorem mem_996 : Cond.methodLink RL 80 yX12_ways ∈ lw_T := zmem (i := 996) (by decide +kernel) rfl
theorem mem_997 : Cond.instanceMethod yX12_ways ∈ lw_T := zmem (i := 997) (by decide +kernel) rfl
theorem mem_998 : Cond.selects RX12 yX12_ways yX12_ways ∈ lw_T := zmem (i := 998) (by decide +kernel) rfl
theorem mem_1000 : Cond.methodLink RX12 172 yX12_isAny ∈ lw_T := zmem (i := 1000) (by decide +kernel) rfl
theorem mem_1002 : Cond.instanceMethod yX12_isAny ∈ lw_T := zmem (i := 1002) (by decide +kernel) rfl
theorem mem_1004 : Cond.constantLong RX12 175 (-1) ∈ lw_T := zmem (i := 1004) (by decide +kernel) rfl
theorem mem_1005 : Cond.methodLink RX12 177 yX12_layRest ∈ lw_T := zmem (i := 1005) (by decide +kernel) rfl
theorem mem_1007 : Cond.instanceMethod yX12_layRest ∈ lw_T := zmem (i := 1007) (by decide +kernel) rfl
theorem mem_1009 : Cond.methodLink RX12 181 yX12_restFrom ∈ lw_T := zmem (i := 1009) (by decide +kernel) rfl
theorem mem_1011 : Cond.instanceMethod yX12_restFrom ∈ lw_T := zmem (i := 1011) (by decide +kernel) rfl
theorem mem_1013 : Cond.methodLink RL 84 yX12_first ∈ lw_T := zmem (i := 1013) (by decide +kernel) rfl
theorem mem_1014 : Cond.instanceMethod yX12_first ∈ lw_T := zmem (i := 1014) (by decide +kernel) rfl
theorem mem_1015 : Cond.selects RX12 yX12_first yX12_first ∈ lw_T := zmem (i := 1015) (by decide +kernel) rfl
theorem mem_1017 : Cond.methodLink RL 88 yX12_begun ∈ lw_T := zmem (i := 1017) (by decide +kernel) rfl
theorem mem_1018 : Cond.instanceMethod yX12_begun ∈ lw_T := zmem (i := 1018) (by decide +kernel) rfl
theorem mem_1019 : Cond.selects RX12 yX12_begun yX12_begun ∈ lw_T := zmem (i := 1019) (by decide +kernel) rfl
theorem mem_1021 : Cond.methodLink RL 93 yX12_round ∈ lw_T := zmem (i := 1021) (by decide +kernel) rfl
theorem mem_1022 : Cond.instanceMethod yX12_round ∈ lw_T := zmem (i := 1022) (by decide +kernel) rfl
theorem mem_1023 : Cond.selects RX12 yX12_round yX12_round ∈ lw_T := zmem (i := 1023) (by decide +kernel) rfl
theorem mem_1025 : Cond.methodLink RX12 193 yX12_roundOf ∈ lw_T := zmem (i := 1025) (by decide +kernel) rfl
theorem mem_1027 : Cond.instanceMethod yX12_roundOf ∈ lw_T := zmem (i := 1027) (by decide +kernel) rfl
theorem mem_1029 : Cond.methodLink RX12 189 yX12_layLeft ∈ lw_T := zmem (i := 1029) (by decide +kernel) rfl
theorem mem_1031 : Cond.instanceMethod yX12_layLeft ∈ lw_T := zmem (i := 1031) (by decide +kernel) rfl
theorem mem_1033 : Cond.methodLink RX12 185 yX12_begin ∈ lw_T := zmem (i := 1033) (by decide +kernel) rfl
theorem mem_1035 : Cond.instanceMethod yX12_begin ∈ lw_T := zmem (i := 1035) (by decide +kernel) rfl
theorem mem_1037 : Cond.methodLink RL 98 yX12_roundAt ∈ lw_T := zmem (i := 1037) (by decide +kernel) rfl
theorem mem_1038 : Cond.instanceMethod yX12_roundAt ∈ lw_T := zmem (i := 1038) (by decide +kernel) rfl
theorem mem_1039 : Cond.selects RX12 yX12_roundAt yX12_roundAt ∈ lw_T := zmem (i := 1039) (by decide +kernel) rfl
theorem mem_1041 : Cond.methodLink RL 103 yX12_safe ∈ lw_T := zmem (i := 1041) (by decide +kernel) rfl
theorem mem_1042 : Cond.instanceMethod yX12_safe ∈ lw_T := zmem (i := 1042) (by decide +kernel) rfl
theorem mem_1043 : Cond.selects RX12 yX12_safe yX12_safe ∈ lw_T := zmem (i := 1043) (by decide +kernel) rfl
theorem mem_1045 : Cond.constantLong RX12 196 (12) ∈ lw_T := zmem (i := 1045) (by decide +kernel) rfl
theorem mem_1046 : Cond.constantLong RX12 198 (-2) ∈ lw_T := zmem (i := 1046) (by decide +kernel) rfl
theorem mem_1047 : Cond.methodLink RL 107 yX12_both ∈ lw_T := zmem (i := 1047) (by decide +kernel) rfl
theorem mem_1048 : Cond.instanceMethod yX12_both ∈ lw_T := zmem (i := 1048) (by decide +kernel) rfl
theorem mem_1049 : Cond.selects RX12 yX12_both yX12_both ∈ lw_T := zmem (i := 1049) (by decide +kernel) rfl
theorem mem_1051 : Cond.methodLink RX12 200 yX12_stateOf ∈ lw_T := zmem (i := 1051) (by decide +kernel) rfl
theorem mem_1053 : Cond.instanceMethod yX12_stateOf ∈ lw_T := zmem (i := 1053) (by decide +kernel) rfl
theorem mem_1055 : Cond.methodLink RX12 203 yX12_bothOn ∈ lw_T := zmem (i := 1055) (by decide +kernel) rfl
theorem mem_1057 : Cond.instanceMethod yX12_bothOn ∈ lw_T := zmem (i := 1057) (by decide +kernel) rfl
theorem mem_1059 : Cond.methodLink RL 111 yX12_hear ∈ lw_T := zmem (i := 1059) (by decide +kernel) rfl
theorem mem_1060 : Cond.instanceMethod yX12_hear ∈ lw_T := zmem (i := 1060) (by decide +kernel) rfl
theorem mem_1061 : Cond.selects RX12 yX12_hear yX12_hear ∈ lw_T := zmem (i := 1061) (by decide +kernel) rfl
theorem mem_1063 : Cond.methodLink RL 115 yX12_deaf ∈ lw_T := zmem (i := 1063) (by decide +kernel) rfl
theorem mem_1064 : Cond.instanceMethod yX12_deaf ∈ lw_T := zmem (i := 1064) (by decide +kernel) rfl
theorem mem_1065 : Cond.selects RX12 yX12_deaf yX12_deaf ∈ lw_T := zmem (i := 1065) (by decide +kernel) rfl
theorem mem_1067 : Cond.methodLink RL 119 yX12_mayBe ∈ lw_T := zmem (i := 1067) (by decide +kernel) rfl
theorem mem_1068 : Cond.instanceMethod yX12_mayBe ∈ lw_T := zmem (i := 1068) (by decide +kernel) rfl
theorem mem_1069 : Cond.selects RX12 yX12_mayBe yX12_mayBe ∈ lw_T := zmem (i := 1069) (by decide +kernel) rfl
theorem mem_1071 : Cond.methodLink RX12 206 yX12_sounding ∈ lw_T := zmem (i := 1071) (by decide +kernel) rfl
theorem mem_1073 : Cond.instanceMethod yX12_sounding ∈ lw_T := zmem (i := 1073) (by decide +kernel) rfl
theorem mem_1075 : Cond.methodLink RX12 209 yX12_beside ∈ lw_T := zmem (i := 1075) (by decide +kernel) rfl
theorem mem_1077 : Cond.instanceMethod yX12_beside ∈ lw_T := zmem (i := 1077) (by decide +kernel) rfl
theorem mem_1079 : Cond.methodLink RL 124 yX12_fitting ∈ lw_T := zmem (i := 1079) (by decide +kernel) rfl
theorem mem_1080 : Cond.instanceMethod yX12_fitting ∈ lw_T := zmem (i := 1080) (by decide +kernel) rfl
theorem mem_1081 : Cond.selects RX12 yX12_fitting yX12_fitting ∈ lw_T := zmem (i := 1081) (by decide +kernel) rfl
theorem mem_1083 : Cond.methodLink RL 129 yX12_parted ∈ lw_T := zmem (i := 1083) (by decide +kernel) rfl
theorem mem_1084 : Cond.instanceMethod yX12_parted ∈ lw_T := zmem (i := 1084) (by decide +kernel) rfl
theorem mem_1085 : Cond.selects RX12 yX12_parted yX12_parted ∈ lw_T := zmem (i := 1085) (by decide +kernel) rfl
theorem mem_1087 : Cond.methodLink RX12 212 yX12_goes ∈ lw_T := zmem (i := 1087) (by decide +kernel) rfl
theorem mem_1089 : Cond.instanceMethod yX12_goes ∈ lw_T := zmem (i := 1089) (by decide +kernel) rfl
theorem mem_1091 : Cond.methodLink RL 133 yX12_best ∈ lw_T := zmem (i := 1091) (by decide +kernel) rfl
theorem mem_1092 : Cond.instanceMethod yX12_best ∈ lw_T := zmem (i := 1092) (by decide +kernel) rfl
theorem mem_1093 : Cond.selects RX12 yX12_best yX12_best ∈ lw_T := zmem (i := 1093) (by decide +kernel) rfl
theorem mem_1095 : Cond.methodLink RX12 221 yX12_layWorth ∈ lw_T := zmem (i := 1095) (by decide +kernel) rfl
theorem mem_1097 : Cond.instanceMethod yX12_layWorth ∈ lw_T := zmem (i := 1097) (by decide +kernel) rfl
theorem mem_1099 : Cond.methodLink RX12 215 yX12_ones ∈ lw_T := zmem (i := 1099) (by decide +kernel) rfl
theorem mem_1100 : Cond.static yX12_ones ∈ lw_T := zmem (i := 1100) (by decide +kernel) rfl
theorem mem_1102 : Cond.methodLink RX12 218 yX12_worthOf ∈ lw_T := zmem (i := 1102) (by decide +kernel) rfl
theorem mem_1104 : Cond.instanceMethod yX12_worthOf ∈ lw_T := zmem (i := 1104) (by decide +kernel) rfl
theorem mem_1106 : Cond.methodLink RL 137 yX12_bestAt ∈ lw_T := zmem (i := 1106) (by decide +kernel) rfl
theorem mem_1107 : Cond.instanceMethod yX12_bestAt ∈ lw_T := zmem (i := 1107) (by decide +kernel) rfl
theorem mem_1108 : Cond.selects RX12 yX12_bestAt yX12_bestAt ∈ lw_T := zmem (i := 1108) (by decide +kernel) rfl
theorem mem_1110 : Cond.methodLink RL 141 yX12_hush ∈ lw_T := zmem (i := 1110) (by decide +kernel) rfl
theorem mem_1111 : Cond.instanceMethod yX12_hush ∈ lw_T := zmem (i := 1111) (by decide +kernel) rfl
theorem mem_1112 : Cond.selects RX12 yX12_hush yX12_hush ∈ lw_T := zmem (i := 1112) (by decide +kernel) rfl
theorem mem_1114 : Cond.methodLink RL 145 yX12_keep ∈ lw_T := zmem (i := 1114) (by decide +kernel) rfl
theorem mem_1115 : Cond.instanceMethod yX12_keep ∈ lw_T := zmem (i := 1115) (by decide +kernel) rfl
theorem mem_1116 : Cond.selects RX12 yX12_keep yX12_keep ∈ lw_T := zmem (i := 1116) (by decide +kernel) rfl
theorem mem_1118 : Cond.methodLink RL 149 yX12_again ∈ lw_T := zmem (i := 1118) (by decide +kernel) rfl
theorem mem_1119 : Cond.instanceMethod yX12_again ∈ lw_T := zmem (i := 1119) (by decide +kernel) rfl
theorem mem_1120 : Cond.selects RX12 yX12_again yX12_again ∈ lw_T := zmem (i := 1120) (by decide +kernel) rfl
theorem mem_1122 : Cond.methodLink RL 153 yX12_count ∈ lw_T := zmem (i := 1122) (by decide +kernel) rfl
theorem mem_1123 : Cond.instanceMethod yX12_count ∈ lw_T := zmem (i := 1123) (by decide +kernel) rfl
theorem mem_1124 : Cond.selects RX12 yX12_count yX12_count ∈ lw_T := zmem (i := 1124) (by decide +kernel) rfl
theorem mem_1126 : Cond.constantLong RL 13 (4294967295) ∈ lw_T := zmem (i := 1126) (by decide +kernel) rfl
theorem mem_0 : Cond.selects RX7 yX7_byteHere yX7_byteHere ∈ lw_T := zmem (i := 0) (by decide +kernel) rfl
theorem mem_1 : Cond.selects RX7 yX7_readDoors yX7_readDoors ∈ lw_T := zmem (i := 1) (by decide +kernel) rfl
theorem mem_2 : Cond.selects RX7 yX7_letterHere yX7_letterHere ∈ lw_T := zmem (i := 2) (by decide +kernel) rfl
theorem mem_3 : Cond.selects RX7 yX7_readStreet yX7_readStreet ∈ lw_T := zmem (i := 3) (by decide +kernel) rfl
theorem mem_4 : Cond.selects RX7 yX7_doorHere yX7_doorHere ∈ lw_T := zmem (i := 4) (by decide +kernel) rfl
theorem mem_5 : Cond.selects RX7 yX7_readSong yX7_readSong ∈ lw_T := zmem (i := 5) (by decide +kernel) rfl
theorem mem_6 : Cond.selects RX7 yX7_signHere yX7_signHere ∈ lw_T := zmem (i := 6) (by decide +kernel) rfl
theorem mem_7 : Cond.selects RX9 yX9_take yX9_take ∈ lw_T := zmem (i := 7) (by decide +kernel) rfl
theorem mem_8 : Cond.selects RX10 yX10_isHereThroughout yX10_isHereThroughout ∈ lw_T := zmem (i := 8) (by decide +kernel) rfl
theorem mem_9 : Cond.selects RX11 yX11_isDoorOrNone yX11_isDoorOrNone ∈ lw_T := zmem (i := 9) (by decide +kernel) rfl
theorem mem_10 : Cond.selects RX11 yX11_doorsMeant yX11_doorsMeant ∈ lw_T := zmem (i := 10) (by decide +kernel) rfl
theorem mem_11 : Cond.selects RX9 yX9_countPlace yX9_countPlace ∈ lw_T := zmem (i := 11) (by decide +kernel) rfl
theorem mem_12 : Cond.selects RX9 yX9_countedAt yX9_countedAt ∈ lw_T := zmem (i := 12) (by decide +kernel) rfl
theorem mem_13 : Cond.selects RX11 yX11_areSongAndDoors yX11_areSongAndDoors ∈ lw_T := zmem (i := 13) (by decide +kernel) rfl
theorem mem_14 : Cond.selects RX6 yX6_stateAt yX6_stateAt ∈ lw_T := zmem (i := 14) (by decide +kernel) rfl
theorem mem_15 : Cond.selects RX6 yX6_enqueue yX6_enqueue ∈ lw_T := zmem (i := 15) (by decide +kernel) rfl
theorem mem_16 : Cond.selects RX6 yX6_enqueueAround yX6_enqueueAround ∈ lw_T := zmem (i := 16) (by decide +kernel) rfl
theorem mem_17 : Cond.selects RX6 yX6_countStep yX6_countStep ∈ lw_T := zmem (i := 17) (by decide +kernel) rfl
theorem mem_18 : Cond.selects RX6 yX6_countAround yX6_countAround ∈ lw_T := zmem (i := 18) (by decide +kernel) rfl
theorem mem_19 : Cond.selects RX4 yX4_nextOfBest yX4_nextOfBest ∈ lw_T := zmem (i := 19) (by decide +kernel) rfl
theorem mem_20 : Cond.selects RX11 yX11_slotOf yX11_slotOf ∈ lw_T := zmem (i := 20) (by decide +kernel) rfl
theorem mem_21 : Cond.selects RX12 yX12_readText yX12_readText ∈ lw_T := zmem (i := 21) (by decide +kernel) rfl
theorem mem_22 : Cond.selects RX12 yX12_here yX12_here ∈ lw_T := zmem (i := 22) (by decide +kernel) rfl
theorem mem_23 : Cond.selects RX12 yX12_fail yX12_fail ∈ lw_T := zmem (i := 23) (by decide +kernel) rfl
theorem mem_24 : Cond.selects RX12 yX12_readPart yX12_readPart ∈ lw_T := zmem (i := 24) (by decide +kernel) rfl
theorem mem_25 : Cond.selects RX12 yX12_frees yX12_frees ∈ lw_T := zmem (i := 25) (by decide +kernel) rfl
theorem mem_26 : Cond.selects RX12 yX12_free yX12_free ∈ lw_T := zmem (i := 26) (by decide +kernel) rfl
theorem mem_27 : Cond.selects RX12 yX12_doorOf yX12_doorOf ∈ lw_T := zmem (i := 27) (by decide +kernel) rfl
theorem mem_28 : Cond.selects RX12 yX12_isDoor yX12_isDoor ∈ lw_T := zmem (i := 28) (by decide +kernel) rfl
theorem mem_29 : Cond.selects RX12 yX12_isSong yX12_isSong ∈ lw_T := zmem (i := 29) (by decide +kernel) rfl
theorem mem_30 : Cond.selects RX12 yX12_fits yX12_fits ∈ lw_T := zmem (i := 30) (by decide +kernel) rfl
theorem mem_31 : Cond.selects RX12 yX12_isAny yX12_isAny ∈ lw_T := zmem (i := 31) (by decide +kernel) rfl
theorem mem_32 : Cond.selects RX12 yX12_layRest yX12_layRest ∈ lw_T := zmem (i := 32) (by decide +kernel) rfl
theorem mem_33 : Cond.selects RX12 yX12_restFrom yX12_restFrom ∈ lw_T := zmem (i := 33) (by decide +kernel) rfl
theorem mem_34 : Cond.selects RX12 yX12_roundOf yX12_roundOf ∈ lw_T := zmem (i := 34) (by decide +kernel) rfl
theorem mem_35 : Cond.selects RX12 yX12_layLeft yX12_layLeft ∈ lw_T := zmem (i := 35) (by decide +kernel) rfl
theorem mem_36 : Cond.selects RX12 yX12_begin yX12_begin ∈ lw_T := zmem (i := 36) (by decide +kernel) rfl
theorem mem_37 : Cond.selects RX12 yX12_stateOf yX12_stateOf ∈ lw_T := zmem (i := 37) (by decide +kernel) rfl
theorem mem_38 : Cond.selects RX12 yX12_bothOn yX12_bothOn ∈ lw_T := zmem (i := 38) (by decide +kernel) rfl
theorem mem_39 : Cond.selects RX12 yX12_sounding yX12_sounding ∈ lw_T := zmem (i := 39) (by decide +kernel) rfl
theorem mem_40 : Cond.selects RX12 yX12_beside yX12_beside ∈ lw_T := zmem (i := 40) (by decide +kernel) rfl
theorem mem_41 : Cond.selects RX12 yX12_goes yX12_goes ∈ lw_T := zmem (i := 41) (by decide +kernel) rfl
theorem mem_42 : Cond.selects RX12 yX12_layWorth yX12_layWorth ∈ lw_T := zmem (i := 42) (by decide +kernel) rfl
theorem mem_43 : Cond.selects RX12 yX12_worthOf yX12_worthOf ∈ lw_T := zmem (i := 43) (by decide +kernel) rfl
set_option maxRecDepth 100000 in
theorem mem_66 : Cond.code yX11_init cX11_init 1 none ∈ lw_T := zmem (i := 66) (by rfl) rfl
set_option maxRecDepth 100000 in
theorem mem_69 : Cond.code objectInit ⟨#[0xb1]⟩ 1 none ∈ lw_T := zmem (i := 69) (by rfl) rfl
set_option maxRecDepth 100000 in
theorem mem_74 : Cond.code yX7_init cX7_init 1 none ∈ lw_T := zmem (i := 74) (by rfl) rfl
set_option maxRecDepth 100000 in
theorem mem_92 : Cond.code yX8_init cX8_init 1 none ∈ lw_T := zmem (i := 92) (by rfl) rfl
set_option maxRecDepth 100000 in
theorem mem_128 : Cond.code yX5_init cX5_init 1 none ∈ lw_T := zmem (i := 128) (by rfl) rfl
set_option maxRecDepth 100000 in
theorem mem_136 : Cond.code yX10_init cX10_init 1 none ∈ lw_T := zmem (i := 136) (by rfl) rfl
set_option maxRecDepth 100000 in
theorem mem_150 : Cond.code yX0_init cX0_init 1 none ∈ lw_T := zmem (i := 150) (by rfl) rfl
set_option maxRecDepth 100000 in
theorem mem_182 : Cond.code yX9_init cX9_init 1 none ∈ lw_T := zmem (i := 182) (by rfl) rfl
set_option maxRecDepth 100000 in
theorem mem_205 : Cond.code yX6_init cX6_init 1 none ∈ lw_T := zmem (i := 205) (by rfl) rfl
set_option maxRecDepth 100000 in
theorem mem_236 : Cond.code yX4_init cX4_init 1 none ∈ lw_T := zmem (i := 236) (by rfl) rfl
set_option maxRecDepth 100000 in
theorem mem_245 : Cond.code yX8_addDoor cX8_addDoor 2 none ∈ lw_T := zmem (i := 245) (by rfl) rfl
set_option maxRecDepth 100000 in
theorem mem_277 : Cond.code yX11_write cX11_write 4 (some .int) ∈ lw_T := zmem (i := 277) (by rfl) rfl
set_option maxRecDepth 100000 in
theorem mem_281 : Cond.code yX7_append cX7_append 5 none ∈ lw_T := zmem (i := 281) (by rfl) rfl
set_option maxRecDepth 100000 in
theorem mem_285 : Cond.code yX11_wipe cX11_wipe 2 (some .int) ∈ lw_T := zmem (i := 285) (by rfl) rfl
set_option maxRecDepth 100000 in
theorem mem_289 : Cond.code yX11_fault cX11_fault 1 (some .int) ∈ lw_T := zmem (i := 289) (by rfl) rfl
set_option maxRecDepth 100000 in
theorem mem_293 : Cond.code yX7_readInto cX7_readInto 4 (some .int) ∈ lw_T := zmem (i := 293) (by rfl) rfl
set_option maxRecDepth 100000 in
theorem mem_297 : Cond.code yX8_clear cX8_clear 1 none ∈ lw_T := zmem (i := 297) (by rfl) rfl
set_option maxRecDepth 100000 in
theorem mem_301 : Cond.code yX7_byteHere cX7_byteHere 1 (some .int) ∈ lw_T := zmem (i := 301) (by rfl) rfl
set_option maxRecDepth 100000 in
theorem mem_305 : Cond.code yX7_readDoors cX7_readDoors 3 none ∈ lw_T := zmem (i := 305) (by rfl) rfl
set_option maxRecDepth 100000 in
theorem mem_309 : Cond.code yX7_letterHere cX7_letterHere 2 (some .int) ∈ lw_T := zmem (i := 309) (by rfl) rfl
set_option maxRecDepth 100000 in
theorem mem_314 : Cond.code yX7_readStreet cX7_readStreet 4 (some .boolean) ∈ lw_T := zmem (i := 314) (by rfl) rfl
set_option maxRecDepth 100000 in
theorem mem_318 : Cond.code yX8_hasRoomForStreet cX8_hasRoomForStreet 2 (some .boolean) ∈ lw_T := zmem (i := 318) (by rfl) rfl
set_option maxRecDepth 100000 in
theorem mem_322 : Cond.code yX8_isJoinedToAll cX8_isJoinedToAll 2 (some .boolean) ∈ lw_T := zmem (i := 322) (by rfl) rfl
set_option maxRecDepth 100000 in
theorem mem_326 : Cond.code yX8_isDoor cX8_isDoor 2 (some .boolean) ∈ lw_T := zmem (i := 326) (by rfl) rfl
set_option maxRecDepth 100000 in
theorem mem_330 : Cond.code yX8_allDoors cX8_allDoors 1 (some .int) ∈ lw_T := zmem (i := 330) (by rfl) rfl
set_option maxRecDepth 100000 in
theorem mem_334 : Cond.code yX7_doorHere cX7_doorHere 4 (some .int) ∈ lw_T := zmem (i := 334) (by rfl) rfl
set_option maxRecDepth 100000 in
theorem mem_340 : Cond.code yX8_isJoined cX8_isJoined 3 (some .boolean) ∈ lw_T := zmem (i := 340) (by rfl) rfl
set_option maxRecDepth 100000 in
theorem mem_344 : Cond.code yX8_joinedTo cX8_joinedTo 2 (some .int) ∈ lw_T := zmem (i := 344) (by rfl) rfl
set_option maxRecDepth 100000 in
theorem mem_347 : Cond.code yX11_has cX11_has 2 (some .boolean) ∈ lw_T := zmem (i := 347) (by rfl) rfl
set_option maxRecDepth 100000 in
theorem mem_351 : Cond.code yX8_join cX8_join 4 none ∈ lw_T := zmem (i := 351) (by rfl) rfl
set_option maxRecDepth 100000 in
theorem mem_355 : Cond.code yX7_readSong cX7_readSong 3 (some .boolean) ∈ lw_T := zmem (i := 355) (by rfl) rfl
set_option maxRecDepth 100000 in
theorem mem_359 : Cond.code yX7_signHere cX7_signHere 1 (some .int) ∈ lw_T := zmem (i := 359) (by rfl) rfl
set_option maxRecDepth 100000 in
theorem mem_363 : Cond.code yX8_addSong cX8_addSong 1 none ∈ lw_T := zmem (i := 363) (by rfl) rfl
set_option maxRecDepth 100000 in
theorem mem_367 : Cond.code yX8_addSign cX8_addSign 3 none ∈ lw_T := zmem (i := 367) (by rfl) rfl
set_option maxRecDepth 100000 in
theorem mem_371 : Cond.code yX8_isSong cX8_isSong 2 (some .boolean) ∈ lw_T := zmem (i := 371) (by rfl) rfl
set_option maxRecDepth 100000 in
theorem mem_375 : Cond.code yX11_town cX11_town 1 (some .int) ∈ lw_T := zmem (i := 375) (by rfl) rfl
set_option maxRecDepth 100000 in
theorem mem_379 : Cond.code yX8_copyFrom cX8_copyFrom 2 none ∈ lw_T := zmem (i := 379) (by rfl) rfl
set_option maxRecDepth 100000 in
theorem mem_386 : Cond.code yX11_note cX11_note 2 (some .int) ∈ lw_T := zmem (i := 386) (by rfl) rfl
set_option maxRecDepth 100000 in
theorem mem_391 : Cond.code yX11_let cX11_let 4 (some .int) ∈ lw_T := zmem (i := 391) (by rfl) rfl
set_option maxRecDepth 100000 in
theorem mem_395 : Cond.code yX11_street cX11_street 3 (some .int) ∈ lw_T := zmem (i := 395) (by rfl) rfl
set_option maxRecDepth 100000 in
theorem mem_400 : Cond.code yX11_road cX11_road 5 (some .int) ∈ lw_T := zmem (i := 400) (by rfl) rfl
set_option maxRecDepth 100000 in
theorem mem_405 : Cond.code yX11_song cX11_song 3 (some .int) ∈ lw_T := zmem (i := 405) (by rfl) rfl
set_option maxRecDepth 100000 in
theorem mem_410 : Cond.code yX8_signOf cX8_signOf 3 (some .int) ∈ lw_T := zmem (i := 410) (by rfl) rfl
set_option maxRecDepth 100000 in
theorem mem_414 : Cond.code yX11_spring cX11_spring 1 (some .int) ∈ lw_T := zmem (i := 414) (by rfl) rfl
set_option maxRecDepth 100000 in
theorem mem_418 : Cond.code yX8_turnNotes cX8_turnNotes 4 (some .int) ∈ lw_T := zmem (i := 418) (by rfl) rfl
set_option maxRecDepth 100000 in
theorem mem_422 : Cond.code yX11_go cX11_go 3 (some .int) ∈ lw_T := zmem (i := 422) (by rfl) rfl
set_option maxRecDepth 100000 in
theorem mem_426 : Cond.code yX10_doorAt cX10_doorAt 2 (some .int) ∈ lw_T := zmem (i := 426) (by rfl) rfl
set_option maxRecDepth 100000 in
theorem mem_430 : Cond.code yX10_add cX10_add 2 none ∈ lw_T := zmem (i := 430) (by rfl) rfl
set_option maxRecDepth 100000 in
theorem mem_434 : Cond.code yX11_home cX11_home 2 (some .int) ∈ lw_T := zmem (i := 434) (by rfl) rfl
set_option maxRecDepth 100000 in
theorem mem_438 : Cond.code yX11_at cX11_at 2 (some .int) ∈ lw_T := zmem (i := 438) (by rfl) rfl
set_option maxRecDepth 100000 in
theorem mem_442 : Cond.code yX11_heard cX11_heard 3 (some .int) ∈ lw_T := zmem (i := 442) (by rfl) rfl
set_option maxRecDepth 100000 in
theorem mem_446 : Cond.code yX9_takeSong cX9_takeSong 4 none ∈ lw_T := zmem (i := 446) (by rfl) rfl
set_option maxRecDepth 100000 in
theorem mem_450 : Cond.code yX8_lengthOf cX8_lengthOf 2 (some .int) ∈ lw_T := zmem (i := 450) (by rfl) rfl
set_option maxRecDepth 100000 in
theorem mem_455 : Cond.code yX9_take cX9_take 4 none ∈ lw_T := zmem (i := 455) (by rfl) rfl
set_option maxRecDepth 100000 in
theorem mem_459 : Cond.code yX8_doorsThatSound cX8_doorsThatSound 4 (some .int) ∈ lw_T := zmem (i := 459) (by rfl) rfl
set_option maxRecDepth 100000 in
theorem mem_463 : Cond.code yX8_sounds cX8_sounds 3 (some .boolean) ∈ lw_T := zmem (i := 463) (by rfl) rfl
set_option maxRecDepth 100000 in
theorem mem_468 : Cond.code yX10_firstPlaceOf cX10_firstPlaceOf 4 (some .int) ∈ lw_T := zmem (i := 468) (by rfl) rfl
set_option maxRecDepth 100000 in
theorem mem_472 : Cond.code yX10_isHereThroughout cX10_isHereThroughout 5 (some .boolean) ∈ lw_T := zmem (i := 472) (by rfl) rfl
set_option maxRecDepth 100000 in
theorem mem_477 : Cond.code yX9_fitsAt cX9_fitsAt 2 (some .int) ∈ lw_T := zmem (i := 477) (by rfl) rfl
set_option maxRecDepth 100000 in
theorem mem_482 : Cond.code yX11_ways cX11_ways 4 (some .long) ∈ lw_T := zmem (i := 482) (by rfl) rfl
set_option maxRecDepth 100000 in
theorem mem_486 : Cond.code yX11_isDoorOrNone cX11_isDoorOrNone 2 (some .boolean) ∈ lw_T := zmem (i := 486) (by rfl) rfl
set_option maxRecDepth 100000 in
theorem mem_491 : Cond.code yX11_doorsMeant cX11_doorsMeant 2 (some .int) ∈ lw_T := zmem (i := 491) (by rfl) rfl
set_option maxRecDepth 100000 in
theorem mem_496 : Cond.code yX9_countWays cX9_countWays 5 (some .long) ∈ lw_T := zmem (i := 496) (by rfl) rfl
set_option maxRecDepth 100000 in
theorem mem_502 : Cond.code yX9_countPlace cX9_countPlace 5 none ∈ lw_T := zmem (i := 502) (by rfl) rfl
set_option maxRecDepth 100000 in
theorem mem_507 : Cond.code yX9_countedAt cX9_countedAt 7 (some .long) ∈ lw_T := zmem (i := 507) (by rfl) rfl
set_option maxRecDepth 100000 in
theorem mem_511 : Cond.code yX11_first cX11_first 3 (some .int) ∈ lw_T := zmem (i := 511) (by rfl) rfl
set_option maxRecDepth 100000 in
theorem mem_515 : Cond.code yX9_doorOfFirst cX9_doorOfFirst 5 (some .int) ∈ lw_T := zmem (i := 515) (by rfl) rfl
set_option maxRecDepth 100000 in
theorem mem_519 : Cond.code yX9_openAt cX9_openAt 5 (some .int) ∈ lw_T := zmem (i := 519) (by rfl) rfl
set_option maxRecDepth 100000 in
theorem mem_523 : Cond.code yX8_around cX8_around 4 (some .int) ∈ lw_T := zmem (i := 523) (by rfl) rfl
set_option maxRecDepth 100000 in
theorem mem_526 : Cond.code yX11_leastOf cX11_leastOf 1 (some .int) ∈ lw_T := zmem (i := 526) (by rfl) rfl
set_option maxRecDepth 100000 in
theorem mem_529 : Cond.code yJ6_numberOfTrailingZeros_0f7a4 cJ6_numberOfTrailingZeros_0f7a4 2 (some .int) ∈ lw_T := zmem (i := 529) (by rfl) rfl
set_option maxRecDepth 100000 in
theorem mem_534 : Cond.code yX11_begun cX11_begun 2 (some .int) ∈ lw_T := zmem (i := 534) (by rfl) rfl
set_option maxRecDepth 100000 in
theorem mem_538 : Cond.code yX9_placesBegun cX9_placesBegun 4 (some .int) ∈ lw_T := zmem (i := 538) (by rfl) rfl
set_option maxRecDepth 100000 in
theorem mem_542 : Cond.code yX11_round cX11_round 4 (some .int) ∈ lw_T := zmem (i := 542) (by rfl) rfl
set_option maxRecDepth 100000 in
theorem mem_546 : Cond.code yX11_areSongAndDoors cX11_areSongAndDoors 4 (some .boolean) ∈ lw_T := zmem (i := 546) (by rfl) rfl
set_option maxRecDepth 100000 in
theorem mem_550 : Cond.code yX6_takeSong cX6_takeSong 7 none ∈ lw_T := zmem (i := 550) (by rfl) rfl
set_option maxRecDepth 100000 in
theorem mem_556 : Cond.code yX6_findWay cX6_findWay 6 (some .int) ∈ lw_T := zmem (i := 556) (by rfl) rfl
set_option maxRecDepth 100000 in
theorem mem_559 : Cond.code yJ7_fill_53178 cJ7_fill_53178 4 none ∈ lw_T := zmem (i := 559) (by rfl) rfl
set_option maxRecDepth 100000 in
theorem mem_563 : Cond.code yX6_stateAt cX6_stateAt 6 (some .int) ∈ lw_T := zmem (i := 563) (by rfl) rfl
set_option maxRecDepth 100000 in
theorem mem_567 : Cond.code yX6_enqueue cX6_enqueue 5 none ∈ lw_T := zmem (i := 567) (by rfl) rfl
set_option maxRecDepth 100000 in
theorem mem_571 : Cond.code yX6_enqueueAround cX6_enqueueAround 5 none ∈ lw_T := zmem (i := 571) (by rfl) rfl
set_option maxRecDepth 100000 in
theorem mem_577 : Cond.code yX6_stepsOfWay cX6_stepsOfWay 4 (some .int) ∈ lw_T := zmem (i := 577) (by rfl) rfl
set_option maxRecDepth 100000 in
theorem mem_581 : Cond.code yX11_roundAt cX11_roundAt 5 (some .int) ∈ lw_T := zmem (i := 581) (by rfl) rfl
set_option maxRecDepth 100000 in
theorem mem_585 : Cond.code yX6_doorOfWay cX6_doorOfWay 6 (some .int) ∈ lw_T := zmem (i := 585) (by rfl) rfl
set_option maxRecDepth 100000 in
theorem mem_590 : Cond.code yX11_safe cX11_safe 5 (some .long) ∈ lw_T := zmem (i := 590) (by rfl) rfl
set_option maxRecDepth 100000 in
theorem mem_595 : Cond.code yX6_countWays cX6_countWays 9 (some .long) ∈ lw_T := zmem (i := 595) (by rfl) rfl
set_option maxRecDepth 100000 in
theorem mem_598 : Cond.code yJ7_fill_d0a16 cJ7_fill_d0a16 5 none ∈ lw_T := zmem (i := 598) (by rfl) rfl
set_option maxRecDepth 100000 in
theorem mem_602 : Cond.code yX6_countStep cX6_countStep 3 none ∈ lw_T := zmem (i := 602) (by rfl) rfl
set_option maxRecDepth 100000 in
theorem mem_606 : Cond.code yX6_countAround cX6_countAround 6 none ∈ lw_T := zmem (i := 606) (by rfl) rfl
set_option maxRecDepth 100000 in
theorem mem_610 : Cond.code yX11_both cX11_both 3 (some .int) ∈ lw_T := zmem (i := 610) (by rfl) rfl
set_option maxRecDepth 100000 in
theorem mem_613 : Cond.code yX2_fewestDoors cX2_fewestDoors 9 (some .int) ∈ lw_T := zmem (i := 613) (by rfl) rfl
set_option maxRecDepth 100000 in
theorem mem_616 : Cond.code yJ9_min_7cf53 cJ9_min_7cf53 2 (some .int) ∈ lw_T := zmem (i := 616) (by rfl) rfl
set_option maxRecDepth 100000 in
theorem mem_619 : Cond.code yJ9_max_7cf53 cJ9_max_7cf53 2 (some .int) ∈ lw_T := zmem (i := 619) (by rfl) rfl
set_option maxRecDepth 100000 in
theorem mem_622 : Cond.code yX2_canSoundBoth cX2_canSoundBoth 8 (some .boolean) ∈ lw_T := zmem (i := 622) (by rfl) rfl
set_option maxRecDepth 100000 in
theorem mem_628 : Cond.code yX9_fitsOrAny cX9_fitsOrAny 3 (some .int) ∈ lw_T := zmem (i := 628) (by rfl) rfl
set_option maxRecDepth 100000 in
theorem mem_632 : Cond.code yX11_hear cX11_hear 2 (some .int) ∈ lw_T := zmem (i := 632) (by rfl) rfl
set_option maxRecDepth 100000 in
theorem mem_636 : Cond.code yX0_add cX0_add 2 none ∈ lw_T := zmem (i := 636) (by rfl) rfl
set_option maxRecDepth 100000 in
theorem mem_640 : Cond.code yX11_deaf cX11_deaf 2 (some .int) ∈ lw_T := zmem (i := 640) (by rfl) rfl
set_option maxRecDepth 100000 in
theorem mem_644 : Cond.code yX11_mayBe cX11_mayBe 2 (some .int) ∈ lw_T := zmem (i := 644) (by rfl) rfl
set_option maxRecDepth 100000 in
theorem mem_648 : Cond.code yX9_takeHeard cX9_takeHeard 4 none ∈ lw_T := zmem (i := 648) (by rfl) rfl
set_option maxRecDepth 100000 in
theorem mem_652 : Cond.code yX9_reachedAt cX9_reachedAt 5 (some .int) ∈ lw_T := zmem (i := 652) (by rfl) rfl
set_option maxRecDepth 100000 in
theorem mem_657 : Cond.code yX11_fitting cX11_fitting 2 (some .long) ∈ lw_T := zmem (i := 657) (by rfl) rfl
set_option maxRecDepth 100000 in
theorem mem_661 : Cond.code yX11_parted cX11_parted 4 (some .int) ∈ lw_T := zmem (i := 661) (by rfl) rfl
set_option maxRecDepth 100000 in
theorem mem_664 : Cond.code yX3_leastBits cX3_leastBits 8 (some .int) ∈ lw_T := zmem (i := 664) (by rfl) rfl
set_option maxRecDepth 100000 in
theorem mem_670 : Cond.code yX3_countBits cX3_countBits 8 (some .int) ∈ lw_T := zmem (i := 670) (by rfl) rfl
set_option maxRecDepth 100000 in
theorem mem_675 : Cond.code yX11_best cX11_best 3 (some .int) ∈ lw_T := zmem (i := 675) (by rfl) rfl
set_option maxRecDepth 100000 in
theorem mem_679 : Cond.code yX9_takeAnthem cX9_takeAnthem 5 none ∈ lw_T := zmem (i := 679) (by rfl) rfl
set_option maxRecDepth 100000 in
theorem mem_683 : Cond.code yX4_greatestWorth cX4_greatestWorth 5 (some .int) ∈ lw_T := zmem (i := 683) (by rfl) rfl
set_option maxRecDepth 100000 in
theorem mem_687 : Cond.code yX4_othersThan cX4_othersThan 2 (some .int) ∈ lw_T := zmem (i := 687) (by rfl) rfl
set_option maxRecDepth 100000 in
theorem mem_691 : Cond.code yX4_gainOf cX4_gainOf 9 (some .int) ∈ lw_T := zmem (i := 691) (by rfl) rfl
set_option maxRecDepth 100000 in
theorem mem_696 : Cond.code yX4_gainThrough cX4_gainThrough 7 (some .int) ∈ lw_T := zmem (i := 696) (by rfl) rfl
set_option maxRecDepth 100000 in
theorem mem_699 : Cond.code yJ6_bitCount_0f7a4 cJ6_bitCount_0f7a4 1 (some .int) ∈ lw_T := zmem (i := 699) (by rfl) rfl
set_option maxRecDepth 100000 in
theorem mem_706 : Cond.code yX9_worthAt cX9_worthAt 3 (some .int) ∈ lw_T := zmem (i := 706) (by rfl) rfl
set_option maxRecDepth 100000 in
theorem mem_711 : Cond.code yX11_bestAt cX11_bestAt 4 (some .int) ∈ lw_T := zmem (i := 711) (by rfl) rfl
set_option maxRecDepth 100000 in
theorem mem_715 : Cond.code yX4_doorOfBest cX4_doorOfBest 8 (some .int) ∈ lw_T := zmem (i := 715) (by rfl) rfl
set_option maxRecDepth 100000 in
theorem mem_719 : Cond.code yX4_nextOfBest cX4_nextOfBest 8 (some .int) ∈ lw_T := zmem (i := 719) (by rfl) rfl
set_option maxRecDepth 100000 in
theorem mem_723 : Cond.code yX11_hush cX11_hush 3 (some .int) ∈ lw_T := zmem (i := 723) (by rfl) rfl
set_option maxRecDepth 100000 in
theorem mem_726 : Cond.code yX1_fewestDoors cX1_fewestDoors 5 (some .int) ∈ lw_T := zmem (i := 726) (by rfl) rfl
set_option maxRecDepth 100000 in
theorem mem_731 : Cond.code yX9_canBeSung cX9_canBeSung 6 (some .boolean) ∈ lw_T := zmem (i := 731) (by rfl) rfl
set_option maxRecDepth 100000 in
theorem mem_734 : Cond.code yX1_leastOfSize cX1_leastOfSize 7 (some .int) ∈ lw_T := zmem (i := 734) (by rfl) rfl
set_option maxRecDepth 100000 in
theorem mem_737 : Cond.code yX1_nextOfLikeSize cX1_nextOfLikeSize 5 (some .int) ∈ lw_T := zmem (i := 737) (by rfl) rfl
set_option maxRecDepth 100000 in
theorem mem_742 : Cond.code yX11_keep cX11_keep 3 (some .int) ∈ lw_T := zmem (i := 742) (by rfl) rfl
set_option maxRecDepth 100000 in
theorem mem_746 : Cond.code yX11_slotOf cX11_slotOf 2 (some (.object "TuneToEachHouse$Scene")) ∈ lw_T := zmem (i := 746) (by rfl) rfl
set_option maxRecDepth 100000 in
theorem mem_750 : Cond.code yX5_copyFrom cX5_copyFrom 2 none ∈ lw_T := zmem (i := 750) (by rfl) rfl
set_option maxRecDepth 100000 in
theorem mem_755 : Cond.code yX10_copyFrom cX10_copyFrom 2 none ∈ lw_T := zmem (i := 755) (by rfl) rfl
set_option maxRecDepth 100000 in
theorem mem_760 : Cond.code yX0_copyFrom cX0_copyFrom 2 none ∈ lw_T := zmem (i := 760) (by rfl) rfl
set_option maxRecDepth 100000 in
theorem mem_765 : Cond.code yX11_again cX11_again 3 (some .int) ∈ lw_T := zmem (i := 765) (by rfl) rfl
set_option maxRecDepth 100000 in
theorem mem_769 : Cond.code yX11_count cX11_count 2 (some .int) ∈ lw_T := zmem (i := 769) (by rfl) rfl
set_option maxRecDepth 100000 in
theorem mem_773 : Cond.code yX8_countStreets cX8_countStreets 3 (some .int) ∈ lw_T := zmem (i := 773) (by rfl) rfl
set_option maxRecDepth 100000 in
theorem mem_781 : Cond.code yX12_init cX12_init 1 none ∈ lw_T := zmem (i := 781) (by rfl) rfl
set_option maxRecDepth 100000 in
theorem mem_891 : Cond.code yX12_write cX12_write 5 (some .int) ∈ lw_T := zmem (i := 891) (by rfl) rfl
set_option maxRecDepth 100000 in
theorem mem_895 : Cond.code yX12_in cX12_in 6 (some .boolean) ∈ lw_T := zmem (i := 895) (by rfl) rfl
set_option maxRecDepth 100000 in
theorem mem_900 : Cond.code yX12_wipe cX12_wipe 2 (some .int) ∈ lw_T := zmem (i := 900) (by rfl) rfl
set_option maxRecDepth 100000 in
theorem mem_904 : Cond.code yX12_fault cX12_fault 1 (some .int) ∈ lw_T := zmem (i := 904) (by rfl) rfl
set_option maxRecDepth 100000 in
theorem mem_908 : Cond.code yX12_readText cX12_readText 1 (some .int) ∈ lw_T := zmem (i := 908) (by rfl) rfl
set_option maxRecDepth 100000 in
theorem mem_912 : Cond.code yX12_here cX12_here 1 (some .int) ∈ lw_T := zmem (i := 912) (by rfl) rfl
set_option maxRecDepth 100000 in
theorem mem_918 : Cond.code yX12_fail cX12_fail 1 none ∈ lw_T := zmem (i := 918) (by rfl) rfl
set_option maxRecDepth 100000 in
theorem mem_922 : Cond.code yX12_readPart cX12_readPart 3 none ∈ lw_T := zmem (i := 922) (by rfl) rfl
set_option maxRecDepth 100000 in
theorem mem_926 : Cond.code yX12_frees cX12_frees 3 (some .int) ∈ lw_T := zmem (i := 926) (by rfl) rfl
set_option maxRecDepth 100000 in
theorem mem_930 : Cond.code yX12_free cX12_free 2 (some .int) ∈ lw_T := zmem (i := 930) (by rfl) rfl
set_option maxRecDepth 100000 in
theorem mem_934 : Cond.code yX12_doorOf cX12_doorOf 4 (some .int) ∈ lw_T := zmem (i := 934) (by rfl) rfl
set_option maxRecDepth 100000 in
theorem mem_941 : Cond.code yX12_town cX12_town 2 (some .int) ∈ lw_T := zmem (i := 941) (by rfl) rfl
set_option maxRecDepth 100000 in
theorem mem_945 : Cond.code yX12_note cX12_note 2 (some .int) ∈ lw_T := zmem (i := 945) (by rfl) rfl
set_option maxRecDepth 100000 in
theorem mem_949 : Cond.code yX12_isDoor cX12_isDoor 2 (some .boolean) ∈ lw_T := zmem (i := 949) (by rfl) rfl
set_option maxRecDepth 100000 in
theorem mem_953 : Cond.code yX12_let cX12_let 4 (some .int) ∈ lw_T := zmem (i := 953) (by rfl) rfl
set_option maxRecDepth 100000 in
theorem mem_958 : Cond.code yX12_street cX12_street 3 (some .int) ∈ lw_T := zmem (i := 958) (by rfl) rfl
set_option maxRecDepth 100000 in
theorem mem_962 : Cond.code yX12_road cX12_road 5 (some .int) ∈ lw_T := zmem (i := 962) (by rfl) rfl
set_option maxRecDepth 100000 in
theorem mem_966 : Cond.code yX12_song cX12_song 3 (some .int) ∈ lw_T := zmem (i := 966) (by rfl) rfl
set_option maxRecDepth 100000 in
theorem mem_970 : Cond.code yX12_isSong cX12_isSong 2 (some .boolean) ∈ lw_T := zmem (i := 970) (by rfl) rfl
set_option maxRecDepth 100000 in
theorem mem_974 : Cond.code yX12_spring cX12_spring 3 (some .int) ∈ lw_T := zmem (i := 974) (by rfl) rfl
set_option maxRecDepth 100000 in
theorem mem_978 : Cond.code yX12_go cX12_go 2 (some .int) ∈ lw_T := zmem (i := 978) (by rfl) rfl
set_option maxRecDepth 100000 in
theorem mem_982 : Cond.code yX12_home cX12_home 2 (some .int) ∈ lw_T := zmem (i := 982) (by rfl) rfl
set_option maxRecDepth 100000 in
theorem mem_986 : Cond.code yX12_at cX12_at 2 (some .int) ∈ lw_T := zmem (i := 986) (by rfl) rfl
set_option maxRecDepth 100000 in
theorem mem_990 : Cond.code yX12_heard cX12_heard 6 (some .int) ∈ lw_T := zmem (i := 990) (by rfl) rfl
set_option maxRecDepth 100000 in
theorem mem_995 : Cond.code yX12_fits cX12_fits 6 (some .boolean) ∈ lw_T := zmem (i := 995) (by rfl) rfl
set_option maxRecDepth 100000 in
theorem mem_999 : Cond.code yX12_ways cX12_ways 4 (some .long) ∈ lw_T := zmem (i := 999) (by rfl) rfl
set_option maxRecDepth 100000 in
theorem mem_1003 : Cond.code yX12_isAny cX12_isAny 2 (some .boolean) ∈ lw_T := zmem (i := 1003) (by rfl) rfl
set_option maxRecDepth 100000 in
theorem mem_1008 : Cond.code yX12_layRest cX12_layRest 10 none ∈ lw_T := zmem (i := 1008) (by rfl) rfl
set_option maxRecDepth 100000 in
theorem mem_1012 : Cond.code yX12_restFrom cX12_restFrom 5 (some .long) ∈ lw_T := zmem (i := 1012) (by rfl) rfl
set_option maxRecDepth 100000 in
theorem mem_1016 : Cond.code yX12_first cX12_first 6 (some .int) ∈ lw_T := zmem (i := 1016) (by rfl) rfl
set_option maxRecDepth 100000 in
theorem mem_1020 : Cond.code yX12_begun cX12_begun 3 (some .int) ∈ lw_T := zmem (i := 1020) (by rfl) rfl
set_option maxRecDepth 100000 in
theorem mem_1024 : Cond.code yX12_round cX12_round 4 (some .int) ∈ lw_T := zmem (i := 1024) (by rfl) rfl
set_option maxRecDepth 100000 in
theorem mem_1028 : Cond.code yX12_roundOf cX12_roundOf 5 (some .int) ∈ lw_T := zmem (i := 1028) (by rfl) rfl
set_option maxRecDepth 100000 in
theorem mem_1032 : Cond.code yX12_layLeft cX12_layLeft 8 none ∈ lw_T := zmem (i := 1032) (by rfl) rfl
set_option maxRecDepth 100000 in
theorem mem_1036 : Cond.code yX12_begin cX12_begin 7 (some .int) ∈ lw_T := zmem (i := 1036) (by rfl) rfl
set_option maxRecDepth 100000 in
theorem mem_1040 : Cond.code yX12_roundAt cX12_roundAt 14 (some .int) ∈ lw_T := zmem (i := 1040) (by rfl) rfl
set_option maxRecDepth 100000 in
theorem mem_1044 : Cond.code yX12_safe cX12_safe 10 (some .long) ∈ lw_T := zmem (i := 1044) (by rfl) rfl
set_option maxRecDepth 100000 in
theorem mem_1050 : Cond.code yX12_both cX12_both 6 (some .int) ∈ lw_T := zmem (i := 1050) (by rfl) rfl
set_option maxRecDepth 100000 in
theorem mem_1054 : Cond.code yX12_stateOf cX12_stateOf 4 (some .int) ∈ lw_T := zmem (i := 1054) (by rfl) rfl
set_option maxRecDepth 100000 in
theorem mem_1058 : Cond.code yX12_bothOn cX12_bothOn 7 none ∈ lw_T := zmem (i := 1058) (by rfl) rfl
set_option maxRecDepth 100000 in
theorem mem_1062 : Cond.code yX12_hear cX12_hear 2 (some .int) ∈ lw_T := zmem (i := 1062) (by rfl) rfl
set_option maxRecDepth 100000 in
theorem mem_1066 : Cond.code yX12_deaf cX12_deaf 2 (some .int) ∈ lw_T := zmem (i := 1066) (by rfl) rfl
set_option maxRecDepth 100000 in
theorem mem_1070 : Cond.code yX12_mayBe cX12_mayBe 5 (some .int) ∈ lw_T := zmem (i := 1070) (by rfl) rfl
set_option maxRecDepth 100000 in
theorem mem_1074 : Cond.code yX12_sounding cX12_sounding 4 (some .int) ∈ lw_T := zmem (i := 1074) (by rfl) rfl
set_option maxRecDepth 100000 in
theorem mem_1078 : Cond.code yX12_beside cX12_beside 4 (some .int) ∈ lw_T := zmem (i := 1078) (by rfl) rfl
set_option maxRecDepth 100000 in
theorem mem_1082 : Cond.code yX12_fitting cX12_fitting 9 (some .long) ∈ lw_T := zmem (i := 1082) (by rfl) rfl
set_option maxRecDepth 100000 in
theorem mem_1086 : Cond.code yX12_parted cX12_parted 5 (some .int) ∈ lw_T := zmem (i := 1086) (by rfl) rfl
set_option maxRecDepth 100000 in
theorem mem_1090 : Cond.code yX12_goes cX12_goes 5 (some .boolean) ∈ lw_T := zmem (i := 1090) (by rfl) rfl
set_option maxRecDepth 100000 in
theorem mem_1094 : Cond.code yX12_best cX12_best 4 (some .int) ∈ lw_T := zmem (i := 1094) (by rfl) rfl
set_option maxRecDepth 100000 in
theorem mem_1098 : Cond.code yX12_layWorth cX12_layWorth 10 none ∈ lw_T := zmem (i := 1098) (by rfl) rfl
set_option maxRecDepth 100000 in
theorem mem_1101 : Cond.code yX12_ones cX12_ones 3 (some .int) ∈ lw_T := zmem (i := 1101) (by rfl) rfl
set_option maxRecDepth 100000 in
theorem mem_1105 : Cond.code yX12_worthOf cX12_worthOf 4 (some .int) ∈ lw_T := zmem (i := 1105) (by rfl) rfl
set_option maxRecDepth 100000 in
theorem mem_1109 : Cond.code yX12_bestAt cX12_bestAt 11 (some .int) ∈ lw_T := zmem (i := 1109) (by rfl) rfl
set_option maxRecDepth 100000 in
theorem mem_1113 : Cond.code yX12_hush cX12_hush 7 (some .int) ∈ lw_T := zmem (i := 1113) (by rfl) rfl
set_option maxRecDepth 100000 in
theorem mem_1117 : Cond.code yX12_keep cX12_keep 3 (some .int) ∈ lw_T := zmem (i := 1117) (by rfl) rfl
set_option maxRecDepth 100000 in
theorem mem_1121 : Cond.code yX12_again cX12_again 3 (some .int) ∈ lw_T := zmem (i := 1121) (by rfl) rfl
set_option maxRecDepth 100000 in
theorem mem_1125 : Cond.code yX12_count cX12_count 5 (some .int) ∈ lw_T := zmem (i := 1125) (by rfl) rfl
