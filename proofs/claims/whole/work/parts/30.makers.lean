/-! ===== the makers of the objects, by program (wip/tools/g30.py) ===== -/
theorem zdf_0 : ∀ j, j < 3 → defaultValue (tyX0 j) = vp_V [.null, .null, .int 0] j := by decide +kernel
theorem zdf_1 : ∀ j, j < 8 → defaultValue (tyX1 j) = vp_V [.null, .null, .null, .null, .null, .null, .int 0, .int 0] j := by decide +kernel
theorem zdf_2 : ∀ j, j < 5 → defaultValue (tyX2 j) = vp_V [.null, .null, .null, .null, .int 0] j := by decide +kernel
theorem zdf_3 : ∀ j, j < 5 → defaultValue (tyX3 j) = vp_V [.null, .null, .null, .null, .int 0] j := by decide +kernel
theorem zdf_4 : ∀ j, j < 8 → defaultValue (tyX4 j) = vp_V [.null, .null, .null, .null, .int 0, .long 0, .int 0, .int 0] j := by decide +kernel
theorem zdf_5 : ∀ j, j < 4 → defaultValue (tyX5 j) = vp_V [.null, .null, .long 0, .int 0] j := by decide +kernel
theorem zdf_6 : ∀ j, j < 4 → defaultValue (tyX6 j) = vp_V [.null, .null, .int 0, .int 0] j := by decide +kernel
theorem zdf_7 : ∀ j, j < 4 → defaultValue (tyX7 j) = vp_V [.null, .null, .int 0, .int 0] j := by decide +kernel
theorem zdf_8 : ∀ j, j < 5 → defaultValue (tyX8 j) = vp_V [.null, .null, .null, .int 0, .int 0] j := by decide +kernel
theorem zdf_9 : ∀ j, j < 11 → defaultValue (tyX9 j) = vp_V [.null, .null, .null, .null, .null, .null, .null, .null, .null, .int 0, .int 0] j := by decide +kernel
theorem zdf_10 : ∀ j, j < 47 → defaultValue (tyX10 j) = vp_V [.null, .null, .null, .null, .null, .null, .null, .null, .null, .null, .int 0, .int 0, .int 0, .int 0, .int 0, .int 0, .int 0, .int 0, .int 0, .null, .null, .null, .null, .null, .null, .null, .int 0, .int 0, .int 0, .null, .int 0, .int 0, .int 0, .int 0, .null, .null, .null, .null, .null, .null, .null, .null, .null, .null, .null, .int 0, .int 0] j := by decide +kernel
theorem zx_88 : zwd 88 (Jvm.Cond.initialized "EverySecondWord$World") = true := by decide +kernel
theorem zx_89 : zwd 89 (Jvm.Cond.initialized "EverySecondWord$Grammar") = true := by decide +kernel
theorem zx_90 : zwd 90 (Jvm.Cond.initialized "EverySecondWord$People") = true := by decide +kernel
theorem zx_91 : zwd 91 (Jvm.Cond.initialized "EverySecondWord$Talk") = true := by decide +kernel
theorem zx_92 : zwd 92 (Jvm.Cond.initialized "EverySecondWord$Reader") = true := by decide +kernel
theorem zx_93 : zwd 93 (Jvm.Cond.initialized "EverySecondWord$Mind") = true := by decide +kernel
theorem zx_94 : zwd 94 (Jvm.Cond.initialized "EverySecondWord$Beginnings") = true := by decide +kernel
theorem zx_95 : zwd 95 (Jvm.Cond.initialized "EverySecondWord$Power") = true := by decide +kernel
theorem zx_96 : zwd 96 (Jvm.Cond.initialized "EverySecondWord$Reach") = true := by decide +kernel
theorem zx_106 : zwd 106 (Jvm.Cond.code ({ cls := "EverySecondWord", name := "<init>", desc := "()V" } : Jvm.MethodName) prog_1_method_1_code (3 : Nat) (Option.none : Option Jvm.ClassFile.FieldType)) = true := by decide +kernel
theorem zx_107 : zwd 107 (Jvm.Cond.methodLink "EverySecondWord" (1 : Nat) ({ cls := "java/lang/Object", name := "<init>", desc := "()V" } : Jvm.MethodName)) = true := by decide +kernel
theorem zx_108 : zwd 108 (Jvm.Cond.instanceMethod ({ cls := "java/lang/Object", name := "<init>", desc := "()V" } : Jvm.MethodName)) = true := by decide +kernel
theorem zx_109 : zwd 109 (Jvm.Cond.code ({ cls := "java/lang/Object", name := "<init>", desc := "()V" } : Jvm.MethodName) object_method_1_code (1 : Nat) (Option.none : Option Jvm.ClassFile.FieldType)) = true := by decide +kernel
theorem zx_110 : zwd 110 (Jvm.Cond.classLink "EverySecondWord" (7 : Nat) "EverySecondWord$World") = true := by decide +kernel
theorem zx_111 : zwd 111 (Jvm.Cond.instantiable "EverySecondWord$World" (5 : Nat)) = true := by decide +kernel
theorem zx_112 : zwn 112 (Jvm.Cond.methodLinkNest "EverySecondWord" (9 : Nat) ({ cls := "EverySecondWord$World", name := "<init>", desc := "()V" } : Jvm.MethodName) "EverySecondWord") = true := by decide +kernel
theorem zx_113 : zwd 113 (Jvm.Cond.instanceMethod ({ cls := "EverySecondWord$World", name := "<init>", desc := "()V" } : Jvm.MethodName)) = true := by decide +kernel
theorem zx_114 : zwd 114 (Jvm.Cond.code ({ cls := "EverySecondWord$World", name := "<init>", desc := "()V" } : Jvm.MethodName) prog_10_method_1_code (1 : Nat) (Option.none : Option Jvm.ClassFile.FieldType)) = true := by decide +kernel
theorem zx_115 : zwd 115 (Jvm.Cond.methodLink "EverySecondWord$World" (3 : Nat) ({ cls := "java/lang/Object", name := "<init>", desc := "()V" } : Jvm.MethodName)) = true := by decide +kernel
theorem zx_116 : zwd 116 (Jvm.Cond.classLink "EverySecondWord$World" (9 : Nat) "EverySecondWord$Grammar") = true := by decide +kernel
theorem zx_117 : zwd 117 (Jvm.Cond.instantiable "EverySecondWord$Grammar" (8 : Nat)) = true := by decide +kernel
theorem zx_118 : zwn 118 (Jvm.Cond.methodLinkNest "EverySecondWord$World" (11 : Nat) ({ cls := "EverySecondWord$Grammar", name := "<init>", desc := "()V" } : Jvm.MethodName) "EverySecondWord") = true := by decide +kernel
theorem zx_119 : zwd 119 (Jvm.Cond.instanceMethod ({ cls := "EverySecondWord$Grammar", name := "<init>", desc := "()V" } : Jvm.MethodName)) = true := by decide +kernel
theorem zx_120 : zwd 120 (Jvm.Cond.code ({ cls := "EverySecondWord$Grammar", name := "<init>", desc := "()V" } : Jvm.MethodName) prog_3_method_1_code (1 : Nat) (Option.none : Option Jvm.ClassFile.FieldType)) = true := by decide +kernel
theorem zx_121 : zwd 121 (Jvm.Cond.methodLink "EverySecondWord$Grammar" (3 : Nat) ({ cls := "java/lang/Object", name := "<init>", desc := "()V" } : Jvm.MethodName)) = true := by decide +kernel
theorem zx_122 : zwd 122 (Jvm.Cond.fieldLink "EverySecondWord$Grammar" (9 : Nat) "EverySecondWord$Grammar" "from" "[I") = true := by decide +kernel
theorem zx_123 : zwd 123 (Jvm.Cond.fieldLink "EverySecondWord$Grammar" (15 : Nat) "EverySecondWord$Grammar" "by" "[I") = true := by decide +kernel
theorem zx_126 : zwd 126 (Jvm.Cond.fieldLink "EverySecondWord$Grammar" (18 : Nat) "EverySecondWord$Grammar" "to" "[I") = true := by decide +kernel
theorem zx_127 : zwd 127 (Jvm.Cond.fieldLink "EverySecondWord$Grammar" (21 : Nat) "EverySecondWord$Grammar" "mark" "[I") = true := by decide +kernel
theorem zx_128 : zwd 128 (Jvm.Cond.fieldLink "EverySecondWord$Grammar" (24 : Nat) "EverySecondWord$Grammar" "ruleBy" "[I") = true := by decide +kernel
theorem zx_129 : zwd 129 (Jvm.Cond.fieldLink "EverySecondWord$Grammar" (27 : Nat) "EverySecondWord$Grammar" "wordsFrom" "[I") = true := by decide +kernel
theorem zx_130 : zwd 130 (Jvm.Cond.fieldLink "EverySecondWord$Grammar" (30 : Nat) "EverySecondWord$Grammar" "size" "I") = true := by decide +kernel
theorem zx_134 : zwd 134 (Jvm.Cond.fieldLink "EverySecondWord$Grammar" (34 : Nat) "EverySecondWord$Grammar" "ends" "I") = true := by decide +kernel
theorem zx_153 : zwd 153 (Jvm.Cond.arrayClass Jvm.ClassFile.FieldType.int) = true := by decide +kernel
theorem zx_154 : zwd 154 (Jvm.Cond.classLink "EverySecondWord$World" (18 : Nat) "EverySecondWord$People") = true := by decide +kernel
theorem zx_155 : zwd 155 (Jvm.Cond.instantiable "EverySecondWord$People" (5 : Nat)) = true := by decide +kernel
theorem zx_156 : zwn 156 (Jvm.Cond.methodLinkNest "EverySecondWord$World" (20 : Nat) ({ cls := "EverySecondWord$People", name := "<init>", desc := "()V" } : Jvm.MethodName) "EverySecondWord") = true := by decide +kernel
theorem zx_157 : zwd 157 (Jvm.Cond.instanceMethod ({ cls := "EverySecondWord$People", name := "<init>", desc := "()V" } : Jvm.MethodName)) = true := by decide +kernel
theorem zx_158 : zwd 158 (Jvm.Cond.code ({ cls := "EverySecondWord$People", name := "<init>", desc := "()V" } : Jvm.MethodName) prog_5_method_1_code (1 : Nat) (Option.none : Option Jvm.ClassFile.FieldType)) = true := by decide +kernel
theorem zx_159 : zwd 159 (Jvm.Cond.methodLink "EverySecondWord$People" (3 : Nat) ({ cls := "java/lang/Object", name := "<init>", desc := "()V" } : Jvm.MethodName)) = true := by decide +kernel
theorem zx_160 : zwd 160 (Jvm.Cond.fieldLink "EverySecondWord$People" (9 : Nat) "EverySecondWord$People" "kinds" "[I") = true := by decide +kernel
theorem zx_161 : zwd 161 (Jvm.Cond.fieldLink "EverySecondWord$People" (15 : Nat) "EverySecondWord$People" "words" "[I") = true := by decide +kernel
theorem zx_162 : zwd 162 (Jvm.Cond.fieldLink "EverySecondWord$People" (18 : Nat) "EverySecondWord$People" "worths" "[I") = true := by decide +kernel
theorem zx_163 : zwd 163 (Jvm.Cond.fieldLink "EverySecondWord$People" (21 : Nat) "EverySecondWord$People" "turns" "[I") = true := by decide +kernel
theorem zx_164 : zwd 164 (Jvm.Cond.fieldLink "EverySecondWord$People" (24 : Nat) "EverySecondWord$People" "size" "I") = true := by decide +kernel
theorem zx_179 : zwd 179 (Jvm.Cond.classLink "EverySecondWord$World" (25 : Nat) "EverySecondWord$Talk") = true := by decide +kernel
theorem zx_180 : zwd 180 (Jvm.Cond.instantiable "EverySecondWord$Talk" (4 : Nat)) = true := by decide +kernel
theorem zx_181 : zwn 181 (Jvm.Cond.methodLinkNest "EverySecondWord$World" (27 : Nat) ({ cls := "EverySecondWord$Talk", name := "<init>", desc := "()V" } : Jvm.MethodName) "EverySecondWord") = true := by decide +kernel
theorem zx_182 : zwd 182 (Jvm.Cond.instanceMethod ({ cls := "EverySecondWord$Talk", name := "<init>", desc := "()V" } : Jvm.MethodName)) = true := by decide +kernel
theorem zx_183 : zwd 183 (Jvm.Cond.code ({ cls := "EverySecondWord$Talk", name := "<init>", desc := "()V" } : Jvm.MethodName) prog_9_method_1_code (1 : Nat) (Option.none : Option Jvm.ClassFile.FieldType)) = true := by decide +kernel
theorem zx_184 : zwd 184 (Jvm.Cond.methodLink "EverySecondWord$Talk" (3 : Nat) ({ cls := "java/lang/Object", name := "<init>", desc := "()V" } : Jvm.MethodName)) = true := by decide +kernel
theorem zx_185 : zwd 185 (Jvm.Cond.fieldLink "EverySecondWord$Talk" (9 : Nat) "EverySecondWord$Talk" "words" "[I") = true := by decide +kernel
theorem zx_186 : zwd 186 (Jvm.Cond.fieldLink "EverySecondWord$Talk" (15 : Nat) "EverySecondWord$Talk" "spots" "[I") = true := by decide +kernel
theorem zx_187 : zwd 187 (Jvm.Cond.fieldLink "EverySecondWord$Talk" (18 : Nat) "EverySecondWord$Talk" "size" "I") = true := by decide +kernel
theorem zx_191 : zwd 191 (Jvm.Cond.fieldLink "EverySecondWord$Talk" (22 : Nat) "EverySecondWord$Talk" "stopped" "Z") = true := by decide +kernel
theorem zx_206 : zwd 206 (Jvm.Cond.fieldLink "EverySecondWord$World" (12 : Nat) "EverySecondWord$World" "grammar" "LEverySecondWord$Grammar;") = true := by decide +kernel
theorem zx_211 : zwd 211 (Jvm.Cond.fieldLink "EverySecondWord$World" (21 : Nat) "EverySecondWord$World" "people" "LEverySecondWord$People;") = true := by decide +kernel
theorem zx_217 : zwd 217 (Jvm.Cond.fieldLink "EverySecondWord$World" (28 : Nat) "EverySecondWord$World" "talk" "LEverySecondWord$Talk;") = true := by decide +kernel
theorem zx_222 : zwd 222 (Jvm.Cond.fieldLink "EverySecondWord$World" (32 : Nat) "EverySecondWord$World" "length" "I") = true := by decide +kernel
theorem zx_226 : zwd 226 (Jvm.Cond.fieldLink "EverySecondWord$World" (36 : Nat) "EverySecondWord$World" "loss" "I") = true := by decide +kernel
theorem zx_241 : zwd 241 (Jvm.Cond.classLink "EverySecondWord" (16 : Nat) "EverySecondWord$Reader") = true := by decide +kernel
theorem zx_242 : zwd 242 (Jvm.Cond.instantiable "EverySecondWord$Reader" (4 : Nat)) = true := by decide +kernel
theorem zx_243 : zwn 243 (Jvm.Cond.methodLinkNest "EverySecondWord" (18 : Nat) ({ cls := "EverySecondWord$Reader", name := "<init>", desc := "()V" } : Jvm.MethodName) "EverySecondWord") = true := by decide +kernel
theorem zx_244 : zwd 244 (Jvm.Cond.instanceMethod ({ cls := "EverySecondWord$Reader", name := "<init>", desc := "()V" } : Jvm.MethodName)) = true := by decide +kernel
theorem zx_245 : zwd 245 (Jvm.Cond.code ({ cls := "EverySecondWord$Reader", name := "<init>", desc := "()V" } : Jvm.MethodName) prog_8_method_1_code (1 : Nat) (Option.none : Option Jvm.ClassFile.FieldType)) = true := by decide +kernel
theorem zx_246 : zwd 246 (Jvm.Cond.methodLink "EverySecondWord$Reader" (3 : Nat) ({ cls := "java/lang/Object", name := "<init>", desc := "()V" } : Jvm.MethodName)) = true := by decide +kernel
theorem zx_247 : zwd 247 (Jvm.Cond.classLink "EverySecondWord$Reader" (15 : Nat) "EverySecondWord$World") = true := by decide +kernel
theorem zx_248 : zwn 248 (Jvm.Cond.methodLinkNest "EverySecondWord$Reader" (17 : Nat) ({ cls := "EverySecondWord$World", name := "<init>", desc := "()V" } : Jvm.MethodName) "EverySecondWord") = true := by decide +kernel
theorem zx_249 : zwd 249 (Jvm.Cond.fieldLink "EverySecondWord$Reader" (9 : Nat) "EverySecondWord$Reader" "letters" "[I") = true := by decide +kernel
theorem zx_250 : zwd 250 (Jvm.Cond.fieldLink "EverySecondWord$Reader" (18 : Nat) "EverySecondWord$Reader" "trial" "LEverySecondWord$World;") = true := by decide +kernel
theorem zx_251 : zwd 251 (Jvm.Cond.fieldLink "EverySecondWord$Reader" (22 : Nat) "EverySecondWord$Reader" "size" "I") = true := by decide +kernel
theorem zx_253 : zwd 253 (Jvm.Cond.fieldLink "EverySecondWord$Reader" (26 : Nat) "EverySecondWord$Reader" "at" "I") = true := by decide +kernel
theorem zx_263 : zwd 263 (Jvm.Cond.classLink "EverySecondWord" (38 : Nat) "EverySecondWord$Mind") = true := by decide +kernel
theorem zx_264 : zwd 264 (Jvm.Cond.instantiable "EverySecondWord$Mind" (5 : Nat)) = true := by decide +kernel
theorem zx_265 : zwd 265 (Jvm.Cond.methodLink "EverySecondWord" (40 : Nat) ({ cls := "EverySecondWord$Mind", name := "<init>", desc := "(LEverySecondWord$World;)V" } : Jvm.MethodName)) = true := by decide +kernel
theorem zx_266 : zwd 266 (Jvm.Cond.instanceMethod ({ cls := "EverySecondWord$Mind", name := "<init>", desc := "(LEverySecondWord$World;)V" } : Jvm.MethodName)) = true := by decide +kernel
theorem zx_267 : zwd 267 (Jvm.Cond.code ({ cls := "EverySecondWord$Mind", name := "<init>", desc := "(LEverySecondWord$World;)V" } : Jvm.MethodName) prog_4_method_1_code (2 : Nat) (Option.none : Option Jvm.ClassFile.FieldType)) = true := by decide +kernel
theorem zx_268 : zwd 268 (Jvm.Cond.methodLink "EverySecondWord$Mind" (5 : Nat) ({ cls := "java/lang/Object", name := "<init>", desc := "()V" } : Jvm.MethodName)) = true := by decide +kernel
theorem zx_269 : zwd 269 (Jvm.Cond.fieldLink "EverySecondWord$Mind" (25 : Nat) "EverySecondWord$Mind" "world" "LEverySecondWord$World;") = true := by decide +kernel
theorem zx_270 : zwd 270 (Jvm.Cond.fieldLink "EverySecondWord$Mind" (11 : Nat) "EverySecondWord$Mind" "ends" "[I") = true := by decide +kernel
theorem zx_271 : zwd 271 (Jvm.Cond.fieldLink "EverySecondWord$Mind" (15 : Nat) "EverySecondWord$Mind" "dreams" "[I") = true := by decide +kernel
theorem zx_272 : zwd 272 (Jvm.Cond.fieldLink "EverySecondWord$Mind" (18 : Nat) "EverySecondWord$Mind" "worths" "[I") = true := by decide +kernel
theorem zx_273 : zwd 273 (Jvm.Cond.fieldLink "EverySecondWord$Mind" (21 : Nat) "EverySecondWord$Mind" "age" "I") = true := by decide +kernel
theorem zx_285 : zwd 285 (Jvm.Cond.classLink "EverySecondWord" (50 : Nat) "EverySecondWord$Beginnings") = true := by decide +kernel
theorem zx_286 : zwd 286 (Jvm.Cond.instantiable "EverySecondWord$Beginnings" (3 : Nat)) = true := by decide +kernel
theorem zx_287 : zwd 287 (Jvm.Cond.methodLink "EverySecondWord" (52 : Nat) ({ cls := "EverySecondWord$Beginnings", name := "<init>", desc := "(LEverySecondWord$World;LEverySecondWord$Mind;)V" } : Jvm.MethodName)) = true := by decide +kernel
theorem zx_288 : zwd 288 (Jvm.Cond.instanceMethod ({ cls := "EverySecondWord$Beginnings", name := "<init>", desc := "(LEverySecondWord$World;LEverySecondWord$Mind;)V" } : Jvm.MethodName)) = true := by decide +kernel
theorem zx_289 : zwd 289 (Jvm.Cond.code ({ cls := "EverySecondWord$Beginnings", name := "<init>", desc := "(LEverySecondWord$World;LEverySecondWord$Mind;)V" } : Jvm.MethodName) prog_2_method_1_code (3 : Nat) (Option.none : Option Jvm.ClassFile.FieldType)) = true := by decide +kernel
theorem zx_290 : zwd 290 (Jvm.Cond.methodLink "EverySecondWord$Beginnings" (3 : Nat) ({ cls := "java/lang/Object", name := "<init>", desc := "()V" } : Jvm.MethodName)) = true := by decide +kernel
theorem zx_291 : zwd 291 (Jvm.Cond.fieldLink "EverySecondWord$Beginnings" (15 : Nat) "EverySecondWord$Beginnings" "world" "LEverySecondWord$World;") = true := by decide +kernel
theorem zx_292 : zwd 292 (Jvm.Cond.fieldLink "EverySecondWord$Beginnings" (19 : Nat) "EverySecondWord$Beginnings" "mind" "LEverySecondWord$Mind;") = true := by decide +kernel
theorem zx_293 : zwd 293 (Jvm.Cond.fieldLink "EverySecondWord$Beginnings" (9 : Nat) "EverySecondWord$Beginnings" "seed" "I") = true := by decide +kernel
theorem zx_301 : zwd 301 (Jvm.Cond.classLink "EverySecondWord" (59 : Nat) "EverySecondWord$Power") = true := by decide +kernel
theorem zx_302 : zwd 302 (Jvm.Cond.instantiable "EverySecondWord$Power" (8 : Nat)) = true := by decide +kernel
theorem zx_303 : zwd 303 (Jvm.Cond.methodLink "EverySecondWord" (61 : Nat) ({ cls := "EverySecondWord$Power", name := "<init>", desc := "(LEverySecondWord$World;LEverySecondWord$Mind;)V" } : Jvm.MethodName)) = true := by decide +kernel
theorem zx_304 : zwd 304 (Jvm.Cond.instanceMethod ({ cls := "EverySecondWord$Power", name := "<init>", desc := "(LEverySecondWord$World;LEverySecondWord$Mind;)V" } : Jvm.MethodName)) = true := by decide +kernel
theorem zx_305 : zwd 305 (Jvm.Cond.code ({ cls := "EverySecondWord$Power", name := "<init>", desc := "(LEverySecondWord$World;LEverySecondWord$Mind;)V" } : Jvm.MethodName) prog_6_method_1_code (3 : Nat) (Option.none : Option Jvm.ClassFile.FieldType)) = true := by decide +kernel
theorem zx_306 : zwd 306 (Jvm.Cond.methodLink "EverySecondWord$Power" (3 : Nat) ({ cls := "java/lang/Object", name := "<init>", desc := "()V" } : Jvm.MethodName)) = true := by decide +kernel
theorem zx_307 : zwd 307 (Jvm.Cond.fieldLink "EverySecondWord$Power" (34 : Nat) "EverySecondWord$Power" "world" "LEverySecondWord$World;") = true := by decide +kernel
theorem zx_308 : zwd 308 (Jvm.Cond.fieldLink "EverySecondWord$Power" (38 : Nat) "EverySecondWord$Power" "mind" "LEverySecondWord$Mind;") = true := by decide +kernel
theorem zx_309 : zwd 309 (Jvm.Cond.fieldLink "EverySecondWord$Power" (9 : Nat) "EverySecondWord$Power" "sets" "[J") = true := by decide +kernel
theorem zx_310 : zwd 310 (Jvm.Cond.fieldLink "EverySecondWord$Power" (15 : Nat) "EverySecondWord$Power" "lengths" "[I") = true := by decide +kernel
theorem zx_311 : zwd 311 (Jvm.Cond.fieldLink "EverySecondWord$Power" (19 : Nat) "EverySecondWord$Power" "person" "I") = true := by decide +kernel
theorem zx_312 : zwd 312 (Jvm.Cond.fieldLink "EverySecondWord$Power" (23 : Nat) "EverySecondWord$Power" "goodMeanings" "J") = true := by decide +kernel
theorem zx_313 : zwd 313 (Jvm.Cond.fieldLink "EverySecondWord$Power" (27 : Nat) "EverySecondWord$Power" "stuckIsGood" "Z") = true := by decide +kernel
theorem zx_314 : zwd 314 (Jvm.Cond.fieldLink "EverySecondWord$Power" (31 : Nat) "EverySecondWord$Power" "goneRules" "I") = true := by decide +kernel
theorem zx_332 : zwd 332 (Jvm.Cond.arrayClass Jvm.ClassFile.FieldType.long) = true := by decide +kernel
theorem zx_333 : zwd 333 (Jvm.Cond.classLink "EverySecondWord" (66 : Nat) "EverySecondWord$Reach") = true := by decide +kernel
theorem zx_334 : zwd 334 (Jvm.Cond.instantiable "EverySecondWord$Reach" (4 : Nat)) = true := by decide +kernel
theorem zx_335 : zwd 335 (Jvm.Cond.methodLink "EverySecondWord" (68 : Nat) ({ cls := "EverySecondWord$Reach", name := "<init>", desc := "(LEverySecondWord$World;)V" } : Jvm.MethodName)) = true := by decide +kernel
theorem zx_336 : zwd 336 (Jvm.Cond.instanceMethod ({ cls := "EverySecondWord$Reach", name := "<init>", desc := "(LEverySecondWord$World;)V" } : Jvm.MethodName)) = true := by decide +kernel
theorem zx_337 : zwd 337 (Jvm.Cond.code ({ cls := "EverySecondWord$Reach", name := "<init>", desc := "(LEverySecondWord$World;)V" } : Jvm.MethodName) prog_7_method_1_code (2 : Nat) (Option.none : Option Jvm.ClassFile.FieldType)) = true := by decide +kernel
theorem zx_338 : zwd 338 (Jvm.Cond.methodLink "EverySecondWord$Reach" (3 : Nat) ({ cls := "java/lang/Object", name := "<init>", desc := "()V" } : Jvm.MethodName)) = true := by decide +kernel
theorem zx_339 : zwd 339 (Jvm.Cond.fieldLink "EverySecondWord$Reach" (23 : Nat) "EverySecondWord$Reach" "world" "LEverySecondWord$World;") = true := by decide +kernel
theorem zx_340 : zwd 340 (Jvm.Cond.fieldLink "EverySecondWord$Reach" (9 : Nat) "EverySecondWord$Reach" "sets" "[J") = true := by decide +kernel
theorem zx_341 : zwd 341 (Jvm.Cond.fieldLink "EverySecondWord$Reach" (15 : Nat) "EverySecondWord$Reach" "meanings" "J") = true := by decide +kernel
theorem zx_343 : zwd 343 (Jvm.Cond.fieldLink "EverySecondWord$Reach" (19 : Nat) "EverySecondWord$Reach" "stuck" "Z") = true := by decide +kernel
theorem zx_354 : zwd 354 (Jvm.Cond.fieldLink "EverySecondWord" (43 : Nat) "EverySecondWord" "world" "LEverySecondWord$World;") = true := by decide +kernel
theorem zx_355 : zwd 355 (Jvm.Cond.fieldLink "EverySecondWord" (10 : Nat) "EverySecondWord" "image" "LEverySecondWord$World;") = true := by decide +kernel
theorem zx_356 : zwd 356 (Jvm.Cond.fieldLink "EverySecondWord" (19 : Nat) "EverySecondWord" "reader" "LEverySecondWord$Reader;") = true := by decide +kernel
theorem zx_357 : zwd 357 (Jvm.Cond.fieldLink "EverySecondWord" (46 : Nat) "EverySecondWord" "mind" "LEverySecondWord$Mind;") = true := by decide +kernel
theorem zx_358 : zwd 358 (Jvm.Cond.fieldLink "EverySecondWord" (55 : Nat) "EverySecondWord" "beginnings" "LEverySecondWord$Beginnings;") = true := by decide +kernel
theorem zx_359 : zwd 359 (Jvm.Cond.fieldLink "EverySecondWord" (62 : Nat) "EverySecondWord" "power" "LEverySecondWord$Power;") = true := by decide +kernel
theorem zx_360 : zwd 360 (Jvm.Cond.fieldLink "EverySecondWord" (69 : Nat) "EverySecondWord" "reach" "LEverySecondWord$Reach;") = true := by decide +kernel
theorem zx_361 : zwd 361 (Jvm.Cond.fieldLink "EverySecondWord" (23 : Nat) "EverySecondWord" "row" "[I") = true := by decide +kernel
theorem zx_362 : zwd 362 (Jvm.Cond.fieldLink "EverySecondWord" (27 : Nat) "EverySecondWord" "refusals" "[I") = true := by decide +kernel
theorem zx_363 : zwd 363 (Jvm.Cond.fieldLink "EverySecondWord" (30 : Nat) "EverySecondWord" "rowSize" "I") = true := by decide +kernel
theorem zx_364 : zwd 364 (Jvm.Cond.fieldLink "EverySecondWord" (34 : Nat) "EverySecondWord" "hasImage" "Z") = true := by decide +kernel
theorem zx_1120 : zwd 1120 (Jvm.Cond.code ({ cls := "EverySecondWordModel", name := "<init>", desc := "()V" } : Jvm.MethodName) prog_12_method_1_code (1 : Nat) (Option.none : Option Jvm.ClassFile.FieldType)) = true := by decide +kernel
theorem zx_1121 : zwd 1121 (Jvm.Cond.methodLink "EverySecondWordModel" (1 : Nat) ({ cls := "java/lang/Object", name := "<init>", desc := "()V" } : Jvm.MethodName)) = true := by decide +kernel
theorem zx_1122 : zwd 1122 (Jvm.Cond.fieldLink "EverySecondWordModel" (7 : Nat) "EverySecondWordModel" "refused" "[I") = true := by decide +kernel
theorem zx_1123 : zwd 1123 (Jvm.Cond.fieldLink "EverySecondWordModel" (13 : Nat) "EverySecondWordModel" "ruleFrom" "[I") = true := by decide +kernel
theorem zx_1124 : zwd 1124 (Jvm.Cond.fieldLink "EverySecondWordModel" (16 : Nat) "EverySecondWordModel" "ruleBy" "[I") = true := by decide +kernel
theorem zx_1125 : zwd 1125 (Jvm.Cond.fieldLink "EverySecondWordModel" (19 : Nat) "EverySecondWordModel" "ruleTo" "[I") = true := by decide +kernel
theorem zx_1126 : zwd 1126 (Jvm.Cond.fieldLink "EverySecondWordModel" (22 : Nat) "EverySecondWordModel" "ruleMark" "[I") = true := by decide +kernel
theorem zx_1127 : zwd 1127 (Jvm.Cond.fieldLink "EverySecondWordModel" (25 : Nat) "EverySecondWordModel" "kind" "[I") = true := by decide +kernel
theorem zx_1128 : zwd 1128 (Jvm.Cond.fieldLink "EverySecondWordModel" (28 : Nat) "EverySecondWordModel" "words" "[I") = true := by decide +kernel
theorem zx_1129 : zwd 1129 (Jvm.Cond.fieldLink "EverySecondWordModel" (31 : Nat) "EverySecondWordModel" "worth" "[I") = true := by decide +kernel
theorem zx_1130 : zwd 1130 (Jvm.Cond.fieldLink "EverySecondWordModel" (34 : Nat) "EverySecondWordModel" "order" "[I") = true := by decide +kernel
theorem zx_1131 : zwd 1131 (Jvm.Cond.fieldLink "EverySecondWordModel" (37 : Nat) "EverySecondWordModel" "said" "[I") = true := by decide +kernel
theorem zx_1135 : zwd 1135 (Jvm.Cond.fieldLink "EverySecondWordModel" (40 : Nat) "EverySecondWordModel" "length" "I") = true := by decide +kernel
theorem zx_1136 : zwd 1136 (Jvm.Cond.fieldLink "EverySecondWordModel" (44 : Nat) "EverySecondWordModel" "loss" "I") = true := by decide +kernel
theorem zx_1141 : zwd 1141 (Jvm.Cond.fieldLink "EverySecondWordModel" (47 : Nat) "EverySecondWordModel" "tape" "[I") = true := by decide +kernel
theorem zx_1142 : zwd 1142 (Jvm.Cond.fieldLink "EverySecondWordModel" (50 : Nat) "EverySecondWordModel" "letter" "[I") = true := by decide +kernel
theorem zx_1143 : zwd 1143 (Jvm.Cond.fieldLink "EverySecondWordModel" (53 : Nat) "EverySecondWordModel" "letterAt" "[I") = true := by decide +kernel
theorem zx_1144 : zwd 1144 (Jvm.Cond.fieldLink "EverySecondWordModel" (56 : Nat) "EverySecondWordModel" "one" "[I") = true := by decide +kernel
theorem zx_1145 : zwd 1145 (Jvm.Cond.fieldLink "EverySecondWordModel" (59 : Nat) "EverySecondWordModel" "two" "[I") = true := by decide +kernel
theorem zx_1146 : zwd 1146 (Jvm.Cond.fieldLink "EverySecondWordModel" (62 : Nat) "EverySecondWordModel" "three" "[I") = true := by decide +kernel
theorem zx_1147 : zwd 1147 (Jvm.Cond.fieldLink "EverySecondWordModel" (65 : Nat) "EverySecondWordModel" "four" "[I") = true := by decide +kernel
theorem zx_1151 : zwd 1151 (Jvm.Cond.fieldLink "EverySecondWordModel" (68 : Nat) "EverySecondWordModel" "kept" "[I") = true := by decide +kernel
theorem zx_1156 : zwd 1156 (Jvm.Cond.fieldLink "EverySecondWordModel" (71 : Nat) "EverySecondWordModel" "mayTable" "[I") = true := by decide +kernel
theorem zx_1157 : zwd 1157 (Jvm.Cond.fieldLink "EverySecondWordModel" (74 : Nat) "EverySecondWordModel" "toTable" "[I") = true := by decide +kernel
theorem zx_1158 : zwd 1158 (Jvm.Cond.fieldLink "EverySecondWordModel" (77 : Nat) "EverySecondWordModel" "markTable" "[I") = true := by decide +kernel
theorem zx_1159 : zwd 1159 (Jvm.Cond.fieldLink "EverySecondWordModel" (80 : Nat) "EverySecondWordModel" "worthTable" "[I") = true := by decide +kernel
theorem zx_1160 : zwd 1160 (Jvm.Cond.fieldLink "EverySecondWordModel" (83 : Nat) "EverySecondWordModel" "endOf" "[I") = true := by decide +kernel
theorem zx_1161 : zwd 1161 (Jvm.Cond.fieldLink "EverySecondWordModel" (86 : Nat) "EverySecondWordModel" "wordsOf" "[I") = true := by decide +kernel
theorem zx_1162 : zwd 1162 (Jvm.Cond.fieldLink "EverySecondWordModel" (89 : Nat) "EverySecondWordModel" "mindOf" "[I") = true := by decide +kernel
theorem zx_1163 : zwd 1163 (Jvm.Cond.fieldLink "EverySecondWordModel" (92 : Nat) "EverySecondWordModel" "sureOf" "[I") = true := by decide +kernel
theorem zx_1164 : zwd 1164 (Jvm.Cond.fieldLink "EverySecondWordModel" (95 : Nat) "EverySecondWordModel" "meant" "[J") = true := by decide +kernel
theorem zx_1165 : zwd 1165 (Jvm.Cond.fieldLink "EverySecondWordModel" (99 : Nat) "EverySecondWordModel" "mayStick" "[Z") = true := by decide +kernel
theorem zx_1166 : zwd 1166 (Jvm.Cond.fieldLink "EverySecondWordModel" (103 : Nat) "EverySecondWordModel" "row" "[I") = true := by decide +kernel
theorem zx_1264 : zwd 1264 (Jvm.Cond.arrayClass Jvm.ClassFile.FieldType.boolean) = true := by decide +kernel
theorem zNN_call {U : State} {g : JFrame} {mk : MethodId} {a : Array Value} (h : zNN U) : zNN (U.calling g mk a) := by
  intro w hw
  have hn : w.onTables = true := by
    have := (List.mem_filter.mp hw).2
    cases w <;> first | rfl | (simp [znest] at this)
  exact va_Nw.same (u := U) (U := U.calling g mk a) hn rfl (h w hw)
section ZWN
variable {p : Program} {l : Launch} {e : Env} {R : Room} {s : State} {m : MethodId} {args : Array Value} {below : List Frame} {meth : Method} {c : Code} {H : Heap} {locs : List Loc} {cells slots : Nat} {Q : State → Prop}
variable {pc : Nat} {ls : Array Slot} {rest : List Value} {cc : ByteArray} {D : va_G} {cl : List vw_C} {tys : List (ClassId × FieldType)} {ws : va_W} {A : Nat → Prop} {H0 : Heap}
/-- a new row of a class that is known -/
theorem zw_newa (hexec : p.tables.exec = Jvm.exec) (hb : c.code = cc) {atype : ArrayType} {ty : FieldType} {cI : ClassId} {t0 : Nat} (harr : (Jvm.Cond.arrayClass (newarray.typeOf atype)).before args s = true) (hty : newarray.typeOf atype = ty) (hK : va_K D cl tys s) (ht0 : tys[t0]? = some (cI, ty)) (hP : va_P D cl ws H) (hD : va_D A ws) (hS : va_S A H0 H locs) (hA : ∀ q, H0.size ≤ q → A q)
    {n : Int32} {N' : Nat} {a0 : vp_A} (ha : ∀ cA : ClassId, vp_cell cA a0 = arrV cA N' (fun _ => defaultValue ty)) (hn : ¬ n < 0) (hN : n.toNatClampNeg = N') (hbytes : N' * componentBytes ty ≤ 536870912) (hcells : cells + 1 ≤ R.cells) (hslots : slots + N' ≤ R.slots) (hdg : decode cc pc = .ok (.newarray atype, 2))
    (kk : ∀ (q : Nat) (H1 : Heap), va_P D cl (ws ++ [(q, .inl (cI, a0))]) H1 → va_D A (ws ++ [(q, .inl (cI, a0))]) → va_S A H0 H1 locs →
      W p l e R s m args below meth c H1 locs (cells + 1) (slots + N') Q (F0 m (pc + 2) ls (.ref q :: rest))) : W p l e R s m args below meth c H locs cells slots Q (F0 m pc ls (.int n :: rest)) := by
  refine va_newa hexec hb harr hty hK hP hD hS hA ha hn hN hbytes hcells hslots hdg (fun q cA H1 hK1 hP1 hD1 hS1 => ?_)
  have h1 := (hK1.2 tys.length (cA, ty) (by simp)).2
  have h2 := (hK.2 t0 (cI, ty) ht0).2
  have hob : ∀ C, ty ≠ .object C := by
    intro C hC
    subst hty
    cases atype <;> cases hC
  have e : cA = cI := by
    cases ty <;> first | exact absurd rfl (hob _) | exact Option.some.inj (h1.symm.trans h2)
  subst e
  exact kk q H1 hP1 hD1 hS1
end ZWN
theorem zd_X1_init_0 : decode cX1_init 0 = .ok (.aload_n 0, 1) := by decide +kernel
theorem zd_X1_init_1 : decode cX1_init 1 = .ok (.invokespecial 3, 3) := by decide +kernel
theorem zd_X1_init_4 : decode cX1_init 4 = .ok (.aload_n 0, 1) := by decide +kernel
theorem zd_X1_init_5 : decode cX1_init 5 = .ok (.bipush 24, 2) := by decide +kernel
theorem zd_X1_init_7 : decode cX1_init 7 = .ok (.newarray .int, 2) := by decide +kernel
theorem zd_X1_init_9 : decode cX1_init 9 = .ok (.putfield 9, 3) := by decide +kernel
theorem zd_X1_init_12 : decode cX1_init 12 = .ok (.aload_n 0, 1) := by decide +kernel
theorem zd_X1_init_13 : decode cX1_init 13 = .ok (.bipush 24, 2) := by decide +kernel
theorem zd_X1_init_15 : decode cX1_init 15 = .ok (.newarray .int, 2) := by decide +kernel
theorem zd_X1_init_17 : decode cX1_init 17 = .ok (.putfield 15, 3) := by decide +kernel
theorem zd_X1_init_20 : decode cX1_init 20 = .ok (.aload_n 0, 1) := by decide +kernel
theorem zd_X1_init_21 : decode cX1_init 21 = .ok (.bipush 24, 2) := by decide +kernel
theorem zd_X1_init_23 : decode cX1_init 23 = .ok (.newarray .int, 2) := by decide +kernel
theorem zd_X1_init_25 : decode cX1_init 25 = .ok (.putfield 18, 3) := by decide +kernel
theorem zd_X1_init_28 : decode cX1_init 28 = .ok (.aload_n 0, 1) := by decide +kernel
theorem zd_X1_init_29 : decode cX1_init 29 = .ok (.bipush 24, 2) := by decide +kernel
theorem zd_X1_init_31 : decode cX1_init 31 = .ok (.newarray .int, 2) := by decide +kernel
theorem zd_X1_init_33 : decode cX1_init 33 = .ok (.putfield 21, 3) := by decide +kernel
theorem zd_X1_init_36 : decode cX1_init 36 = .ok (.aload_n 0, 1) := by decide +kernel
theorem zd_X1_init_37 : decode cX1_init 37 = .ok (.bipush 64, 2) := by decide +kernel
theorem zd_X1_init_39 : decode cX1_init 39 = .ok (.newarray .int, 2) := by decide +kernel
theorem zd_X1_init_41 : decode cX1_init 41 = .ok (.putfield 24, 3) := by decide +kernel
theorem zd_X1_init_44 : decode cX1_init 44 = .ok (.aload_n 0, 1) := by decide +kernel
theorem zd_X1_init_45 : decode cX1_init 45 = .ok (.bipush 8, 2) := by decide +kernel
theorem zd_X1_init_47 : decode cX1_init 47 = .ok (.newarray .int, 2) := by decide +kernel
theorem zd_X1_init_49 : decode cX1_init 49 = .ok (.putfield 27, 3) := by decide +kernel
theorem zd_X1_init_52 : decode cX1_init 52 = .ok (.aload_n 0, 1) := by decide +kernel
theorem zd_X1_init_53 : decode cX1_init 53 = .ok (.iconst 0, 1) := by decide +kernel
theorem zd_X1_init_54 : decode cX1_init 54 = .ok (.putfield 30, 3) := by decide +kernel
theorem zd_X1_init_57 : decode cX1_init 57 = .ok (.aload_n 0, 1) := by decide +kernel
theorem zd_X1_init_58 : decode cX1_init 58 = .ok (.iconst 0, 1) := by decide +kernel
theorem zd_X1_init_59 : decode cX1_init 59 = .ok (.putfield 34, 3) := by decide +kernel
theorem zd_X1_init_62 : decode cX1_init 62 = .ok (.return_, 1) := by decide +kernel
set_option maxHeartbeats 4000000 in
set_option maxRecDepth 100000 in
/-- EverySecondWord$Grammar: 6 cells of 168 slots come -/
theorem zc_X1_init (l : Launch) (dC : Nat → ClassId) (dI : Nat → Nat → Nat) (cI cL cZ : ClassId) (h0 : Nat) (sz : Nat) : Met l yX1_init (Jvm.Cond.code yX1_init cX1_init 1 none :: zTb) ({ frames := 1, cells := 6, slots := 168, locals := 12 }) (va_Pc [.ref h0] (fun U => U.heap.size = sz ∧ va_P (dC, dI) vwCl [(h0, .inr (1, [.null, .null, .null, .null, .null, .null, .int 0, .int 0]))] U.heap ∧ va_K (dC, dI) vwCl [(cI, .int), (cL, .long), (cZ, .boolean)] U ∧ va_D (fun _ => True) [(h0, .inr (1, [.null, .null, .null, .null, .null, .null, .int 0, .int 0]))] ∧ zNN U)) (va_Qv (fun _ : Unit => True) (fun _ t => ∃ q1 q2 q3 q4 q5 q6 : Nat, va_P (dC, dI) vwCl [(h0, .inr (1, [.ref q1, .ref q2, .ref q3, .ref q4, .ref q5, .ref q6, .int 0, .int 0])), (q1, .inl (cI, 24, .inl (fun _ => 0))), (q2, .inl (cI, 24, .inl (fun _ => 0))), (q3, .inl (cI, 24, .inl (fun _ => 0))), (q4, .inl (cI, 24, .inl (fun _ => 0))), (q5, .inl (cI, 64, .inl (fun _ => 0))), (q6, .inl (cI, 8, .inl (fun _ => 0)))] t.heap ∧ va_D (va_A [(h0, .inr (1, [.null, .null, .null, .null, .null, .null, .int 0, .int 0]))] sz) [(h0, .inr (1, [.ref q1, .ref q2, .ref q3, .ref q4, .ref q5, .ref q6, .int 0, .int 0])), (q1, .inl (cI, 24, .inl (fun _ => 0))), (q2, .inl (cI, 24, .inl (fun _ => 0))), (q3, .inl (cI, 24, .inl (fun _ => 0))), (q4, .inl (cI, 24, .inl (fun _ => 0))), (q5, .inl (cI, 64, .inl (fun _ => 0))), (q6, .inl (cI, 8, .inl (fun _ => 0)))]) (va_A [(h0, .inr (1, [.null, .null, .null, .null, .null, .null, .int 0, .int 0]))] sz)) 6 168 (va_A [(h0, .inr (1, [.null, .null, .null, .null, .null, .null, .int 0, .int 0]))] sz) := by
  refine Met.ofW (cc := cX1_init) (maxL := 1) (ret := none) (by decide) rfl ?_
  intro p e s m args below meth c s₁ B hml hv
  obtain ⟨rfl, hsz, hP, hK, hD0, hN⟩ := hv
  have hx := B.exec
  have hb := B.bytes
  have hr := B.returns
  have hts0 := atoms_spec (ws := Jvm.Cond.code yX1_init cX1_init 1 none :: zTb) B.pre
  have hts : ∀ w ∈ zTb, w.before (([.ref h0] : List Value).toArray) s = true := fun w hw => hts0 w (List.mem_cons_of_mem _ hw)
  have hown : s.vm.findClass RX1 = some m.cls := findClass_of_methodNamed B.named
  have hlocks := B.notSynchronized
  have hin : meth.name = "<init>" := (name_of_methodNamed B.named B.method).1
  subst hsz
  have hD := hD0.self (sz := s.heap.size)
  generalize hAe : va_A [(h0, .inr (1, [.null, .null, .null, .null, .null, .null, .int 0, .int 0]))] s.heap.size = A at hD ⊢
  have hA : ∀ q : Nat, s.heap.size ≤ q → A q := fun q h => by rw [← hAe]; exact Or.inr h
  have hS : va_S A s.heap s.heap [] := va_S.rf
  have hP : va_P (dC, dI) vwCl [(h0, .inr (1, [.null, .null, .null, .null, .null, .null, .int 0, .int 0]))] s.heap := hP
  have hl := lv_entry ([.ref h0]) (n := 1) (Nat.le_of_ble_eq_true rfl)
  rw [lg_entry_eq]
  generalize (lg_sl ([.ref h0]) ++ List.replicate (1 - (lg_sl ([.ref h0])).length) Slot.unset).toArray = ls at hl ⊢
  have hl : lv_has ls 1 [(0, .ref h0)] := hl
  refine lv_aload_n hx hb (zd_X1_init_0) rfl (lv_at hl 0 rfl) ?_
  refine W.objInit hx hb hown (hts _ (zwd_in zx_121)) (hts _ (zwd_in zx_108)) (hts _ (zwd_in zx_109)) rfl (by rw [hml]; exact hl.1) rfl (zd_X1_init_1) (Nat.le_of_ble_eq_true rfl) (Nat.le_of_ble_eq_true rfl) ?_
  refine W.eq (g2 := F0 m 4 ls []) rfl ?_
  refine lv_aload_n hx hb (zd_X1_init_4) rfl (lv_at hl 0 rfl) ?_
  refine lv_bipush (v := 24) hx hb (zd_X1_init_5) (by decide) ?_
  refine zw_newa (atype := .int) (ty := .int) (cI := cI) (t0 := 0) hx hb (hts _ (zwd_in zx_153)) rfl hK rfl hP hD hS hA (a0 := (24, .inl (fun _ => 0))) (fun cA => by first | rfl | (simp [vp_cell, arrV]; rfl)) (by decide) (by decide) (Nat.le_of_ble_eq_true rfl) (Nat.le_of_ble_eq_true rfl) (Nat.le_of_ble_eq_true rfl) (zd_X1_init_7) (fun q1 H hP hD hS => ?_)
  have hP : va_P (dC, dI) vwCl [(h0, .inr (1, [.null, .null, .null, .null, .null, .null, .int 0, .int 0])), (q1, .inl (cI, 24, .inl (fun _ => 0)))] H := hP
  have hD : va_D A [(h0, .inr (1, [.null, .null, .null, .null, .null, .null, .int 0, .int 0])), (q1, .inl (cI, 24, .inl (fun _ => 0)))] := hD
  refine va_putF (D := (dC, dI)) (ci := 1) (C := RX1) (T := TX1) (N := 8) (v := .ref q1) (ty := tyX1 0) hx hb hts zin_1 tyX1 tyX1_ok nmX1 hown hK hP hD hS 0 rfl rfl 0 (by decide) (hts _ (zwd_in zx_122)) (fun _ h9 => h9) rfl hin rfl (tyX1_ok 0 (by decide)) rfl rfl (Nat.le_of_ble_eq_true rfl) (zd_X1_init_9) (fun H locs hP hD hS => ?_)
  have hP : va_P (dC, dI) vwCl [(h0, .inr (1, [.ref q1, .null, .null, .null, .null, .null, .int 0, .int 0])), (q1, .inl (cI, 24, .inl (fun _ => 0)))] H := hP
  have hD : va_D A [(h0, .inr (1, [.ref q1, .null, .null, .null, .null, .null, .int 0, .int 0])), (q1, .inl (cI, 24, .inl (fun _ => 0)))] := hD
  refine lv_aload_n hx hb (zd_X1_init_12) rfl (lv_at hl 0 rfl) ?_
  refine lv_bipush (v := 24) hx hb (zd_X1_init_13) (by decide) ?_
  refine zw_newa (atype := .int) (ty := .int) (cI := cI) (t0 := 0) hx hb (hts _ (zwd_in zx_153)) rfl hK rfl hP hD hS hA (a0 := (24, .inl (fun _ => 0))) (fun cA => by first | rfl | (simp [vp_cell, arrV]; rfl)) (by decide) (by decide) (Nat.le_of_ble_eq_true rfl) (Nat.le_of_ble_eq_true rfl) (Nat.le_of_ble_eq_true rfl) (zd_X1_init_15) (fun q2 H hP hD hS => ?_)
  have hP : va_P (dC, dI) vwCl [(h0, .inr (1, [.ref q1, .null, .null, .null, .null, .null, .int 0, .int 0])), (q1, .inl (cI, 24, .inl (fun _ => 0))), (q2, .inl (cI, 24, .inl (fun _ => 0)))] H := hP
  have hD : va_D A [(h0, .inr (1, [.ref q1, .null, .null, .null, .null, .null, .int 0, .int 0])), (q1, .inl (cI, 24, .inl (fun _ => 0))), (q2, .inl (cI, 24, .inl (fun _ => 0)))] := hD
  refine va_putF (D := (dC, dI)) (ci := 1) (C := RX1) (T := TX1) (N := 8) (v := .ref q2) (ty := tyX1 1) hx hb hts zin_1 tyX1 tyX1_ok nmX1 hown hK hP hD hS 0 rfl rfl 1 (by decide) (hts _ (zwd_in zx_123)) (fun _ h9 => h9) rfl hin rfl (tyX1_ok 1 (by decide)) rfl rfl (Nat.le_of_ble_eq_true rfl) (zd_X1_init_17) (fun H locs hP hD hS => ?_)
  have hP : va_P (dC, dI) vwCl [(h0, .inr (1, [.ref q1, .ref q2, .null, .null, .null, .null, .int 0, .int 0])), (q1, .inl (cI, 24, .inl (fun _ => 0))), (q2, .inl (cI, 24, .inl (fun _ => 0)))] H := hP
  have hD : va_D A [(h0, .inr (1, [.ref q1, .ref q2, .null, .null, .null, .null, .int 0, .int 0])), (q1, .inl (cI, 24, .inl (fun _ => 0))), (q2, .inl (cI, 24, .inl (fun _ => 0)))] := hD
  refine lv_aload_n hx hb (zd_X1_init_20) rfl (lv_at hl 0 rfl) ?_
  refine lv_bipush (v := 24) hx hb (zd_X1_init_21) (by decide) ?_
  refine zw_newa (atype := .int) (ty := .int) (cI := cI) (t0 := 0) hx hb (hts _ (zwd_in zx_153)) rfl hK rfl hP hD hS hA (a0 := (24, .inl (fun _ => 0))) (fun cA => by first | rfl | (simp [vp_cell, arrV]; rfl)) (by decide) (by decide) (Nat.le_of_ble_eq_true rfl) (Nat.le_of_ble_eq_true rfl) (Nat.le_of_ble_eq_true rfl) (zd_X1_init_23) (fun q3 H hP hD hS => ?_)
  have hP : va_P (dC, dI) vwCl [(h0, .inr (1, [.ref q1, .ref q2, .null, .null, .null, .null, .int 0, .int 0])), (q1, .inl (cI, 24, .inl (fun _ => 0))), (q2, .inl (cI, 24, .inl (fun _ => 0))), (q3, .inl (cI, 24, .inl (fun _ => 0)))] H := hP
  have hD : va_D A [(h0, .inr (1, [.ref q1, .ref q2, .null, .null, .null, .null, .int 0, .int 0])), (q1, .inl (cI, 24, .inl (fun _ => 0))), (q2, .inl (cI, 24, .inl (fun _ => 0))), (q3, .inl (cI, 24, .inl (fun _ => 0)))] := hD
  refine va_putF (D := (dC, dI)) (ci := 1) (C := RX1) (T := TX1) (N := 8) (v := .ref q3) (ty := tyX1 2) hx hb hts zin_1 tyX1 tyX1_ok nmX1 hown hK hP hD hS 0 rfl rfl 2 (by decide) (hts _ (zwd_in zx_126)) (fun _ h9 => h9) rfl hin rfl (tyX1_ok 2 (by decide)) rfl rfl (Nat.le_of_ble_eq_true rfl) (zd_X1_init_25) (fun H locs hP hD hS => ?_)
  have hP : va_P (dC, dI) vwCl [(h0, .inr (1, [.ref q1, .ref q2, .ref q3, .null, .null, .null, .int 0, .int 0])), (q1, .inl (cI, 24, .inl (fun _ => 0))), (q2, .inl (cI, 24, .inl (fun _ => 0))), (q3, .inl (cI, 24, .inl (fun _ => 0)))] H := hP
  have hD : va_D A [(h0, .inr (1, [.ref q1, .ref q2, .ref q3, .null, .null, .null, .int 0, .int 0])), (q1, .inl (cI, 24, .inl (fun _ => 0))), (q2, .inl (cI, 24, .inl (fun _ => 0))), (q3, .inl (cI, 24, .inl (fun _ => 0)))] := hD
  refine lv_aload_n hx hb (zd_X1_init_28) rfl (lv_at hl 0 rfl) ?_
  refine lv_bipush (v := 24) hx hb (zd_X1_init_29) (by decide) ?_
  refine zw_newa (atype := .int) (ty := .int) (cI := cI) (t0 := 0) hx hb (hts _ (zwd_in zx_153)) rfl hK rfl hP hD hS hA (a0 := (24, .inl (fun _ => 0))) (fun cA => by first | rfl | (simp [vp_cell, arrV]; rfl)) (by decide) (by decide) (Nat.le_of_ble_eq_true rfl) (Nat.le_of_ble_eq_true rfl) (Nat.le_of_ble_eq_true rfl) (zd_X1_init_31) (fun q4 H hP hD hS => ?_)
  have hP : va_P (dC, dI) vwCl [(h0, .inr (1, [.ref q1, .ref q2, .ref q3, .null, .null, .null, .int 0, .int 0])), (q1, .inl (cI, 24, .inl (fun _ => 0))), (q2, .inl (cI, 24, .inl (fun _ => 0))), (q3, .inl (cI, 24, .inl (fun _ => 0))), (q4, .inl (cI, 24, .inl (fun _ => 0)))] H := hP
  have hD : va_D A [(h0, .inr (1, [.ref q1, .ref q2, .ref q3, .null, .null, .null, .int 0, .int 0])), (q1, .inl (cI, 24, .inl (fun _ => 0))), (q2, .inl (cI, 24, .inl (fun _ => 0))), (q3, .inl (cI, 24, .inl (fun _ => 0))), (q4, .inl (cI, 24, .inl (fun _ => 0)))] := hD
  refine va_putF (D := (dC, dI)) (ci := 1) (C := RX1) (T := TX1) (N := 8) (v := .ref q4) (ty := tyX1 3) hx hb hts zin_1 tyX1 tyX1_ok nmX1 hown hK hP hD hS 0 rfl rfl 3 (by decide) (hts _ (zwd_in zx_127)) (fun _ h9 => h9) rfl hin rfl (tyX1_ok 3 (by decide)) rfl rfl (Nat.le_of_ble_eq_true rfl) (zd_X1_init_33) (fun H locs hP hD hS => ?_)
  have hP : va_P (dC, dI) vwCl [(h0, .inr (1, [.ref q1, .ref q2, .ref q3, .ref q4, .null, .null, .int 0, .int 0])), (q1, .inl (cI, 24, .inl (fun _ => 0))), (q2, .inl (cI, 24, .inl (fun _ => 0))), (q3, .inl (cI, 24, .inl (fun _ => 0))), (q4, .inl (cI, 24, .inl (fun _ => 0)))] H := hP
  have hD : va_D A [(h0, .inr (1, [.ref q1, .ref q2, .ref q3, .ref q4, .null, .null, .int 0, .int 0])), (q1, .inl (cI, 24, .inl (fun _ => 0))), (q2, .inl (cI, 24, .inl (fun _ => 0))), (q3, .inl (cI, 24, .inl (fun _ => 0))), (q4, .inl (cI, 24, .inl (fun _ => 0)))] := hD
  refine lv_aload_n hx hb (zd_X1_init_36) rfl (lv_at hl 0 rfl) ?_
  refine lv_bipush (v := 64) hx hb (zd_X1_init_37) (by decide) ?_
  refine zw_newa (atype := .int) (ty := .int) (cI := cI) (t0 := 0) hx hb (hts _ (zwd_in zx_153)) rfl hK rfl hP hD hS hA (a0 := (64, .inl (fun _ => 0))) (fun cA => by first | rfl | (simp [vp_cell, arrV]; rfl)) (by decide) (by decide) (Nat.le_of_ble_eq_true rfl) (Nat.le_of_ble_eq_true rfl) (Nat.le_of_ble_eq_true rfl) (zd_X1_init_39) (fun q5 H hP hD hS => ?_)
  have hP : va_P (dC, dI) vwCl [(h0, .inr (1, [.ref q1, .ref q2, .ref q3, .ref q4, .null, .null, .int 0, .int 0])), (q1, .inl (cI, 24, .inl (fun _ => 0))), (q2, .inl (cI, 24, .inl (fun _ => 0))), (q3, .inl (cI, 24, .inl (fun _ => 0))), (q4, .inl (cI, 24, .inl (fun _ => 0))), (q5, .inl (cI, 64, .inl (fun _ => 0)))] H := hP
  have hD : va_D A [(h0, .inr (1, [.ref q1, .ref q2, .ref q3, .ref q4, .null, .null, .int 0, .int 0])), (q1, .inl (cI, 24, .inl (fun _ => 0))), (q2, .inl (cI, 24, .inl (fun _ => 0))), (q3, .inl (cI, 24, .inl (fun _ => 0))), (q4, .inl (cI, 24, .inl (fun _ => 0))), (q5, .inl (cI, 64, .inl (fun _ => 0)))] := hD
  refine va_putF (D := (dC, dI)) (ci := 1) (C := RX1) (T := TX1) (N := 8) (v := .ref q5) (ty := tyX1 4) hx hb hts zin_1 tyX1 tyX1_ok nmX1 hown hK hP hD hS 0 rfl rfl 4 (by decide) (hts _ (zwd_in zx_128)) (fun _ h9 => h9) rfl hin rfl (tyX1_ok 4 (by decide)) rfl rfl (Nat.le_of_ble_eq_true rfl) (zd_X1_init_41) (fun H locs hP hD hS => ?_)
  have hP : va_P (dC, dI) vwCl [(h0, .inr (1, [.ref q1, .ref q2, .ref q3, .ref q4, .ref q5, .null, .int 0, .int 0])), (q1, .inl (cI, 24, .inl (fun _ => 0))), (q2, .inl (cI, 24, .inl (fun _ => 0))), (q3, .inl (cI, 24, .inl (fun _ => 0))), (q4, .inl (cI, 24, .inl (fun _ => 0))), (q5, .inl (cI, 64, .inl (fun _ => 0)))] H := hP
  have hD : va_D A [(h0, .inr (1, [.ref q1, .ref q2, .ref q3, .ref q4, .ref q5, .null, .int 0, .int 0])), (q1, .inl (cI, 24, .inl (fun _ => 0))), (q2, .inl (cI, 24, .inl (fun _ => 0))), (q3, .inl (cI, 24, .inl (fun _ => 0))), (q4, .inl (cI, 24, .inl (fun _ => 0))), (q5, .inl (cI, 64, .inl (fun _ => 0)))] := hD
  refine lv_aload_n hx hb (zd_X1_init_44) rfl (lv_at hl 0 rfl) ?_
  refine lv_bipush (v := 8) hx hb (zd_X1_init_45) (by decide) ?_
  refine zw_newa (atype := .int) (ty := .int) (cI := cI) (t0 := 0) hx hb (hts _ (zwd_in zx_153)) rfl hK rfl hP hD hS hA (a0 := (8, .inl (fun _ => 0))) (fun cA => by first | rfl | (simp [vp_cell, arrV]; rfl)) (by decide) (by decide) (Nat.le_of_ble_eq_true rfl) (Nat.le_of_ble_eq_true rfl) (Nat.le_of_ble_eq_true rfl) (zd_X1_init_47) (fun q6 H hP hD hS => ?_)
  have hP : va_P (dC, dI) vwCl [(h0, .inr (1, [.ref q1, .ref q2, .ref q3, .ref q4, .ref q5, .null, .int 0, .int 0])), (q1, .inl (cI, 24, .inl (fun _ => 0))), (q2, .inl (cI, 24, .inl (fun _ => 0))), (q3, .inl (cI, 24, .inl (fun _ => 0))), (q4, .inl (cI, 24, .inl (fun _ => 0))), (q5, .inl (cI, 64, .inl (fun _ => 0))), (q6, .inl (cI, 8, .inl (fun _ => 0)))] H := hP
  have hD : va_D A [(h0, .inr (1, [.ref q1, .ref q2, .ref q3, .ref q4, .ref q5, .null, .int 0, .int 0])), (q1, .inl (cI, 24, .inl (fun _ => 0))), (q2, .inl (cI, 24, .inl (fun _ => 0))), (q3, .inl (cI, 24, .inl (fun _ => 0))), (q4, .inl (cI, 24, .inl (fun _ => 0))), (q5, .inl (cI, 64, .inl (fun _ => 0))), (q6, .inl (cI, 8, .inl (fun _ => 0)))] := hD
  refine va_putF (D := (dC, dI)) (ci := 1) (C := RX1) (T := TX1) (N := 8) (v := .ref q6) (ty := tyX1 5) hx hb hts zin_1 tyX1 tyX1_ok nmX1 hown hK hP hD hS 0 rfl rfl 5 (by decide) (hts _ (zwd_in zx_129)) (fun _ h9 => h9) rfl hin rfl (tyX1_ok 5 (by decide)) rfl rfl (Nat.le_of_ble_eq_true rfl) (zd_X1_init_49) (fun H locs hP hD hS => ?_)
  have hP : va_P (dC, dI) vwCl [(h0, .inr (1, [.ref q1, .ref q2, .ref q3, .ref q4, .ref q5, .ref q6, .int 0, .int 0])), (q1, .inl (cI, 24, .inl (fun _ => 0))), (q2, .inl (cI, 24, .inl (fun _ => 0))), (q3, .inl (cI, 24, .inl (fun _ => 0))), (q4, .inl (cI, 24, .inl (fun _ => 0))), (q5, .inl (cI, 64, .inl (fun _ => 0))), (q6, .inl (cI, 8, .inl (fun _ => 0)))] H := hP
  have hD : va_D A [(h0, .inr (1, [.ref q1, .ref q2, .ref q3, .ref q4, .ref q5, .ref q6, .int 0, .int 0])), (q1, .inl (cI, 24, .inl (fun _ => 0))), (q2, .inl (cI, 24, .inl (fun _ => 0))), (q3, .inl (cI, 24, .inl (fun _ => 0))), (q4, .inl (cI, 24, .inl (fun _ => 0))), (q5, .inl (cI, 64, .inl (fun _ => 0))), (q6, .inl (cI, 8, .inl (fun _ => 0)))] := hD
  refine lv_aload_n hx hb (zd_X1_init_52) rfl (lv_at hl 0 rfl) ?_
  refine lv_iconst (v := 0) hx hb (zd_X1_init_53) (by decide) ?_
  refine va_put (D := (dC, dI)) (ci := 1) (C := RX1) (T := TX1) (N := 8) (v := .int 0) (ty := tyX1 6) hx hb hts zin_1 tyX1 tyX1_ok nmX1 hown hK hP hD hS 0 rfl rfl 6 (by decide) (hts _ (zwd_in zx_130)) (fun _ h9 => h9) rfl (tyX1_ok 6 (by decide)) rfl rfl (Nat.le_of_ble_eq_true rfl) (zd_X1_init_54) (fun H locs hP hD hS => ?_)
  have hP : va_P (dC, dI) vwCl [(h0, .inr (1, [.ref q1, .ref q2, .ref q3, .ref q4, .ref q5, .ref q6, .int 0, .int 0])), (q1, .inl (cI, 24, .inl (fun _ => 0))), (q2, .inl (cI, 24, .inl (fun _ => 0))), (q3, .inl (cI, 24, .inl (fun _ => 0))), (q4, .inl (cI, 24, .inl (fun _ => 0))), (q5, .inl (cI, 64, .inl (fun _ => 0))), (q6, .inl (cI, 8, .inl (fun _ => 0)))] H := hP
  have hD : va_D A [(h0, .inr (1, [.ref q1, .ref q2, .ref q3, .ref q4, .ref q5, .ref q6, .int 0, .int 0])), (q1, .inl (cI, 24, .inl (fun _ => 0))), (q2, .inl (cI, 24, .inl (fun _ => 0))), (q3, .inl (cI, 24, .inl (fun _ => 0))), (q4, .inl (cI, 24, .inl (fun _ => 0))), (q5, .inl (cI, 64, .inl (fun _ => 0))), (q6, .inl (cI, 8, .inl (fun _ => 0)))] := hD
  refine lv_aload_n hx hb (zd_X1_init_57) rfl (lv_at hl 0 rfl) ?_
  refine lv_iconst (v := 0) hx hb (zd_X1_init_58) (by decide) ?_
  refine va_put (D := (dC, dI)) (ci := 1) (C := RX1) (T := TX1) (N := 8) (v := .int 0) (ty := tyX1 7) hx hb hts zin_1 tyX1 tyX1_ok nmX1 hown hK hP hD hS 0 rfl rfl 7 (by decide) (hts _ (zwd_in zx_134)) (fun _ h9 => h9) rfl (tyX1_ok 7 (by decide)) rfl rfl (Nat.le_of_ble_eq_true rfl) (zd_X1_init_59) (fun H locs hP hD hS => ?_)
  have hP : va_P (dC, dI) vwCl [(h0, .inr (1, [.ref q1, .ref q2, .ref q3, .ref q4, .ref q5, .ref q6, .int 0, .int 0])), (q1, .inl (cI, 24, .inl (fun _ => 0))), (q2, .inl (cI, 24, .inl (fun _ => 0))), (q3, .inl (cI, 24, .inl (fun _ => 0))), (q4, .inl (cI, 24, .inl (fun _ => 0))), (q5, .inl (cI, 64, .inl (fun _ => 0))), (q6, .inl (cI, 8, .inl (fun _ => 0)))] H := hP
  have hD : va_D A [(h0, .inr (1, [.ref q1, .ref q2, .ref q3, .ref q4, .ref q5, .ref q6, .int 0, .int 0])), (q1, .inl (cI, 24, .inl (fun _ => 0))), (q2, .inl (cI, 24, .inl (fun _ => 0))), (q3, .inl (cI, 24, .inl (fun _ => 0))), (q4, .inl (cI, 24, .inl (fun _ => 0))), (q5, .inl (cI, 64, .inl (fun _ => 0))), (q6, .inl (cI, 8, .inl (fun _ => 0)))] := hD
  have hP9 := hP.sub (ws' := [(h0, .inr (1, [.ref q1, .ref q2, .ref q3, .ref q4, .ref q5, .ref q6, .int 0, .int 0])), (q1, .inl (cI, 24, .inl (fun _ => 0))), (q2, .inl (cI, 24, .inl (fun _ => 0))), (q3, .inl (cI, 24, .inl (fun _ => 0))), (q4, .inl (cI, 24, .inl (fun _ => 0))), (q5, .inl (cI, 64, .inl (fun _ => 0))), (q6, .inl (cI, 8, .inl (fun _ => 0)))]) [0, 1, 2, 3, 4, 5, 6] rfl
  have hD9 := hD.sub (ws' := [(h0, .inr (1, [.ref q1, .ref q2, .ref q3, .ref q4, .ref q5, .ref q6, .int 0, .int 0])), (q1, .inl (cI, 24, .inl (fun _ => 0))), (q2, .inl (cI, 24, .inl (fun _ => 0))), (q3, .inl (cI, 24, .inl (fun _ => 0))), (q4, .inl (cI, 24, .inl (fun _ => 0))), (q5, .inl (cI, 64, .inl (fun _ => 0))), (q6, .inl (cI, 8, .inl (fun _ => 0)))]) [0, 1, 2, 3, 4, 5, 6] (by decide) rfl
  exact W.vret hx hb hr (fun t ht hW => ⟨⟨(), rfl, trivial, q1, q2, q3, q4, q5, q6, by subst ht; exact hP9, hD9⟩, hS.F ht⟩) hS.2.2 (zd_X1_init_62)
theorem zd_X3_init_0 : decode cX3_init 0 = .ok (.aload_n 0, 1) := by decide +kernel
theorem zd_X3_init_1 : decode cX3_init 1 = .ok (.invokespecial 3, 3) := by decide +kernel
theorem zd_X3_init_4 : decode cX3_init 4 = .ok (.aload_n 0, 1) := by decide +kernel
theorem zd_X3_init_5 : decode cX3_init 5 = .ok (.iconst 4, 1) := by decide +kernel
theorem zd_X3_init_6 : decode cX3_init 6 = .ok (.newarray .int, 2) := by decide +kernel
theorem zd_X3_init_8 : decode cX3_init 8 = .ok (.putfield 9, 3) := by decide +kernel
theorem zd_X3_init_11 : decode cX3_init 11 = .ok (.aload_n 0, 1) := by decide +kernel
theorem zd_X3_init_12 : decode cX3_init 12 = .ok (.iconst 4, 1) := by decide +kernel
theorem zd_X3_init_13 : decode cX3_init 13 = .ok (.newarray .int, 2) := by decide +kernel
theorem zd_X3_init_15 : decode cX3_init 15 = .ok (.putfield 15, 3) := by decide +kernel
theorem zd_X3_init_18 : decode cX3_init 18 = .ok (.aload_n 0, 1) := by decide +kernel
theorem zd_X3_init_19 : decode cX3_init 19 = .ok (.bipush 24, 2) := by decide +kernel
theorem zd_X3_init_21 : decode cX3_init 21 = .ok (.newarray .int, 2) := by decide +kernel
theorem zd_X3_init_23 : decode cX3_init 23 = .ok (.putfield 18, 3) := by decide +kernel
theorem zd_X3_init_26 : decode cX3_init 26 = .ok (.aload_n 0, 1) := by decide +kernel
theorem zd_X3_init_27 : decode cX3_init 27 = .ok (.iconst 4, 1) := by decide +kernel
theorem zd_X3_init_28 : decode cX3_init 28 = .ok (.newarray .int, 2) := by decide +kernel
theorem zd_X3_init_30 : decode cX3_init 30 = .ok (.putfield 21, 3) := by decide +kernel
theorem zd_X3_init_33 : decode cX3_init 33 = .ok (.aload_n 0, 1) := by decide +kernel
theorem zd_X3_init_34 : decode cX3_init 34 = .ok (.iconst 0, 1) := by decide +kernel
theorem zd_X3_init_35 : decode cX3_init 35 = .ok (.putfield 24, 3) := by decide +kernel
theorem zd_X3_init_38 : decode cX3_init 38 = .ok (.return_, 1) := by decide +kernel
set_option maxHeartbeats 4000000 in
set_option maxRecDepth 100000 in
/-- EverySecondWord$People: 4 cells of 36 slots come -/
theorem zc_X3_init (l : Launch) (dC : Nat → ClassId) (dI : Nat → Nat → Nat) (cI cL cZ : ClassId) (h0 : Nat) (sz : Nat) : Met l yX3_init (Jvm.Cond.code yX3_init cX3_init 1 none :: zTb) ({ frames := 1, cells := 4, slots := 36, locals := 12 }) (va_Pc [.ref h0] (fun U => U.heap.size = sz ∧ va_P (dC, dI) vwCl [(h0, .inr (3, [.null, .null, .null, .null, .int 0]))] U.heap ∧ va_K (dC, dI) vwCl [(cI, .int), (cL, .long), (cZ, .boolean)] U ∧ va_D (fun _ => True) [(h0, .inr (3, [.null, .null, .null, .null, .int 0]))] ∧ zNN U)) (va_Qv (fun _ : Unit => True) (fun _ t => ∃ q1 q2 q3 q4 : Nat, va_P (dC, dI) vwCl [(h0, .inr (3, [.ref q1, .ref q2, .ref q3, .ref q4, .int 0])), (q1, .inl (cI, 4, .inl (fun _ => 0))), (q2, .inl (cI, 4, .inl (fun _ => 0))), (q3, .inl (cI, 24, .inl (fun _ => 0))), (q4, .inl (cI, 4, .inl (fun _ => 0)))] t.heap ∧ va_D (va_A [(h0, .inr (3, [.null, .null, .null, .null, .int 0]))] sz) [(h0, .inr (3, [.ref q1, .ref q2, .ref q3, .ref q4, .int 0])), (q1, .inl (cI, 4, .inl (fun _ => 0))), (q2, .inl (cI, 4, .inl (fun _ => 0))), (q3, .inl (cI, 24, .inl (fun _ => 0))), (q4, .inl (cI, 4, .inl (fun _ => 0)))]) (va_A [(h0, .inr (3, [.null, .null, .null, .null, .int 0]))] sz)) 4 36 (va_A [(h0, .inr (3, [.null, .null, .null, .null, .int 0]))] sz) := by
  refine Met.ofW (cc := cX3_init) (maxL := 1) (ret := none) (by decide) rfl ?_
  intro p e s m args below meth c s₁ B hml hv
  obtain ⟨rfl, hsz, hP, hK, hD0, hN⟩ := hv
  have hx := B.exec
  have hb := B.bytes
  have hr := B.returns
  have hts0 := atoms_spec (ws := Jvm.Cond.code yX3_init cX3_init 1 none :: zTb) B.pre
  have hts : ∀ w ∈ zTb, w.before (([.ref h0] : List Value).toArray) s = true := fun w hw => hts0 w (List.mem_cons_of_mem _ hw)
  have hown : s.vm.findClass RX3 = some m.cls := findClass_of_methodNamed B.named
  have hlocks := B.notSynchronized
  have hin : meth.name = "<init>" := (name_of_methodNamed B.named B.method).1
  subst hsz
  have hD := hD0.self (sz := s.heap.size)
  generalize hAe : va_A [(h0, .inr (3, [.null, .null, .null, .null, .int 0]))] s.heap.size = A at hD ⊢
  have hA : ∀ q : Nat, s.heap.size ≤ q → A q := fun q h => by rw [← hAe]; exact Or.inr h
  have hS : va_S A s.heap s.heap [] := va_S.rf
  have hP : va_P (dC, dI) vwCl [(h0, .inr (3, [.null, .null, .null, .null, .int 0]))] s.heap := hP
  have hl := lv_entry ([.ref h0]) (n := 1) (Nat.le_of_ble_eq_true rfl)
  rw [lg_entry_eq]
  generalize (lg_sl ([.ref h0]) ++ List.replicate (1 - (lg_sl ([.ref h0])).length) Slot.unset).toArray = ls at hl ⊢
  have hl : lv_has ls 1 [(0, .ref h0)] := hl
  refine lv_aload_n hx hb (zd_X3_init_0) rfl (lv_at hl 0 rfl) ?_
  refine W.objInit hx hb hown (hts _ (zwd_in zx_159)) (hts _ (zwd_in zx_108)) (hts _ (zwd_in zx_109)) rfl (by rw [hml]; exact hl.1) rfl (zd_X3_init_1) (Nat.le_of_ble_eq_true rfl) (Nat.le_of_ble_eq_true rfl) ?_
  refine W.eq (g2 := F0 m 4 ls []) rfl ?_
  refine lv_aload_n hx hb (zd_X3_init_4) rfl (lv_at hl 0 rfl) ?_
  refine lv_iconst (v := 4) hx hb (zd_X3_init_5) (by decide) ?_
  refine zw_newa (atype := .int) (ty := .int) (cI := cI) (t0 := 0) hx hb (hts _ (zwd_in zx_153)) rfl hK rfl hP hD hS hA (a0 := (4, .inl (fun _ => 0))) (fun cA => by first | rfl | (simp [vp_cell, arrV]; rfl)) (by decide) (by decide) (Nat.le_of_ble_eq_true rfl) (Nat.le_of_ble_eq_true rfl) (Nat.le_of_ble_eq_true rfl) (zd_X3_init_6) (fun q1 H hP hD hS => ?_)
  have hP : va_P (dC, dI) vwCl [(h0, .inr (3, [.null, .null, .null, .null, .int 0])), (q1, .inl (cI, 4, .inl (fun _ => 0)))] H := hP
  have hD : va_D A [(h0, .inr (3, [.null, .null, .null, .null, .int 0])), (q1, .inl (cI, 4, .inl (fun _ => 0)))] := hD
  refine va_putF (D := (dC, dI)) (ci := 3) (C := RX3) (T := TX3) (N := 5) (v := .ref q1) (ty := tyX3 0) hx hb hts zin_3 tyX3 tyX3_ok nmX3 hown hK hP hD hS 0 rfl rfl 0 (by decide) (hts _ (zwd_in zx_160)) (fun _ h9 => h9) rfl hin rfl (tyX3_ok 0 (by decide)) rfl rfl (Nat.le_of_ble_eq_true rfl) (zd_X3_init_8) (fun H locs hP hD hS => ?_)
  have hP : va_P (dC, dI) vwCl [(h0, .inr (3, [.ref q1, .null, .null, .null, .int 0])), (q1, .inl (cI, 4, .inl (fun _ => 0)))] H := hP
  have hD : va_D A [(h0, .inr (3, [.ref q1, .null, .null, .null, .int 0])), (q1, .inl (cI, 4, .inl (fun _ => 0)))] := hD
  refine lv_aload_n hx hb (zd_X3_init_11) rfl (lv_at hl 0 rfl) ?_
  refine lv_iconst (v := 4) hx hb (zd_X3_init_12) (by decide) ?_
  refine zw_newa (atype := .int) (ty := .int) (cI := cI) (t0 := 0) hx hb (hts _ (zwd_in zx_153)) rfl hK rfl hP hD hS hA (a0 := (4, .inl (fun _ => 0))) (fun cA => by first | rfl | (simp [vp_cell, arrV]; rfl)) (by decide) (by decide) (Nat.le_of_ble_eq_true rfl) (Nat.le_of_ble_eq_true rfl) (Nat.le_of_ble_eq_true rfl) (zd_X3_init_13) (fun q2 H hP hD hS => ?_)
  have hP : va_P (dC, dI) vwCl [(h0, .inr (3, [.ref q1, .null, .null, .null, .int 0])), (q1, .inl (cI, 4, .inl (fun _ => 0))), (q2, .inl (cI, 4, .inl (fun _ => 0)))] H := hP
  have hD : va_D A [(h0, .inr (3, [.ref q1, .null, .null, .null, .int 0])), (q1, .inl (cI, 4, .inl (fun _ => 0))), (q2, .inl (cI, 4, .inl (fun _ => 0)))] := hD
  refine va_putF (D := (dC, dI)) (ci := 3) (C := RX3) (T := TX3) (N := 5) (v := .ref q2) (ty := tyX3 1) hx hb hts zin_3 tyX3 tyX3_ok nmX3 hown hK hP hD hS 0 rfl rfl 1 (by decide) (hts _ (zwd_in zx_161)) (fun _ h9 => h9) rfl hin rfl (tyX3_ok 1 (by decide)) rfl rfl (Nat.le_of_ble_eq_true rfl) (zd_X3_init_15) (fun H locs hP hD hS => ?_)
  have hP : va_P (dC, dI) vwCl [(h0, .inr (3, [.ref q1, .ref q2, .null, .null, .int 0])), (q1, .inl (cI, 4, .inl (fun _ => 0))), (q2, .inl (cI, 4, .inl (fun _ => 0)))] H := hP
  have hD : va_D A [(h0, .inr (3, [.ref q1, .ref q2, .null, .null, .int 0])), (q1, .inl (cI, 4, .inl (fun _ => 0))), (q2, .inl (cI, 4, .inl (fun _ => 0)))] := hD
  refine lv_aload_n hx hb (zd_X3_init_18) rfl (lv_at hl 0 rfl) ?_
  refine lv_bipush (v := 24) hx hb (zd_X3_init_19) (by decide) ?_
  refine zw_newa (atype := .int) (ty := .int) (cI := cI) (t0 := 0) hx hb (hts _ (zwd_in zx_153)) rfl hK rfl hP hD hS hA (a0 := (24, .inl (fun _ => 0))) (fun cA => by first | rfl | (simp [vp_cell, arrV]; rfl)) (by decide) (by decide) (Nat.le_of_ble_eq_true rfl) (Nat.le_of_ble_eq_true rfl) (Nat.le_of_ble_eq_true rfl) (zd_X3_init_21) (fun q3 H hP hD hS => ?_)
  have hP : va_P (dC, dI) vwCl [(h0, .inr (3, [.ref q1, .ref q2, .null, .null, .int 0])), (q1, .inl (cI, 4, .inl (fun _ => 0))), (q2, .inl (cI, 4, .inl (fun _ => 0))), (q3, .inl (cI, 24, .inl (fun _ => 0)))] H := hP
  have hD : va_D A [(h0, .inr (3, [.ref q1, .ref q2, .null, .null, .int 0])), (q1, .inl (cI, 4, .inl (fun _ => 0))), (q2, .inl (cI, 4, .inl (fun _ => 0))), (q3, .inl (cI, 24, .inl (fun _ => 0)))] := hD
  refine va_putF (D := (dC, dI)) (ci := 3) (C := RX3) (T := TX3) (N := 5) (v := .ref q3) (ty := tyX3 2) hx hb hts zin_3 tyX3 tyX3_ok nmX3 hown hK hP hD hS 0 rfl rfl 2 (by decide) (hts _ (zwd_in zx_162)) (fun _ h9 => h9) rfl hin rfl (tyX3_ok 2 (by decide)) rfl rfl (Nat.le_of_ble_eq_true rfl) (zd_X3_init_23) (fun H locs hP hD hS => ?_)
  have hP : va_P (dC, dI) vwCl [(h0, .inr (3, [.ref q1, .ref q2, .ref q3, .null, .int 0])), (q1, .inl (cI, 4, .inl (fun _ => 0))), (q2, .inl (cI, 4, .inl (fun _ => 0))), (q3, .inl (cI, 24, .inl (fun _ => 0)))] H := hP
  have hD : va_D A [(h0, .inr (3, [.ref q1, .ref q2, .ref q3, .null, .int 0])), (q1, .inl (cI, 4, .inl (fun _ => 0))), (q2, .inl (cI, 4, .inl (fun _ => 0))), (q3, .inl (cI, 24, .inl (fun _ => 0)))] := hD
  refine lv_aload_n hx hb (zd_X3_init_26) rfl (lv_at hl 0 rfl) ?_
  refine lv_iconst (v := 4) hx hb (zd_X3_init_27) (by decide) ?_
  refine zw_newa (atype := .int) (ty := .int) (cI := cI) (t0 := 0) hx hb (hts _ (zwd_in zx_153)) rfl hK rfl hP hD hS hA (a0 := (4, .inl (fun _ => 0))) (fun cA => by first | rfl | (simp [vp_cell, arrV]; rfl)) (by decide) (by decide) (Nat.le_of_ble_eq_true rfl) (Nat.le_of_ble_eq_true rfl) (Nat.le_of_ble_eq_true rfl) (zd_X3_init_28) (fun q4 H hP hD hS => ?_)
  have hP : va_P (dC, dI) vwCl [(h0, .inr (3, [.ref q1, .ref q2, .ref q3, .null, .int 0])), (q1, .inl (cI, 4, .inl (fun _ => 0))), (q2, .inl (cI, 4, .inl (fun _ => 0))), (q3, .inl (cI, 24, .inl (fun _ => 0))), (q4, .inl (cI, 4, .inl (fun _ => 0)))] H := hP
  have hD : va_D A [(h0, .inr (3, [.ref q1, .ref q2, .ref q3, .null, .int 0])), (q1, .inl (cI, 4, .inl (fun _ => 0))), (q2, .inl (cI, 4, .inl (fun _ => 0))), (q3, .inl (cI, 24, .inl (fun _ => 0))), (q4, .inl (cI, 4, .inl (fun _ => 0)))] := hD
  refine va_putF (D := (dC, dI)) (ci := 3) (C := RX3) (T := TX3) (N := 5) (v := .ref q4) (ty := tyX3 3) hx hb hts zin_3 tyX3 tyX3_ok nmX3 hown hK hP hD hS 0 rfl rfl 3 (by decide) (hts _ (zwd_in zx_163)) (fun _ h9 => h9) rfl hin rfl (tyX3_ok 3 (by decide)) rfl rfl (Nat.le_of_ble_eq_true rfl) (zd_X3_init_30) (fun H locs hP hD hS => ?_)
  have hP : va_P (dC, dI) vwCl [(h0, .inr (3, [.ref q1, .ref q2, .ref q3, .ref q4, .int 0])), (q1, .inl (cI, 4, .inl (fun _ => 0))), (q2, .inl (cI, 4, .inl (fun _ => 0))), (q3, .inl (cI, 24, .inl (fun _ => 0))), (q4, .inl (cI, 4, .inl (fun _ => 0)))] H := hP
  have hD : va_D A [(h0, .inr (3, [.ref q1, .ref q2, .ref q3, .ref q4, .int 0])), (q1, .inl (cI, 4, .inl (fun _ => 0))), (q2, .inl (cI, 4, .inl (fun _ => 0))), (q3, .inl (cI, 24, .inl (fun _ => 0))), (q4, .inl (cI, 4, .inl (fun _ => 0)))] := hD
  refine lv_aload_n hx hb (zd_X3_init_33) rfl (lv_at hl 0 rfl) ?_
  refine lv_iconst (v := 0) hx hb (zd_X3_init_34) (by decide) ?_
  refine va_put (D := (dC, dI)) (ci := 3) (C := RX3) (T := TX3) (N := 5) (v := .int 0) (ty := tyX3 4) hx hb hts zin_3 tyX3 tyX3_ok nmX3 hown hK hP hD hS 0 rfl rfl 4 (by decide) (hts _ (zwd_in zx_164)) (fun _ h9 => h9) rfl (tyX3_ok 4 (by decide)) rfl rfl (Nat.le_of_ble_eq_true rfl) (zd_X3_init_35) (fun H locs hP hD hS => ?_)
  have hP : va_P (dC, dI) vwCl [(h0, .inr (3, [.ref q1, .ref q2, .ref q3, .ref q4, .int 0])), (q1, .inl (cI, 4, .inl (fun _ => 0))), (q2, .inl (cI, 4, .inl (fun _ => 0))), (q3, .inl (cI, 24, .inl (fun _ => 0))), (q4, .inl (cI, 4, .inl (fun _ => 0)))] H := hP
  have hD : va_D A [(h0, .inr (3, [.ref q1, .ref q2, .ref q3, .ref q4, .int 0])), (q1, .inl (cI, 4, .inl (fun _ => 0))), (q2, .inl (cI, 4, .inl (fun _ => 0))), (q3, .inl (cI, 24, .inl (fun _ => 0))), (q4, .inl (cI, 4, .inl (fun _ => 0)))] := hD
  have hP9 := hP.sub (ws' := [(h0, .inr (3, [.ref q1, .ref q2, .ref q3, .ref q4, .int 0])), (q1, .inl (cI, 4, .inl (fun _ => 0))), (q2, .inl (cI, 4, .inl (fun _ => 0))), (q3, .inl (cI, 24, .inl (fun _ => 0))), (q4, .inl (cI, 4, .inl (fun _ => 0)))]) [0, 1, 2, 3, 4] rfl
  have hD9 := hD.sub (ws' := [(h0, .inr (3, [.ref q1, .ref q2, .ref q3, .ref q4, .int 0])), (q1, .inl (cI, 4, .inl (fun _ => 0))), (q2, .inl (cI, 4, .inl (fun _ => 0))), (q3, .inl (cI, 24, .inl (fun _ => 0))), (q4, .inl (cI, 4, .inl (fun _ => 0)))]) [0, 1, 2, 3, 4] (by decide) rfl
  exact W.vret hx hb hr (fun t ht hW => ⟨⟨(), rfl, trivial, q1, q2, q3, q4, by subst ht; exact hP9, hD9⟩, hS.F ht⟩) hS.2.2 (zd_X3_init_38)
theorem zd_X7_init_0 : decode cX7_init 0 = .ok (.aload_n 0, 1) := by decide +kernel
theorem zd_X7_init_1 : decode cX7_init 1 = .ok (.invokespecial 3, 3) := by decide +kernel
theorem zd_X7_init_4 : decode cX7_init 4 = .ok (.aload_n 0, 1) := by decide +kernel
theorem zd_X7_init_5 : decode cX7_init 5 = .ok (.bipush 8, 2) := by decide +kernel
theorem zd_X7_init_7 : decode cX7_init 7 = .ok (.newarray .int, 2) := by decide +kernel
theorem zd_X7_init_9 : decode cX7_init 9 = .ok (.putfield 9, 3) := by decide +kernel
theorem zd_X7_init_12 : decode cX7_init 12 = .ok (.aload_n 0, 1) := by decide +kernel
theorem zd_X7_init_13 : decode cX7_init 13 = .ok (.bipush 9, 2) := by decide +kernel
theorem zd_X7_init_15 : decode cX7_init 15 = .ok (.newarray .int, 2) := by decide +kernel
theorem zd_X7_init_17 : decode cX7_init 17 = .ok (.putfield 15, 3) := by decide +kernel
theorem zd_X7_init_20 : decode cX7_init 20 = .ok (.aload_n 0, 1) := by decide +kernel
theorem zd_X7_init_21 : decode cX7_init 21 = .ok (.iconst 0, 1) := by decide +kernel
theorem zd_X7_init_22 : decode cX7_init 22 = .ok (.putfield 18, 3) := by decide +kernel
theorem zd_X7_init_25 : decode cX7_init 25 = .ok (.aload_n 0, 1) := by decide +kernel
theorem zd_X7_init_26 : decode cX7_init 26 = .ok (.iconst 0, 1) := by decide +kernel
theorem zd_X7_init_27 : decode cX7_init 27 = .ok (.putfield 22, 3) := by decide +kernel
theorem zd_X7_init_30 : decode cX7_init 30 = .ok (.return_, 1) := by decide +kernel
set_option maxHeartbeats 4000000 in
set_option maxRecDepth 100000 in
/-- EverySecondWord$Talk: 2 cells of 17 slots come -/
theorem zc_X7_init (l : Launch) (dC : Nat → ClassId) (dI : Nat → Nat → Nat) (cI cL cZ : ClassId) (h0 : Nat) (sz : Nat) : Met l yX7_init (Jvm.Cond.code yX7_init cX7_init 1 none :: zTb) ({ frames := 1, cells := 2, slots := 17, locals := 12 }) (va_Pc [.ref h0] (fun U => U.heap.size = sz ∧ va_P (dC, dI) vwCl [(h0, .inr (7, [.null, .null, .int 0, .int 0]))] U.heap ∧ va_K (dC, dI) vwCl [(cI, .int), (cL, .long), (cZ, .boolean)] U ∧ va_D (fun _ => True) [(h0, .inr (7, [.null, .null, .int 0, .int 0]))] ∧ zNN U)) (va_Qv (fun _ : Unit => True) (fun _ t => ∃ q1 q2 : Nat, va_P (dC, dI) vwCl [(h0, .inr (7, [.ref q1, .ref q2, .int 0, .int 0])), (q1, .inl (cI, 8, .inl (fun _ => 0))), (q2, .inl (cI, 9, .inl (fun _ => 0)))] t.heap ∧ va_D (va_A [(h0, .inr (7, [.null, .null, .int 0, .int 0]))] sz) [(h0, .inr (7, [.ref q1, .ref q2, .int 0, .int 0])), (q1, .inl (cI, 8, .inl (fun _ => 0))), (q2, .inl (cI, 9, .inl (fun _ => 0)))]) (va_A [(h0, .inr (7, [.null, .null, .int 0, .int 0]))] sz)) 2 17 (va_A [(h0, .inr (7, [.null, .null, .int 0, .int 0]))] sz) := by
  refine Met.ofW (cc := cX7_init) (maxL := 1) (ret := none) (by decide) rfl ?_
  intro p e s m args below meth c s₁ B hml hv
  obtain ⟨rfl, hsz, hP, hK, hD0, hN⟩ := hv
  have hx := B.exec
  have hb := B.bytes
  have hr := B.returns
  have hts0 := atoms_spec (ws := Jvm.Cond.code yX7_init cX7_init 1 none :: zTb) B.pre
  have hts : ∀ w ∈ zTb, w.before (([.ref h0] : List Value).toArray) s = true := fun w hw => hts0 w (List.mem_cons_of_mem _ hw)
  have hown : s.vm.findClass RX7 = some m.cls := findClass_of_methodNamed B.named
  have hlocks := B.notSynchronized
  have hin : meth.name = "<init>" := (name_of_methodNamed B.named B.method).1
  subst hsz
  have hD := hD0.self (sz := s.heap.size)
  generalize hAe : va_A [(h0, .inr (7, [.null, .null, .int 0, .int 0]))] s.heap.size = A at hD ⊢
  have hA : ∀ q : Nat, s.heap.size ≤ q → A q := fun q h => by rw [← hAe]; exact Or.inr h
  have hS : va_S A s.heap s.heap [] := va_S.rf
  have hP : va_P (dC, dI) vwCl [(h0, .inr (7, [.null, .null, .int 0, .int 0]))] s.heap := hP
  have hl := lv_entry ([.ref h0]) (n := 1) (Nat.le_of_ble_eq_true rfl)
  rw [lg_entry_eq]
  generalize (lg_sl ([.ref h0]) ++ List.replicate (1 - (lg_sl ([.ref h0])).length) Slot.unset).toArray = ls at hl ⊢
  have hl : lv_has ls 1 [(0, .ref h0)] := hl
  refine lv_aload_n hx hb (zd_X7_init_0) rfl (lv_at hl 0 rfl) ?_
  refine W.objInit hx hb hown (hts _ (zwd_in zx_184)) (hts _ (zwd_in zx_108)) (hts _ (zwd_in zx_109)) rfl (by rw [hml]; exact hl.1) rfl (zd_X7_init_1) (Nat.le_of_ble_eq_true rfl) (Nat.le_of_ble_eq_true rfl) ?_
  refine W.eq (g2 := F0 m 4 ls []) rfl ?_
  refine lv_aload_n hx hb (zd_X7_init_4) rfl (lv_at hl 0 rfl) ?_
  refine lv_bipush (v := 8) hx hb (zd_X7_init_5) (by decide) ?_
  refine zw_newa (atype := .int) (ty := .int) (cI := cI) (t0 := 0) hx hb (hts _ (zwd_in zx_153)) rfl hK rfl hP hD hS hA (a0 := (8, .inl (fun _ => 0))) (fun cA => by first | rfl | (simp [vp_cell, arrV]; rfl)) (by decide) (by decide) (Nat.le_of_ble_eq_true rfl) (Nat.le_of_ble_eq_true rfl) (Nat.le_of_ble_eq_true rfl) (zd_X7_init_7) (fun q1 H hP hD hS => ?_)
  have hP : va_P (dC, dI) vwCl [(h0, .inr (7, [.null, .null, .int 0, .int 0])), (q1, .inl (cI, 8, .inl (fun _ => 0)))] H := hP
  have hD : va_D A [(h0, .inr (7, [.null, .null, .int 0, .int 0])), (q1, .inl (cI, 8, .inl (fun _ => 0)))] := hD
  refine va_putF (D := (dC, dI)) (ci := 7) (C := RX7) (T := TX7) (N := 4) (v := .ref q1) (ty := tyX7 0) hx hb hts zin_7 tyX7 tyX7_ok nmX7 hown hK hP hD hS 0 rfl rfl 0 (by decide) (hts _ (zwd_in zx_185)) (fun _ h9 => h9) rfl hin rfl (tyX7_ok 0 (by decide)) rfl rfl (Nat.le_of_ble_eq_true rfl) (zd_X7_init_9) (fun H locs hP hD hS => ?_)
  have hP : va_P (dC, dI) vwCl [(h0, .inr (7, [.ref q1, .null, .int 0, .int 0])), (q1, .inl (cI, 8, .inl (fun _ => 0)))] H := hP
  have hD : va_D A [(h0, .inr (7, [.ref q1, .null, .int 0, .int 0])), (q1, .inl (cI, 8, .inl (fun _ => 0)))] := hD
  refine lv_aload_n hx hb (zd_X7_init_12) rfl (lv_at hl 0 rfl) ?_
  refine lv_bipush (v := 9) hx hb (zd_X7_init_13) (by decide) ?_
  refine zw_newa (atype := .int) (ty := .int) (cI := cI) (t0 := 0) hx hb (hts _ (zwd_in zx_153)) rfl hK rfl hP hD hS hA (a0 := (9, .inl (fun _ => 0))) (fun cA => by first | rfl | (simp [vp_cell, arrV]; rfl)) (by decide) (by decide) (Nat.le_of_ble_eq_true rfl) (Nat.le_of_ble_eq_true rfl) (Nat.le_of_ble_eq_true rfl) (zd_X7_init_15) (fun q2 H hP hD hS => ?_)
  have hP : va_P (dC, dI) vwCl [(h0, .inr (7, [.ref q1, .null, .int 0, .int 0])), (q1, .inl (cI, 8, .inl (fun _ => 0))), (q2, .inl (cI, 9, .inl (fun _ => 0)))] H := hP
  have hD : va_D A [(h0, .inr (7, [.ref q1, .null, .int 0, .int 0])), (q1, .inl (cI, 8, .inl (fun _ => 0))), (q2, .inl (cI, 9, .inl (fun _ => 0)))] := hD
  refine va_putF (D := (dC, dI)) (ci := 7) (C := RX7) (T := TX7) (N := 4) (v := .ref q2) (ty := tyX7 1) hx hb hts zin_7 tyX7 tyX7_ok nmX7 hown hK hP hD hS 0 rfl rfl 1 (by decide) (hts _ (zwd_in zx_186)) (fun _ h9 => h9) rfl hin rfl (tyX7_ok 1 (by decide)) rfl rfl (Nat.le_of_ble_eq_true rfl) (zd_X7_init_17) (fun H locs hP hD hS => ?_)
  have hP : va_P (dC, dI) vwCl [(h0, .inr (7, [.ref q1, .ref q2, .int 0, .int 0])), (q1, .inl (cI, 8, .inl (fun _ => 0))), (q2, .inl (cI, 9, .inl (fun _ => 0)))] H := hP
  have hD : va_D A [(h0, .inr (7, [.ref q1, .ref q2, .int 0, .int 0])), (q1, .inl (cI, 8, .inl (fun _ => 0))), (q2, .inl (cI, 9, .inl (fun _ => 0)))] := hD
  refine lv_aload_n hx hb (zd_X7_init_20) rfl (lv_at hl 0 rfl) ?_
  refine lv_iconst (v := 0) hx hb (zd_X7_init_21) (by decide) ?_
  refine va_put (D := (dC, dI)) (ci := 7) (C := RX7) (T := TX7) (N := 4) (v := .int 0) (ty := tyX7 2) hx hb hts zin_7 tyX7 tyX7_ok nmX7 hown hK hP hD hS 0 rfl rfl 2 (by decide) (hts _ (zwd_in zx_187)) (fun _ h9 => h9) rfl (tyX7_ok 2 (by decide)) rfl rfl (Nat.le_of_ble_eq_true rfl) (zd_X7_init_22) (fun H locs hP hD hS => ?_)
  have hP : va_P (dC, dI) vwCl [(h0, .inr (7, [.ref q1, .ref q2, .int 0, .int 0])), (q1, .inl (cI, 8, .inl (fun _ => 0))), (q2, .inl (cI, 9, .inl (fun _ => 0)))] H := hP
  have hD : va_D A [(h0, .inr (7, [.ref q1, .ref q2, .int 0, .int 0])), (q1, .inl (cI, 8, .inl (fun _ => 0))), (q2, .inl (cI, 9, .inl (fun _ => 0)))] := hD
  refine lv_aload_n hx hb (zd_X7_init_25) rfl (lv_at hl 0 rfl) ?_
  refine lv_iconst (v := 0) hx hb (zd_X7_init_26) (by decide) ?_
  refine va_put (D := (dC, dI)) (ci := 7) (C := RX7) (T := TX7) (N := 4) (v := .int 0) (ty := tyX7 3) hx hb hts zin_7 tyX7 tyX7_ok nmX7 hown hK hP hD hS 0 rfl rfl 3 (by decide) (hts _ (zwd_in zx_191)) (fun _ h9 => h9) rfl (tyX7_ok 3 (by decide)) rfl rfl (Nat.le_of_ble_eq_true rfl) (zd_X7_init_27) (fun H locs hP hD hS => ?_)
  have hP : va_P (dC, dI) vwCl [(h0, .inr (7, [.ref q1, .ref q2, .int 0, .int 0])), (q1, .inl (cI, 8, .inl (fun _ => 0))), (q2, .inl (cI, 9, .inl (fun _ => 0)))] H := hP
  have hD : va_D A [(h0, .inr (7, [.ref q1, .ref q2, .int 0, .int 0])), (q1, .inl (cI, 8, .inl (fun _ => 0))), (q2, .inl (cI, 9, .inl (fun _ => 0)))] := hD
  have hP9 := hP.sub (ws' := [(h0, .inr (7, [.ref q1, .ref q2, .int 0, .int 0])), (q1, .inl (cI, 8, .inl (fun _ => 0))), (q2, .inl (cI, 9, .inl (fun _ => 0)))]) [0, 1, 2] rfl
  have hD9 := hD.sub (ws' := [(h0, .inr (7, [.ref q1, .ref q2, .int 0, .int 0])), (q1, .inl (cI, 8, .inl (fun _ => 0))), (q2, .inl (cI, 9, .inl (fun _ => 0)))]) [0, 1, 2] (by decide) rfl
  exact W.vret hx hb hr (fun t ht hW => ⟨⟨(), rfl, trivial, q1, q2, by subst ht; exact hP9, hD9⟩, hS.F ht⟩) hS.2.2 (zd_X7_init_30)
theorem zd_X8_init_0 : decode cX8_init 0 = .ok (.aload_n 0, 1) := by decide +kernel
theorem zd_X8_init_1 : decode cX8_init 1 = .ok (.invokespecial 3, 3) := by decide +kernel
theorem zd_X8_init_4 : decode cX8_init 4 = .ok (.aload_n 0, 1) := by decide +kernel
theorem zd_X8_init_5 : decode cX8_init 5 = .ok (.new 9, 3) := by decide +kernel
theorem zd_X8_init_8 : decode cX8_init 8 = .ok (.dup, 1) := by decide +kernel
theorem zd_X8_init_9 : decode cX8_init 9 = .ok (.invokespecial 11, 3) := by decide +kernel
theorem zd_X8_init_12 : decode cX8_init 12 = .ok (.putfield 12, 3) := by decide +kernel
theorem zd_X8_init_15 : decode cX8_init 15 = .ok (.aload_n 0, 1) := by decide +kernel
theorem zd_X8_init_16 : decode cX8_init 16 = .ok (.new 18, 3) := by decide +kernel
theorem zd_X8_init_19 : decode cX8_init 19 = .ok (.dup, 1) := by decide +kernel
theorem zd_X8_init_20 : decode cX8_init 20 = .ok (.invokespecial 20, 3) := by decide +kernel
theorem zd_X8_init_23 : decode cX8_init 23 = .ok (.putfield 21, 3) := by decide +kernel
theorem zd_X8_init_26 : decode cX8_init 26 = .ok (.aload_n 0, 1) := by decide +kernel
theorem zd_X8_init_27 : decode cX8_init 27 = .ok (.new 25, 3) := by decide +kernel
theorem zd_X8_init_30 : decode cX8_init 30 = .ok (.dup, 1) := by decide +kernel
theorem zd_X8_init_31 : decode cX8_init 31 = .ok (.invokespecial 27, 3) := by decide +kernel
theorem zd_X8_init_34 : decode cX8_init 34 = .ok (.putfield 28, 3) := by decide +kernel
theorem zd_X8_init_37 : decode cX8_init 37 = .ok (.aload_n 0, 1) := by decide +kernel
theorem zd_X8_init_38 : decode cX8_init 38 = .ok (.bipush 6, 2) := by decide +kernel
theorem zd_X8_init_40 : decode cX8_init 40 = .ok (.putfield 32, 3) := by decide +kernel
theorem zd_X8_init_43 : decode cX8_init 43 = .ok (.aload_n 0, 1) := by decide +kernel
theorem zd_X8_init_44 : decode cX8_init 44 = .ok (.iconst 5, 1) := by decide +kernel
theorem zd_X8_init_45 : decode cX8_init 45 = .ok (.putfield 36, 3) := by decide +kernel
theorem zd_X8_init_48 : decode cX8_init 48 = .ok (.return_, 1) := by decide +kernel
set_option maxHeartbeats 4000000 in
set_option maxRecDepth 100000 in
/-- EverySecondWord$World: 15 cells of 238 slots come -/
theorem zc_X8_init (l : Launch) (dC : Nat → ClassId) (dI : Nat → Nat → Nat) (cI cL cZ : ClassId) (h0 : Nat) (sz : Nat) : Met l yX8_init (Jvm.Cond.code yX8_init cX8_init 1 none :: zTb) ({ frames := 2, cells := 15, slots := 238, locals := 32 }) (va_Pc [.ref h0] (fun U => U.heap.size = sz ∧ va_P (dC, dI) vwCl [(h0, .inr (8, [.null, .null, .null, .int 0, .int 0]))] U.heap ∧ va_K (dC, dI) vwCl [(cI, .int), (cL, .long), (cZ, .boolean)] U ∧ va_D (fun _ => True) [(h0, .inr (8, [.null, .null, .null, .int 0, .int 0]))] ∧ zNN U)) (va_Qv (fun _ : Unit => True) (fun _ t => ∃ q1 q2 q3 q4 q5 q6 q7 q8 q9 q10 q11 q12 q13 q14 q15 : Nat, va_P (dC, dI) vwCl [(h0, .inr (8, [.ref q1, .ref q8, .ref q13, .int 6, .int 5])), (q1, .inr (1, [.ref q2, .ref q3, .ref q4, .ref q5, .ref q6, .ref q7, .int 0, .int 0])), (q2, .inl (cI, 24, .inl (fun _ => 0))), (q3, .inl (cI, 24, .inl (fun _ => 0))), (q4, .inl (cI, 24, .inl (fun _ => 0))), (q5, .inl (cI, 24, .inl (fun _ => 0))), (q6, .inl (cI, 64, .inl (fun _ => 0))), (q7, .inl (cI, 8, .inl (fun _ => 0))), (q8, .inr (3, [.ref q9, .ref q10, .ref q11, .ref q12, .int 0])), (q9, .inl (cI, 4, .inl (fun _ => 0))), (q10, .inl (cI, 4, .inl (fun _ => 0))), (q11, .inl (cI, 24, .inl (fun _ => 0))), (q12, .inl (cI, 4, .inl (fun _ => 0))), (q13, .inr (7, [.ref q14, .ref q15, .int 0, .int 0])), (q14, .inl (cI, 8, .inl (fun _ => 0))), (q15, .inl (cI, 9, .inl (fun _ => 0)))] t.heap ∧ va_D (va_A [(h0, .inr (8, [.null, .null, .null, .int 0, .int 0]))] sz) [(h0, .inr (8, [.ref q1, .ref q8, .ref q13, .int 6, .int 5])), (q1, .inr (1, [.ref q2, .ref q3, .ref q4, .ref q5, .ref q6, .ref q7, .int 0, .int 0])), (q2, .inl (cI, 24, .inl (fun _ => 0))), (q3, .inl (cI, 24, .inl (fun _ => 0))), (q4, .inl (cI, 24, .inl (fun _ => 0))), (q5, .inl (cI, 24, .inl (fun _ => 0))), (q6, .inl (cI, 64, .inl (fun _ => 0))), (q7, .inl (cI, 8, .inl (fun _ => 0))), (q8, .inr (3, [.ref q9, .ref q10, .ref q11, .ref q12, .int 0])), (q9, .inl (cI, 4, .inl (fun _ => 0))), (q10, .inl (cI, 4, .inl (fun _ => 0))), (q11, .inl (cI, 24, .inl (fun _ => 0))), (q12, .inl (cI, 4, .inl (fun _ => 0))), (q13, .inr (7, [.ref q14, .ref q15, .int 0, .int 0])), (q14, .inl (cI, 8, .inl (fun _ => 0))), (q15, .inl (cI, 9, .inl (fun _ => 0)))]) (va_A [(h0, .inr (8, [.null, .null, .null, .int 0, .int 0]))] sz)) 15 238 (va_A [(h0, .inr (8, [.null, .null, .null, .int 0, .int 0]))] sz) := by
  refine Met.ofW (cc := cX8_init) (maxL := 1) (ret := none) (by decide) rfl ?_
  intro p e s m args below meth c s₁ B hml hv
  obtain ⟨rfl, hsz, hP, hK, hD0, hN⟩ := hv
  have hx := B.exec
  have hb := B.bytes
  have hr := B.returns
  have hts0 := atoms_spec (ws := Jvm.Cond.code yX8_init cX8_init 1 none :: zTb) B.pre
  have hts : ∀ w ∈ zTb, w.before (([.ref h0] : List Value).toArray) s = true := fun w hw => hts0 w (List.mem_cons_of_mem _ hw)
  have hown : s.vm.findClass RX8 = some m.cls := findClass_of_methodNamed B.named
  have hlocks := B.notSynchronized
  have hin : meth.name = "<init>" := (name_of_methodNamed B.named B.method).1
  subst hsz
  have hD := hD0.self (sz := s.heap.size)
  generalize hAe : va_A [(h0, .inr (8, [.null, .null, .null, .int 0, .int 0]))] s.heap.size = A at hD ⊢
  have hA : ∀ q : Nat, s.heap.size ≤ q → A q := fun q h => by rw [← hAe]; exact Or.inr h
  have hS : va_S A s.heap s.heap [] := va_S.rf
  have hP : va_P (dC, dI) vwCl [(h0, .inr (8, [.null, .null, .null, .int 0, .int 0]))] s.heap := hP
  have hl := lv_entry ([.ref h0]) (n := 1) (Nat.le_of_ble_eq_true rfl)
  rw [lg_entry_eq]
  generalize (lg_sl ([.ref h0]) ++ List.replicate (1 - (lg_sl ([.ref h0])).length) Slot.unset).toArray = ls at hl ⊢
  have hl : lv_has ls 1 [(0, .ref h0)] := hl
  refine lv_aload_n hx hb (zd_X8_init_0) rfl (lv_at hl 0 rfl) ?_
  refine W.objInit hx hb hown (hts _ (zwd_in zx_115)) (hts _ (zwd_in zx_108)) (hts _ (zwd_in zx_109)) rfl (by rw [hml]; exact hl.1) rfl (zd_X8_init_1) (Nat.le_of_ble_eq_true rfl) (Nat.le_of_ble_eq_true rfl) ?_
  refine W.eq (g2 := F0 m 4 ls []) rfl ?_
  refine lv_aload_n hx hb (zd_X8_init_4) rfl (lv_at hl 0 rfl) ?_
  refine va_new (ci := 1) (fs := [.null, .null, .null, .null, .null, .null, .int 0, .int 0]) (C := RX1) (T := TX1) (N := 8) hx hb hts zin_1 tyX1 tyX1_ok hown (hts _ (zwd_in zx_116)) (hts _ (zwd_in zx_117)) (hts _ (zwd_in zx_89)) hK hP hD hS hA rfl (zdf_1) (Nat.le_of_ble_eq_true rfl) (Nat.le_of_ble_eq_true rfl) (zd_X8_init_5) (fun q1 H hP hD hS => ?_)
  have hP : va_P (dC, dI) vwCl [(h0, .inr (8, [.null, .null, .null, .int 0, .int 0])), (q1, .inr (1, [.null, .null, .null, .null, .null, .null, .int 0, .int 0]))] H := hP
  have hD : va_D A [(h0, .inr (8, [.null, .null, .null, .int 0, .int 0])), (q1, .inr (1, [.null, .null, .null, .null, .null, .null, .int 0, .int 0]))] := hD
  refine lv_dup hx hb (zd_X8_init_8) rfl ?_
  have hPc := hP.sub (ws' := [(q1, .inr (1, [.null, .null, .null, .null, .null, .null, .int 0, .int 0]))]) [1] rfl
  have hDc := hD.sub (ws' := [(q1, .inr (1, [.null, .null, .null, .null, .null, .null, .int 0, .int 0]))]) [1] (by decide) rfl
  have hFc := va_free (wc := [(q1, .inr (1, [.null, .null, .null, .null, .null, .null, .int 0, .int 0]))]) hD hS hA [1] rfl
  refine va_callv (va_runIN (As := []) (rest := [.ref q1, .ref h0]) ⟨hx, hb, hml, hown, hts⟩ (zc_X1_init l dC dI cI cL cZ q1 H.size) ⟨va_cnB 0 hts (zGood (zwd_in zx_120)) rfl rfl rfl (hN _ (zwn_in zx_118)) (hts _ (zwd_in zx_89)) (by decide +kernel) ⟨Nat.le_of_ble_eq_true rfl, Nat.le_of_ble_eq_true rfl⟩, rfl, (hts _ (zwd_in zx_119))⟩ ⟨fun a U g mk q => by obtain ⟨q0, q1, qP, qK, qD, qN⟩ := q; exact ⟨q0, q1, qP, va_K.moved (u := U) (U := U.calling g mk a) (Vm.Alike.refl U.vm) qK, qD, zNN_call qN⟩, fun U hU hW => ⟨rfl, by rw [hU], by rw [hU]; exact hPc, va_K.moved hW.alike hK, hDc.weaken (fun _ _ _ _ => trivial), zNN_warm hW hN⟩⟩ rfl rfl hl.1 rfl (lv_room (Nat.le_of_ble_eq_true rfl)) (zd_X8_init_9) ⟨Nat.le_of_ble_eq_true rfl, Nat.le_of_ble_eq_true rfl⟩) hS (fun q _ h => hFc q h) hFc (fun u t H1 locs ht hvm hw hB hz1 hk1 hS => ?_)
  obtain ⟨q2, q3, q4, q5, q6, q7, hP1, hD1⟩ := hB
  rw [ht] at hP1
  obtain ⟨hP, hD⟩ := va_join (wr := [(h0, .inr (8, [.null, .null, .null, .int 0, .int 0]))]) (w1 := [(q1, .inr (1, [.ref q2, .ref q3, .ref q4, .ref q5, .ref q6, .ref q7, .int 0, .int 0])), (q2, .inl (cI, 24, .inl (fun _ => 0))), (q3, .inl (cI, 24, .inl (fun _ => 0))), (q4, .inl (cI, 24, .inl (fun _ => 0))), (q5, .inl (cI, 24, .inl (fun _ => 0))), (q6, .inl (cI, 64, .inl (fun _ => 0))), (q7, .inl (cI, 8, .inl (fun _ => 0)))]) hP hD [1] [0] rfl rfl (by decide) (by decide) hk1 hFc hP1 hD1
  generalize H1 = H at hP hS ⊢
  have hP : va_P (dC, dI) vwCl [(h0, .inr (8, [.null, .null, .null, .int 0, .int 0])), (q1, .inr (1, [.ref q2, .ref q3, .ref q4, .ref q5, .ref q6, .ref q7, .int 0, .int 0])), (q2, .inl (cI, 24, .inl (fun _ => 0))), (q3, .inl (cI, 24, .inl (fun _ => 0))), (q4, .inl (cI, 24, .inl (fun _ => 0))), (q5, .inl (cI, 24, .inl (fun _ => 0))), (q6, .inl (cI, 64, .inl (fun _ => 0))), (q7, .inl (cI, 8, .inl (fun _ => 0)))] H := hP
  have hD : va_D A [(h0, .inr (8, [.null, .null, .null, .int 0, .int 0])), (q1, .inr (1, [.ref q2, .ref q3, .ref q4, .ref q5, .ref q6, .ref q7, .int 0, .int 0])), (q2, .inl (cI, 24, .inl (fun _ => 0))), (q3, .inl (cI, 24, .inl (fun _ => 0))), (q4, .inl (cI, 24, .inl (fun _ => 0))), (q5, .inl (cI, 24, .inl (fun _ => 0))), (q6, .inl (cI, 64, .inl (fun _ => 0))), (q7, .inl (cI, 8, .inl (fun _ => 0)))] := hD
  refine va_putF (D := (dC, dI)) (ci := 8) (C := RX8) (T := TX8) (N := 5) (v := .ref q1) (ty := tyX8 0) hx hb hts zin_8 tyX8 tyX8_ok nmX8 hown hK hP hD hS 0 rfl rfl 0 (by decide) (hts _ (zwd_in zx_206)) (fun _ h9 => h9) rfl hin rfl (tyX8_ok 0 (by decide)) rfl rfl (Nat.le_of_ble_eq_true rfl) (zd_X8_init_12) (fun H locs hP hD hS => ?_)
  have hP : va_P (dC, dI) vwCl [(h0, .inr (8, [.ref q1, .null, .null, .int 0, .int 0])), (q1, .inr (1, [.ref q2, .ref q3, .ref q4, .ref q5, .ref q6, .ref q7, .int 0, .int 0])), (q2, .inl (cI, 24, .inl (fun _ => 0))), (q3, .inl (cI, 24, .inl (fun _ => 0))), (q4, .inl (cI, 24, .inl (fun _ => 0))), (q5, .inl (cI, 24, .inl (fun _ => 0))), (q6, .inl (cI, 64, .inl (fun _ => 0))), (q7, .inl (cI, 8, .inl (fun _ => 0)))] H := hP
  have hD : va_D A [(h0, .inr (8, [.ref q1, .null, .null, .int 0, .int 0])), (q1, .inr (1, [.ref q2, .ref q3, .ref q4, .ref q5, .ref q6, .ref q7, .int 0, .int 0])), (q2, .inl (cI, 24, .inl (fun _ => 0))), (q3, .inl (cI, 24, .inl (fun _ => 0))), (q4, .inl (cI, 24, .inl (fun _ => 0))), (q5, .inl (cI, 24, .inl (fun _ => 0))), (q6, .inl (cI, 64, .inl (fun _ => 0))), (q7, .inl (cI, 8, .inl (fun _ => 0)))] := hD
  refine lv_aload_n hx hb (zd_X8_init_15) rfl (lv_at hl 0 rfl) ?_
  refine va_new (ci := 3) (fs := [.null, .null, .null, .null, .int 0]) (C := RX3) (T := TX3) (N := 5) hx hb hts zin_3 tyX3 tyX3_ok hown (hts _ (zwd_in zx_154)) (hts _ (zwd_in zx_155)) (hts _ (zwd_in zx_90)) hK hP hD hS hA rfl (zdf_3) (Nat.le_of_ble_eq_true rfl) (Nat.le_of_ble_eq_true rfl) (zd_X8_init_16) (fun q8 H hP hD hS => ?_)
  have hP : va_P (dC, dI) vwCl [(h0, .inr (8, [.ref q1, .null, .null, .int 0, .int 0])), (q1, .inr (1, [.ref q2, .ref q3, .ref q4, .ref q5, .ref q6, .ref q7, .int 0, .int 0])), (q2, .inl (cI, 24, .inl (fun _ => 0))), (q3, .inl (cI, 24, .inl (fun _ => 0))), (q4, .inl (cI, 24, .inl (fun _ => 0))), (q5, .inl (cI, 24, .inl (fun _ => 0))), (q6, .inl (cI, 64, .inl (fun _ => 0))), (q7, .inl (cI, 8, .inl (fun _ => 0))), (q8, .inr (3, [.null, .null, .null, .null, .int 0]))] H := hP
  have hD : va_D A [(h0, .inr (8, [.ref q1, .null, .null, .int 0, .int 0])), (q1, .inr (1, [.ref q2, .ref q3, .ref q4, .ref q5, .ref q6, .ref q7, .int 0, .int 0])), (q2, .inl (cI, 24, .inl (fun _ => 0))), (q3, .inl (cI, 24, .inl (fun _ => 0))), (q4, .inl (cI, 24, .inl (fun _ => 0))), (q5, .inl (cI, 24, .inl (fun _ => 0))), (q6, .inl (cI, 64, .inl (fun _ => 0))), (q7, .inl (cI, 8, .inl (fun _ => 0))), (q8, .inr (3, [.null, .null, .null, .null, .int 0]))] := hD
  refine lv_dup hx hb (zd_X8_init_19) rfl ?_
  have hPc := hP.sub (ws' := [(q8, .inr (3, [.null, .null, .null, .null, .int 0]))]) [8] rfl
  have hDc := hD.sub (ws' := [(q8, .inr (3, [.null, .null, .null, .null, .int 0]))]) [8] (by decide) rfl
  have hFc := va_free (wc := [(q8, .inr (3, [.null, .null, .null, .null, .int 0]))]) hD hS hA [8] rfl
  refine va_callv (va_runIN (As := []) (rest := [.ref q8, .ref h0]) ⟨hx, hb, hml, hown, hts⟩ (zc_X3_init l dC dI cI cL cZ q8 H.size) ⟨va_cnB 0 hts (zGood (zwd_in zx_158)) rfl rfl rfl (hN _ (zwn_in zx_156)) (hts _ (zwd_in zx_90)) (by decide +kernel) ⟨Nat.le_of_ble_eq_true rfl, Nat.le_of_ble_eq_true rfl⟩, rfl, (hts _ (zwd_in zx_157))⟩ ⟨fun a U g mk q => by obtain ⟨q0, q1, qP, qK, qD, qN⟩ := q; exact ⟨q0, q1, qP, va_K.moved (u := U) (U := U.calling g mk a) (Vm.Alike.refl U.vm) qK, qD, zNN_call qN⟩, fun U hU hW => ⟨rfl, by rw [hU], by rw [hU]; exact hPc, va_K.moved hW.alike hK, hDc.weaken (fun _ _ _ _ => trivial), zNN_warm hW hN⟩⟩ rfl rfl hl.1 rfl (lv_room (Nat.le_of_ble_eq_true rfl)) (zd_X8_init_20) ⟨Nat.le_of_ble_eq_true rfl, Nat.le_of_ble_eq_true rfl⟩) hS (fun q _ h => hFc q h) hFc (fun u t H1 locs ht hvm hw hB hz1 hk1 hS => ?_)
  obtain ⟨q9, q10, q11, q12, hP1, hD1⟩ := hB
  rw [ht] at hP1
  obtain ⟨hP, hD⟩ := va_join (wr := [(h0, .inr (8, [.ref q1, .null, .null, .int 0, .int 0])), (q1, .inr (1, [.ref q2, .ref q3, .ref q4, .ref q5, .ref q6, .ref q7, .int 0, .int 0])), (q2, .inl (cI, 24, .inl (fun _ => 0))), (q3, .inl (cI, 24, .inl (fun _ => 0))), (q4, .inl (cI, 24, .inl (fun _ => 0))), (q5, .inl (cI, 24, .inl (fun _ => 0))), (q6, .inl (cI, 64, .inl (fun _ => 0))), (q7, .inl (cI, 8, .inl (fun _ => 0)))]) (w1 := [(q8, .inr (3, [.ref q9, .ref q10, .ref q11, .ref q12, .int 0])), (q9, .inl (cI, 4, .inl (fun _ => 0))), (q10, .inl (cI, 4, .inl (fun _ => 0))), (q11, .inl (cI, 24, .inl (fun _ => 0))), (q12, .inl (cI, 4, .inl (fun _ => 0)))]) hP hD [8] [0, 1, 2, 3, 4, 5, 6, 7] rfl rfl (by decide) (by decide) hk1 hFc hP1 hD1
  generalize H1 = H at hP hS ⊢
  have hP : va_P (dC, dI) vwCl [(h0, .inr (8, [.ref q1, .null, .null, .int 0, .int 0])), (q1, .inr (1, [.ref q2, .ref q3, .ref q4, .ref q5, .ref q6, .ref q7, .int 0, .int 0])), (q2, .inl (cI, 24, .inl (fun _ => 0))), (q3, .inl (cI, 24, .inl (fun _ => 0))), (q4, .inl (cI, 24, .inl (fun _ => 0))), (q5, .inl (cI, 24, .inl (fun _ => 0))), (q6, .inl (cI, 64, .inl (fun _ => 0))), (q7, .inl (cI, 8, .inl (fun _ => 0))), (q8, .inr (3, [.ref q9, .ref q10, .ref q11, .ref q12, .int 0])), (q9, .inl (cI, 4, .inl (fun _ => 0))), (q10, .inl (cI, 4, .inl (fun _ => 0))), (q11, .inl (cI, 24, .inl (fun _ => 0))), (q12, .inl (cI, 4, .inl (fun _ => 0)))] H := hP
  have hD : va_D A [(h0, .inr (8, [.ref q1, .null, .null, .int 0, .int 0])), (q1, .inr (1, [.ref q2, .ref q3, .ref q4, .ref q5, .ref q6, .ref q7, .int 0, .int 0])), (q2, .inl (cI, 24, .inl (fun _ => 0))), (q3, .inl (cI, 24, .inl (fun _ => 0))), (q4, .inl (cI, 24, .inl (fun _ => 0))), (q5, .inl (cI, 24, .inl (fun _ => 0))), (q6, .inl (cI, 64, .inl (fun _ => 0))), (q7, .inl (cI, 8, .inl (fun _ => 0))), (q8, .inr (3, [.ref q9, .ref q10, .ref q11, .ref q12, .int 0])), (q9, .inl (cI, 4, .inl (fun _ => 0))), (q10, .inl (cI, 4, .inl (fun _ => 0))), (q11, .inl (cI, 24, .inl (fun _ => 0))), (q12, .inl (cI, 4, .inl (fun _ => 0)))] := hD
  refine va_putF (D := (dC, dI)) (ci := 8) (C := RX8) (T := TX8) (N := 5) (v := .ref q8) (ty := tyX8 1) hx hb hts zin_8 tyX8 tyX8_ok nmX8 hown hK hP hD hS 0 rfl rfl 1 (by decide) (hts _ (zwd_in zx_211)) (fun _ h9 => h9) rfl hin rfl (tyX8_ok 1 (by decide)) rfl rfl (Nat.le_of_ble_eq_true rfl) (zd_X8_init_23) (fun H locs hP hD hS => ?_)
  have hP : va_P (dC, dI) vwCl [(h0, .inr (8, [.ref q1, .ref q8, .null, .int 0, .int 0])), (q1, .inr (1, [.ref q2, .ref q3, .ref q4, .ref q5, .ref q6, .ref q7, .int 0, .int 0])), (q2, .inl (cI, 24, .inl (fun _ => 0))), (q3, .inl (cI, 24, .inl (fun _ => 0))), (q4, .inl (cI, 24, .inl (fun _ => 0))), (q5, .inl (cI, 24, .inl (fun _ => 0))), (q6, .inl (cI, 64, .inl (fun _ => 0))), (q7, .inl (cI, 8, .inl (fun _ => 0))), (q8, .inr (3, [.ref q9, .ref q10, .ref q11, .ref q12, .int 0])), (q9, .inl (cI, 4, .inl (fun _ => 0))), (q10, .inl (cI, 4, .inl (fun _ => 0))), (q11, .inl (cI, 24, .inl (fun _ => 0))), (q12, .inl (cI, 4, .inl (fun _ => 0)))] H := hP
  have hD : va_D A [(h0, .inr (8, [.ref q1, .ref q8, .null, .int 0, .int 0])), (q1, .inr (1, [.ref q2, .ref q3, .ref q4, .ref q5, .ref q6, .ref q7, .int 0, .int 0])), (q2, .inl (cI, 24, .inl (fun _ => 0))), (q3, .inl (cI, 24, .inl (fun _ => 0))), (q4, .inl (cI, 24, .inl (fun _ => 0))), (q5, .inl (cI, 24, .inl (fun _ => 0))), (q6, .inl (cI, 64, .inl (fun _ => 0))), (q7, .inl (cI, 8, .inl (fun _ => 0))), (q8, .inr (3, [.ref q9, .ref q10, .ref q11, .ref q12, .int 0])), (q9, .inl (cI, 4, .inl (fun _ => 0))), (q10, .inl (cI, 4, .inl (fun _ => 0))), (q11, .inl (cI, 24, .inl (fun _ => 0))), (q12, .inl (cI, 4, .inl (fun _ => 0)))] := hD
  refine lv_aload_n hx hb (zd_X8_init_26) rfl (lv_at hl 0 rfl) ?_
  refine va_new (ci := 7) (fs := [.null, .null, .int 0, .int 0]) (C := RX7) (T := TX7) (N := 4) hx hb hts zin_7 tyX7 tyX7_ok hown (hts _ (zwd_in zx_179)) (hts _ (zwd_in zx_180)) (hts _ (zwd_in zx_91)) hK hP hD hS hA rfl (zdf_7) (Nat.le_of_ble_eq_true rfl) (Nat.le_of_ble_eq_true rfl) (zd_X8_init_27) (fun q13 H hP hD hS => ?_)
  have hP : va_P (dC, dI) vwCl [(h0, .inr (8, [.ref q1, .ref q8, .null, .int 0, .int 0])), (q1, .inr (1, [.ref q2, .ref q3, .ref q4, .ref q5, .ref q6, .ref q7, .int 0, .int 0])), (q2, .inl (cI, 24, .inl (fun _ => 0))), (q3, .inl (cI, 24, .inl (fun _ => 0))), (q4, .inl (cI, 24, .inl (fun _ => 0))), (q5, .inl (cI, 24, .inl (fun _ => 0))), (q6, .inl (cI, 64, .inl (fun _ => 0))), (q7, .inl (cI, 8, .inl (fun _ => 0))), (q8, .inr (3, [.ref q9, .ref q10, .ref q11, .ref q12, .int 0])), (q9, .inl (cI, 4, .inl (fun _ => 0))), (q10, .inl (cI, 4, .inl (fun _ => 0))), (q11, .inl (cI, 24, .inl (fun _ => 0))), (q12, .inl (cI, 4, .inl (fun _ => 0))), (q13, .inr (7, [.null, .null, .int 0, .int 0]))] H := hP
  have hD : va_D A [(h0, .inr (8, [.ref q1, .ref q8, .null, .int 0, .int 0])), (q1, .inr (1, [.ref q2, .ref q3, .ref q4, .ref q5, .ref q6, .ref q7, .int 0, .int 0])), (q2, .inl (cI, 24, .inl (fun _ => 0))), (q3, .inl (cI, 24, .inl (fun _ => 0))), (q4, .inl (cI, 24, .inl (fun _ => 0))), (q5, .inl (cI, 24, .inl (fun _ => 0))), (q6, .inl (cI, 64, .inl (fun _ => 0))), (q7, .inl (cI, 8, .inl (fun _ => 0))), (q8, .inr (3, [.ref q9, .ref q10, .ref q11, .ref q12, .int 0])), (q9, .inl (cI, 4, .inl (fun _ => 0))), (q10, .inl (cI, 4, .inl (fun _ => 0))), (q11, .inl (cI, 24, .inl (fun _ => 0))), (q12, .inl (cI, 4, .inl (fun _ => 0))), (q13, .inr (7, [.null, .null, .int 0, .int 0]))] := hD
  refine lv_dup hx hb (zd_X8_init_30) rfl ?_
  have hPc := hP.sub (ws' := [(q13, .inr (7, [.null, .null, .int 0, .int 0]))]) [13] rfl
  have hDc := hD.sub (ws' := [(q13, .inr (7, [.null, .null, .int 0, .int 0]))]) [13] (by decide) rfl
  have hFc := va_free (wc := [(q13, .inr (7, [.null, .null, .int 0, .int 0]))]) hD hS hA [13] rfl
  refine va_callv (va_runIN (As := []) (rest := [.ref q13, .ref h0]) ⟨hx, hb, hml, hown, hts⟩ (zc_X7_init l dC dI cI cL cZ q13 H.size) ⟨va_cnB 0 hts (zGood (zwd_in zx_183)) rfl rfl rfl (hN _ (zwn_in zx_181)) (hts _ (zwd_in zx_91)) (by decide +kernel) ⟨Nat.le_of_ble_eq_true rfl, Nat.le_of_ble_eq_true rfl⟩, rfl, (hts _ (zwd_in zx_182))⟩ ⟨fun a U g mk q => by obtain ⟨q0, q1, qP, qK, qD, qN⟩ := q; exact ⟨q0, q1, qP, va_K.moved (u := U) (U := U.calling g mk a) (Vm.Alike.refl U.vm) qK, qD, zNN_call qN⟩, fun U hU hW => ⟨rfl, by rw [hU], by rw [hU]; exact hPc, va_K.moved hW.alike hK, hDc.weaken (fun _ _ _ _ => trivial), zNN_warm hW hN⟩⟩ rfl rfl hl.1 rfl (lv_room (Nat.le_of_ble_eq_true rfl)) (zd_X8_init_31) ⟨Nat.le_of_ble_eq_true rfl, Nat.le_of_ble_eq_true rfl⟩) hS (fun q _ h => hFc q h) hFc (fun u t H1 locs ht hvm hw hB hz1 hk1 hS => ?_)
  obtain ⟨q14, q15, hP1, hD1⟩ := hB
  rw [ht] at hP1
  obtain ⟨hP, hD⟩ := va_join (wr := [(h0, .inr (8, [.ref q1, .ref q8, .null, .int 0, .int 0])), (q1, .inr (1, [.ref q2, .ref q3, .ref q4, .ref q5, .ref q6, .ref q7, .int 0, .int 0])), (q2, .inl (cI, 24, .inl (fun _ => 0))), (q3, .inl (cI, 24, .inl (fun _ => 0))), (q4, .inl (cI, 24, .inl (fun _ => 0))), (q5, .inl (cI, 24, .inl (fun _ => 0))), (q6, .inl (cI, 64, .inl (fun _ => 0))), (q7, .inl (cI, 8, .inl (fun _ => 0))), (q8, .inr (3, [.ref q9, .ref q10, .ref q11, .ref q12, .int 0])), (q9, .inl (cI, 4, .inl (fun _ => 0))), (q10, .inl (cI, 4, .inl (fun _ => 0))), (q11, .inl (cI, 24, .inl (fun _ => 0))), (q12, .inl (cI, 4, .inl (fun _ => 0)))]) (w1 := [(q13, .inr (7, [.ref q14, .ref q15, .int 0, .int 0])), (q14, .inl (cI, 8, .inl (fun _ => 0))), (q15, .inl (cI, 9, .inl (fun _ => 0)))]) hP hD [13] [0, 1, 2, 3, 4, 5, 6, 7, 8, 9, 10, 11, 12] rfl rfl (by decide) (by decide) hk1 hFc hP1 hD1
  generalize H1 = H at hP hS ⊢
  have hP : va_P (dC, dI) vwCl [(h0, .inr (8, [.ref q1, .ref q8, .null, .int 0, .int 0])), (q1, .inr (1, [.ref q2, .ref q3, .ref q4, .ref q5, .ref q6, .ref q7, .int 0, .int 0])), (q2, .inl (cI, 24, .inl (fun _ => 0))), (q3, .inl (cI, 24, .inl (fun _ => 0))), (q4, .inl (cI, 24, .inl (fun _ => 0))), (q5, .inl (cI, 24, .inl (fun _ => 0))), (q6, .inl (cI, 64, .inl (fun _ => 0))), (q7, .inl (cI, 8, .inl (fun _ => 0))), (q8, .inr (3, [.ref q9, .ref q10, .ref q11, .ref q12, .int 0])), (q9, .inl (cI, 4, .inl (fun _ => 0))), (q10, .inl (cI, 4, .inl (fun _ => 0))), (q11, .inl (cI, 24, .inl (fun _ => 0))), (q12, .inl (cI, 4, .inl (fun _ => 0))), (q13, .inr (7, [.ref q14, .ref q15, .int 0, .int 0])), (q14, .inl (cI, 8, .inl (fun _ => 0))), (q15, .inl (cI, 9, .inl (fun _ => 0)))] H := hP
  have hD : va_D A [(h0, .inr (8, [.ref q1, .ref q8, .null, .int 0, .int 0])), (q1, .inr (1, [.ref q2, .ref q3, .ref q4, .ref q5, .ref q6, .ref q7, .int 0, .int 0])), (q2, .inl (cI, 24, .inl (fun _ => 0))), (q3, .inl (cI, 24, .inl (fun _ => 0))), (q4, .inl (cI, 24, .inl (fun _ => 0))), (q5, .inl (cI, 24, .inl (fun _ => 0))), (q6, .inl (cI, 64, .inl (fun _ => 0))), (q7, .inl (cI, 8, .inl (fun _ => 0))), (q8, .inr (3, [.ref q9, .ref q10, .ref q11, .ref q12, .int 0])), (q9, .inl (cI, 4, .inl (fun _ => 0))), (q10, .inl (cI, 4, .inl (fun _ => 0))), (q11, .inl (cI, 24, .inl (fun _ => 0))), (q12, .inl (cI, 4, .inl (fun _ => 0))), (q13, .inr (7, [.ref q14, .ref q15, .int 0, .int 0])), (q14, .inl (cI, 8, .inl (fun _ => 0))), (q15, .inl (cI, 9, .inl (fun _ => 0)))] := hD
  refine va_putF (D := (dC, dI)) (ci := 8) (C := RX8) (T := TX8) (N := 5) (v := .ref q13) (ty := tyX8 2) hx hb hts zin_8 tyX8 tyX8_ok nmX8 hown hK hP hD hS 0 rfl rfl 2 (by decide) (hts _ (zwd_in zx_217)) (fun _ h9 => h9) rfl hin rfl (tyX8_ok 2 (by decide)) rfl rfl (Nat.le_of_ble_eq_true rfl) (zd_X8_init_34) (fun H locs hP hD hS => ?_)
  have hP : va_P (dC, dI) vwCl [(h0, .inr (8, [.ref q1, .ref q8, .ref q13, .int 0, .int 0])), (q1, .inr (1, [.ref q2, .ref q3, .ref q4, .ref q5, .ref q6, .ref q7, .int 0, .int 0])), (q2, .inl (cI, 24, .inl (fun _ => 0))), (q3, .inl (cI, 24, .inl (fun _ => 0))), (q4, .inl (cI, 24, .inl (fun _ => 0))), (q5, .inl (cI, 24, .inl (fun _ => 0))), (q6, .inl (cI, 64, .inl (fun _ => 0))), (q7, .inl (cI, 8, .inl (fun _ => 0))), (q8, .inr (3, [.ref q9, .ref q10, .ref q11, .ref q12, .int 0])), (q9, .inl (cI, 4, .inl (fun _ => 0))), (q10, .inl (cI, 4, .inl (fun _ => 0))), (q11, .inl (cI, 24, .inl (fun _ => 0))), (q12, .inl (cI, 4, .inl (fun _ => 0))), (q13, .inr (7, [.ref q14, .ref q15, .int 0, .int 0])), (q14, .inl (cI, 8, .inl (fun _ => 0))), (q15, .inl (cI, 9, .inl (fun _ => 0)))] H := hP
  have hD : va_D A [(h0, .inr (8, [.ref q1, .ref q8, .ref q13, .int 0, .int 0])), (q1, .inr (1, [.ref q2, .ref q3, .ref q4, .ref q5, .ref q6, .ref q7, .int 0, .int 0])), (q2, .inl (cI, 24, .inl (fun _ => 0))), (q3, .inl (cI, 24, .inl (fun _ => 0))), (q4, .inl (cI, 24, .inl (fun _ => 0))), (q5, .inl (cI, 24, .inl (fun _ => 0))), (q6, .inl (cI, 64, .inl (fun _ => 0))), (q7, .inl (cI, 8, .inl (fun _ => 0))), (q8, .inr (3, [.ref q9, .ref q10, .ref q11, .ref q12, .int 0])), (q9, .inl (cI, 4, .inl (fun _ => 0))), (q10, .inl (cI, 4, .inl (fun _ => 0))), (q11, .inl (cI, 24, .inl (fun _ => 0))), (q12, .inl (cI, 4, .inl (fun _ => 0))), (q13, .inr (7, [.ref q14, .ref q15, .int 0, .int 0])), (q14, .inl (cI, 8, .inl (fun _ => 0))), (q15, .inl (cI, 9, .inl (fun _ => 0)))] := hD
  refine lv_aload_n hx hb (zd_X8_init_37) rfl (lv_at hl 0 rfl) ?_
  refine lv_bipush (v := 6) hx hb (zd_X8_init_38) (by decide) ?_
  refine va_put (D := (dC, dI)) (ci := 8) (C := RX8) (T := TX8) (N := 5) (v := .int 6) (ty := tyX8 3) hx hb hts zin_8 tyX8 tyX8_ok nmX8 hown hK hP hD hS 0 rfl rfl 3 (by decide) (hts _ (zwd_in zx_222)) (fun _ h9 => h9) rfl (tyX8_ok 3 (by decide)) rfl rfl (Nat.le_of_ble_eq_true rfl) (zd_X8_init_40) (fun H locs hP hD hS => ?_)
  have hP : va_P (dC, dI) vwCl [(h0, .inr (8, [.ref q1, .ref q8, .ref q13, .int 6, .int 0])), (q1, .inr (1, [.ref q2, .ref q3, .ref q4, .ref q5, .ref q6, .ref q7, .int 0, .int 0])), (q2, .inl (cI, 24, .inl (fun _ => 0))), (q3, .inl (cI, 24, .inl (fun _ => 0))), (q4, .inl (cI, 24, .inl (fun _ => 0))), (q5, .inl (cI, 24, .inl (fun _ => 0))), (q6, .inl (cI, 64, .inl (fun _ => 0))), (q7, .inl (cI, 8, .inl (fun _ => 0))), (q8, .inr (3, [.ref q9, .ref q10, .ref q11, .ref q12, .int 0])), (q9, .inl (cI, 4, .inl (fun _ => 0))), (q10, .inl (cI, 4, .inl (fun _ => 0))), (q11, .inl (cI, 24, .inl (fun _ => 0))), (q12, .inl (cI, 4, .inl (fun _ => 0))), (q13, .inr (7, [.ref q14, .ref q15, .int 0, .int 0])), (q14, .inl (cI, 8, .inl (fun _ => 0))), (q15, .inl (cI, 9, .inl (fun _ => 0)))] H := hP
  have hD : va_D A [(h0, .inr (8, [.ref q1, .ref q8, .ref q13, .int 6, .int 0])), (q1, .inr (1, [.ref q2, .ref q3, .ref q4, .ref q5, .ref q6, .ref q7, .int 0, .int 0])), (q2, .inl (cI, 24, .inl (fun _ => 0))), (q3, .inl (cI, 24, .inl (fun _ => 0))), (q4, .inl (cI, 24, .inl (fun _ => 0))), (q5, .inl (cI, 24, .inl (fun _ => 0))), (q6, .inl (cI, 64, .inl (fun _ => 0))), (q7, .inl (cI, 8, .inl (fun _ => 0))), (q8, .inr (3, [.ref q9, .ref q10, .ref q11, .ref q12, .int 0])), (q9, .inl (cI, 4, .inl (fun _ => 0))), (q10, .inl (cI, 4, .inl (fun _ => 0))), (q11, .inl (cI, 24, .inl (fun _ => 0))), (q12, .inl (cI, 4, .inl (fun _ => 0))), (q13, .inr (7, [.ref q14, .ref q15, .int 0, .int 0])), (q14, .inl (cI, 8, .inl (fun _ => 0))), (q15, .inl (cI, 9, .inl (fun _ => 0)))] := hD
  refine lv_aload_n hx hb (zd_X8_init_43) rfl (lv_at hl 0 rfl) ?_
  refine lv_iconst (v := 5) hx hb (zd_X8_init_44) (by decide) ?_
  refine va_put (D := (dC, dI)) (ci := 8) (C := RX8) (T := TX8) (N := 5) (v := .int 5) (ty := tyX8 4) hx hb hts zin_8 tyX8 tyX8_ok nmX8 hown hK hP hD hS 0 rfl rfl 4 (by decide) (hts _ (zwd_in zx_226)) (fun _ h9 => h9) rfl (tyX8_ok 4 (by decide)) rfl rfl (Nat.le_of_ble_eq_true rfl) (zd_X8_init_45) (fun H locs hP hD hS => ?_)
  have hP : va_P (dC, dI) vwCl [(h0, .inr (8, [.ref q1, .ref q8, .ref q13, .int 6, .int 5])), (q1, .inr (1, [.ref q2, .ref q3, .ref q4, .ref q5, .ref q6, .ref q7, .int 0, .int 0])), (q2, .inl (cI, 24, .inl (fun _ => 0))), (q3, .inl (cI, 24, .inl (fun _ => 0))), (q4, .inl (cI, 24, .inl (fun _ => 0))), (q5, .inl (cI, 24, .inl (fun _ => 0))), (q6, .inl (cI, 64, .inl (fun _ => 0))), (q7, .inl (cI, 8, .inl (fun _ => 0))), (q8, .inr (3, [.ref q9, .ref q10, .ref q11, .ref q12, .int 0])), (q9, .inl (cI, 4, .inl (fun _ => 0))), (q10, .inl (cI, 4, .inl (fun _ => 0))), (q11, .inl (cI, 24, .inl (fun _ => 0))), (q12, .inl (cI, 4, .inl (fun _ => 0))), (q13, .inr (7, [.ref q14, .ref q15, .int 0, .int 0])), (q14, .inl (cI, 8, .inl (fun _ => 0))), (q15, .inl (cI, 9, .inl (fun _ => 0)))] H := hP
  have hD : va_D A [(h0, .inr (8, [.ref q1, .ref q8, .ref q13, .int 6, .int 5])), (q1, .inr (1, [.ref q2, .ref q3, .ref q4, .ref q5, .ref q6, .ref q7, .int 0, .int 0])), (q2, .inl (cI, 24, .inl (fun _ => 0))), (q3, .inl (cI, 24, .inl (fun _ => 0))), (q4, .inl (cI, 24, .inl (fun _ => 0))), (q5, .inl (cI, 24, .inl (fun _ => 0))), (q6, .inl (cI, 64, .inl (fun _ => 0))), (q7, .inl (cI, 8, .inl (fun _ => 0))), (q8, .inr (3, [.ref q9, .ref q10, .ref q11, .ref q12, .int 0])), (q9, .inl (cI, 4, .inl (fun _ => 0))), (q10, .inl (cI, 4, .inl (fun _ => 0))), (q11, .inl (cI, 24, .inl (fun _ => 0))), (q12, .inl (cI, 4, .inl (fun _ => 0))), (q13, .inr (7, [.ref q14, .ref q15, .int 0, .int 0])), (q14, .inl (cI, 8, .inl (fun _ => 0))), (q15, .inl (cI, 9, .inl (fun _ => 0)))] := hD
  have hP9 := hP.sub (ws' := [(h0, .inr (8, [.ref q1, .ref q8, .ref q13, .int 6, .int 5])), (q1, .inr (1, [.ref q2, .ref q3, .ref q4, .ref q5, .ref q6, .ref q7, .int 0, .int 0])), (q2, .inl (cI, 24, .inl (fun _ => 0))), (q3, .inl (cI, 24, .inl (fun _ => 0))), (q4, .inl (cI, 24, .inl (fun _ => 0))), (q5, .inl (cI, 24, .inl (fun _ => 0))), (q6, .inl (cI, 64, .inl (fun _ => 0))), (q7, .inl (cI, 8, .inl (fun _ => 0))), (q8, .inr (3, [.ref q9, .ref q10, .ref q11, .ref q12, .int 0])), (q9, .inl (cI, 4, .inl (fun _ => 0))), (q10, .inl (cI, 4, .inl (fun _ => 0))), (q11, .inl (cI, 24, .inl (fun _ => 0))), (q12, .inl (cI, 4, .inl (fun _ => 0))), (q13, .inr (7, [.ref q14, .ref q15, .int 0, .int 0])), (q14, .inl (cI, 8, .inl (fun _ => 0))), (q15, .inl (cI, 9, .inl (fun _ => 0)))]) [0, 1, 2, 3, 4, 5, 6, 7, 8, 9, 10, 11, 12, 13, 14, 15] rfl
  have hD9 := hD.sub (ws' := [(h0, .inr (8, [.ref q1, .ref q8, .ref q13, .int 6, .int 5])), (q1, .inr (1, [.ref q2, .ref q3, .ref q4, .ref q5, .ref q6, .ref q7, .int 0, .int 0])), (q2, .inl (cI, 24, .inl (fun _ => 0))), (q3, .inl (cI, 24, .inl (fun _ => 0))), (q4, .inl (cI, 24, .inl (fun _ => 0))), (q5, .inl (cI, 24, .inl (fun _ => 0))), (q6, .inl (cI, 64, .inl (fun _ => 0))), (q7, .inl (cI, 8, .inl (fun _ => 0))), (q8, .inr (3, [.ref q9, .ref q10, .ref q11, .ref q12, .int 0])), (q9, .inl (cI, 4, .inl (fun _ => 0))), (q10, .inl (cI, 4, .inl (fun _ => 0))), (q11, .inl (cI, 24, .inl (fun _ => 0))), (q12, .inl (cI, 4, .inl (fun _ => 0))), (q13, .inr (7, [.ref q14, .ref q15, .int 0, .int 0])), (q14, .inl (cI, 8, .inl (fun _ => 0))), (q15, .inl (cI, 9, .inl (fun _ => 0)))]) [0, 1, 2, 3, 4, 5, 6, 7, 8, 9, 10, 11, 12, 13, 14, 15] (by decide) rfl
  exact W.vret hx hb hr (fun t ht hW => ⟨⟨(), rfl, trivial, q1, q2, q3, q4, q5, q6, q7, q8, q9, q10, q11, q12, q13, q14, q15, by subst ht; exact hP9, hD9⟩, hS.F ht⟩) hS.2.2 (zd_X8_init_48)
theorem zd_X6_init_0 : decode cX6_init 0 = .ok (.aload_n 0, 1) := by decide +kernel
theorem zd_X6_init_1 : decode cX6_init 1 = .ok (.invokespecial 3, 3) := by decide +kernel
theorem zd_X6_init_4 : decode cX6_init 4 = .ok (.aload_n 0, 1) := by decide +kernel
theorem zd_X6_init_5 : decode cX6_init 5 = .ok (.bipush 64, 2) := by decide +kernel
theorem zd_X6_init_7 : decode cX6_init 7 = .ok (.newarray .int, 2) := by decide +kernel
theorem zd_X6_init_9 : decode cX6_init 9 = .ok (.putfield 9, 3) := by decide +kernel
theorem zd_X6_init_12 : decode cX6_init 12 = .ok (.aload_n 0, 1) := by decide +kernel
theorem zd_X6_init_13 : decode cX6_init 13 = .ok (.new 15, 3) := by decide +kernel
theorem zd_X6_init_16 : decode cX6_init 16 = .ok (.dup, 1) := by decide +kernel
theorem zd_X6_init_17 : decode cX6_init 17 = .ok (.invokespecial 17, 3) := by decide +kernel
theorem zd_X6_init_20 : decode cX6_init 20 = .ok (.putfield 18, 3) := by decide +kernel
theorem zd_X6_init_23 : decode cX6_init 23 = .ok (.aload_n 0, 1) := by decide +kernel
theorem zd_X6_init_24 : decode cX6_init 24 = .ok (.iconst 0, 1) := by decide +kernel
theorem zd_X6_init_25 : decode cX6_init 25 = .ok (.putfield 22, 3) := by decide +kernel
theorem zd_X6_init_28 : decode cX6_init 28 = .ok (.aload_n 0, 1) := by decide +kernel
theorem zd_X6_init_29 : decode cX6_init 29 = .ok (.iconst 0, 1) := by decide +kernel
theorem zd_X6_init_30 : decode cX6_init 30 = .ok (.putfield 26, 3) := by decide +kernel
theorem zd_X6_init_33 : decode cX6_init 33 = .ok (.return_, 1) := by decide +kernel
set_option maxHeartbeats 4000000 in
set_option maxRecDepth 100000 in
/-- EverySecondWord$Reader: 17 cells of 307 slots come -/
theorem zc_X6_init (l : Launch) (dC : Nat → ClassId) (dI : Nat → Nat → Nat) (cI cL cZ : ClassId) (h0 : Nat) (sz : Nat) : Met l yX6_init (Jvm.Cond.code yX6_init cX6_init 1 none :: zTb) ({ frames := 3, cells := 17, slots := 307, locals := 52 }) (va_Pc [.ref h0] (fun U => U.heap.size = sz ∧ va_P (dC, dI) vwCl [(h0, .inr (6, [.null, .null, .int 0, .int 0]))] U.heap ∧ va_K (dC, dI) vwCl [(cI, .int), (cL, .long), (cZ, .boolean)] U ∧ va_D (fun _ => True) [(h0, .inr (6, [.null, .null, .int 0, .int 0]))] ∧ zNN U)) (va_Qv (fun _ : Unit => True) (fun _ t => ∃ q1 q2 q3 q4 q5 q6 q7 q8 q9 q10 q11 q12 q13 q14 q15 q16 q17 : Nat, va_P (dC, dI) vwCl [(h0, .inr (6, [.ref q1, .ref q2, .int 0, .int 0])), (q1, .inl (cI, 64, .inl (fun _ => 0))), (q2, .inr (8, [.ref q3, .ref q10, .ref q15, .int 6, .int 5])), (q3, .inr (1, [.ref q4, .ref q5, .ref q6, .ref q7, .ref q8, .ref q9, .int 0, .int 0])), (q4, .inl (cI, 24, .inl (fun _ => 0))), (q5, .inl (cI, 24, .inl (fun _ => 0))), (q6, .inl (cI, 24, .inl (fun _ => 0))), (q7, .inl (cI, 24, .inl (fun _ => 0))), (q8, .inl (cI, 64, .inl (fun _ => 0))), (q9, .inl (cI, 8, .inl (fun _ => 0))), (q10, .inr (3, [.ref q11, .ref q12, .ref q13, .ref q14, .int 0])), (q11, .inl (cI, 4, .inl (fun _ => 0))), (q12, .inl (cI, 4, .inl (fun _ => 0))), (q13, .inl (cI, 24, .inl (fun _ => 0))), (q14, .inl (cI, 4, .inl (fun _ => 0))), (q15, .inr (7, [.ref q16, .ref q17, .int 0, .int 0])), (q16, .inl (cI, 8, .inl (fun _ => 0))), (q17, .inl (cI, 9, .inl (fun _ => 0)))] t.heap ∧ va_D (va_A [(h0, .inr (6, [.null, .null, .int 0, .int 0]))] sz) [(h0, .inr (6, [.ref q1, .ref q2, .int 0, .int 0])), (q1, .inl (cI, 64, .inl (fun _ => 0))), (q2, .inr (8, [.ref q3, .ref q10, .ref q15, .int 6, .int 5])), (q3, .inr (1, [.ref q4, .ref q5, .ref q6, .ref q7, .ref q8, .ref q9, .int 0, .int 0])), (q4, .inl (cI, 24, .inl (fun _ => 0))), (q5, .inl (cI, 24, .inl (fun _ => 0))), (q6, .inl (cI, 24, .inl (fun _ => 0))), (q7, .inl (cI, 24, .inl (fun _ => 0))), (q8, .inl (cI, 64, .inl (fun _ => 0))), (q9, .inl (cI, 8, .inl (fun _ => 0))), (q10, .inr (3, [.ref q11, .ref q12, .ref q13, .ref q14, .int 0])), (q11, .inl (cI, 4, .inl (fun _ => 0))), (q12, .inl (cI, 4, .inl (fun _ => 0))), (q13, .inl (cI, 24, .inl (fun _ => 0))), (q14, .inl (cI, 4, .inl (fun _ => 0))), (q15, .inr (7, [.ref q16, .ref q17, .int 0, .int 0])), (q16, .inl (cI, 8, .inl (fun _ => 0))), (q17, .inl (cI, 9, .inl (fun _ => 0)))]) (va_A [(h0, .inr (6, [.null, .null, .int 0, .int 0]))] sz)) 17 307 (va_A [(h0, .inr (6, [.null, .null, .int 0, .int 0]))] sz) := by
  refine Met.ofW (cc := cX6_init) (maxL := 1) (ret := none) (by decide) rfl ?_
  intro p e s m args below meth c s₁ B hml hv
  obtain ⟨rfl, hsz, hP, hK, hD0, hN⟩ := hv
  have hx := B.exec
  have hb := B.bytes
  have hr := B.returns
  have hts0 := atoms_spec (ws := Jvm.Cond.code yX6_init cX6_init 1 none :: zTb) B.pre
  have hts : ∀ w ∈ zTb, w.before (([.ref h0] : List Value).toArray) s = true := fun w hw => hts0 w (List.mem_cons_of_mem _ hw)
  have hown : s.vm.findClass RX6 = some m.cls := findClass_of_methodNamed B.named
  have hlocks := B.notSynchronized
  have hin : meth.name = "<init>" := (name_of_methodNamed B.named B.method).1
  subst hsz
  have hD := hD0.self (sz := s.heap.size)
  generalize hAe : va_A [(h0, .inr (6, [.null, .null, .int 0, .int 0]))] s.heap.size = A at hD ⊢
  have hA : ∀ q : Nat, s.heap.size ≤ q → A q := fun q h => by rw [← hAe]; exact Or.inr h
  have hS : va_S A s.heap s.heap [] := va_S.rf
  have hP : va_P (dC, dI) vwCl [(h0, .inr (6, [.null, .null, .int 0, .int 0]))] s.heap := hP
  have hl := lv_entry ([.ref h0]) (n := 1) (Nat.le_of_ble_eq_true rfl)
  rw [lg_entry_eq]
  generalize (lg_sl ([.ref h0]) ++ List.replicate (1 - (lg_sl ([.ref h0])).length) Slot.unset).toArray = ls at hl ⊢
  have hl : lv_has ls 1 [(0, .ref h0)] := hl
  refine lv_aload_n hx hb (zd_X6_init_0) rfl (lv_at hl 0 rfl) ?_
  refine W.objInit hx hb hown (hts _ (zwd_in zx_246)) (hts _ (zwd_in zx_108)) (hts _ (zwd_in zx_109)) rfl (by rw [hml]; exact hl.1) rfl (zd_X6_init_1) (Nat.le_of_ble_eq_true rfl) (Nat.le_of_ble_eq_true rfl) ?_
  refine W.eq (g2 := F0 m 4 ls []) rfl ?_
  refine lv_aload_n hx hb (zd_X6_init_4) rfl (lv_at hl 0 rfl) ?_
  refine lv_bipush (v := 64) hx hb (zd_X6_init_5) (by decide) ?_
  refine zw_newa (atype := .int) (ty := .int) (cI := cI) (t0 := 0) hx hb (hts _ (zwd_in zx_153)) rfl hK rfl hP hD hS hA (a0 := (64, .inl (fun _ => 0))) (fun cA => by first | rfl | (simp [vp_cell, arrV]; rfl)) (by decide) (by decide) (Nat.le_of_ble_eq_true rfl) (Nat.le_of_ble_eq_true rfl) (Nat.le_of_ble_eq_true rfl) (zd_X6_init_7) (fun q1 H hP hD hS => ?_)
  have hP : va_P (dC, dI) vwCl [(h0, .inr (6, [.null, .null, .int 0, .int 0])), (q1, .inl (cI, 64, .inl (fun _ => 0)))] H := hP
  have hD : va_D A [(h0, .inr (6, [.null, .null, .int 0, .int 0])), (q1, .inl (cI, 64, .inl (fun _ => 0)))] := hD
  refine va_putF (D := (dC, dI)) (ci := 6) (C := RX6) (T := TX6) (N := 4) (v := .ref q1) (ty := tyX6 0) hx hb hts zin_6 tyX6 tyX6_ok nmX6 hown hK hP hD hS 0 rfl rfl 0 (by decide) (hts _ (zwd_in zx_249)) (fun _ h9 => h9) rfl hin rfl (tyX6_ok 0 (by decide)) rfl rfl (Nat.le_of_ble_eq_true rfl) (zd_X6_init_9) (fun H locs hP hD hS => ?_)
  have hP : va_P (dC, dI) vwCl [(h0, .inr (6, [.ref q1, .null, .int 0, .int 0])), (q1, .inl (cI, 64, .inl (fun _ => 0)))] H := hP
  have hD : va_D A [(h0, .inr (6, [.ref q1, .null, .int 0, .int 0])), (q1, .inl (cI, 64, .inl (fun _ => 0)))] := hD
  refine lv_aload_n hx hb (zd_X6_init_12) rfl (lv_at hl 0 rfl) ?_
  refine va_new (ci := 8) (fs := [.null, .null, .null, .int 0, .int 0]) (C := RX8) (T := TX8) (N := 5) hx hb hts zin_8 tyX8 tyX8_ok hown (hts _ (zwd_in zx_247)) (hts _ (zwd_in zx_111)) (hts _ (zwd_in zx_88)) hK hP hD hS hA rfl (zdf_8) (Nat.le_of_ble_eq_true rfl) (Nat.le_of_ble_eq_true rfl) (zd_X6_init_13) (fun q2 H hP hD hS => ?_)
  have hP : va_P (dC, dI) vwCl [(h0, .inr (6, [.ref q1, .null, .int 0, .int 0])), (q1, .inl (cI, 64, .inl (fun _ => 0))), (q2, .inr (8, [.null, .null, .null, .int 0, .int 0]))] H := hP
  have hD : va_D A [(h0, .inr (6, [.ref q1, .null, .int 0, .int 0])), (q1, .inl (cI, 64, .inl (fun _ => 0))), (q2, .inr (8, [.null, .null, .null, .int 0, .int 0]))] := hD
  refine lv_dup hx hb (zd_X6_init_16) rfl ?_
  have hPc := hP.sub (ws' := [(q2, .inr (8, [.null, .null, .null, .int 0, .int 0]))]) [2] rfl
  have hDc := hD.sub (ws' := [(q2, .inr (8, [.null, .null, .null, .int 0, .int 0]))]) [2] (by decide) rfl
  have hFc := va_free (wc := [(q2, .inr (8, [.null, .null, .null, .int 0, .int 0]))]) hD hS hA [2] rfl
  refine va_callv (va_runIN (As := []) (rest := [.ref q2, .ref h0]) ⟨hx, hb, hml, hown, hts⟩ (zc_X8_init l dC dI cI cL cZ q2 H.size) ⟨va_cnB 0 hts (zGood (zwd_in zx_114)) rfl rfl rfl (hN _ (zwn_in zx_248)) (hts _ (zwd_in zx_88)) (by decide +kernel) ⟨Nat.le_of_ble_eq_true rfl, Nat.le_of_ble_eq_true rfl⟩, rfl, (hts _ (zwd_in zx_113))⟩ ⟨fun a U g mk q => by obtain ⟨q0, q1, qP, qK, qD, qN⟩ := q; exact ⟨q0, q1, qP, va_K.moved (u := U) (U := U.calling g mk a) (Vm.Alike.refl U.vm) qK, qD, zNN_call qN⟩, fun U hU hW => ⟨rfl, by rw [hU], by rw [hU]; exact hPc, va_K.moved hW.alike hK, hDc.weaken (fun _ _ _ _ => trivial), zNN_warm hW hN⟩⟩ rfl rfl hl.1 rfl (lv_room (Nat.le_of_ble_eq_true rfl)) (zd_X6_init_17) ⟨Nat.le_of_ble_eq_true rfl, Nat.le_of_ble_eq_true rfl⟩) hS (fun q _ h => hFc q h) hFc (fun u t H1 locs ht hvm hw hB hz1 hk1 hS => ?_)
  obtain ⟨q3, q4, q5, q6, q7, q8, q9, q10, q11, q12, q13, q14, q15, q16, q17, hP1, hD1⟩ := hB
  rw [ht] at hP1
  obtain ⟨hP, hD⟩ := va_join (wr := [(h0, .inr (6, [.ref q1, .null, .int 0, .int 0])), (q1, .inl (cI, 64, .inl (fun _ => 0)))]) (w1 := [(q2, .inr (8, [.ref q3, .ref q10, .ref q15, .int 6, .int 5])), (q3, .inr (1, [.ref q4, .ref q5, .ref q6, .ref q7, .ref q8, .ref q9, .int 0, .int 0])), (q4, .inl (cI, 24, .inl (fun _ => 0))), (q5, .inl (cI, 24, .inl (fun _ => 0))), (q6, .inl (cI, 24, .inl (fun _ => 0))), (q7, .inl (cI, 24, .inl (fun _ => 0))), (q8, .inl (cI, 64, .inl (fun _ => 0))), (q9, .inl (cI, 8, .inl (fun _ => 0))), (q10, .inr (3, [.ref q11, .ref q12, .ref q13, .ref q14, .int 0])), (q11, .inl (cI, 4, .inl (fun _ => 0))), (q12, .inl (cI, 4, .inl (fun _ => 0))), (q13, .inl (cI, 24, .inl (fun _ => 0))), (q14, .inl (cI, 4, .inl (fun _ => 0))), (q15, .inr (7, [.ref q16, .ref q17, .int 0, .int 0])), (q16, .inl (cI, 8, .inl (fun _ => 0))), (q17, .inl (cI, 9, .inl (fun _ => 0)))]) hP hD [2] [0, 1] rfl rfl (by decide) (by decide) hk1 hFc hP1 hD1
  generalize H1 = H at hP hS ⊢
  have hP : va_P (dC, dI) vwCl [(h0, .inr (6, [.ref q1, .null, .int 0, .int 0])), (q1, .inl (cI, 64, .inl (fun _ => 0))), (q2, .inr (8, [.ref q3, .ref q10, .ref q15, .int 6, .int 5])), (q3, .inr (1, [.ref q4, .ref q5, .ref q6, .ref q7, .ref q8, .ref q9, .int 0, .int 0])), (q4, .inl (cI, 24, .inl (fun _ => 0))), (q5, .inl (cI, 24, .inl (fun _ => 0))), (q6, .inl (cI, 24, .inl (fun _ => 0))), (q7, .inl (cI, 24, .inl (fun _ => 0))), (q8, .inl (cI, 64, .inl (fun _ => 0))), (q9, .inl (cI, 8, .inl (fun _ => 0))), (q10, .inr (3, [.ref q11, .ref q12, .ref q13, .ref q14, .int 0])), (q11, .inl (cI, 4, .inl (fun _ => 0))), (q12, .inl (cI, 4, .inl (fun _ => 0))), (q13, .inl (cI, 24, .inl (fun _ => 0))), (q14, .inl (cI, 4, .inl (fun _ => 0))), (q15, .inr (7, [.ref q16, .ref q17, .int 0, .int 0])), (q16, .inl (cI, 8, .inl (fun _ => 0))), (q17, .inl (cI, 9, .inl (fun _ => 0)))] H := hP
  have hD : va_D A [(h0, .inr (6, [.ref q1, .null, .int 0, .int 0])), (q1, .inl (cI, 64, .inl (fun _ => 0))), (q2, .inr (8, [.ref q3, .ref q10, .ref q15, .int 6, .int 5])), (q3, .inr (1, [.ref q4, .ref q5, .ref q6, .ref q7, .ref q8, .ref q9, .int 0, .int 0])), (q4, .inl (cI, 24, .inl (fun _ => 0))), (q5, .inl (cI, 24, .inl (fun _ => 0))), (q6, .inl (cI, 24, .inl (fun _ => 0))), (q7, .inl (cI, 24, .inl (fun _ => 0))), (q8, .inl (cI, 64, .inl (fun _ => 0))), (q9, .inl (cI, 8, .inl (fun _ => 0))), (q10, .inr (3, [.ref q11, .ref q12, .ref q13, .ref q14, .int 0])), (q11, .inl (cI, 4, .inl (fun _ => 0))), (q12, .inl (cI, 4, .inl (fun _ => 0))), (q13, .inl (cI, 24, .inl (fun _ => 0))), (q14, .inl (cI, 4, .inl (fun _ => 0))), (q15, .inr (7, [.ref q16, .ref q17, .int 0, .int 0])), (q16, .inl (cI, 8, .inl (fun _ => 0))), (q17, .inl (cI, 9, .inl (fun _ => 0)))] := hD
  refine va_putF (D := (dC, dI)) (ci := 6) (C := RX6) (T := TX6) (N := 4) (v := .ref q2) (ty := tyX6 1) hx hb hts zin_6 tyX6 tyX6_ok nmX6 hown hK hP hD hS 0 rfl rfl 1 (by decide) (hts _ (zwd_in zx_250)) (fun _ h9 => h9) rfl hin rfl (tyX6_ok 1 (by decide)) rfl rfl (Nat.le_of_ble_eq_true rfl) (zd_X6_init_20) (fun H locs hP hD hS => ?_)
  have hP : va_P (dC, dI) vwCl [(h0, .inr (6, [.ref q1, .ref q2, .int 0, .int 0])), (q1, .inl (cI, 64, .inl (fun _ => 0))), (q2, .inr (8, [.ref q3, .ref q10, .ref q15, .int 6, .int 5])), (q3, .inr (1, [.ref q4, .ref q5, .ref q6, .ref q7, .ref q8, .ref q9, .int 0, .int 0])), (q4, .inl (cI, 24, .inl (fun _ => 0))), (q5, .inl (cI, 24, .inl (fun _ => 0))), (q6, .inl (cI, 24, .inl (fun _ => 0))), (q7, .inl (cI, 24, .inl (fun _ => 0))), (q8, .inl (cI, 64, .inl (fun _ => 0))), (q9, .inl (cI, 8, .inl (fun _ => 0))), (q10, .inr (3, [.ref q11, .ref q12, .ref q13, .ref q14, .int 0])), (q11, .inl (cI, 4, .inl (fun _ => 0))), (q12, .inl (cI, 4, .inl (fun _ => 0))), (q13, .inl (cI, 24, .inl (fun _ => 0))), (q14, .inl (cI, 4, .inl (fun _ => 0))), (q15, .inr (7, [.ref q16, .ref q17, .int 0, .int 0])), (q16, .inl (cI, 8, .inl (fun _ => 0))), (q17, .inl (cI, 9, .inl (fun _ => 0)))] H := hP
  have hD : va_D A [(h0, .inr (6, [.ref q1, .ref q2, .int 0, .int 0])), (q1, .inl (cI, 64, .inl (fun _ => 0))), (q2, .inr (8, [.ref q3, .ref q10, .ref q15, .int 6, .int 5])), (q3, .inr (1, [.ref q4, .ref q5, .ref q6, .ref q7, .ref q8, .ref q9, .int 0, .int 0])), (q4, .inl (cI, 24, .inl (fun _ => 0))), (q5, .inl (cI, 24, .inl (fun _ => 0))), (q6, .inl (cI, 24, .inl (fun _ => 0))), (q7, .inl (cI, 24, .inl (fun _ => 0))), (q8, .inl (cI, 64, .inl (fun _ => 0))), (q9, .inl (cI, 8, .inl (fun _ => 0))), (q10, .inr (3, [.ref q11, .ref q12, .ref q13, .ref q14, .int 0])), (q11, .inl (cI, 4, .inl (fun _ => 0))), (q12, .inl (cI, 4, .inl (fun _ => 0))), (q13, .inl (cI, 24, .inl (fun _ => 0))), (q14, .inl (cI, 4, .inl (fun _ => 0))), (q15, .inr (7, [.ref q16, .ref q17, .int 0, .int 0])), (q16, .inl (cI, 8, .inl (fun _ => 0))), (q17, .inl (cI, 9, .inl (fun _ => 0)))] := hD
  refine lv_aload_n hx hb (zd_X6_init_23) rfl (lv_at hl 0 rfl) ?_
  refine lv_iconst (v := 0) hx hb (zd_X6_init_24) (by decide) ?_
  refine va_put (D := (dC, dI)) (ci := 6) (C := RX6) (T := TX6) (N := 4) (v := .int 0) (ty := tyX6 2) hx hb hts zin_6 tyX6 tyX6_ok nmX6 hown hK hP hD hS 0 rfl rfl 2 (by decide) (hts _ (zwd_in zx_251)) (fun _ h9 => h9) rfl (tyX6_ok 2 (by decide)) rfl rfl (Nat.le_of_ble_eq_true rfl) (zd_X6_init_25) (fun H locs hP hD hS => ?_)
  have hP : va_P (dC, dI) vwCl [(h0, .inr (6, [.ref q1, .ref q2, .int 0, .int 0])), (q1, .inl (cI, 64, .inl (fun _ => 0))), (q2, .inr (8, [.ref q3, .ref q10, .ref q15, .int 6, .int 5])), (q3, .inr (1, [.ref q4, .ref q5, .ref q6, .ref q7, .ref q8, .ref q9, .int 0, .int 0])), (q4, .inl (cI, 24, .inl (fun _ => 0))), (q5, .inl (cI, 24, .inl (fun _ => 0))), (q6, .inl (cI, 24, .inl (fun _ => 0))), (q7, .inl (cI, 24, .inl (fun _ => 0))), (q8, .inl (cI, 64, .inl (fun _ => 0))), (q9, .inl (cI, 8, .inl (fun _ => 0))), (q10, .inr (3, [.ref q11, .ref q12, .ref q13, .ref q14, .int 0])), (q11, .inl (cI, 4, .inl (fun _ => 0))), (q12, .inl (cI, 4, .inl (fun _ => 0))), (q13, .inl (cI, 24, .inl (fun _ => 0))), (q14, .inl (cI, 4, .inl (fun _ => 0))), (q15, .inr (7, [.ref q16, .ref q17, .int 0, .int 0])), (q16, .inl (cI, 8, .inl (fun _ => 0))), (q17, .inl (cI, 9, .inl (fun _ => 0)))] H := hP
  have hD : va_D A [(h0, .inr (6, [.ref q1, .ref q2, .int 0, .int 0])), (q1, .inl (cI, 64, .inl (fun _ => 0))), (q2, .inr (8, [.ref q3, .ref q10, .ref q15, .int 6, .int 5])), (q3, .inr (1, [.ref q4, .ref q5, .ref q6, .ref q7, .ref q8, .ref q9, .int 0, .int 0])), (q4, .inl (cI, 24, .inl (fun _ => 0))), (q5, .inl (cI, 24, .inl (fun _ => 0))), (q6, .inl (cI, 24, .inl (fun _ => 0))), (q7, .inl (cI, 24, .inl (fun _ => 0))), (q8, .inl (cI, 64, .inl (fun _ => 0))), (q9, .inl (cI, 8, .inl (fun _ => 0))), (q10, .inr (3, [.ref q11, .ref q12, .ref q13, .ref q14, .int 0])), (q11, .inl (cI, 4, .inl (fun _ => 0))), (q12, .inl (cI, 4, .inl (fun _ => 0))), (q13, .inl (cI, 24, .inl (fun _ => 0))), (q14, .inl (cI, 4, .inl (fun _ => 0))), (q15, .inr (7, [.ref q16, .ref q17, .int 0, .int 0])), (q16, .inl (cI, 8, .inl (fun _ => 0))), (q17, .inl (cI, 9, .inl (fun _ => 0)))] := hD
  refine lv_aload_n hx hb (zd_X6_init_28) rfl (lv_at hl 0 rfl) ?_
  refine lv_iconst (v := 0) hx hb (zd_X6_init_29) (by decide) ?_
  refine va_put (D := (dC, dI)) (ci := 6) (C := RX6) (T := TX6) (N := 4) (v := .int 0) (ty := tyX6 3) hx hb hts zin_6 tyX6 tyX6_ok nmX6 hown hK hP hD hS 0 rfl rfl 3 (by decide) (hts _ (zwd_in zx_253)) (fun _ h9 => h9) rfl (tyX6_ok 3 (by decide)) rfl rfl (Nat.le_of_ble_eq_true rfl) (zd_X6_init_30) (fun H locs hP hD hS => ?_)
  have hP : va_P (dC, dI) vwCl [(h0, .inr (6, [.ref q1, .ref q2, .int 0, .int 0])), (q1, .inl (cI, 64, .inl (fun _ => 0))), (q2, .inr (8, [.ref q3, .ref q10, .ref q15, .int 6, .int 5])), (q3, .inr (1, [.ref q4, .ref q5, .ref q6, .ref q7, .ref q8, .ref q9, .int 0, .int 0])), (q4, .inl (cI, 24, .inl (fun _ => 0))), (q5, .inl (cI, 24, .inl (fun _ => 0))), (q6, .inl (cI, 24, .inl (fun _ => 0))), (q7, .inl (cI, 24, .inl (fun _ => 0))), (q8, .inl (cI, 64, .inl (fun _ => 0))), (q9, .inl (cI, 8, .inl (fun _ => 0))), (q10, .inr (3, [.ref q11, .ref q12, .ref q13, .ref q14, .int 0])), (q11, .inl (cI, 4, .inl (fun _ => 0))), (q12, .inl (cI, 4, .inl (fun _ => 0))), (q13, .inl (cI, 24, .inl (fun _ => 0))), (q14, .inl (cI, 4, .inl (fun _ => 0))), (q15, .inr (7, [.ref q16, .ref q17, .int 0, .int 0])), (q16, .inl (cI, 8, .inl (fun _ => 0))), (q17, .inl (cI, 9, .inl (fun _ => 0)))] H := hP
  have hD : va_D A [(h0, .inr (6, [.ref q1, .ref q2, .int 0, .int 0])), (q1, .inl (cI, 64, .inl (fun _ => 0))), (q2, .inr (8, [.ref q3, .ref q10, .ref q15, .int 6, .int 5])), (q3, .inr (1, [.ref q4, .ref q5, .ref q6, .ref q7, .ref q8, .ref q9, .int 0, .int 0])), (q4, .inl (cI, 24, .inl (fun _ => 0))), (q5, .inl (cI, 24, .inl (fun _ => 0))), (q6, .inl (cI, 24, .inl (fun _ => 0))), (q7, .inl (cI, 24, .inl (fun _ => 0))), (q8, .inl (cI, 64, .inl (fun _ => 0))), (q9, .inl (cI, 8, .inl (fun _ => 0))), (q10, .inr (3, [.ref q11, .ref q12, .ref q13, .ref q14, .int 0])), (q11, .inl (cI, 4, .inl (fun _ => 0))), (q12, .inl (cI, 4, .inl (fun _ => 0))), (q13, .inl (cI, 24, .inl (fun _ => 0))), (q14, .inl (cI, 4, .inl (fun _ => 0))), (q15, .inr (7, [.ref q16, .ref q17, .int 0, .int 0])), (q16, .inl (cI, 8, .inl (fun _ => 0))), (q17, .inl (cI, 9, .inl (fun _ => 0)))] := hD
  have hP9 := hP.sub (ws' := [(h0, .inr (6, [.ref q1, .ref q2, .int 0, .int 0])), (q1, .inl (cI, 64, .inl (fun _ => 0))), (q2, .inr (8, [.ref q3, .ref q10, .ref q15, .int 6, .int 5])), (q3, .inr (1, [.ref q4, .ref q5, .ref q6, .ref q7, .ref q8, .ref q9, .int 0, .int 0])), (q4, .inl (cI, 24, .inl (fun _ => 0))), (q5, .inl (cI, 24, .inl (fun _ => 0))), (q6, .inl (cI, 24, .inl (fun _ => 0))), (q7, .inl (cI, 24, .inl (fun _ => 0))), (q8, .inl (cI, 64, .inl (fun _ => 0))), (q9, .inl (cI, 8, .inl (fun _ => 0))), (q10, .inr (3, [.ref q11, .ref q12, .ref q13, .ref q14, .int 0])), (q11, .inl (cI, 4, .inl (fun _ => 0))), (q12, .inl (cI, 4, .inl (fun _ => 0))), (q13, .inl (cI, 24, .inl (fun _ => 0))), (q14, .inl (cI, 4, .inl (fun _ => 0))), (q15, .inr (7, [.ref q16, .ref q17, .int 0, .int 0])), (q16, .inl (cI, 8, .inl (fun _ => 0))), (q17, .inl (cI, 9, .inl (fun _ => 0)))]) [0, 1, 2, 3, 4, 5, 6, 7, 8, 9, 10, 11, 12, 13, 14, 15, 16, 17] rfl
  have hD9 := hD.sub (ws' := [(h0, .inr (6, [.ref q1, .ref q2, .int 0, .int 0])), (q1, .inl (cI, 64, .inl (fun _ => 0))), (q2, .inr (8, [.ref q3, .ref q10, .ref q15, .int 6, .int 5])), (q3, .inr (1, [.ref q4, .ref q5, .ref q6, .ref q7, .ref q8, .ref q9, .int 0, .int 0])), (q4, .inl (cI, 24, .inl (fun _ => 0))), (q5, .inl (cI, 24, .inl (fun _ => 0))), (q6, .inl (cI, 24, .inl (fun _ => 0))), (q7, .inl (cI, 24, .inl (fun _ => 0))), (q8, .inl (cI, 64, .inl (fun _ => 0))), (q9, .inl (cI, 8, .inl (fun _ => 0))), (q10, .inr (3, [.ref q11, .ref q12, .ref q13, .ref q14, .int 0])), (q11, .inl (cI, 4, .inl (fun _ => 0))), (q12, .inl (cI, 4, .inl (fun _ => 0))), (q13, .inl (cI, 24, .inl (fun _ => 0))), (q14, .inl (cI, 4, .inl (fun _ => 0))), (q15, .inr (7, [.ref q16, .ref q17, .int 0, .int 0])), (q16, .inl (cI, 8, .inl (fun _ => 0))), (q17, .inl (cI, 9, .inl (fun _ => 0)))]) [0, 1, 2, 3, 4, 5, 6, 7, 8, 9, 10, 11, 12, 13, 14, 15, 16, 17] (by decide) rfl
  exact W.vret hx hb hr (fun t ht hW => ⟨⟨(), rfl, trivial, q1, q2, q3, q4, q5, q6, q7, q8, q9, q10, q11, q12, q13, q14, q15, q16, q17, by subst ht; exact hP9, hD9⟩, hS.F ht⟩) hS.2.2 (zd_X6_init_33)
theorem zd_X2_init_0 : decode cX2_init 0 = .ok (.aload_n 0, 1) := by decide +kernel
theorem zd_X2_init_1 : decode cX2_init 1 = .ok (.invokespecial 5, 3) := by decide +kernel
theorem zd_X2_init_4 : decode cX2_init 4 = .ok (.aload_n 0, 1) := by decide +kernel
theorem zd_X2_init_5 : decode cX2_init 5 = .ok (.sipush 4096, 3) := by decide +kernel
theorem zd_X2_init_8 : decode cX2_init 8 = .ok (.newarray .int, 2) := by decide +kernel
theorem zd_X2_init_10 : decode cX2_init 10 = .ok (.putfield 11, 3) := by decide +kernel
theorem zd_X2_init_13 : decode cX2_init 13 = .ok (.aload_n 0, 1) := by decide +kernel
theorem zd_X2_init_14 : decode cX2_init 14 = .ok (.sipush 4096, 3) := by decide +kernel
theorem zd_X2_init_17 : decode cX2_init 17 = .ok (.newarray .int, 2) := by decide +kernel
theorem zd_X2_init_19 : decode cX2_init 19 = .ok (.putfield 15, 3) := by decide +kernel
theorem zd_X2_init_22 : decode cX2_init 22 = .ok (.aload_n 0, 1) := by decide +kernel
theorem zd_X2_init_23 : decode cX2_init 23 = .ok (.sipush 325, 3) := by decide +kernel
theorem zd_X2_init_26 : decode cX2_init 26 = .ok (.newarray .int, 2) := by decide +kernel
theorem zd_X2_init_28 : decode cX2_init 28 = .ok (.putfield 18, 3) := by decide +kernel
theorem zd_X2_init_31 : decode cX2_init 31 = .ok (.aload_n 0, 1) := by decide +kernel
theorem zd_X2_init_32 : decode cX2_init 32 = .ok (.iconst 0, 1) := by decide +kernel
theorem zd_X2_init_33 : decode cX2_init 33 = .ok (.putfield 21, 3) := by decide +kernel
theorem zd_X2_init_36 : decode cX2_init 36 = .ok (.aload_n 0, 1) := by decide +kernel
theorem zd_X2_init_37 : decode cX2_init 37 = .ok (.aload_n 1, 1) := by decide +kernel
theorem zd_X2_init_38 : decode cX2_init 38 = .ok (.putfield 25, 3) := by decide +kernel
theorem zd_X2_init_41 : decode cX2_init 41 = .ok (.return_, 1) := by decide +kernel
set_option maxHeartbeats 4000000 in
set_option maxRecDepth 100000 in
/-- EverySecondWord$Mind: 3 cells of 8517 slots come -/
theorem zc_X2_init (l : Launch) (dC : Nat → ClassId) (dI : Nat → Nat → Nat) (cI cL cZ : ClassId) (h0 a1 : Nat) (sz : Nat) : Met l yX2_init (Jvm.Cond.code yX2_init cX2_init 2 none :: zTb) ({ frames := 1, cells := 3, slots := 8517, locals := 12 }) (va_Pc [.ref h0, .ref a1] (fun U => U.heap.size = sz ∧ va_P (dC, dI) vwCl [(h0, .inr (2, [.null, .null, .null, .null, .int 0]))] U.heap ∧ va_K (dC, dI) vwCl [(cI, .int), (cL, .long), (cZ, .boolean)] U ∧ va_D (fun _ => True) [(h0, .inr (2, [.null, .null, .null, .null, .int 0]))] ∧ zNN U)) (va_Qv (fun _ : Unit => True) (fun _ t => ∃ q1 q2 q3 : Nat, va_P (dC, dI) vwCl [(h0, .inr (2, [.ref a1, .ref q1, .ref q2, .ref q3, .int 0])), (q1, .inl (cI, 4096, .inl (fun _ => 0))), (q2, .inl (cI, 4096, .inl (fun _ => 0))), (q3, .inl (cI, 325, .inl (fun _ => 0)))] t.heap ∧ va_D (va_A [(h0, .inr (2, [.null, .null, .null, .null, .int 0]))] sz) [(h0, .inr (2, [.ref a1, .ref q1, .ref q2, .ref q3, .int 0])), (q1, .inl (cI, 4096, .inl (fun _ => 0))), (q2, .inl (cI, 4096, .inl (fun _ => 0))), (q3, .inl (cI, 325, .inl (fun _ => 0)))]) (va_A [(h0, .inr (2, [.null, .null, .null, .null, .int 0]))] sz)) 3 8517 (va_A [(h0, .inr (2, [.null, .null, .null, .null, .int 0]))] sz) := by
  refine Met.ofW (cc := cX2_init) (maxL := 2) (ret := none) (by decide) rfl ?_
  intro p e s m args below meth c s₁ B hml hv
  obtain ⟨rfl, hsz, hP, hK, hD0, hN⟩ := hv
  have hx := B.exec
  have hb := B.bytes
  have hr := B.returns
  have hts0 := atoms_spec (ws := Jvm.Cond.code yX2_init cX2_init 2 none :: zTb) B.pre
  have hts : ∀ w ∈ zTb, w.before (([.ref h0, .ref a1] : List Value).toArray) s = true := fun w hw => hts0 w (List.mem_cons_of_mem _ hw)
  have hown : s.vm.findClass RX2 = some m.cls := findClass_of_methodNamed B.named
  have hlocks := B.notSynchronized
  have hin : meth.name = "<init>" := (name_of_methodNamed B.named B.method).1
  subst hsz
  have hD := hD0.self (sz := s.heap.size)
  generalize hAe : va_A [(h0, .inr (2, [.null, .null, .null, .null, .int 0]))] s.heap.size = A at hD ⊢
  have hA : ∀ q : Nat, s.heap.size ≤ q → A q := fun q h => by rw [← hAe]; exact Or.inr h
  have hS : va_S A s.heap s.heap [] := va_S.rf
  have hP : va_P (dC, dI) vwCl [(h0, .inr (2, [.null, .null, .null, .null, .int 0]))] s.heap := hP
  have hl := lv_entry ([.ref h0, .ref a1]) (n := 2) (Nat.le_of_ble_eq_true rfl)
  rw [lg_entry_eq]
  generalize (lg_sl ([.ref h0, .ref a1]) ++ List.replicate (2 - (lg_sl ([.ref h0, .ref a1])).length) Slot.unset).toArray = ls at hl ⊢
  have hl : lv_has ls 2 [(0, .ref h0), (1, .ref a1)] := hl
  refine lv_aload_n hx hb (zd_X2_init_0) rfl (lv_at hl 0 rfl) ?_
  refine W.objInit hx hb hown (hts _ (zwd_in zx_268)) (hts _ (zwd_in zx_108)) (hts _ (zwd_in zx_109)) rfl (by rw [hml]; exact hl.1) rfl (zd_X2_init_1) (Nat.le_of_ble_eq_true rfl) (Nat.le_of_ble_eq_true rfl) ?_
  refine W.eq (g2 := F0 m 4 ls []) rfl ?_
  refine lv_aload_n hx hb (zd_X2_init_4) rfl (lv_at hl 0 rfl) ?_
  refine lv_sipush (v := 4096) hx hb (zd_X2_init_5) (by decide) ?_
  refine zw_newa (atype := .int) (ty := .int) (cI := cI) (t0 := 0) hx hb (hts _ (zwd_in zx_153)) rfl hK rfl hP hD hS hA (a0 := (4096, .inl (fun _ => 0))) (fun cA => by first | rfl | (simp [vp_cell, arrV]; rfl)) (by decide) (by decide) (Nat.le_of_ble_eq_true rfl) (Nat.le_of_ble_eq_true rfl) (Nat.le_of_ble_eq_true rfl) (zd_X2_init_8) (fun q1 H hP hD hS => ?_)
  have hP : va_P (dC, dI) vwCl [(h0, .inr (2, [.null, .null, .null, .null, .int 0])), (q1, .inl (cI, 4096, .inl (fun _ => 0)))] H := hP
  have hD : va_D A [(h0, .inr (2, [.null, .null, .null, .null, .int 0])), (q1, .inl (cI, 4096, .inl (fun _ => 0)))] := hD
  refine va_putF (D := (dC, dI)) (ci := 2) (C := RX2) (T := TX2) (N := 5) (v := .ref q1) (ty := tyX2 1) hx hb hts zin_2 tyX2 tyX2_ok nmX2 hown hK hP hD hS 0 rfl rfl 1 (by decide) (hts _ (zwd_in zx_270)) (fun _ h9 => h9) rfl hin rfl (tyX2_ok 1 (by decide)) rfl rfl (Nat.le_of_ble_eq_true rfl) (zd_X2_init_10) (fun H locs hP hD hS => ?_)
  have hP : va_P (dC, dI) vwCl [(h0, .inr (2, [.null, .ref q1, .null, .null, .int 0])), (q1, .inl (cI, 4096, .inl (fun _ => 0)))] H := hP
  have hD : va_D A [(h0, .inr (2, [.null, .ref q1, .null, .null, .int 0])), (q1, .inl (cI, 4096, .inl (fun _ => 0)))] := hD
  refine lv_aload_n hx hb (zd_X2_init_13) rfl (lv_at hl 0 rfl) ?_
  refine lv_sipush (v := 4096) hx hb (zd_X2_init_14) (by decide) ?_
  refine zw_newa (atype := .int) (ty := .int) (cI := cI) (t0 := 0) hx hb (hts _ (zwd_in zx_153)) rfl hK rfl hP hD hS hA (a0 := (4096, .inl (fun _ => 0))) (fun cA => by first | rfl | (simp [vp_cell, arrV]; rfl)) (by decide) (by decide) (Nat.le_of_ble_eq_true rfl) (Nat.le_of_ble_eq_true rfl) (Nat.le_of_ble_eq_true rfl) (zd_X2_init_17) (fun q2 H hP hD hS => ?_)
  have hP : va_P (dC, dI) vwCl [(h0, .inr (2, [.null, .ref q1, .null, .null, .int 0])), (q1, .inl (cI, 4096, .inl (fun _ => 0))), (q2, .inl (cI, 4096, .inl (fun _ => 0)))] H := hP
  have hD : va_D A [(h0, .inr (2, [.null, .ref q1, .null, .null, .int 0])), (q1, .inl (cI, 4096, .inl (fun _ => 0))), (q2, .inl (cI, 4096, .inl (fun _ => 0)))] := hD
  refine va_putF (D := (dC, dI)) (ci := 2) (C := RX2) (T := TX2) (N := 5) (v := .ref q2) (ty := tyX2 2) hx hb hts zin_2 tyX2 tyX2_ok nmX2 hown hK hP hD hS 0 rfl rfl 2 (by decide) (hts _ (zwd_in zx_271)) (fun _ h9 => h9) rfl hin rfl (tyX2_ok 2 (by decide)) rfl rfl (Nat.le_of_ble_eq_true rfl) (zd_X2_init_19) (fun H locs hP hD hS => ?_)
  have hP : va_P (dC, dI) vwCl [(h0, .inr (2, [.null, .ref q1, .ref q2, .null, .int 0])), (q1, .inl (cI, 4096, .inl (fun _ => 0))), (q2, .inl (cI, 4096, .inl (fun _ => 0)))] H := hP
  have hD : va_D A [(h0, .inr (2, [.null, .ref q1, .ref q2, .null, .int 0])), (q1, .inl (cI, 4096, .inl (fun _ => 0))), (q2, .inl (cI, 4096, .inl (fun _ => 0)))] := hD
  refine lv_aload_n hx hb (zd_X2_init_22) rfl (lv_at hl 0 rfl) ?_
  refine lv_sipush (v := 325) hx hb (zd_X2_init_23) (by decide) ?_
  refine zw_newa (atype := .int) (ty := .int) (cI := cI) (t0 := 0) hx hb (hts _ (zwd_in zx_153)) rfl hK rfl hP hD hS hA (a0 := (325, .inl (fun _ => 0))) (fun cA => by first | rfl | (simp [vp_cell, arrV]; rfl)) (by decide) (by decide) (Nat.le_of_ble_eq_true rfl) (Nat.le_of_ble_eq_true rfl) (Nat.le_of_ble_eq_true rfl) (zd_X2_init_26) (fun q3 H hP hD hS => ?_)
  have hP : va_P (dC, dI) vwCl [(h0, .inr (2, [.null, .ref q1, .ref q2, .null, .int 0])), (q1, .inl (cI, 4096, .inl (fun _ => 0))), (q2, .inl (cI, 4096, .inl (fun _ => 0))), (q3, .inl (cI, 325, .inl (fun _ => 0)))] H := hP
  have hD : va_D A [(h0, .inr (2, [.null, .ref q1, .ref q2, .null, .int 0])), (q1, .inl (cI, 4096, .inl (fun _ => 0))), (q2, .inl (cI, 4096, .inl (fun _ => 0))), (q3, .inl (cI, 325, .inl (fun _ => 0)))] := hD
  refine va_putF (D := (dC, dI)) (ci := 2) (C := RX2) (T := TX2) (N := 5) (v := .ref q3) (ty := tyX2 3) hx hb hts zin_2 tyX2 tyX2_ok nmX2 hown hK hP hD hS 0 rfl rfl 3 (by decide) (hts _ (zwd_in zx_272)) (fun _ h9 => h9) rfl hin rfl (tyX2_ok 3 (by decide)) rfl rfl (Nat.le_of_ble_eq_true rfl) (zd_X2_init_28) (fun H locs hP hD hS => ?_)
  have hP : va_P (dC, dI) vwCl [(h0, .inr (2, [.null, .ref q1, .ref q2, .ref q3, .int 0])), (q1, .inl (cI, 4096, .inl (fun _ => 0))), (q2, .inl (cI, 4096, .inl (fun _ => 0))), (q3, .inl (cI, 325, .inl (fun _ => 0)))] H := hP
  have hD : va_D A [(h0, .inr (2, [.null, .ref q1, .ref q2, .ref q3, .int 0])), (q1, .inl (cI, 4096, .inl (fun _ => 0))), (q2, .inl (cI, 4096, .inl (fun _ => 0))), (q3, .inl (cI, 325, .inl (fun _ => 0)))] := hD
  refine lv_aload_n hx hb (zd_X2_init_31) rfl (lv_at hl 0 rfl) ?_
  refine lv_iconst (v := 0) hx hb (zd_X2_init_32) (by decide) ?_
  refine va_put (D := (dC, dI)) (ci := 2) (C := RX2) (T := TX2) (N := 5) (v := .int 0) (ty := tyX2 4) hx hb hts zin_2 tyX2 tyX2_ok nmX2 hown hK hP hD hS 0 rfl rfl 4 (by decide) (hts _ (zwd_in zx_273)) (fun _ h9 => h9) rfl (tyX2_ok 4 (by decide)) rfl rfl (Nat.le_of_ble_eq_true rfl) (zd_X2_init_33) (fun H locs hP hD hS => ?_)
  have hP : va_P (dC, dI) vwCl [(h0, .inr (2, [.null, .ref q1, .ref q2, .ref q3, .int 0])), (q1, .inl (cI, 4096, .inl (fun _ => 0))), (q2, .inl (cI, 4096, .inl (fun _ => 0))), (q3, .inl (cI, 325, .inl (fun _ => 0)))] H := hP
  have hD : va_D A [(h0, .inr (2, [.null, .ref q1, .ref q2, .ref q3, .int 0])), (q1, .inl (cI, 4096, .inl (fun _ => 0))), (q2, .inl (cI, 4096, .inl (fun _ => 0))), (q3, .inl (cI, 325, .inl (fun _ => 0)))] := hD
  refine lv_aload_n hx hb (zd_X2_init_36) rfl (lv_at hl 0 rfl) ?_
  refine lv_aload_n hx hb (zd_X2_init_37) rfl (lv_at hl 1 rfl) ?_
  refine va_putF (D := (dC, dI)) (ci := 2) (C := RX2) (T := TX2) (N := 5) (v := .ref a1) (ty := tyX2 0) hx hb hts zin_2 tyX2 tyX2_ok nmX2 hown hK hP hD hS 0 rfl rfl 0 (by decide) (hts _ (zwd_in zx_269)) (fun _ h9 => h9) rfl hin rfl (tyX2_ok 0 (by decide)) rfl rfl (Nat.le_of_ble_eq_true rfl) (zd_X2_init_38) (fun H locs hP hD hS => ?_)
  have hP : va_P (dC, dI) vwCl [(h0, .inr (2, [.ref a1, .ref q1, .ref q2, .ref q3, .int 0])), (q1, .inl (cI, 4096, .inl (fun _ => 0))), (q2, .inl (cI, 4096, .inl (fun _ => 0))), (q3, .inl (cI, 325, .inl (fun _ => 0)))] H := hP
  have hD : va_D A [(h0, .inr (2, [.ref a1, .ref q1, .ref q2, .ref q3, .int 0])), (q1, .inl (cI, 4096, .inl (fun _ => 0))), (q2, .inl (cI, 4096, .inl (fun _ => 0))), (q3, .inl (cI, 325, .inl (fun _ => 0)))] := hD
  have hP9 := hP.sub (ws' := [(h0, .inr (2, [.ref a1, .ref q1, .ref q2, .ref q3, .int 0])), (q1, .inl (cI, 4096, .inl (fun _ => 0))), (q2, .inl (cI, 4096, .inl (fun _ => 0))), (q3, .inl (cI, 325, .inl (fun _ => 0)))]) [0, 1, 2, 3] rfl
  have hD9 := hD.sub (ws' := [(h0, .inr (2, [.ref a1, .ref q1, .ref q2, .ref q3, .int 0])), (q1, .inl (cI, 4096, .inl (fun _ => 0))), (q2, .inl (cI, 4096, .inl (fun _ => 0))), (q3, .inl (cI, 325, .inl (fun _ => 0)))]) [0, 1, 2, 3] (by decide) rfl
  exact W.vret hx hb hr (fun t ht hW => ⟨⟨(), rfl, trivial, q1, q2, q3, by subst ht; exact hP9, hD9⟩, hS.F ht⟩) hS.2.2 (zd_X2_init_41)
theorem zd_X0_init_0 : decode cX0_init 0 = .ok (.aload_n 0, 1) := by decide +kernel
theorem zd_X0_init_1 : decode cX0_init 1 = .ok (.invokespecial 3, 3) := by decide +kernel
theorem zd_X0_init_4 : decode cX0_init 4 = .ok (.aload_n 0, 1) := by decide +kernel
theorem zd_X0_init_5 : decode cX0_init 5 = .ok (.iconst 0, 1) := by decide +kernel
theorem zd_X0_init_6 : decode cX0_init 6 = .ok (.putfield 9, 3) := by decide +kernel
theorem zd_X0_init_9 : decode cX0_init 9 = .ok (.aload_n 0, 1) := by decide +kernel
theorem zd_X0_init_10 : decode cX0_init 10 = .ok (.aload_n 1, 1) := by decide +kernel
theorem zd_X0_init_11 : decode cX0_init 11 = .ok (.putfield 15, 3) := by decide +kernel
theorem zd_X0_init_14 : decode cX0_init 14 = .ok (.aload_n 0, 1) := by decide +kernel
theorem zd_X0_init_15 : decode cX0_init 15 = .ok (.aload_n 2, 1) := by decide +kernel
theorem zd_X0_init_16 : decode cX0_init 16 = .ok (.putfield 19, 3) := by decide +kernel
theorem zd_X0_init_19 : decode cX0_init 19 = .ok (.return_, 1) := by decide +kernel
set_option maxHeartbeats 4000000 in
set_option maxRecDepth 100000 in
/-- EverySecondWord$Beginnings: 0 cells of 0 slots come -/
theorem zc_X0_init (l : Launch) (dC : Nat → ClassId) (dI : Nat → Nat → Nat) (cI cL cZ : ClassId) (h0 a1 a2 : Nat) (sz : Nat) : Met l yX0_init (Jvm.Cond.code yX0_init cX0_init 3 none :: zTb) ({ frames := 1, cells := 0, slots := 0, locals := 12 }) (va_Pc [.ref h0, .ref a1, .ref a2] (fun U => U.heap.size = sz ∧ va_P (dC, dI) vwCl [(h0, .inr (0, [.null, .null, .int 0]))] U.heap ∧ va_K (dC, dI) vwCl [(cI, .int), (cL, .long), (cZ, .boolean)] U ∧ va_D (fun _ => True) [(h0, .inr (0, [.null, .null, .int 0]))] ∧ zNN U)) (va_Qv (fun _ : Unit => True) (fun _ t => va_P (dC, dI) vwCl [(h0, .inr (0, [.ref a1, .ref a2, .int 0]))] t.heap ∧ va_D (va_A [(h0, .inr (0, [.null, .null, .int 0]))] sz) [(h0, .inr (0, [.ref a1, .ref a2, .int 0]))]) (va_A [(h0, .inr (0, [.null, .null, .int 0]))] sz)) 0 0 (va_A [(h0, .inr (0, [.null, .null, .int 0]))] sz) := by
  refine Met.ofW (cc := cX0_init) (maxL := 3) (ret := none) (by decide) rfl ?_
  intro p e s m args below meth c s₁ B hml hv
  obtain ⟨rfl, hsz, hP, hK, hD0, hN⟩ := hv
  have hx := B.exec
  have hb := B.bytes
  have hr := B.returns
  have hts0 := atoms_spec (ws := Jvm.Cond.code yX0_init cX0_init 3 none :: zTb) B.pre
  have hts : ∀ w ∈ zTb, w.before (([.ref h0, .ref a1, .ref a2] : List Value).toArray) s = true := fun w hw => hts0 w (List.mem_cons_of_mem _ hw)
  have hown : s.vm.findClass RX0 = some m.cls := findClass_of_methodNamed B.named
  have hlocks := B.notSynchronized
  have hin : meth.name = "<init>" := (name_of_methodNamed B.named B.method).1
  subst hsz
  have hD := hD0.self (sz := s.heap.size)
  generalize hAe : va_A [(h0, .inr (0, [.null, .null, .int 0]))] s.heap.size = A at hD ⊢
  have hA : ∀ q : Nat, s.heap.size ≤ q → A q := fun q h => by rw [← hAe]; exact Or.inr h
  have hS : va_S A s.heap s.heap [] := va_S.rf
  have hP : va_P (dC, dI) vwCl [(h0, .inr (0, [.null, .null, .int 0]))] s.heap := hP
  have hl := lv_entry ([.ref h0, .ref a1, .ref a2]) (n := 3) (Nat.le_of_ble_eq_true rfl)
  rw [lg_entry_eq]
  generalize (lg_sl ([.ref h0, .ref a1, .ref a2]) ++ List.replicate (3 - (lg_sl ([.ref h0, .ref a1, .ref a2])).length) Slot.unset).toArray = ls at hl ⊢
  have hl : lv_has ls 3 [(0, .ref h0), (1, .ref a1), (2, .ref a2)] := hl
  refine lv_aload_n hx hb (zd_X0_init_0) rfl (lv_at hl 0 rfl) ?_
  refine W.objInit hx hb hown (hts _ (zwd_in zx_290)) (hts _ (zwd_in zx_108)) (hts _ (zwd_in zx_109)) rfl (by rw [hml]; exact hl.1) rfl (zd_X0_init_1) (Nat.le_of_ble_eq_true rfl) (Nat.le_of_ble_eq_true rfl) ?_
  refine W.eq (g2 := F0 m 4 ls []) rfl ?_
  refine lv_aload_n hx hb (zd_X0_init_4) rfl (lv_at hl 0 rfl) ?_
  refine lv_iconst (v := 0) hx hb (zd_X0_init_5) (by decide) ?_
  refine va_put (D := (dC, dI)) (ci := 0) (C := RX0) (T := TX0) (N := 3) (v := .int 0) (ty := tyX0 2) hx hb hts zin_0 tyX0 tyX0_ok nmX0 hown hK hP hD hS 0 rfl rfl 2 (by decide) (hts _ (zwd_in zx_293)) (fun _ h9 => h9) rfl (tyX0_ok 2 (by decide)) rfl rfl (Nat.le_of_ble_eq_true rfl) (zd_X0_init_6) (fun H locs hP hD hS => ?_)
  have hP : va_P (dC, dI) vwCl [(h0, .inr (0, [.null, .null, .int 0]))] H := hP
  have hD : va_D A [(h0, .inr (0, [.null, .null, .int 0]))] := hD
  refine lv_aload_n hx hb (zd_X0_init_9) rfl (lv_at hl 0 rfl) ?_
  refine lv_aload_n hx hb (zd_X0_init_10) rfl (lv_at hl 1 rfl) ?_
  refine va_putF (D := (dC, dI)) (ci := 0) (C := RX0) (T := TX0) (N := 3) (v := .ref a1) (ty := tyX0 0) hx hb hts zin_0 tyX0 tyX0_ok nmX0 hown hK hP hD hS 0 rfl rfl 0 (by decide) (hts _ (zwd_in zx_291)) (fun _ h9 => h9) rfl hin rfl (tyX0_ok 0 (by decide)) rfl rfl (Nat.le_of_ble_eq_true rfl) (zd_X0_init_11) (fun H locs hP hD hS => ?_)
  have hP : va_P (dC, dI) vwCl [(h0, .inr (0, [.ref a1, .null, .int 0]))] H := hP
  have hD : va_D A [(h0, .inr (0, [.ref a1, .null, .int 0]))] := hD
  refine lv_aload_n hx hb (zd_X0_init_14) rfl (lv_at hl 0 rfl) ?_
  refine lv_aload_n hx hb (zd_X0_init_15) rfl (lv_at hl 2 rfl) ?_
  refine va_putF (D := (dC, dI)) (ci := 0) (C := RX0) (T := TX0) (N := 3) (v := .ref a2) (ty := tyX0 1) hx hb hts zin_0 tyX0 tyX0_ok nmX0 hown hK hP hD hS 0 rfl rfl 1 (by decide) (hts _ (zwd_in zx_292)) (fun _ h9 => h9) rfl hin rfl (tyX0_ok 1 (by decide)) rfl rfl (Nat.le_of_ble_eq_true rfl) (zd_X0_init_16) (fun H locs hP hD hS => ?_)
  have hP : va_P (dC, dI) vwCl [(h0, .inr (0, [.ref a1, .ref a2, .int 0]))] H := hP
  have hD : va_D A [(h0, .inr (0, [.ref a1, .ref a2, .int 0]))] := hD
  have hP9 := hP.sub (ws' := [(h0, .inr (0, [.ref a1, .ref a2, .int 0]))]) [0] rfl
  have hD9 := hD.sub (ws' := [(h0, .inr (0, [.ref a1, .ref a2, .int 0]))]) [0] (by decide) rfl
  exact W.vret hx hb hr (fun t ht hW => ⟨⟨(), rfl, trivial, by subst ht; exact hP9, hD9⟩, hS.F ht⟩) hS.2.2 (zd_X0_init_19)
theorem zd_X4_init_0 : decode cX4_init 0 = .ok (.aload_n 0, 1) := by decide +kernel
theorem zd_X4_init_1 : decode cX4_init 1 = .ok (.invokespecial 3, 3) := by decide +kernel
theorem zd_X4_init_4 : decode cX4_init 4 = .ok (.aload_n 0, 1) := by decide +kernel
theorem zd_X4_init_5 : decode cX4_init 5 = .ok (.bipush 16, 2) := by decide +kernel
theorem zd_X4_init_7 : decode cX4_init 7 = .ok (.newarray .long, 2) := by decide +kernel
theorem zd_X4_init_9 : decode cX4_init 9 = .ok (.putfield 9, 3) := by decide +kernel
theorem zd_X4_init_12 : decode cX4_init 12 = .ok (.aload_n 0, 1) := by decide +kernel
theorem zd_X4_init_13 : decode cX4_init 13 = .ok (.bipush 16, 2) := by decide +kernel
theorem zd_X4_init_15 : decode cX4_init 15 = .ok (.newarray .int, 2) := by decide +kernel
theorem zd_X4_init_17 : decode cX4_init 17 = .ok (.putfield 15, 3) := by decide +kernel
theorem zd_X4_init_20 : decode cX4_init 20 = .ok (.aload_n 0, 1) := by decide +kernel
theorem zd_X4_init_21 : decode cX4_init 21 = .ok (.iconst 0, 1) := by decide +kernel
theorem zd_X4_init_22 : decode cX4_init 22 = .ok (.putfield 19, 3) := by decide +kernel
theorem zd_X4_init_25 : decode cX4_init 25 = .ok (.aload_n 0, 1) := by decide +kernel
theorem zd_X4_init_26 : decode cX4_init 26 = .ok (.lconst 0, 1) := by decide +kernel
theorem zd_X4_init_27 : decode cX4_init 27 = .ok (.putfield 23, 3) := by decide +kernel
theorem zd_X4_init_30 : decode cX4_init 30 = .ok (.aload_n 0, 1) := by decide +kernel
theorem zd_X4_init_31 : decode cX4_init 31 = .ok (.iconst 0, 1) := by decide +kernel
theorem zd_X4_init_32 : decode cX4_init 32 = .ok (.putfield 27, 3) := by decide +kernel
theorem zd_X4_init_35 : decode cX4_init 35 = .ok (.aload_n 0, 1) := by decide +kernel
theorem zd_X4_init_36 : decode cX4_init 36 = .ok (.iconst 0, 1) := by decide +kernel
theorem zd_X4_init_37 : decode cX4_init 37 = .ok (.putfield 31, 3) := by decide +kernel
theorem zd_X4_init_40 : decode cX4_init 40 = .ok (.aload_n 0, 1) := by decide +kernel
theorem zd_X4_init_41 : decode cX4_init 41 = .ok (.aload_n 1, 1) := by decide +kernel
theorem zd_X4_init_42 : decode cX4_init 42 = .ok (.putfield 34, 3) := by decide +kernel
theorem zd_X4_init_45 : decode cX4_init 45 = .ok (.aload_n 0, 1) := by decide +kernel
theorem zd_X4_init_46 : decode cX4_init 46 = .ok (.aload_n 2, 1) := by decide +kernel
theorem zd_X4_init_47 : decode cX4_init 47 = .ok (.putfield 38, 3) := by decide +kernel
theorem zd_X4_init_50 : decode cX4_init 50 = .ok (.return_, 1) := by decide +kernel
set_option maxHeartbeats 4000000 in
set_option maxRecDepth 100000 in
/-- EverySecondWord$Power: 2 cells of 32 slots come -/
theorem zc_X4_init (l : Launch) (dC : Nat → ClassId) (dI : Nat → Nat → Nat) (cI cL cZ : ClassId) (h0 a1 a2 : Nat) (sz : Nat) : Met l yX4_init (Jvm.Cond.code yX4_init cX4_init 3 none :: zTb) ({ frames := 1, cells := 2, slots := 32, locals := 12 }) (va_Pc [.ref h0, .ref a1, .ref a2] (fun U => U.heap.size = sz ∧ va_P (dC, dI) vwCl [(h0, .inr (4, [.null, .null, .null, .null, .int 0, .long 0, .int 0, .int 0]))] U.heap ∧ va_K (dC, dI) vwCl [(cI, .int), (cL, .long), (cZ, .boolean)] U ∧ va_D (fun _ => True) [(h0, .inr (4, [.null, .null, .null, .null, .int 0, .long 0, .int 0, .int 0]))] ∧ zNN U)) (va_Qv (fun _ : Unit => True) (fun _ t => ∃ q1 q2 : Nat, va_P (dC, dI) vwCl [(h0, .inr (4, [.ref a1, .ref a2, .ref q1, .ref q2, .int 0, .long 0, .int 0, .int 0])), (q1, .inl (cL, 16, .inr (.inl (fun _ => 0)))), (q2, .inl (cI, 16, .inl (fun _ => 0)))] t.heap ∧ va_D (va_A [(h0, .inr (4, [.null, .null, .null, .null, .int 0, .long 0, .int 0, .int 0]))] sz) [(h0, .inr (4, [.ref a1, .ref a2, .ref q1, .ref q2, .int 0, .long 0, .int 0, .int 0])), (q1, .inl (cL, 16, .inr (.inl (fun _ => 0)))), (q2, .inl (cI, 16, .inl (fun _ => 0)))]) (va_A [(h0, .inr (4, [.null, .null, .null, .null, .int 0, .long 0, .int 0, .int 0]))] sz)) 2 32 (va_A [(h0, .inr (4, [.null, .null, .null, .null, .int 0, .long 0, .int 0, .int 0]))] sz) := by
  refine Met.ofW (cc := cX4_init) (maxL := 3) (ret := none) (by decide) rfl ?_
  intro p e s m args below meth c s₁ B hml hv
  obtain ⟨rfl, hsz, hP, hK, hD0, hN⟩ := hv
  have hx := B.exec
  have hb := B.bytes
  have hr := B.returns
  have hts0 := atoms_spec (ws := Jvm.Cond.code yX4_init cX4_init 3 none :: zTb) B.pre
  have hts : ∀ w ∈ zTb, w.before (([.ref h0, .ref a1, .ref a2] : List Value).toArray) s = true := fun w hw => hts0 w (List.mem_cons_of_mem _ hw)
  have hown : s.vm.findClass RX4 = some m.cls := findClass_of_methodNamed B.named
  have hlocks := B.notSynchronized
  have hin : meth.name = "<init>" := (name_of_methodNamed B.named B.method).1
  subst hsz
  have hD := hD0.self (sz := s.heap.size)
  generalize hAe : va_A [(h0, .inr (4, [.null, .null, .null, .null, .int 0, .long 0, .int 0, .int 0]))] s.heap.size = A at hD ⊢
  have hA : ∀ q : Nat, s.heap.size ≤ q → A q := fun q h => by rw [← hAe]; exact Or.inr h
  have hS : va_S A s.heap s.heap [] := va_S.rf
  have hP : va_P (dC, dI) vwCl [(h0, .inr (4, [.null, .null, .null, .null, .int 0, .long 0, .int 0, .int 0]))] s.heap := hP
  have hl := lv_entry ([.ref h0, .ref a1, .ref a2]) (n := 3) (Nat.le_of_ble_eq_true rfl)
  rw [lg_entry_eq]
  generalize (lg_sl ([.ref h0, .ref a1, .ref a2]) ++ List.replicate (3 - (lg_sl ([.ref h0, .ref a1, .ref a2])).length) Slot.unset).toArray = ls at hl ⊢
  have hl : lv_has ls 3 [(0, .ref h0), (1, .ref a1), (2, .ref a2)] := hl
  refine lv_aload_n hx hb (zd_X4_init_0) rfl (lv_at hl 0 rfl) ?_
  refine W.objInit hx hb hown (hts _ (zwd_in zx_306)) (hts _ (zwd_in zx_108)) (hts _ (zwd_in zx_109)) rfl (by rw [hml]; exact hl.1) rfl (zd_X4_init_1) (Nat.le_of_ble_eq_true rfl) (Nat.le_of_ble_eq_true rfl) ?_
  refine W.eq (g2 := F0 m 4 ls []) rfl ?_
  refine lv_aload_n hx hb (zd_X4_init_4) rfl (lv_at hl 0 rfl) ?_
  refine lv_bipush (v := 16) hx hb (zd_X4_init_5) (by decide) ?_
  refine zw_newa (atype := .long) (ty := .long) (cI := cL) (t0 := 1) hx hb (hts _ (zwd_in zx_332)) rfl hK rfl hP hD hS hA (a0 := (16, .inr (.inl (fun _ => 0)))) (fun cA => by first | rfl | (simp [vp_cell, arrV]; rfl)) (by decide) (by decide) (Nat.le_of_ble_eq_true rfl) (Nat.le_of_ble_eq_true rfl) (Nat.le_of_ble_eq_true rfl) (zd_X4_init_7) (fun q1 H hP hD hS => ?_)
  have hP : va_P (dC, dI) vwCl [(h0, .inr (4, [.null, .null, .null, .null, .int 0, .long 0, .int 0, .int 0])), (q1, .inl (cL, 16, .inr (.inl (fun _ => 0))))] H := hP
  have hD : va_D A [(h0, .inr (4, [.null, .null, .null, .null, .int 0, .long 0, .int 0, .int 0])), (q1, .inl (cL, 16, .inr (.inl (fun _ => 0))))] := hD
  refine va_putF (D := (dC, dI)) (ci := 4) (C := RX4) (T := TX4) (N := 8) (v := .ref q1) (ty := tyX4 2) hx hb hts zin_4 tyX4 tyX4_ok nmX4 hown hK hP hD hS 0 rfl rfl 2 (by decide) (hts _ (zwd_in zx_309)) (fun _ h9 => h9) rfl hin rfl (tyX4_ok 2 (by decide)) rfl rfl (Nat.le_of_ble_eq_true rfl) (zd_X4_init_9) (fun H locs hP hD hS => ?_)
  have hP : va_P (dC, dI) vwCl [(h0, .inr (4, [.null, .null, .ref q1, .null, .int 0, .long 0, .int 0, .int 0])), (q1, .inl (cL, 16, .inr (.inl (fun _ => 0))))] H := hP
  have hD : va_D A [(h0, .inr (4, [.null, .null, .ref q1, .null, .int 0, .long 0, .int 0, .int 0])), (q1, .inl (cL, 16, .inr (.inl (fun _ => 0))))] := hD
  refine lv_aload_n hx hb (zd_X4_init_12) rfl (lv_at hl 0 rfl) ?_
  refine lv_bipush (v := 16) hx hb (zd_X4_init_13) (by decide) ?_
  refine zw_newa (atype := .int) (ty := .int) (cI := cI) (t0 := 0) hx hb (hts _ (zwd_in zx_153)) rfl hK rfl hP hD hS hA (a0 := (16, .inl (fun _ => 0))) (fun cA => by first | rfl | (simp [vp_cell, arrV]; rfl)) (by decide) (by decide) (Nat.le_of_ble_eq_true rfl) (Nat.le_of_ble_eq_true rfl) (Nat.le_of_ble_eq_true rfl) (zd_X4_init_15) (fun q2 H hP hD hS => ?_)
  have hP : va_P (dC, dI) vwCl [(h0, .inr (4, [.null, .null, .ref q1, .null, .int 0, .long 0, .int 0, .int 0])), (q1, .inl (cL, 16, .inr (.inl (fun _ => 0)))), (q2, .inl (cI, 16, .inl (fun _ => 0)))] H := hP
  have hD : va_D A [(h0, .inr (4, [.null, .null, .ref q1, .null, .int 0, .long 0, .int 0, .int 0])), (q1, .inl (cL, 16, .inr (.inl (fun _ => 0)))), (q2, .inl (cI, 16, .inl (fun _ => 0)))] := hD
  refine va_putF (D := (dC, dI)) (ci := 4) (C := RX4) (T := TX4) (N := 8) (v := .ref q2) (ty := tyX4 3) hx hb hts zin_4 tyX4 tyX4_ok nmX4 hown hK hP hD hS 0 rfl rfl 3 (by decide) (hts _ (zwd_in zx_310)) (fun _ h9 => h9) rfl hin rfl (tyX4_ok 3 (by decide)) rfl rfl (Nat.le_of_ble_eq_true rfl) (zd_X4_init_17) (fun H locs hP hD hS => ?_)
  have hP : va_P (dC, dI) vwCl [(h0, .inr (4, [.null, .null, .ref q1, .ref q2, .int 0, .long 0, .int 0, .int 0])), (q1, .inl (cL, 16, .inr (.inl (fun _ => 0)))), (q2, .inl (cI, 16, .inl (fun _ => 0)))] H := hP
  have hD : va_D A [(h0, .inr (4, [.null, .null, .ref q1, .ref q2, .int 0, .long 0, .int 0, .int 0])), (q1, .inl (cL, 16, .inr (.inl (fun _ => 0)))), (q2, .inl (cI, 16, .inl (fun _ => 0)))] := hD
  refine lv_aload_n hx hb (zd_X4_init_20) rfl (lv_at hl 0 rfl) ?_
  refine lv_iconst (v := 0) hx hb (zd_X4_init_21) (by decide) ?_
  refine va_put (D := (dC, dI)) (ci := 4) (C := RX4) (T := TX4) (N := 8) (v := .int 0) (ty := tyX4 4) hx hb hts zin_4 tyX4 tyX4_ok nmX4 hown hK hP hD hS 0 rfl rfl 4 (by decide) (hts _ (zwd_in zx_311)) (fun _ h9 => h9) rfl (tyX4_ok 4 (by decide)) rfl rfl (Nat.le_of_ble_eq_true rfl) (zd_X4_init_22) (fun H locs hP hD hS => ?_)
  have hP : va_P (dC, dI) vwCl [(h0, .inr (4, [.null, .null, .ref q1, .ref q2, .int 0, .long 0, .int 0, .int 0])), (q1, .inl (cL, 16, .inr (.inl (fun _ => 0)))), (q2, .inl (cI, 16, .inl (fun _ => 0)))] H := hP
  have hD : va_D A [(h0, .inr (4, [.null, .null, .ref q1, .ref q2, .int 0, .long 0, .int 0, .int 0])), (q1, .inl (cL, 16, .inr (.inl (fun _ => 0)))), (q2, .inl (cI, 16, .inl (fun _ => 0)))] := hD
  refine lv_aload_n hx hb (zd_X4_init_25) rfl (lv_at hl 0 rfl) ?_
  refine lv_lconst (v := 0) hx hb (zd_X4_init_26) (by decide) ?_
  refine va_put (D := (dC, dI)) (ci := 4) (C := RX4) (T := TX4) (N := 8) (v := .long 0) (ty := tyX4 5) hx hb hts zin_4 tyX4 tyX4_ok nmX4 hown hK hP hD hS 0 rfl rfl 5 (by decide) (hts _ (zwd_in zx_312)) (fun _ h9 => h9) rfl (tyX4_ok 5 (by decide)) rfl rfl (Nat.le_of_ble_eq_true rfl) (zd_X4_init_27) (fun H locs hP hD hS => ?_)
  have hP : va_P (dC, dI) vwCl [(h0, .inr (4, [.null, .null, .ref q1, .ref q2, .int 0, .long 0, .int 0, .int 0])), (q1, .inl (cL, 16, .inr (.inl (fun _ => 0)))), (q2, .inl (cI, 16, .inl (fun _ => 0)))] H := hP
  have hD : va_D A [(h0, .inr (4, [.null, .null, .ref q1, .ref q2, .int 0, .long 0, .int 0, .int 0])), (q1, .inl (cL, 16, .inr (.inl (fun _ => 0)))), (q2, .inl (cI, 16, .inl (fun _ => 0)))] := hD
  refine lv_aload_n hx hb (zd_X4_init_30) rfl (lv_at hl 0 rfl) ?_
  refine lv_iconst (v := 0) hx hb (zd_X4_init_31) (by decide) ?_
  refine va_put (D := (dC, dI)) (ci := 4) (C := RX4) (T := TX4) (N := 8) (v := .int 0) (ty := tyX4 6) hx hb hts zin_4 tyX4 tyX4_ok nmX4 hown hK hP hD hS 0 rfl rfl 6 (by decide) (hts _ (zwd_in zx_313)) (fun _ h9 => h9) rfl (tyX4_ok 6 (by decide)) rfl rfl (Nat.le_of_ble_eq_true rfl) (zd_X4_init_32) (fun H locs hP hD hS => ?_)
  have hP : va_P (dC, dI) vwCl [(h0, .inr (4, [.null, .null, .ref q1, .ref q2, .int 0, .long 0, .int 0, .int 0])), (q1, .inl (cL, 16, .inr (.inl (fun _ => 0)))), (q2, .inl (cI, 16, .inl (fun _ => 0)))] H := hP
  have hD : va_D A [(h0, .inr (4, [.null, .null, .ref q1, .ref q2, .int 0, .long 0, .int 0, .int 0])), (q1, .inl (cL, 16, .inr (.inl (fun _ => 0)))), (q2, .inl (cI, 16, .inl (fun _ => 0)))] := hD
  refine lv_aload_n hx hb (zd_X4_init_35) rfl (lv_at hl 0 rfl) ?_
  refine lv_iconst (v := 0) hx hb (zd_X4_init_36) (by decide) ?_
  refine va_put (D := (dC, dI)) (ci := 4) (C := RX4) (T := TX4) (N := 8) (v := .int 0) (ty := tyX4 7) hx hb hts zin_4 tyX4 tyX4_ok nmX4 hown hK hP hD hS 0 rfl rfl 7 (by decide) (hts _ (zwd_in zx_314)) (fun _ h9 => h9) rfl (tyX4_ok 7 (by decide)) rfl rfl (Nat.le_of_ble_eq_true rfl) (zd_X4_init_37) (fun H locs hP hD hS => ?_)
  have hP : va_P (dC, dI) vwCl [(h0, .inr (4, [.null, .null, .ref q1, .ref q2, .int 0, .long 0, .int 0, .int 0])), (q1, .inl (cL, 16, .inr (.inl (fun _ => 0)))), (q2, .inl (cI, 16, .inl (fun _ => 0)))] H := hP
  have hD : va_D A [(h0, .inr (4, [.null, .null, .ref q1, .ref q2, .int 0, .long 0, .int 0, .int 0])), (q1, .inl (cL, 16, .inr (.inl (fun _ => 0)))), (q2, .inl (cI, 16, .inl (fun _ => 0)))] := hD
  refine lv_aload_n hx hb (zd_X4_init_40) rfl (lv_at hl 0 rfl) ?_
  refine lv_aload_n hx hb (zd_X4_init_41) rfl (lv_at hl 1 rfl) ?_
  refine va_putF (D := (dC, dI)) (ci := 4) (C := RX4) (T := TX4) (N := 8) (v := .ref a1) (ty := tyX4 0) hx hb hts zin_4 tyX4 tyX4_ok nmX4 hown hK hP hD hS 0 rfl rfl 0 (by decide) (hts _ (zwd_in zx_307)) (fun _ h9 => h9) rfl hin rfl (tyX4_ok 0 (by decide)) rfl rfl (Nat.le_of_ble_eq_true rfl) (zd_X4_init_42) (fun H locs hP hD hS => ?_)
  have hP : va_P (dC, dI) vwCl [(h0, .inr (4, [.ref a1, .null, .ref q1, .ref q2, .int 0, .long 0, .int 0, .int 0])), (q1, .inl (cL, 16, .inr (.inl (fun _ => 0)))), (q2, .inl (cI, 16, .inl (fun _ => 0)))] H := hP
  have hD : va_D A [(h0, .inr (4, [.ref a1, .null, .ref q1, .ref q2, .int 0, .long 0, .int 0, .int 0])), (q1, .inl (cL, 16, .inr (.inl (fun _ => 0)))), (q2, .inl (cI, 16, .inl (fun _ => 0)))] := hD
  refine lv_aload_n hx hb (zd_X4_init_45) rfl (lv_at hl 0 rfl) ?_
  refine lv_aload_n hx hb (zd_X4_init_46) rfl (lv_at hl 2 rfl) ?_
  refine va_putF (D := (dC, dI)) (ci := 4) (C := RX4) (T := TX4) (N := 8) (v := .ref a2) (ty := tyX4 1) hx hb hts zin_4 tyX4 tyX4_ok nmX4 hown hK hP hD hS 0 rfl rfl 1 (by decide) (hts _ (zwd_in zx_308)) (fun _ h9 => h9) rfl hin rfl (tyX4_ok 1 (by decide)) rfl rfl (Nat.le_of_ble_eq_true rfl) (zd_X4_init_47) (fun H locs hP hD hS => ?_)
  have hP : va_P (dC, dI) vwCl [(h0, .inr (4, [.ref a1, .ref a2, .ref q1, .ref q2, .int 0, .long 0, .int 0, .int 0])), (q1, .inl (cL, 16, .inr (.inl (fun _ => 0)))), (q2, .inl (cI, 16, .inl (fun _ => 0)))] H := hP
  have hD : va_D A [(h0, .inr (4, [.ref a1, .ref a2, .ref q1, .ref q2, .int 0, .long 0, .int 0, .int 0])), (q1, .inl (cL, 16, .inr (.inl (fun _ => 0)))), (q2, .inl (cI, 16, .inl (fun _ => 0)))] := hD
  have hP9 := hP.sub (ws' := [(h0, .inr (4, [.ref a1, .ref a2, .ref q1, .ref q2, .int 0, .long 0, .int 0, .int 0])), (q1, .inl (cL, 16, .inr (.inl (fun _ => 0)))), (q2, .inl (cI, 16, .inl (fun _ => 0)))]) [0, 1, 2] rfl
  have hD9 := hD.sub (ws' := [(h0, .inr (4, [.ref a1, .ref a2, .ref q1, .ref q2, .int 0, .long 0, .int 0, .int 0])), (q1, .inl (cL, 16, .inr (.inl (fun _ => 0)))), (q2, .inl (cI, 16, .inl (fun _ => 0)))]) [0, 1, 2] (by decide) rfl
  exact W.vret hx hb hr (fun t ht hW => ⟨⟨(), rfl, trivial, q1, q2, by subst ht; exact hP9, hD9⟩, hS.F ht⟩) hS.2.2 (zd_X4_init_50)
theorem zd_X5_init_0 : decode cX5_init 0 = .ok (.aload_n 0, 1) := by decide +kernel
theorem zd_X5_init_1 : decode cX5_init 1 = .ok (.invokespecial 3, 3) := by decide +kernel
theorem zd_X5_init_4 : decode cX5_init 4 = .ok (.aload_n 0, 1) := by decide +kernel
theorem zd_X5_init_5 : decode cX5_init 5 = .ok (.bipush 16, 2) := by decide +kernel
theorem zd_X5_init_7 : decode cX5_init 7 = .ok (.newarray .long, 2) := by decide +kernel
theorem zd_X5_init_9 : decode cX5_init 9 = .ok (.putfield 9, 3) := by decide +kernel
theorem zd_X5_init_12 : decode cX5_init 12 = .ok (.aload_n 0, 1) := by decide +kernel
theorem zd_X5_init_13 : decode cX5_init 13 = .ok (.lconst 0, 1) := by decide +kernel
theorem zd_X5_init_14 : decode cX5_init 14 = .ok (.putfield 15, 3) := by decide +kernel
theorem zd_X5_init_17 : decode cX5_init 17 = .ok (.aload_n 0, 1) := by decide +kernel
theorem zd_X5_init_18 : decode cX5_init 18 = .ok (.iconst 0, 1) := by decide +kernel
theorem zd_X5_init_19 : decode cX5_init 19 = .ok (.putfield 19, 3) := by decide +kernel
theorem zd_X5_init_22 : decode cX5_init 22 = .ok (.aload_n 0, 1) := by decide +kernel
theorem zd_X5_init_23 : decode cX5_init 23 = .ok (.aload_n 1, 1) := by decide +kernel
theorem zd_X5_init_24 : decode cX5_init 24 = .ok (.putfield 23, 3) := by decide +kernel
theorem zd_X5_init_27 : decode cX5_init 27 = .ok (.return_, 1) := by decide +kernel
set_option maxHeartbeats 4000000 in
set_option maxRecDepth 100000 in
/-- EverySecondWord$Reach: 1 cells of 16 slots come -/
theorem zc_X5_init (l : Launch) (dC : Nat → ClassId) (dI : Nat → Nat → Nat) (cI cL cZ : ClassId) (h0 a1 : Nat) (sz : Nat) : Met l yX5_init (Jvm.Cond.code yX5_init cX5_init 2 none :: zTb) ({ frames := 1, cells := 1, slots := 16, locals := 12 }) (va_Pc [.ref h0, .ref a1] (fun U => U.heap.size = sz ∧ va_P (dC, dI) vwCl [(h0, .inr (5, [.null, .null, .long 0, .int 0]))] U.heap ∧ va_K (dC, dI) vwCl [(cI, .int), (cL, .long), (cZ, .boolean)] U ∧ va_D (fun _ => True) [(h0, .inr (5, [.null, .null, .long 0, .int 0]))] ∧ zNN U)) (va_Qv (fun _ : Unit => True) (fun _ t => ∃ q1 : Nat, va_P (dC, dI) vwCl [(h0, .inr (5, [.ref a1, .ref q1, .long 0, .int 0])), (q1, .inl (cL, 16, .inr (.inl (fun _ => 0))))] t.heap ∧ va_D (va_A [(h0, .inr (5, [.null, .null, .long 0, .int 0]))] sz) [(h0, .inr (5, [.ref a1, .ref q1, .long 0, .int 0])), (q1, .inl (cL, 16, .inr (.inl (fun _ => 0))))]) (va_A [(h0, .inr (5, [.null, .null, .long 0, .int 0]))] sz)) 1 16 (va_A [(h0, .inr (5, [.null, .null, .long 0, .int 0]))] sz) := by
  refine Met.ofW (cc := cX5_init) (maxL := 2) (ret := none) (by decide) rfl ?_
  intro p e s m args below meth c s₁ B hml hv
  obtain ⟨rfl, hsz, hP, hK, hD0, hN⟩ := hv
  have hx := B.exec
  have hb := B.bytes
  have hr := B.returns
  have hts0 := atoms_spec (ws := Jvm.Cond.code yX5_init cX5_init 2 none :: zTb) B.pre
  have hts : ∀ w ∈ zTb, w.before (([.ref h0, .ref a1] : List Value).toArray) s = true := fun w hw => hts0 w (List.mem_cons_of_mem _ hw)
  have hown : s.vm.findClass RX5 = some m.cls := findClass_of_methodNamed B.named
  have hlocks := B.notSynchronized
  have hin : meth.name = "<init>" := (name_of_methodNamed B.named B.method).1
  subst hsz
  have hD := hD0.self (sz := s.heap.size)
  generalize hAe : va_A [(h0, .inr (5, [.null, .null, .long 0, .int 0]))] s.heap.size = A at hD ⊢
  have hA : ∀ q : Nat, s.heap.size ≤ q → A q := fun q h => by rw [← hAe]; exact Or.inr h
  have hS : va_S A s.heap s.heap [] := va_S.rf
  have hP : va_P (dC, dI) vwCl [(h0, .inr (5, [.null, .null, .long 0, .int 0]))] s.heap := hP
  have hl := lv_entry ([.ref h0, .ref a1]) (n := 2) (Nat.le_of_ble_eq_true rfl)
  rw [lg_entry_eq]
  generalize (lg_sl ([.ref h0, .ref a1]) ++ List.replicate (2 - (lg_sl ([.ref h0, .ref a1])).length) Slot.unset).toArray = ls at hl ⊢
  have hl : lv_has ls 2 [(0, .ref h0), (1, .ref a1)] := hl
  refine lv_aload_n hx hb (zd_X5_init_0) rfl (lv_at hl 0 rfl) ?_
  refine W.objInit hx hb hown (hts _ (zwd_in zx_338)) (hts _ (zwd_in zx_108)) (hts _ (zwd_in zx_109)) rfl (by rw [hml]; exact hl.1) rfl (zd_X5_init_1) (Nat.le_of_ble_eq_true rfl) (Nat.le_of_ble_eq_true rfl) ?_
  refine W.eq (g2 := F0 m 4 ls []) rfl ?_
  refine lv_aload_n hx hb (zd_X5_init_4) rfl (lv_at hl 0 rfl) ?_
  refine lv_bipush (v := 16) hx hb (zd_X5_init_5) (by decide) ?_
  refine zw_newa (atype := .long) (ty := .long) (cI := cL) (t0 := 1) hx hb (hts _ (zwd_in zx_332)) rfl hK rfl hP hD hS hA (a0 := (16, .inr (.inl (fun _ => 0)))) (fun cA => by first | rfl | (simp [vp_cell, arrV]; rfl)) (by decide) (by decide) (Nat.le_of_ble_eq_true rfl) (Nat.le_of_ble_eq_true rfl) (Nat.le_of_ble_eq_true rfl) (zd_X5_init_7) (fun q1 H hP hD hS => ?_)
  have hP : va_P (dC, dI) vwCl [(h0, .inr (5, [.null, .null, .long 0, .int 0])), (q1, .inl (cL, 16, .inr (.inl (fun _ => 0))))] H := hP
  have hD : va_D A [(h0, .inr (5, [.null, .null, .long 0, .int 0])), (q1, .inl (cL, 16, .inr (.inl (fun _ => 0))))] := hD
  refine va_putF (D := (dC, dI)) (ci := 5) (C := RX5) (T := TX5) (N := 4) (v := .ref q1) (ty := tyX5 1) hx hb hts zin_5 tyX5 tyX5_ok nmX5 hown hK hP hD hS 0 rfl rfl 1 (by decide) (hts _ (zwd_in zx_340)) (fun _ h9 => h9) rfl hin rfl (tyX5_ok 1 (by decide)) rfl rfl (Nat.le_of_ble_eq_true rfl) (zd_X5_init_9) (fun H locs hP hD hS => ?_)
  have hP : va_P (dC, dI) vwCl [(h0, .inr (5, [.null, .ref q1, .long 0, .int 0])), (q1, .inl (cL, 16, .inr (.inl (fun _ => 0))))] H := hP
  have hD : va_D A [(h0, .inr (5, [.null, .ref q1, .long 0, .int 0])), (q1, .inl (cL, 16, .inr (.inl (fun _ => 0))))] := hD
  refine lv_aload_n hx hb (zd_X5_init_12) rfl (lv_at hl 0 rfl) ?_
  refine lv_lconst (v := 0) hx hb (zd_X5_init_13) (by decide) ?_
  refine va_put (D := (dC, dI)) (ci := 5) (C := RX5) (T := TX5) (N := 4) (v := .long 0) (ty := tyX5 2) hx hb hts zin_5 tyX5 tyX5_ok nmX5 hown hK hP hD hS 0 rfl rfl 2 (by decide) (hts _ (zwd_in zx_341)) (fun _ h9 => h9) rfl (tyX5_ok 2 (by decide)) rfl rfl (Nat.le_of_ble_eq_true rfl) (zd_X5_init_14) (fun H locs hP hD hS => ?_)
  have hP : va_P (dC, dI) vwCl [(h0, .inr (5, [.null, .ref q1, .long 0, .int 0])), (q1, .inl (cL, 16, .inr (.inl (fun _ => 0))))] H := hP
  have hD : va_D A [(h0, .inr (5, [.null, .ref q1, .long 0, .int 0])), (q1, .inl (cL, 16, .inr (.inl (fun _ => 0))))] := hD
  refine lv_aload_n hx hb (zd_X5_init_17) rfl (lv_at hl 0 rfl) ?_
  refine lv_iconst (v := 0) hx hb (zd_X5_init_18) (by decide) ?_
  refine va_put (D := (dC, dI)) (ci := 5) (C := RX5) (T := TX5) (N := 4) (v := .int 0) (ty := tyX5 3) hx hb hts zin_5 tyX5 tyX5_ok nmX5 hown hK hP hD hS 0 rfl rfl 3 (by decide) (hts _ (zwd_in zx_343)) (fun _ h9 => h9) rfl (tyX5_ok 3 (by decide)) rfl rfl (Nat.le_of_ble_eq_true rfl) (zd_X5_init_19) (fun H locs hP hD hS => ?_)
  have hP : va_P (dC, dI) vwCl [(h0, .inr (5, [.null, .ref q1, .long 0, .int 0])), (q1, .inl (cL, 16, .inr (.inl (fun _ => 0))))] H := hP
  have hD : va_D A [(h0, .inr (5, [.null, .ref q1, .long 0, .int 0])), (q1, .inl (cL, 16, .inr (.inl (fun _ => 0))))] := hD
  refine lv_aload_n hx hb (zd_X5_init_22) rfl (lv_at hl 0 rfl) ?_
  refine lv_aload_n hx hb (zd_X5_init_23) rfl (lv_at hl 1 rfl) ?_
  refine va_putF (D := (dC, dI)) (ci := 5) (C := RX5) (T := TX5) (N := 4) (v := .ref a1) (ty := tyX5 0) hx hb hts zin_5 tyX5 tyX5_ok nmX5 hown hK hP hD hS 0 rfl rfl 0 (by decide) (hts _ (zwd_in zx_339)) (fun _ h9 => h9) rfl hin rfl (tyX5_ok 0 (by decide)) rfl rfl (Nat.le_of_ble_eq_true rfl) (zd_X5_init_24) (fun H locs hP hD hS => ?_)
  have hP : va_P (dC, dI) vwCl [(h0, .inr (5, [.ref a1, .ref q1, .long 0, .int 0])), (q1, .inl (cL, 16, .inr (.inl (fun _ => 0))))] H := hP
  have hD : va_D A [(h0, .inr (5, [.ref a1, .ref q1, .long 0, .int 0])), (q1, .inl (cL, 16, .inr (.inl (fun _ => 0))))] := hD
  have hP9 := hP.sub (ws' := [(h0, .inr (5, [.ref a1, .ref q1, .long 0, .int 0])), (q1, .inl (cL, 16, .inr (.inl (fun _ => 0))))]) [0, 1] rfl
  have hD9 := hD.sub (ws' := [(h0, .inr (5, [.ref a1, .ref q1, .long 0, .int 0])), (q1, .inl (cL, 16, .inr (.inl (fun _ => 0))))]) [0, 1] (by decide) rfl
  exact W.vret hx hb hr (fun t ht hW => ⟨⟨(), rfl, trivial, q1, by subst ht; exact hP9, hD9⟩, hS.F ht⟩) hS.2.2 (zd_X5_init_27)
