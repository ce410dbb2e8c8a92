theorem m_0 : (Jvm.Cond.selects "AnswersFirst$Entries" ⟨"AnswersFirst$Entries", "goesOnWith", "(I)Z"⟩ ⟨"AnswersFirst$Entries", "goesOnWith", "(I)Z"⟩) ∈ lw_g := lw_g_in 0 (by decide +kernel) (by decide +kernel)
theorem m_1 : (Jvm.Cond.selects "AnswersFirst$Entries" ⟨"AnswersFirst$Entries", "valueOf", "(II)I"⟩ ⟨"AnswersFirst$Entries", "valueOf", "(II)I"⟩) ∈ lw_g := lw_g_in 1 (by decide +kernel) (by decide +kernel)
theorem m_2 : (Jvm.Cond.selects "AnswersFirst$Entries" ⟨"AnswersFirst$Entries", "keep", "(II)V"⟩ ⟨"AnswersFirst$Entries", "keep", "(II)V"⟩) ∈ lw_g := lw_g_in 2 (by decide +kernel) (by decide +kernel)
theorem m_3 : (Jvm.Cond.selects "AnswersFirst" ⟨"AnswersFirst", "markOld", "()V"⟩ ⟨"AnswersFirst", "markOld", "()V"⟩) ∈ lw_g := lw_g_in 3 (by decide +kernel) (by decide +kernel)
theorem m_67 : (Jvm.Cond.initialized "AnswersFirst") ∈ lw_g := lw_g_in 67 (by decide +kernel) (by decide +kernel)
theorem m_68 : (Jvm.Cond.initialized "AnswersFirst$Text") ∈ lw_g := lw_g_in 68 (by decide +kernel) (by decide +kernel)
theorem m_69 : (Jvm.Cond.initialized "java/lang/Math") ∈ lw_g := lw_g_in 69 (by decide +kernel) (by decide +kernel)
theorem m_70 : (Jvm.Cond.initialized "AnswersFirst$Entries") ∈ lw_g := lw_g_in 70 (by decide +kernel) (by decide +kernel)
theorem m_77 : (Jvm.Cond.initialized "java/lang/String") ∈ lw_g := lw_g_in 77 (by decide +kernel) (by decide +kernel)
theorem m_78 : (Jvm.Cond.initialized "java/lang/StringLatin1") ∈ lw_g := lw_g_in 78 (by decide +kernel) (by decide +kernel)
theorem m_101 : (Jvm.Cond.static ({ cls := "java/lang/Math", name := "max", desc := "(II)I" } : Jvm.MethodName)) ∈ lw_g := lw_g_in 101 (by decide +kernel) (by decide +kernel)
theorem m_102 : (Jvm.Cond.code ({ cls := "java/lang/Math", name := "max", desc := "(II)I" } : Jvm.MethodName) prog_13_method_65_code (2 : Nat) (Option.some Jvm.ClassFile.FieldType.int)) ∈ lw_g := lw_g_in 102 (by decide +kernel) (by decide +kernel)
theorem m_103 : (Jvm.Cond.fieldLink "AnswersFirst$Text" (15 : Nat) "AnswersFirst$Text" "bytes" "[B") ∈ lw_g := lw_g_in 103 (by decide +kernel) (by decide +kernel)
theorem m_104 : (Jvm.Cond.fieldLink "AnswersFirst$Text" (21 : Nat) "AnswersFirst$Text" "size" "I") ∈ lw_g := lw_g_in 104 (by decide +kernel) (by decide +kernel)
theorem m_120 : (Jvm.Cond.fieldLink "AnswersFirst$Entries" (19 : Nat) "AnswersFirst$Entries" "form" "[I") ∈ lw_g := lw_g_in 120 (by decide +kernel) (by decide +kernel)
theorem m_121 : (Jvm.Cond.fieldLink "AnswersFirst$Entries" (9 : Nat) "AnswersFirst$Entries" "parts" "[I") ∈ lw_g := lw_g_in 121 (by decide +kernel) (by decide +kernel)
theorem m_122 : (Jvm.Cond.fieldLink "AnswersFirst$Entries" (25 : Nat) "AnswersFirst$Entries" "bytes" "I") ∈ lw_g := lw_g_in 122 (by decide +kernel) (by decide +kernel)
theorem m_123 : (Jvm.Cond.fieldLink "AnswersFirst$Entries" (31 : Nat) "AnswersFirst$Entries" "entry" "I") ∈ lw_g := lw_g_in 123 (by decide +kernel) (by decide +kernel)
theorem m_124 : (Jvm.Cond.fieldLink "AnswersFirst$Entries" (28 : Nat) "AnswersFirst$Entries" "next" "I") ∈ lw_g := lw_g_in 124 (by decide +kernel) (by decide +kernel)
theorem m_125 : (Jvm.Cond.fieldLink "AnswersFirst$Entries" (66 : Nat) "AnswersFirst$Entries" "who" "I") ∈ lw_g := lw_g_in 125 (by decide +kernel) (by decide +kernel)
theorem m_126 : (Jvm.Cond.fieldLink "AnswersFirst$Entries" (22 : Nat) "AnswersFirst$Entries" "size" "I") ∈ lw_g := lw_g_in 126 (by decide +kernel) (by decide +kernel)
theorem m_127 : (Jvm.Cond.fieldLink "AnswersFirst$Entries" (15 : Nat) "AnswersFirst$Entries" "stop" "I") ∈ lw_g := lw_g_in 127 (by decide +kernel) (by decide +kernel)
theorem m_244 : (Jvm.Cond.fieldLink "AnswersFirst" (12 : Nat) "AnswersFirst" "texts" "[LAnswersFirst$Text;") ∈ lw_g := lw_g_in 244 (by decide +kernel) (by decide +kernel)
theorem m_245 : (Jvm.Cond.fieldLink "AnswersFirst" (30 : Nat) "AnswersFirst" "entries" "[LAnswersFirst$Entries;") ∈ lw_g := lw_g_in 245 (by decide +kernel) (by decide +kernel)
theorem m_249 : (Jvm.Cond.fieldLink "AnswersFirst" (47 : Nat) "AnswersFirst" "rowsAreOld" "Z") ∈ lw_g := lw_g_in 249 (by decide +kernel) (by decide +kernel)
theorem m_251 : (Jvm.Cond.fieldLink "AnswersFirst" (58 : Nat) "AnswersFirst" "accountsAreOld" "Z") ∈ lw_g := lw_g_in 251 (by decide +kernel) (by decide +kernel)
theorem m_282 : (Jvm.Cond.instanceMethod ({ cls := "AnswersFirst", name := "type", desc := "(II)I" } : Jvm.MethodName)) ∈ lw_g := lw_g_in 282 (by decide +kernel) (by decide +kernel)
theorem m_283 : (Jvm.Cond.selects "AnswersFirst" ({ cls := "AnswersFirst", name := "type", desc := "(II)I" } : Jvm.MethodName) ({ cls := "AnswersFirst", name := "type", desc := "(II)I" } : Jvm.MethodName)) ∈ lw_g := lw_g_in 283 (by decide +kernel) (by decide +kernel)
theorem m_284 : (Jvm.Cond.code ({ cls := "AnswersFirst", name := "type", desc := "(II)I" } : Jvm.MethodName) prog_1_method_2_code (3 : Nat) (Option.some Jvm.ClassFile.FieldType.int)) ∈ lw_g := lw_g_in 284 (by decide +kernel) (by decide +kernel)
theorem m_285 : (Jvm.Cond.methodLink "AnswersFirst" (82 : Nat) ({ cls := "AnswersFirst", name := "isOutside", desc := "(II)Z" } : Jvm.MethodName)) ∈ lw_g := lw_g_in 285 (by decide +kernel) (by decide +kernel)
theorem m_286 : (Jvm.Cond.static ({ cls := "AnswersFirst", name := "isOutside", desc := "(II)Z" } : Jvm.MethodName)) ∈ lw_g := lw_g_in 286 (by decide +kernel) (by decide +kernel)
theorem m_287 : (Jvm.Cond.code ({ cls := "AnswersFirst", name := "isOutside", desc := "(II)Z" } : Jvm.MethodName) prog_1_method_46_code (2 : Nat) (Option.some Jvm.ClassFile.FieldType.boolean)) ∈ lw_g := lw_g_in 287 (by decide +kernel) (by decide +kernel)
theorem m_288 : (Jvm.Cond.methodLink "AnswersFirst" (86 : Nat) ({ cls := "AnswersFirst$Text", name := "isFull", desc := "()Z" } : Jvm.MethodName)) ∈ lw_g := lw_g_in 288 (by decide +kernel) (by decide +kernel)
theorem m_289 : (Jvm.Cond.instanceMethod ({ cls := "AnswersFirst$Text", name := "isFull", desc := "()Z" } : Jvm.MethodName)) ∈ lw_g := lw_g_in 289 (by decide +kernel) (by decide +kernel)
theorem m_290 : (Jvm.Cond.selects "AnswersFirst$Text" ({ cls := "AnswersFirst$Text", name := "isFull", desc := "()Z" } : Jvm.MethodName) ({ cls := "AnswersFirst$Text", name := "isFull", desc := "()Z" } : Jvm.MethodName)) ∈ lw_g := lw_g_in 290 (by decide +kernel) (by decide +kernel)
theorem m_291 : (Jvm.Cond.code ({ cls := "AnswersFirst$Text", name := "isFull", desc := "()Z" } : Jvm.MethodName) prog_8_method_3_code (1 : Nat) (Option.some Jvm.ClassFile.FieldType.boolean)) ∈ lw_g := lw_g_in 291 (by decide +kernel) (by decide +kernel)
theorem m_292 : (Jvm.Cond.methodLink "AnswersFirst" (90 : Nat) ({ cls := "AnswersFirst$Text", name := "append", desc := "(I)V" } : Jvm.MethodName)) ∈ lw_g := lw_g_in 292 (by decide +kernel) (by decide +kernel)
theorem m_293 : (Jvm.Cond.instanceMethod ({ cls := "AnswersFirst$Text", name := "append", desc := "(I)V" } : Jvm.MethodName)) ∈ lw_g := lw_g_in 293 (by decide +kernel) (by decide +kernel)
theorem m_294 : (Jvm.Cond.selects "AnswersFirst$Text" ({ cls := "AnswersFirst$Text", name := "append", desc := "(I)V" } : Jvm.MethodName) ({ cls := "AnswersFirst$Text", name := "append", desc := "(I)V" } : Jvm.MethodName)) ∈ lw_g := lw_g_in 294 (by decide +kernel) (by decide +kernel)
theorem m_295 : (Jvm.Cond.code ({ cls := "AnswersFirst$Text", name := "append", desc := "(I)V" } : Jvm.MethodName) prog_8_method_4_code (2 : Nat) (Option.none : Option Jvm.ClassFile.FieldType)) ∈ lw_g := lw_g_in 295 (by decide +kernel) (by decide +kernel)
theorem m_296 : (Jvm.Cond.methodLink "AnswersFirst" (93 : Nat) ({ cls := "AnswersFirst$Entries", name := "take", desc := "(I)V" } : Jvm.MethodName)) ∈ lw_g := lw_g_in 296 (by decide +kernel) (by decide +kernel)
theorem m_297 : (Jvm.Cond.instanceMethod ({ cls := "AnswersFirst$Entries", name := "take", desc := "(I)V" } : Jvm.MethodName)) ∈ lw_g := lw_g_in 297 (by decide +kernel) (by decide +kernel)
theorem m_298 : (Jvm.Cond.selects "AnswersFirst$Entries" ({ cls := "AnswersFirst$Entries", name := "take", desc := "(I)V" } : Jvm.MethodName) ({ cls := "AnswersFirst$Entries", name := "take", desc := "(I)V" } : Jvm.MethodName)) ∈ lw_g := lw_g_in 298 (by decide +kernel) (by decide +kernel)
theorem m_299 : (Jvm.Cond.code ({ cls := "AnswersFirst$Entries", name := "take", desc := "(I)V" } : Jvm.MethodName) prog_3_method_9_code (3 : Nat) (Option.none : Option Jvm.ClassFile.FieldType)) ∈ lw_g := lw_g_in 299 (by decide +kernel) (by decide +kernel)
theorem m_300 : (Jvm.Cond.methodLink "AnswersFirst$Entries" (51 : Nat) ({ cls := "AnswersFirst$Entries", name := "goesOnWith", desc := "(I)Z" } : Jvm.MethodName)) ∈ lw_g := lw_g_in 300 (by decide +kernel) (by decide +kernel)
theorem m_302 : (Jvm.Cond.instanceMethod ({ cls := "AnswersFirst$Entries", name := "goesOnWith", desc := "(I)Z" } : Jvm.MethodName)) ∈ lw_g := lw_g_in 302 (by decide +kernel) (by decide +kernel)
theorem m_303 : (Jvm.Cond.code ({ cls := "AnswersFirst$Entries", name := "goesOnWith", desc := "(I)Z" } : Jvm.MethodName) prog_3_method_10_code (4 : Nat) (Option.some Jvm.ClassFile.FieldType.boolean)) ∈ lw_g := lw_g_in 303 (by decide +kernel) (by decide +kernel)
theorem m_304 : (Jvm.Cond.methodLink "AnswersFirst$Entries" (55 : Nat) ({ cls := "AnswersFirst$Entries", name := "valueOf", desc := "(II)I" } : Jvm.MethodName)) ∈ lw_g := lw_g_in 304 (by decide +kernel) (by decide +kernel)
theorem m_306 : (Jvm.Cond.instanceMethod ({ cls := "AnswersFirst$Entries", name := "valueOf", desc := "(II)I" } : Jvm.MethodName)) ∈ lw_g := lw_g_in 306 (by decide +kernel) (by decide +kernel)
theorem m_307 : (Jvm.Cond.code ({ cls := "AnswersFirst$Entries", name := "valueOf", desc := "(II)I" } : Jvm.MethodName) prog_3_method_11_code (3 : Nat) (Option.some Jvm.ClassFile.FieldType.int)) ∈ lw_g := lw_g_in 307 (by decide +kernel) (by decide +kernel)
theorem m_308 : (Jvm.Cond.methodLink "AnswersFirst$Entries" (63 : Nat) ({ cls := "AnswersFirst$Entries", name := "figure", desc := "(II)I" } : Jvm.MethodName)) ∈ lw_g := lw_g_in 308 (by decide +kernel) (by decide +kernel)
theorem m_309 : (Jvm.Cond.static ({ cls := "AnswersFirst$Entries", name := "figure", desc := "(II)I" } : Jvm.MethodName)) ∈ lw_g := lw_g_in 309 (by decide +kernel) (by decide +kernel)
theorem m_310 : (Jvm.Cond.code ({ cls := "AnswersFirst$Entries", name := "figure", desc := "(II)I" } : Jvm.MethodName) prog_3_method_13_code (3 : Nat) (Option.some Jvm.ClassFile.FieldType.int)) ∈ lw_g := lw_g_in 310 (by decide +kernel) (by decide +kernel)
theorem m_312 : (Jvm.Cond.methodLink "AnswersFirst$Entries" (71 : Nat) ({ cls := "java/lang/String", name := "indexOf", desc := "(I)I" } : Jvm.MethodName)) ∈ lw_g := lw_g_in 312 (by decide +kernel) (by decide +kernel)
theorem m_313 : (Jvm.Cond.instanceMethod ({ cls := "java/lang/String", name := "indexOf", desc := "(I)I" } : Jvm.MethodName)) ∈ lw_g := lw_g_in 313 (by decide +kernel) (by decide +kernel)
theorem m_314 : (Jvm.Cond.selects "java/lang/String" ({ cls := "java/lang/String", name := "indexOf", desc := "(I)I" } : Jvm.MethodName) ({ cls := "java/lang/String", name := "indexOf", desc := "(I)I" } : Jvm.MethodName)) ∈ lw_g := lw_g_in 314 (by decide +kernel) (by decide +kernel)
theorem m_315 : (Jvm.Cond.code ({ cls := "java/lang/String", name := "indexOf", desc := "(I)I" } : Jvm.MethodName) prog_14_method_79_code (2 : Nat) (Option.some Jvm.ClassFile.FieldType.int)) ∈ lw_g := lw_g_in 315 (by decide +kernel) (by decide +kernel)
theorem m_316 : (Jvm.Cond.methodLink "java/lang/String" (633 : Nat) ({ cls := "java/lang/String", name := "indexOf", desc := "(II)I" } : Jvm.MethodName)) ∈ lw_g := lw_g_in 316 (by decide +kernel) (by decide +kernel)
theorem m_317 : (Jvm.Cond.instanceMethod ({ cls := "java/lang/String", name := "indexOf", desc := "(II)I" } : Jvm.MethodName)) ∈ lw_g := lw_g_in 317 (by decide +kernel) (by decide +kernel)
theorem m_318 : (Jvm.Cond.selects "java/lang/String" ({ cls := "java/lang/String", name := "indexOf", desc := "(II)I" } : Jvm.MethodName) ({ cls := "java/lang/String", name := "indexOf", desc := "(II)I" } : Jvm.MethodName)) ∈ lw_g := lw_g_in 318 (by decide +kernel) (by decide +kernel)
theorem m_319 : (Jvm.Cond.code ({ cls := "java/lang/String", name := "indexOf", desc := "(II)I" } : Jvm.MethodName) prog_14_method_80_code (3 : Nat) (Option.some Jvm.ClassFile.FieldType.int)) ∈ lw_g := lw_g_in 319 (by decide +kernel) (by decide +kernel)
theorem m_320 : (Jvm.Cond.methodLink "java/lang/String" (492 : Nat) ({ cls := "java/lang/String", name := "isLatin1", desc := "()Z" } : Jvm.MethodName)) ∈ lw_g := lw_g_in 320 (by decide +kernel) (by decide +kernel)
theorem m_321 : (Jvm.Cond.instanceMethod ({ cls := "java/lang/String", name := "isLatin1", desc := "()Z" } : Jvm.MethodName)) ∈ lw_g := lw_g_in 321 (by decide +kernel) (by decide +kernel)
theorem m_322 : (Jvm.Cond.selects "java/lang/String" ({ cls := "java/lang/String", name := "isLatin1", desc := "()Z" } : Jvm.MethodName) ({ cls := "java/lang/String", name := "isLatin1", desc := "()Z" } : Jvm.MethodName)) ∈ lw_g := lw_g_in 322 (by decide +kernel) (by decide +kernel)
theorem m_323 : (Jvm.Cond.code ({ cls := "java/lang/String", name := "isLatin1", desc := "()Z" } : Jvm.MethodName) prog_14_method_154_code (1 : Nat) (Option.some Jvm.ClassFile.FieldType.boolean)) ∈ lw_g := lw_g_in 323 (by decide +kernel) (by decide +kernel)
theorem m_324 : (Jvm.Cond.fieldLink "java/lang/String" (38 : Nat) "java/lang/String" "COMPACT_STRINGS" "Z") ∈ lw_g := lw_g_in 324 (by decide +kernel) (by decide +kernel)
theorem m_326 : (Jvm.Cond.methodLink "java/lang/String" (505 : Nat) ({ cls := "java/lang/String", name := "length", desc := "()I" } : Jvm.MethodName)) ∈ lw_g := lw_g_in 326 (by decide +kernel) (by decide +kernel)
theorem m_327 : (Jvm.Cond.instanceMethod ({ cls := "java/lang/String", name := "length", desc := "()I" } : Jvm.MethodName)) ∈ lw_g := lw_g_in 327 (by decide +kernel) (by decide +kernel)
theorem m_328 : (Jvm.Cond.selects "java/lang/String" ({ cls := "java/lang/String", name := "length", desc := "()I" } : Jvm.MethodName) ({ cls := "java/lang/String", name := "length", desc := "()I" } : Jvm.MethodName)) ∈ lw_g := lw_g_in 328 (by decide +kernel) (by decide +kernel)
theorem m_329 : (Jvm.Cond.code ({ cls := "java/lang/String", name := "length", desc := "()I" } : Jvm.MethodName) prog_14_method_54_code (1 : Nat) (Option.some Jvm.ClassFile.FieldType.int)) ∈ lw_g := lw_g_in 329 (by decide +kernel) (by decide +kernel)
theorem m_330 : (Jvm.Cond.methodLink "java/lang/String" (335 : Nat) ({ cls := "java/lang/String", name := "coder", desc := "()B" } : Jvm.MethodName)) ∈ lw_g := lw_g_in 330 (by decide +kernel) (by decide +kernel)
theorem m_331 : (Jvm.Cond.instanceMethod ({ cls := "java/lang/String", name := "coder", desc := "()B" } : Jvm.MethodName)) ∈ lw_g := lw_g_in 331 (by decide +kernel) (by decide +kernel)
theorem m_332 : (Jvm.Cond.selects "java/lang/String" ({ cls := "java/lang/String", name := "coder", desc := "()B" } : Jvm.MethodName) ({ cls := "java/lang/String", name := "coder", desc := "()B" } : Jvm.MethodName)) ∈ lw_g := lw_g_in 332 (by decide +kernel) (by decide +kernel)
theorem m_333 : (Jvm.Cond.code ({ cls := "java/lang/String", name := "coder", desc := "()B" } : Jvm.MethodName) prog_14_method_152_code (1 : Nat) (Option.some Jvm.ClassFile.FieldType.byte)) ∈ lw_g := lw_g_in 333 (by decide +kernel) (by decide +kernel)
theorem m_334 : (Jvm.Cond.methodLink "java/lang/String" (637 : Nat) ({ cls := "java/lang/StringLatin1", name := "indexOf", desc := "([BIII)I" } : Jvm.MethodName)) ∈ lw_g := lw_g_in 334 (by decide +kernel) (by decide +kernel)
theorem m_335 : (Jvm.Cond.static ({ cls := "java/lang/StringLatin1", name := "indexOf", desc := "([BIII)I" } : Jvm.MethodName)) ∈ lw_g := lw_g_in 335 (by decide +kernel) (by decide +kernel)
theorem m_336 : (Jvm.Cond.code ({ cls := "java/lang/StringLatin1", name := "indexOf", desc := "([BIII)I" } : Jvm.MethodName) prog_15_method_22_code (4 : Nat) (Option.some Jvm.ClassFile.FieldType.int)) ∈ lw_g := lw_g_in 336 (by decide +kernel) (by decide +kernel)
theorem m_337 : (Jvm.Cond.methodLink "java/lang/StringLatin1" (88 : Nat) ({ cls := "java/lang/StringLatin1", name := "canEncode", desc := "(I)Z" } : Jvm.MethodName)) ∈ lw_g := lw_g_in 337 (by decide +kernel) (by decide +kernel)
theorem m_338 : (Jvm.Cond.static ({ cls := "java/lang/StringLatin1", name := "canEncode", desc := "(I)Z" } : Jvm.MethodName)) ∈ lw_g := lw_g_in 338 (by decide +kernel) (by decide +kernel)
theorem m_339 : (Jvm.Cond.code ({ cls := "java/lang/StringLatin1", name := "canEncode", desc := "(I)Z" } : Jvm.MethodName) prog_15_method_4_code (1 : Nat) (Option.some Jvm.ClassFile.FieldType.boolean)) ∈ lw_g := lw_g_in 339 (by decide +kernel) (by decide +kernel)
theorem m_340 : (Jvm.Cond.methodLink "java/lang/StringLatin1" (92 : Nat) ({ cls := "java/lang/Math", name := "max", desc := "(II)I" } : Jvm.MethodName)) ∈ lw_g := lw_g_in 340 (by decide +kernel) (by decide +kernel)
theorem m_341 : (Jvm.Cond.methodLink "java/lang/StringLatin1" (38 : Nat) ({ cls := "java/lang/Math", name := "min", desc := "(II)I" } : Jvm.MethodName)) ∈ lw_g := lw_g_in 341 (by decide +kernel) (by decide +kernel)
theorem m_342 : (Jvm.Cond.static ({ cls := "java/lang/Math", name := "min", desc := "(II)I" } : Jvm.MethodName)) ∈ lw_g := lw_g_in 342 (by decide +kernel) (by decide +kernel)
theorem m_343 : (Jvm.Cond.code ({ cls := "java/lang/Math", name := "min", desc := "(II)I" } : Jvm.MethodName) prog_13_method_69_code (2 : Nat) (Option.some Jvm.ClassFile.FieldType.int)) ∈ lw_g := lw_g_in 343 (by decide +kernel) (by decide +kernel)
theorem m_344 : (Jvm.Cond.methodLink "java/lang/StringLatin1" (95 : Nat) ({ cls := "java/lang/StringLatin1", name := "indexOfChar", desc := "([BIII)I" } : Jvm.MethodName)) ∈ lw_g := lw_g_in 344 (by decide +kernel) (by decide +kernel)
theorem m_345 : (Jvm.Cond.static ({ cls := "java/lang/StringLatin1", name := "indexOfChar", desc := "([BIII)I" } : Jvm.MethodName)) ∈ lw_g := lw_g_in 345 (by decide +kernel) (by decide +kernel)
theorem m_346 : (Jvm.Cond.code ({ cls := "java/lang/StringLatin1", name := "indexOfChar", desc := "([BIII)I" } : Jvm.MethodName) prog_15_method_23_code (6 : Nat) (Option.some Jvm.ClassFile.FieldType.int)) ∈ lw_g := lw_g_in 346 (by decide +kernel) (by decide +kernel)
theorem m_397 : (Jvm.Cond.methodLink "AnswersFirst$Entries" (59 : Nat) ({ cls := "AnswersFirst$Entries", name := "keep", desc := "(II)V" } : Jvm.MethodName)) ∈ lw_g := lw_g_in 397 (by decide +kernel) (by decide +kernel)
theorem m_399 : (Jvm.Cond.instanceMethod ({ cls := "AnswersFirst$Entries", name := "keep", desc := "(II)V" } : Jvm.MethodName)) ∈ lw_g := lw_g_in 399 (by decide +kernel) (by decide +kernel)
theorem m_400 : (Jvm.Cond.code ({ cls := "AnswersFirst$Entries", name := "keep", desc := "(II)V" } : Jvm.MethodName) prog_3_method_12_code (5 : Nat) (Option.none : Option Jvm.ClassFile.FieldType)) ∈ lw_g := lw_g_in 400 (by decide +kernel) (by decide +kernel)
theorem m_401 : (Jvm.Cond.methodLink "AnswersFirst" (96 : Nat) ({ cls := "AnswersFirst", name := "markOld", desc := "()V" } : Jvm.MethodName)) ∈ lw_g := lw_g_in 401 (by decide +kernel) (by decide +kernel)
theorem m_403 : (Jvm.Cond.instanceMethod ({ cls := "AnswersFirst", name := "markOld", desc := "()V" } : Jvm.MethodName)) ∈ lw_g := lw_g_in 403 (by decide +kernel) (by decide +kernel)
theorem m_404 : (Jvm.Cond.code ({ cls := "AnswersFirst", name := "markOld", desc := "()V" } : Jvm.MethodName) prog_1_method_53_code (1 : Nat) (Option.none : Option Jvm.ClassFile.FieldType)) ∈ lw_g := lw_g_in 404 (by decide +kernel) (by decide +kernel)
theorem m_405 : (Jvm.Cond.methodLink "AnswersFirst" (99 : Nat) ({ cls := "AnswersFirst$Text", name := "length", desc := "()I" } : Jvm.MethodName)) ∈ lw_g := lw_g_in 405 (by decide +kernel) (by decide +kernel)
theorem m_406 : (Jvm.Cond.instanceMethod ({ cls := "AnswersFirst$Text", name := "length", desc := "()I" } : Jvm.MethodName)) ∈ lw_g := lw_g_in 406 (by decide +kernel) (by decide +kernel)
theorem m_407 : (Jvm.Cond.selects "AnswersFirst$Text" ({ cls := "AnswersFirst$Text", name := "length", desc := "()I" } : Jvm.MethodName) ({ cls := "AnswersFirst$Text", name := "length", desc := "()I" } : Jvm.MethodName)) ∈ lw_g := lw_g_in 407 (by decide +kernel) (by decide +kernel)
theorem m_408 : (Jvm.Cond.code ({ cls := "AnswersFirst$Text", name := "length", desc := "()I" } : Jvm.MethodName) prog_8_method_2_code (1 : Nat) (Option.some Jvm.ClassFile.FieldType.int)) ∈ lw_g := lw_g_in 408 (by decide +kernel) (by decide +kernel)
theorem m_1338 : (Jvm.Cond.fieldLink "java/lang/String" (15 : Nat) "java/lang/String" "coder" "B") ∈ lw_g := lw_g_in 1338 (by decide +kernel) (by decide +kernel)
theorem m_1339 : (Jvm.Cond.fieldLink "java/lang/String" (9 : Nat) "java/lang/String" "value" "[B") ∈ lw_g := lw_g_in 1339 (by decide +kernel) (by decide +kernel)

theorem cf0 : CF 0 RX0 TX0 5 tyX0 := ⟨by decide, rfl, by decide +kernel, rfl, tyX0_ok, nmX0⟩
theorem cf1 : CF 1 RX1 TX1 8 tyX1 := ⟨by decide, rfl, by decide +kernel, rfl, tyX1_ok, nmX1⟩
theorem cf2 : CF 2 RX2 TX2 1 tyX2 := ⟨by decide, rfl, by decide +kernel, rfl, tyX2_ok, nmX2⟩
theorem cf3 : CF 3 RX3 TX3 8 tyX3 := ⟨by decide, rfl, by decide +kernel, rfl, tyX3_ok, nmX3⟩
theorem cf4 : CF 4 RX4 TX4 3 tyX4 := ⟨by decide, rfl, by decide +kernel, rfl, tyX4_ok, nmX4⟩
theorem cf5 : CF 5 RX5 TX5 3 tyX5 := ⟨by decide, rfl, by decide +kernel, rfl, tyX5_ok, nmX5⟩
theorem cf6 : CF 6 RX6 TX6 2 tyX6 := ⟨by decide, rfl, by decide +kernel, rfl, tyX6_ok, nmX6⟩
theorem cf7 : CF 7 RX7 TX7 12 tyX7 := ⟨by decide, rfl, by decide +kernel, rfl, tyX7_ok, nmX7⟩
theorem cf8 : CF 8 RX8 TX8 23 tyX8 := ⟨by decide, rfl, by decide +kernel, rfl, tyX8_ok, nmX8⟩

def sX7_isOutside (F : Nat) (a1 : Int32) (a2 : Int32) (M : Mem) : Option Bool :=
if a1 < 0 then
(some true)
else
(if a1 < a2 then
(some false)
else
(some true))

theorem msX7_isOutside : MS yX7_isOutside cX7_isOutside 2 (some .boolean) 2 := ⟨⟨m_287, m_67, by decide, by decide, by decide⟩, m_286⟩
set_option maxHeartbeats 4000000 in
set_option maxRecDepth 100000 in
theorem ctX7_isOutside (x : Wx) (F : Nat) (a1 : Int32) (a2 : Int32) (M : Mem) : Ct x yX7_isOutside cX7_isOutside 2 (some .boolean) { frames := 0, cells := 0, slots := 0, locals := 0 } (φB M) [.int a1, .int a2] M (sX7_isOutside F a1 a2 M) := by
  refine ct_of (by decide) (Nat.le_of_ble_eq_true rfl) (fun f hC hm => ?_)
  have hC : Cx x f "AnswersFirst" cX7_isOutside 2 { frames := 0, cells := 0, slots := 0, locals := 0 } := hC
  show GG x f 2 (Qm x f (φB M)) 0 [(0, .int a1), (1, .int a2)] [] M _
  unfold sX7_isOutside
  refine g_iload_n hC 0 dX7_isOutside_0 rfl rfl ?_
  refine g_if_lt hC 9 dX7_isOutside_1 (by decide) ?_ ?_
  · refine g_iconst hC (v := (1 : Int32)) dX7_isOutside_9 (by decide) ?_
    refine g_goto hC 14 dX7_isOutside_10 (by decide) ?_
    exact g_zret hC hm rfl rfl dX7_isOutside_14
  · refine g_iload_n hC 0 dX7_isOutside_4 rfl rfl ?_
    refine g_iload_n hC 1 dX7_isOutside_5 rfl rfl ?_
    refine g_icmp_lt hC 13 dX7_isOutside_6 (by decide) ?_ ?_
    · refine g_iconst hC (v := (0 : Int32)) dX7_isOutside_13 (by decide) ?_
      exact g_zret hC hm rfl rfl dX7_isOutside_14
    · refine g_iconst hC (v := (1 : Int32)) dX7_isOutside_9 (by decide) ?_
      refine g_goto hC 14 dX7_isOutside_10 (by decide) ?_
      exact g_zret hC hm rfl rfl dX7_isOutside_14

def sX6_isFull (F : Nat) (k : Nat) (M : Mem) : Option Bool :=
if (M k 1) < (Int32.ofNat (ln (k + 3))) then
(some false)
else
(some true)

theorem mvX6_isFull : MV yX6_isFull cX6_isFull 1 (some .boolean) 0 := ⟨⟨m_291, m_68, by decide, by decide, by decide⟩, m_289, m_290⟩
set_option maxHeartbeats 4000000 in
set_option maxRecDepth 100000 in
theorem ctX6_isFull (x : Wx) (F : Nat) (k : Nat) (hk : kd k = 6) (M : Mem) : Ct x yX6_isFull cX6_isFull 1 (some .boolean) { frames := 0, cells := 0, slots := 0, locals := 0 } (φB M) [.ref (x.1 k)] M (sX6_isFull F k M) := by
  refine ct_of (by decide) (Nat.le_of_ble_eq_true rfl) (fun f hC hm => ?_)
  have hC : Cx x f "AnswersFirst$Text" cX6_isFull 1 { frames := 0, cells := 0, slots := 0, locals := 0 } := hC
  show GG x f 1 (Qm x f (φB M)) 0 [(0, .ref (x.1 k))] [] M _
  unfold sX6_isFull
  refine g_aload_n hC 0 dX6_isFull_0 rfl rfl ?_
  refine g_getI hC cf6 hk 1 (by decide) rfl m_104 dX6_isFull_1 ?_
  refine g_aload_n hC 0 dX6_isFull_4 rfl rfl ?_
  refine g_getR hC cf6 (t := (k + 3)) hk 0 (by decide) rfl m_103 dX6_isFull_5 ?_
  refine g_alen hC (n := (Int32.ofNat (ln (k + 3)))) 10 1 (kb_T hk) (by decide) rfl dX6_isFull_8 ?_
  refine g_icmp_lt hC 16 dX6_isFull_9 (by decide) ?_ ?_
  · refine g_iconst hC (v := (0 : Int32)) dX6_isFull_16 (by decide) ?_
    exact g_zret hC hm rfl rfl dX6_isFull_17
  · refine g_iconst hC (v := (1 : Int32)) dX6_isFull_12 (by decide) ?_
    refine g_goto hC 17 dX6_isFull_13 (by decide) ?_
    exact g_zret hC hm rfl rfl dX6_isFull_17

def sX6_append (F : Nat) (k : Nat) (a1 : Int32) (M : Mem) : Option Mem :=
if (M k 1) < 0 then
(some M)
else
(if (Int32.ofNat (ln (k + 3))) ≤ (M k 1) then
(some M)
else
(ib (M k 1) (ln (k + 3)) (
nm (st2 M (k + 3) (ix (M k 1)) (a1.toInt8.toInt32).toInt8.toInt32) (fun M1 =>
nm (st2 M1 k 1 ((M1 k 1) + (1 : Int32))) (fun M2 =>
some M2)))))

theorem mvX6_append : MV yX6_append cX6_append 2 none 1 := ⟨⟨m_295, m_68, by decide, by decide, by decide⟩, m_293, m_294⟩
set_option maxHeartbeats 4000000 in
set_option maxRecDepth 100000 in
theorem ctX6_append (x : Wx) (F : Nat) (k : Nat) (a1 : Int32) (hk : kd k = 6) (M : Mem) : Ct x yX6_append cX6_append 2 none { frames := 0, cells := 0, slots := 0, locals := 0 } φM [.ref (x.1 k), .int a1] M (sX6_append F k a1 M) := by
  refine ct_of (by decide) (Nat.le_of_ble_eq_true rfl) (fun f hC hm => ?_)
  have hC : Cx x f "AnswersFirst$Text" cX6_append 2 { frames := 0, cells := 0, slots := 0, locals := 0 } := hC
  show GG x f 2 (Qm x f φM) 0 [(0, .ref (x.1 k)), (1, .int a1)] [] M _
  unfold sX6_append
  refine g_aload_n hC 0 dX6_append_0 rfl rfl ?_
  refine g_getI hC cf6 hk 1 (by decide) rfl m_104 dX6_append_1 ?_
  refine g_if_lt hC 40 dX6_append_4 (by decide) ?_ ?_
  · exact g_vret hC hm rfl dX6_append_40
  · refine g_aload_n hC 0 dX6_append_7 rfl rfl ?_
    refine g_getI hC cf6 hk 1 (by decide) rfl m_104 dX6_append_8 ?_
    refine g_aload_n hC 0 dX6_append_11 rfl rfl ?_
    refine g_getR hC cf6 (t := (k + 3)) hk 0 (by decide) rfl m_103 dX6_append_12 ?_
    refine g_alen hC (n := (Int32.ofNat (ln (k + 3)))) 10 1 (kb_T hk) (by decide) rfl dX6_append_15 ?_
    refine g_icmp_ge hC 40 dX6_append_16 (by decide) ?_ ?_
    · exact g_vret hC hm rfl dX6_append_40
    · refine g_aload_n hC 0 dX6_append_19 rfl rfl ?_
      refine g_getR hC cf6 (t := (k + 3)) hk 0 (by decide) rfl m_103 dX6_append_20 ?_
      refine g_aload_n hC 0 dX6_append_23 rfl rfl ?_
      refine g_getI hC cf6 hk 1 (by decide) rfl m_104 dX6_append_24 ?_
      refine g_iload_n hC 1 dX6_append_27 rfl rfl ?_
      refine g_i2b hC dX6_append_28 ?_
      refine g_bast hC (kb_T hk) rfl dX6_append_29 (fun M1 => ?_)
      show GG x f 2 (Qm x f φM) 30 [(0, .ref (x.1 k)), (1, .int a1)] [] M1 _
      refine g_aload_n hC 0 dX6_append_30 rfl rfl ?_
      refine g_dup hC dX6_append_31 rfl ?_
      refine g_getI hC cf6 hk 1 (by decide) rfl m_104 dX6_append_32 ?_
      refine g_iconst hC (v := (1 : Int32)) dX6_append_35 (by decide) ?_
      refine g_iadd hC dX6_append_36 ?_
      refine g_put hC cf6 hk 1 (by decide) rfl m_104 rfl rfl rfl dX6_append_37 (fun M2 => ?_)
      show GG x f 2 (Qm x f φM) 40 [(0, .ref (x.1 k)), (1, .int a1)] [] M2 _
      exact g_vret hC hm rfl dX6_append_40

def sX1_figure (F : Nat) (a1 : Int32) (a2 : Int32) (M : Mem) : Option Int32 :=
nm (a1 - (48 : Int32)) (fun v1 =>
if v1 < 0 then
(some (-1 : Int32))
else
(if v1 ≤ a2 then
(some v1)
else
(some (-1 : Int32))))

theorem msX1_figure : MS yX1_figure cX1_figure 3 (some .int) 2 := ⟨⟨m_310, m_70, by decide, by decide, by decide⟩, m_309⟩
set_option maxHeartbeats 4000000 in
set_option maxRecDepth 100000 in
theorem ctX1_figure (x : Wx) (F : Nat) (a1 : Int32) (a2 : Int32) (M : Mem) : Ct x yX1_figure cX1_figure 3 (some .int) { frames := 0, cells := 0, slots := 0, locals := 0 } (φI M) [.int a1, .int a2] M (sX1_figure F a1 a2 M) := by
  refine ct_of (by decide) (Nat.le_of_ble_eq_true rfl) (fun f hC hm => ?_)
  have hC : Cx x f "AnswersFirst$Entries" cX1_figure 3 { frames := 0, cells := 0, slots := 0, locals := 0 } := hC
  show GG x f 3 (Qm x f (φI M)) 0 [(0, .int a1), (1, .int a2)] [] M _
  unfold sX1_figure
  refine g_iload_n hC 0 dX1_figure_0 rfl rfl ?_
  refine g_bipush hC (v := (48 : Int32)) dX1_figure_1 (by decide) ?_
  refine g_isub hC dX1_figure_3 ?_
  refine g_top (fun v1 => ?_)
  show GG x f 3 (Qm x f (φI M)) 4 [(0, .int a1), (1, .int a2)] [.int v1] M _
  refine g_istore_n hC (lv' := [(1, .int a2), (2, .int v1)]) [2, 0] dX1_figure_4 rfl (by decide) rfl ?_
  refine g_iload_n hC 1 dX1_figure_5 rfl rfl ?_
  refine g_if_lt hC 14 dX1_figure_6 (by decide) ?_ ?_
  · refine g_iconst hC (v := (-1 : Int32)) dX1_figure_14 (by decide) ?_
    refine g_goto hC 19 dX1_figure_15 (by decide) ?_
    exact g_iret hC hm rfl dX1_figure_19
  · refine g_iload_n hC 1 dX1_figure_9 rfl rfl ?_
    refine g_iload_n hC 0 dX1_figure_10 rfl rfl ?_
    refine g_icmp_le hC 18 dX1_figure_11 (by decide) ?_ ?_
    · refine g_iload_n hC 1 dX1_figure_18 rfl rfl ?_
      exact g_iret hC hm rfl dX1_figure_19
    · refine g_iconst hC (v := (-1 : Int32)) dX1_figure_14 (by decide) ?_
      refine g_goto hC 19 dX1_figure_15 (by decide) ?_
      exact g_iret hC hm rfl dX1_figure_19

def sJ0_isLatin1_aae02 (F : Nat) (k : Nat) (M : Mem) : Option Bool :=
if (1 : Int32) = 0 then
(some false)
else
(if ¬ (0 : Int32) = 0 then
(some false)
else
(some true))

theorem mvJ0_isLatin1_aae02 : MV yJ0_isLatin1_aae02 cJ0_isLatin1_aae02 1 (some .boolean) 0 := ⟨⟨m_323, m_77, by decide, by decide, by decide⟩, m_321, m_322⟩
set_option maxHeartbeats 4000000 in
set_option maxRecDepth 100000 in
theorem ctJ0_isLatin1_aae02 (x : Wx) (F : Nat) (k : Nat) (hk : 64 ≤ k ∧ k < 66) (M : Mem) : Ct x yJ0_isLatin1_aae02 cJ0_isLatin1_aae02 1 (some .boolean) { frames := 0, cells := 0, slots := 0, locals := 0 } (φB M) [.ref (x.1 k)] M (sJ0_isLatin1_aae02 F k M) := by
  refine ct_of (by decide) (Nat.le_of_ble_eq_true rfl) (fun f hC hm => ?_)
  have hC : Cx x f "java/lang/String" cJ0_isLatin1_aae02 1 { frames := 0, cells := 0, slots := 0, locals := 0 } := hC
  show GG x f 1 (Qm x f (φB M)) 0 [(0, .ref (x.1 k))] [] M _
  unfold sJ0_isLatin1_aae02
  refine g_tcs hC m_324 dJ0_isLatin1_aae02_0 ?_
  refine g_if_eq hC 17 dJ0_isLatin1_aae02_3 (by decide) ?_ ?_
  · refine g_iconst hC (v := (0 : Int32)) dJ0_isLatin1_aae02_17 (by decide) ?_
    exact g_zret hC hm rfl rfl dJ0_isLatin1_aae02_18
  · refine g_aload_n hC 0 dJ0_isLatin1_aae02_6 rfl rfl ?_
    refine g_tcod hC hk m_1338 dJ0_isLatin1_aae02_7 ?_
    refine g_if_ne hC 17 dJ0_isLatin1_aae02_10 (by decide) ?_ ?_
    · refine g_iconst hC (v := (0 : Int32)) dJ0_isLatin1_aae02_17 (by decide) ?_
      exact g_zret hC hm rfl rfl dJ0_isLatin1_aae02_18
    · refine g_iconst hC (v := (1 : Int32)) dJ0_isLatin1_aae02_13 (by decide) ?_
      refine g_goto hC 18 dJ0_isLatin1_aae02_14 (by decide) ?_
      exact g_zret hC hm rfl rfl dJ0_isLatin1_aae02_18

def sJ0_coder_7d493 (F : Nat) (k : Nat) (M : Mem) : Option Int32 :=
if (1 : Int32) = 0 then
(some (1 : Int32))
else
(some (0 : Int32))

theorem mvJ0_coder_7d493 : MV yJ0_coder_7d493 cJ0_coder_7d493 1 (some .byte) 0 := ⟨⟨m_333, m_77, by decide, by decide, by decide⟩, m_331, m_332⟩
set_option maxHeartbeats 4000000 in
set_option maxRecDepth 100000 in
theorem ctJ0_coder_7d493 (x : Wx) (F : Nat) (k : Nat) (hk : 64 ≤ k ∧ k < 66) (M : Mem) : Ct x yJ0_coder_7d493 cJ0_coder_7d493 1 (some .byte) { frames := 0, cells := 0, slots := 0, locals := 0 } (φI M) [.ref (x.1 k)] M (sJ0_coder_7d493 F k M) := by
  refine ct_of (by decide) (Nat.le_of_ble_eq_true rfl) (fun f hC hm => ?_)
  have hC : Cx x f "java/lang/String" cJ0_coder_7d493 1 { frames := 0, cells := 0, slots := 0, locals := 0 } := hC
  show GG x f 1 (Qm x f (φI M)) 0 [(0, .ref (x.1 k))] [] M _
  unfold sJ0_coder_7d493
  refine g_tcs hC m_324 dJ0_coder_7d493_0 ?_
  refine g_if_eq hC 13 dJ0_coder_7d493_3 (by decide) ?_ ?_
  · refine g_iconst hC (v := (1 : Int32)) dJ0_coder_7d493_13 (by decide) ?_
    exact g_bret hC hm rfl rfl dJ0_coder_7d493_14
  · refine g_aload_n hC 0 dJ0_coder_7d493_6 rfl rfl ?_
    refine g_tcod hC hk m_1338 dJ0_coder_7d493_7 ?_
    refine g_goto hC 14 dJ0_coder_7d493_10 (by decide) ?_
    exact g_bret hC hm rfl rfl dJ0_coder_7d493_14

def sJ0_length_8abf5 (F : Nat) (k : Nat) (M : Mem) : Option Int32 :=
(sJ0_coder_7d493 F k M).bind (fun r1 =>
some ((Int32.ofNat (rbL (k + 2))) >>> (r1 &&& 31)))

theorem mvJ0_length_8abf5 : MV yJ0_length_8abf5 cJ0_length_8abf5 1 (some .int) 0 := ⟨⟨m_329, m_77, by decide, by decide, by decide⟩, m_327, m_328⟩
set_option maxHeartbeats 4000000 in
set_option maxRecDepth 100000 in
theorem ctJ0_length_8abf5 (x : Wx) (F : Nat) (k : Nat) (hk : 64 ≤ k ∧ k < 66) (M : Mem) : Ct x yJ0_length_8abf5 cJ0_length_8abf5 1 (some .int) { frames := 1, cells := 0, slots := 0, locals := 20 } (φI M) [.ref (x.1 k)] M (sJ0_length_8abf5 F k M) := by
  refine ct_of (by decide) (Nat.le_of_ble_eq_true rfl) (fun f hC hm => ?_)
  have hC : Cx x f "java/lang/String" cJ0_length_8abf5 1 { frames := 1, cells := 0, slots := 0, locals := 20 } := hC
  show GG x f 1 (Qm x f (φI M)) 0 [(0, .ref (x.1 k))] [] M _
  unfold sJ0_length_8abf5
  refine g_aload_n hC 0 dJ0_length_8abf5_0 rfl rfl ?_
  refine g_tval hC hk m_1339 dJ0_length_8abf5_1 ?_
  refine g_tlen hC (n := (Int32.ofNat (rbL (k + 2)))) (ka_t hk) rfl dJ0_length_8abf5_4 ?_
  refine g_aload_n hC 0 dJ0_length_8abf5_5 rfl rfl ?_
  refine g_callt hC (st := [.int (Int32.ofNat (rbL (k + 2)))]) hk rfl (ctJ0_coder_7d493 x F k hk M) mvJ0_coder_7d493 m_330 (by decide) rfl rfl (Nat.le_of_ble_eq_true rfl) dJ0_length_8abf5_6 (fun r1 => ?_)
  show GG x f 1 (Qm x f (φI M)) 9 [(0, .ref (x.1 k))] [.int r1, .int (Int32.ofNat (rbL (k + 2)))] M _
  refine g_ishr hC dJ0_length_8abf5_9 ?_
  exact g_iret hC hm rfl dJ0_length_8abf5_10

def sJ1_canEncode_9a6ad (F : Nat) (a1 : Int32) (M : Mem) : Option Bool :=
if a1 < 0 then
(some false)
else
(if (255 : Int32) < a1 then
(some false)
else
(some true))

theorem msJ1_canEncode_9a6ad : MS yJ1_canEncode_9a6ad cJ1_canEncode_9a6ad 1 (some .boolean) 1 := ⟨⟨m_339, m_78, by decide, by decide, by decide⟩, m_338⟩
set_option maxHeartbeats 4000000 in
set_option maxRecDepth 100000 in
theorem ctJ1_canEncode_9a6ad (x : Wx) (F : Nat) (a1 : Int32) (M : Mem) : Ct x yJ1_canEncode_9a6ad cJ1_canEncode_9a6ad 1 (some .boolean) { frames := 0, cells := 0, slots := 0, locals := 0 } (φB M) [.int a1] M (sJ1_canEncode_9a6ad F a1 M) := by
  refine ct_of (by decide) (Nat.le_of_ble_eq_true rfl) (fun f hC hm => ?_)
  have hC : Cx x f "java/lang/StringLatin1" cJ1_canEncode_9a6ad 1 { frames := 0, cells := 0, slots := 0, locals := 0 } := hC
  show GG x f 1 (Qm x f (φB M)) 0 [(0, .int a1)] [] M _
  unfold sJ1_canEncode_9a6ad
  refine g_iload_n hC 0 dJ1_canEncode_9a6ad_0 rfl rfl ?_
  refine g_if_lt hC 15 dJ1_canEncode_9a6ad_1 (by decide) ?_ ?_
  · refine g_iconst hC (v := (0 : Int32)) dJ1_canEncode_9a6ad_15 (by decide) ?_
    exact g_zret hC hm rfl rfl dJ1_canEncode_9a6ad_16
  · refine g_iload_n hC 0 dJ1_canEncode_9a6ad_4 rfl rfl ?_
    refine g_sipush hC (v := (255 : Int32)) dJ1_canEncode_9a6ad_5 (by decide) ?_
    refine g_icmp_gt hC 15 dJ1_canEncode_9a6ad_8 (by decide) ?_ ?_
    · refine g_iconst hC (v := (0 : Int32)) dJ1_canEncode_9a6ad_15 (by decide) ?_
      exact g_zret hC hm rfl rfl dJ1_canEncode_9a6ad_16
    · refine g_iconst hC (v := (1 : Int32)) dJ1_canEncode_9a6ad_11 (by decide) ?_
      refine g_goto hC 16 dJ1_canEncode_9a6ad_12 (by decide) ?_
      exact g_zret hC hm rfl rfl dJ1_canEncode_9a6ad_16

def sJ9_max_7cf53 (F : Nat) (a1 : Int32) (a2 : Int32) (M : Mem) : Option Int32 :=
if a1 < a2 then
(some a2)
else
(some a1)

theorem msJ9_max_7cf53 : MS yJ9_max_7cf53 cJ9_max_7cf53 2 (some .int) 2 := ⟨⟨m_102, m_69, by decide, by decide, by decide⟩, m_101⟩
set_option maxHeartbeats 4000000 in
set_option maxRecDepth 100000 in
theorem ctJ9_max_7cf53 (x : Wx) (F : Nat) (a1 : Int32) (a2 : Int32) (M : Mem) : Ct x yJ9_max_7cf53 cJ9_max_7cf53 2 (some .int) { frames := 0, cells := 0, slots := 0, locals := 0 } (φI M) [.int a1, .int a2] M (sJ9_max_7cf53 F a1 a2 M) := by
  refine ct_of (by decide) (Nat.le_of_ble_eq_true rfl) (fun f hC hm => ?_)
  have hC : Cx x f "java/lang/Math" cJ9_max_7cf53 2 { frames := 0, cells := 0, slots := 0, locals := 0 } := hC
  show GG x f 2 (Qm x f (φI M)) 0 [(0, .int a1), (1, .int a2)] [] M _
  unfold sJ9_max_7cf53
  refine g_iload_n hC 0 dJ9_max_7cf53_0 rfl rfl ?_
  refine g_iload_n hC 1 dJ9_max_7cf53_1 rfl rfl ?_
  refine g_icmp_lt hC 9 dJ9_max_7cf53_2 (by decide) ?_ ?_
  · refine g_iload_n hC 1 dJ9_max_7cf53_9 rfl rfl ?_
    exact g_iret hC hm rfl dJ9_max_7cf53_10
  · refine g_iload_n hC 0 dJ9_max_7cf53_5 rfl rfl ?_
    refine g_goto hC 10 dJ9_max_7cf53_6 (by decide) ?_
    exact g_iret hC hm rfl dJ9_max_7cf53_10

def sJ9_min_7cf53 (F : Nat) (a1 : Int32) (a2 : Int32) (M : Mem) : Option Int32 :=
if a2 < a1 then
(some a2)
else
(some a1)

theorem msJ9_min_7cf53 : MS yJ9_min_7cf53 cJ9_min_7cf53 2 (some .int) 2 := ⟨⟨m_343, m_69, by decide, by decide, by decide⟩, m_342⟩
set_option maxHeartbeats 4000000 in
set_option maxRecDepth 100000 in
theorem ctJ9_min_7cf53 (x : Wx) (F : Nat) (a1 : Int32) (a2 : Int32) (M : Mem) : Ct x yJ9_min_7cf53 cJ9_min_7cf53 2 (some .int) { frames := 0, cells := 0, slots := 0, locals := 0 } (φI M) [.int a1, .int a2] M (sJ9_min_7cf53 F a1 a2 M) := by
  refine ct_of (by decide) (Nat.le_of_ble_eq_true rfl) (fun f hC hm => ?_)
  have hC : Cx x f "java/lang/Math" cJ9_min_7cf53 2 { frames := 0, cells := 0, slots := 0, locals := 0 } := hC
  show GG x f 2 (Qm x f (φI M)) 0 [(0, .int a1), (1, .int a2)] [] M _
  unfold sJ9_min_7cf53
  refine g_iload_n hC 0 dJ9_min_7cf53_0 rfl rfl ?_
  refine g_iload_n hC 1 dJ9_min_7cf53_1 rfl rfl ?_
  refine g_icmp_gt hC 9 dJ9_min_7cf53_2 (by decide) ?_ ?_
  · refine g_iload_n hC 1 dJ9_min_7cf53_9 rfl rfl ?_
    exact g_iret hC hm rfl dJ9_min_7cf53_10
  · refine g_iload_n hC 0 dJ9_min_7cf53_5 rfl rfl ?_
    refine g_goto hC 10 dJ9_min_7cf53_6 (by decide) ?_
    exact g_iret hC hm rfl dJ9_min_7cf53_10

def sJ1_indexOfChar_4cfef_L7 (F : Nat) (k1 : Nat) (a4 : Int32) (v1 : Int32) (rec3 : Int32 → Option Int32) (p2 : Int32) : Option Int32 :=
if a4 ≤ p2 then
(some (-1 : Int32))
else
(ib p2 (rbL k1) (
if ¬ (roB k1 (ix p2)) = v1 then
(rec3 (p2 + (1 : Int32)))
else
(some p2)))
def sJ1_indexOfChar_4cfef (F : Nat) (k1 : Nat) (a2 : Int32) (a3 : Int32) (a4 : Int32) (M : Mem) : Option Int32 :=
nm (a2.toInt8.toInt32) (fun v1 =>
fx1 F (sJ1_indexOfChar_4cfef_L7 F k1 a4 v1) a3)

theorem msJ1_indexOfChar_4cfef : MS yJ1_indexOfChar_4cfef cJ1_indexOfChar_4cfef 6 (some .int) 4 := ⟨⟨m_346, m_78, by decide, by decide, by decide⟩, m_345⟩
set_option maxHeartbeats 4000000 in
set_option maxRecDepth 100000 in
theorem ctJ1_indexOfChar_4cfef (x : Wx) (F : Nat) (k1 : Nat) (a2 : Int32) (a3 : Int32) (a4 : Int32) (h1 : 66 ≤ k1 ∧ k1 < 68) (M : Mem) : Ct x yJ1_indexOfChar_4cfef cJ1_indexOfChar_4cfef 6 (some .int) { frames := 0, cells := 0, slots := 0, locals := 0 } (φI M) [.ref (x.1 k1), .int a2, .int a3, .int a4] M (sJ1_indexOfChar_4cfef F k1 a2 a3 a4 M) := by
  refine ct_of (by decide) (Nat.le_of_ble_eq_true rfl) (fun f hC hm => ?_)
  have hC : Cx x f "java/lang/StringLatin1" cJ1_indexOfChar_4cfef 6 { frames := 0, cells := 0, slots := 0, locals := 0 } := hC
  show GG x f 6 (Qm x f (φI M)) 0 [(0, .ref (x.1 k1)), (1, .int a2), (2, .int a3), (3, .int a4)] [] M _
  unfold sJ1_indexOfChar_4cfef
  refine g_iload_n hC 1 dJ1_indexOfChar_4cfef_0 rfl rfl ?_
  refine g_i2b hC dJ1_indexOfChar_4cfef_1 ?_
  refine g_top (fun v1 => ?_)
  show GG x f 6 (Qm x f (φI M)) 2 [(0, .ref (x.1 k1)), (1, .int a2), (2, .int a3), (3, .int a4)] [.int v1] M _
  refine g_istore hC (lv' := [(0, .ref (x.1 k1)), (2, .int a3), (3, .int a4), (4, .int v1)]) [1, 3, 4, 0] dJ1_indexOfChar_4cfef_2 (by decide) rfl ?_
  refine g_iload_n hC 1 dJ1_indexOfChar_4cfef_4 rfl rfl ?_
  refine g_istore hC (lv' := [(0, .ref (x.1 k1)), (3, .int a4), (4, .int v1), (5, .int a3)]) [1, 3, 4, 0] dJ1_indexOfChar_4cfef_5 (by decide) rfl ?_
  refine g_fx1 (fun (p2 : Int32) => [(0, .ref (x.1 k1)), (3, .int a4), (4, .int v1), (5, .int p2)]) (fun (p2 : Int32) => M) (fun rec3 hrec3 p2 => ?_) F _
  show GG x f 6 (Qm x f (φI M)) 7 [(0, .ref (x.1 k1)), (3, .int a4), (4, .int v1), (5, .int p2)] [] M _
  unfold sJ1_indexOfChar_4cfef_L7
  refine g_iload hC 3 dJ1_indexOfChar_4cfef_7 rfl ?_
  refine g_iload_n hC 1 dJ1_indexOfChar_4cfef_9 rfl rfl ?_
  refine g_icmp_ge hC 31 dJ1_indexOfChar_4cfef_10 (by decide) ?_ ?_
  · refine g_iconst hC (v := (-1 : Int32)) dJ1_indexOfChar_4cfef_31 (by decide) ?_
    exact g_iret hC hm rfl dJ1_indexOfChar_4cfef_32
  · refine g_aload_n hC 0 dJ1_indexOfChar_4cfef_13 rfl rfl ?_
    refine g_iload hC 3 dJ1_indexOfChar_4cfef_14 rfl ?_
    refine g_tald hC h1 rfl dJ1_indexOfChar_4cfef_16 ?_
    refine g_iload hC 2 dJ1_indexOfChar_4cfef_17 rfl ?_
    refine g_icmp_ne hC 25 dJ1_indexOfChar_4cfef_19 (by decide) ?_ ?_
    · refine g_iinc hC (q := 3) (v := (1 : Int32)) (lv' := [(0, .ref (x.1 k1)), (3, .int a4), (4, .int v1), (5, .int (p2 + (1 : Int32)))]) [1, 2, 3, 0] dJ1_indexOfChar_4cfef_25 rfl (by decide) (by decide) rfl ?_
      refine g_goto hC 7 dJ1_indexOfChar_4cfef_28 (by decide) ?_
      exact hrec3 (p2 + (1 : Int32))
    · refine g_iload hC 3 dJ1_indexOfChar_4cfef_22 rfl ?_
      exact g_iret hC hm rfl dJ1_indexOfChar_4cfef_24

def sJ1_indexOf_4cfef (F : Nat) (k1 : Nat) (a2 : Int32) (a3 : Int32) (a4 : Int32) (M : Mem) : Option Int32 :=
(sJ1_canEncode_9a6ad F a2 M).bind (fun r1 =>
if r1 = true then
((sJ9_max_7cf53 F a3 (0 : Int32) M).bind (fun r2 =>
(sJ9_min_7cf53 F a4 (Int32.ofNat (rbL k1)) M).bind (fun r3 =>
if r2 < r3 then
((sJ1_indexOfChar_4cfef F k1 a2 r2 r3 M).bind (fun r4 =>
some r4))
else
(some (-1 : Int32)))))
else
(some (-1 : Int32)))

theorem msJ1_indexOf_4cfef : MS yJ1_indexOf_4cfef cJ1_indexOf_4cfef 4 (some .int) 4 := ⟨⟨m_336, m_78, by decide, by decide, by decide⟩, m_335⟩
set_option maxHeartbeats 4000000 in
set_option maxRecDepth 100000 in
theorem ctJ1_indexOf_4cfef (x : Wx) (F : Nat) (k1 : Nat) (a2 : Int32) (a3 : Int32) (a4 : Int32) (h1 : 66 ≤ k1 ∧ k1 < 68) (M : Mem) : Ct x yJ1_indexOf_4cfef cJ1_indexOf_4cfef 4 (some .int) { frames := 1, cells := 0, slots := 0, locals := 25 } (φI M) [.ref (x.1 k1), .int a2, .int a3, .int a4] M (sJ1_indexOf_4cfef F k1 a2 a3 a4 M) := by
  refine ct_of (by decide) (Nat.le_of_ble_eq_true rfl) (fun f hC hm => ?_)
  have hC : Cx x f "java/lang/StringLatin1" cJ1_indexOf_4cfef 4 { frames := 1, cells := 0, slots := 0, locals := 25 } := hC
  show GG x f 4 (Qm x f (φI M)) 0 [(0, .ref (x.1 k1)), (1, .int a2), (2, .int a3), (3, .int a4)] [] M _
  unfold sJ1_indexOf_4cfef
  refine g_iload_n hC 1 dJ1_indexOf_4cfef_0 rfl rfl ?_
  refine g_calls hC (st := []) (ctJ1_canEncode_9a6ad x F a2 M) msJ1_canEncode_9a6ad m_337 (by decide) rfl rfl (Nat.le_of_ble_eq_true rfl) dJ1_indexOf_4cfef_1 (fun r1 => ?_)
  show GG x f 4 (Qm x f (φI M)) 4 [(0, .ref (x.1 k1)), (1, .int a2), (2, .int a3), (3, .int a4)] [.int (bi r1)] M _
  refine g_ifB_ne hC 9 dJ1_indexOf_4cfef_4 (by decide) ?_ ?_
  · refine g_iload_n hC 2 dJ1_indexOf_4cfef_9 rfl rfl ?_
    refine g_iconst hC (v := (0 : Int32)) dJ1_indexOf_4cfef_10 (by decide) ?_
    refine g_calls hC (st := []) (ctJ9_max_7cf53 x F a3 (0 : Int32) M) msJ9_max_7cf53 m_340 (by decide) rfl rfl (Nat.le_of_ble_eq_true rfl) dJ1_indexOf_4cfef_11 (fun r2 => ?_)
    show GG x f 4 (Qm x f (φI M)) 14 [(0, .ref (x.1 k1)), (1, .int a2), (2, .int a3), (3, .int a4)] [.int r2] M _
    refine g_istore_n hC (lv' := [(0, .ref (x.1 k1)), (1, .int a2), (2, .int r2), (3, .int a4)]) [1, 2, 0, 3] dJ1_indexOf_4cfef_14 rfl (by decide) rfl ?_
    refine g_iload_n hC 3 dJ1_indexOf_4cfef_15 rfl rfl ?_
    refine g_aload_n hC 0 dJ1_indexOf_4cfef_16 rfl rfl ?_
    refine g_tlen hC (n := (Int32.ofNat (rbL k1))) h1 rfl dJ1_indexOf_4cfef_17 ?_
    refine g_calls hC (st := []) (ctJ9_min_7cf53 x F a4 (Int32.ofNat (rbL k1)) M) msJ9_min_7cf53 m_341 (by decide) rfl rfl (Nat.le_of_ble_eq_true rfl) dJ1_indexOf_4cfef_18 (fun r3 => ?_)
    show GG x f 4 (Qm x f (φI M)) 21 [(0, .ref (x.1 k1)), (1, .int a2), (2, .int r2), (3, .int a4)] [.int r3] M _
    refine g_istore_n hC (lv' := [(0, .ref (x.1 k1)), (1, .int a2), (2, .int r2), (3, .int r3)]) [1, 2, 3, 0] dJ1_indexOf_4cfef_21 rfl (by decide) rfl ?_
    refine g_iload_n hC 2 dJ1_indexOf_4cfef_22 rfl rfl ?_
    refine g_iload_n hC 3 dJ1_indexOf_4cfef_23 rfl rfl ?_
    refine g_icmp_lt hC 29 dJ1_indexOf_4cfef_24 (by decide) ?_ ?_
    · refine g_aload_n hC 0 dJ1_indexOf_4cfef_29 rfl rfl ?_
      refine g_iload_n hC 1 dJ1_indexOf_4cfef_30 rfl rfl ?_
      refine g_iload_n hC 2 dJ1_indexOf_4cfef_31 rfl rfl ?_
      refine g_iload_n hC 3 dJ1_indexOf_4cfef_32 rfl rfl ?_
      refine g_calls hC (st := []) (ctJ1_indexOfChar_4cfef x F k1 a2 r2 r3 h1 M) msJ1_indexOfChar_4cfef m_344 (by decide) rfl rfl (Nat.le_of_ble_eq_true rfl) dJ1_indexOf_4cfef_33 (fun r4 => ?_)
      show GG x f 4 (Qm x f (φI M)) 36 [(0, .ref (x.1 k1)), (1, .int a2), (2, .int r2), (3, .int r3)] [.int r4] M _
      exact g_iret hC hm rfl dJ1_indexOf_4cfef_36
    · refine g_iconst hC (v := (-1 : Int32)) dJ1_indexOf_4cfef_27 (by decide) ?_
      exact g_iret hC hm rfl dJ1_indexOf_4cfef_28
  · refine g_iconst hC (v := (-1 : Int32)) dJ1_indexOf_4cfef_7 (by decide) ?_
    exact g_iret hC hm rfl dJ1_indexOf_4cfef_8

def sJ0_indexOf_7cf53 (F : Nat) (k : Nat) (a1 : Int32) (a2 : Int32) (M : Mem) : Option Int32 :=
(sJ0_isLatin1_aae02 F k M).bind (fun r1 =>
if r1 = true then
((sJ0_length_8abf5 F k M).bind (fun r2 =>
(sJ1_indexOf_4cfef F (k + 2) a1 a2 r2 M).bind (fun r3 =>
some r3)))
else
((sJ0_length_8abf5 F k M).bind (fun r4 =>
none)))

theorem mvJ0_indexOf_7cf53 : MV yJ0_indexOf_7cf53 cJ0_indexOf_7cf53 3 (some .int) 2 := ⟨⟨m_319, m_77, by decide, by decide, by decide⟩, m_317, m_318⟩
set_option maxHeartbeats 4000000 in
set_option maxRecDepth 100000 in
theorem ctJ0_indexOf_7cf53 (x : Wx) (F : Nat) (k : Nat) (a1 : Int32) (a2 : Int32) (hk : 64 ≤ k ∧ k < 66) (M : Mem) : Ct x yJ0_indexOf_7cf53 cJ0_indexOf_7cf53 3 (some .int) { frames := 2, cells := 0, slots := 0, locals := 48 } (φI M) [.ref (x.1 k), .int a1, .int a2] M (sJ0_indexOf_7cf53 F k a1 a2 M) := by
  refine ct_of (by decide) (Nat.le_of_ble_eq_true rfl) (fun f hC hm => ?_)
  have hC : Cx x f "java/lang/String" cJ0_indexOf_7cf53 3 { frames := 2, cells := 0, slots := 0, locals := 48 } := hC
  show GG x f 3 (Qm x f (φI M)) 0 [(0, .ref (x.1 k)), (1, .int a1), (2, .int a2)] [] M _
  unfold sJ0_indexOf_7cf53
  refine g_aload_n hC 0 dJ0_indexOf_7cf53_0 rfl rfl ?_
  refine g_callt hC (st := []) hk rfl (ctJ0_isLatin1_aae02 x F k hk M) mvJ0_isLatin1_aae02 m_320 (by decide) rfl rfl (Nat.le_of_ble_eq_true rfl) dJ0_indexOf_7cf53_1 (fun r1 => ?_)
  show GG x f 3 (Qm x f (φI M)) 4 [(0, .ref (x.1 k)), (1, .int a1), (2, .int a2)] [.int (bi r1)] M _
  refine g_ifB_eq hC 23 dJ0_indexOf_7cf53_4 (by decide) ?_ ?_
  · refine g_aload_n hC 0 dJ0_indexOf_7cf53_7 rfl rfl ?_
    refine g_tval hC hk m_1339 dJ0_indexOf_7cf53_8 ?_
    refine g_iload_n hC 1 dJ0_indexOf_7cf53_11 rfl rfl ?_
    refine g_iload_n hC 2 dJ0_indexOf_7cf53_12 rfl rfl ?_
    refine g_aload_n hC 0 dJ0_indexOf_7cf53_13 rfl rfl ?_
    refine g_callt hC (st := [.int a2, .int a1, .ref (x.1 (k + 2))]) hk rfl (ctJ0_length_8abf5 x F k hk M) mvJ0_length_8abf5 m_326 (by decide) rfl rfl (Nat.le_of_ble_eq_true rfl) dJ0_indexOf_7cf53_14 (fun r2 => ?_)
    show GG x f 3 (Qm x f (φI M)) 17 [(0, .ref (x.1 k)), (1, .int a1), (2, .int a2)] [.int r2, .int a2, .int a1, .ref (x.1 (k + 2))] M _
    refine g_calls hC (st := []) (ctJ1_indexOf_4cfef x F (k + 2) a1 a2 r2 (ka_t hk) M) msJ1_indexOf_4cfef m_334 (by decide) rfl rfl (Nat.le_of_ble_eq_true rfl) dJ0_indexOf_7cf53_17 (fun r3 => ?_)
    show GG x f 3 (Qm x f (φI M)) 20 [(0, .ref (x.1 k)), (1, .int a1), (2, .int a2)] [.int r3] M _
    refine g_goto hC 36 dJ0_indexOf_7cf53_20 (by decide) ?_
    exact g_iret hC hm rfl dJ0_indexOf_7cf53_36
  · refine g_aload_n hC 0 dJ0_indexOf_7cf53_23 rfl rfl ?_
    refine g_tval hC hk m_1339 dJ0_indexOf_7cf53_24 ?_
    refine g_iload_n hC 1 dJ0_indexOf_7cf53_27 rfl rfl ?_
    refine g_iload_n hC 2 dJ0_indexOf_7cf53_28 rfl rfl ?_
    refine g_aload_n hC 0 dJ0_indexOf_7cf53_29 rfl rfl ?_
    refine g_callt hC (st := [.int a2, .int a1, .ref (x.1 (k + 2))]) hk rfl (ctJ0_length_8abf5 x F k hk M) mvJ0_length_8abf5 m_326 (by decide) rfl rfl (Nat.le_of_ble_eq_true rfl) dJ0_indexOf_7cf53_30 (fun r4 => ?_)
    show GG x f 3 (Qm x f (φI M)) 33 [(0, .ref (x.1 k)), (1, .int a1), (2, .int a2)] [.int r4, .int a2, .int a1, .ref (x.1 (k + 2))] M _
    exact g_none

def sJ0_indexOf_0f7a4 (F : Nat) (k : Nat) (a1 : Int32) (M : Mem) : Option Int32 :=
(sJ0_indexOf_7cf53 F k a1 (0 : Int32) M).bind (fun r1 =>
some r1)

theorem mvJ0_indexOf_0f7a4 : MV yJ0_indexOf_0f7a4 cJ0_indexOf_0f7a4 2 (some .int) 1 := ⟨⟨m_315, m_77, by decide, by decide, by decide⟩, m_313, m_314⟩
set_option maxHeartbeats 4000000 in
set_option maxRecDepth 100000 in
theorem ctJ0_indexOf_0f7a4 (x : Wx) (F : Nat) (k : Nat) (a1 : Int32) (hk : 64 ≤ k ∧ k < 66) (M : Mem) : Ct x yJ0_indexOf_0f7a4 cJ0_indexOf_0f7a4 2 (some .int) { frames := 3, cells := 0, slots := 0, locals := 70 } (φI M) [.ref (x.1 k), .int a1] M (sJ0_indexOf_0f7a4 F k a1 M) := by
  refine ct_of (by decide) (Nat.le_of_ble_eq_true rfl) (fun f hC hm => ?_)
  have hC : Cx x f "java/lang/String" cJ0_indexOf_0f7a4 2 { frames := 3, cells := 0, slots := 0, locals := 70 } := hC
  show GG x f 2 (Qm x f (φI M)) 0 [(0, .ref (x.1 k)), (1, .int a1)] [] M _
  unfold sJ0_indexOf_0f7a4
  refine g_aload_n hC 0 dJ0_indexOf_0f7a4_0 rfl rfl ?_
  refine g_iload_n hC 1 dJ0_indexOf_0f7a4_1 rfl rfl ?_
  refine g_iconst hC (v := (0 : Int32)) dJ0_indexOf_0f7a4_2 (by decide) ?_
  refine g_callt hC (st := []) hk rfl (ctJ0_indexOf_7cf53 x F k a1 (0 : Int32) hk M) mvJ0_indexOf_7cf53 m_316 (by decide) rfl rfl (Nat.le_of_ble_eq_true rfl) dJ0_indexOf_0f7a4_3 (fun r1 => ?_)
  show GG x f 2 (Qm x f (φI M)) 6 [(0, .ref (x.1 k)), (1, .int a1)] [.int r1] M _
  exact g_iret hC hm rfl dJ0_indexOf_0f7a4_6

def sX1_valueOf (F : Nat) (k : Nat) (a1 : Int32) (a2 : Int32) (M : Mem) : Option Int32 :=
if a1 = (0 : Int32) then
((sX1_figure F a2 (5 : Int32) M).bind (fun r1 =>
some r1))
else if a1 = (1 : Int32) then
(if ¬ (a2 - (48 : Int32)) = (M k 5) then
((sX1_figure F a2 (5 : Int32) M).bind (fun r2 =>
some r2))
else
(some (-1 : Int32)))
else if a1 = (2 : Int32) then
((sX1_figure F a2 (9 : Int32) M).bind (fun r3 =>
some r3))
else if a1 = (3 : Int32) then
((sJ0_indexOf_0f7a4 F 64 (i2c a2) M).bind (fun r4 =>
some r4))
else if a1 = (4 : Int32) then
((sJ0_indexOf_0f7a4 F 65 (i2c a2) M).bind (fun r5 =>
some r5))
else ((sX1_figure F a2 (9 : Int32) M).bind (fun r6 =>
some r6))

theorem mvX1_valueOf : MV yX1_valueOf cX1_valueOf 3 (some .int) 2 := ⟨⟨m_307, m_70, by decide, by decide, by decide⟩, m_306, m_1⟩
set_option maxHeartbeats 4000000 in
set_option maxRecDepth 100000 in
theorem ctX1_valueOf (x : Wx) (F : Nat) (k : Nat) (a1 : Int32) (a2 : Int32) (hk : kd k = 1) (M : Mem) : Ct x yX1_valueOf cX1_valueOf 3 (some .int) { frames := 4, cells := 0, slots := 0, locals := 91 } (φI M) [.ref (x.1 k), .int a1, .int a2] M (sX1_valueOf F k a1 a2 M) := by
  refine ct_of (by decide) (Nat.le_of_ble_eq_true rfl) (fun f hC hm => ?_)
  have hC : Cx x f "AnswersFirst$Entries" cX1_valueOf 3 { frames := 4, cells := 0, slots := 0, locals := 91 } := hC
  show GG x f 3 (Qm x f (φI M)) 0 [(0, .ref (x.1 k)), (1, .int a1), (2, .int a2)] [] M _
  unfold sX1_valueOf
  refine g_iload_n hC 1 dX1_valueOf_0 rfl rfl ?_
  refine g_tcase hC (i := (0 : Int32)) (35) 36 dX1_valueOf_1 (by decide) (by decide) (by decide) (by decide) ?_ (fun hn0 => ?_)
  · refine g_iload_n hC 2 dX1_valueOf_36 rfl rfl ?_
    refine g_iconst hC (v := (5 : Int32)) dX1_valueOf_37 (by decide) ?_
    refine g_calls hC (st := []) (ctX1_figure x F a2 (5 : Int32) M) msX1_figure m_308 (by decide) rfl rfl (Nat.le_of_ble_eq_true rfl) dX1_valueOf_38 (fun r1 => ?_)
    show GG x f 3 (Qm x f (φI M)) 41 [(0, .ref (x.1 k)), (1, .int a1), (2, .int a2)] [.int r1] M _
    exact g_iret hC hm rfl dX1_valueOf_41
  refine g_tcase hC (i := (1 : Int32)) (41) 42 dX1_valueOf_1 (by decide) (by decide) (by decide) (by decide) ?_ (fun hn1 => ?_)
  · refine g_iload_n hC 2 dX1_valueOf_42 rfl rfl ?_
    refine g_bipush hC (v := (48 : Int32)) dX1_valueOf_43 (by decide) ?_
    refine g_isub hC dX1_valueOf_45 ?_
    refine g_aload_n hC 0 dX1_valueOf_46 rfl rfl ?_
    refine g_getI hC cf1 hk 5 (by decide) rfl m_125 dX1_valueOf_47 ?_
    refine g_icmp_ne hC 57 dX1_valueOf_50 (by decide) ?_ ?_
    · refine g_iload_n hC 2 dX1_valueOf_57 rfl rfl ?_
      refine g_iconst hC (v := (5 : Int32)) dX1_valueOf_58 (by decide) ?_
      refine g_calls hC (st := []) (ctX1_figure x F a2 (5 : Int32) M) msX1_figure m_308 (by decide) rfl rfl (Nat.le_of_ble_eq_true rfl) dX1_valueOf_59 (fun r2 => ?_)
      show GG x f 3 (Qm x f (φI M)) 62 [(0, .ref (x.1 k)), (1, .int a1), (2, .int a2)] [.int r2] M _
      exact g_iret hC hm rfl dX1_valueOf_62
    · refine g_iconst hC (v := (-1 : Int32)) dX1_valueOf_53 (by decide) ?_
      refine g_goto hC 62 dX1_valueOf_54 (by decide) ?_
      exact g_iret hC hm rfl dX1_valueOf_62
  refine g_tcase hC (i := (2 : Int32)) (78) 79 dX1_valueOf_1 (by decide) (by decide) (by decide) (by decide) ?_ (fun hn2 => ?_)
  · refine g_iload_n hC 2 dX1_valueOf_79 rfl rfl ?_
    refine g_bipush hC (v := (9 : Int32)) dX1_valueOf_80 (by decide) ?_
    refine g_calls hC (st := []) (ctX1_figure x F a2 (9 : Int32) M) msX1_figure m_308 (by decide) rfl rfl (Nat.le_of_ble_eq_true rfl) dX1_valueOf_82 (fun r3 => ?_)
    show GG x f 3 (Qm x f (φI M)) 85 [(0, .ref (x.1 k)), (1, .int a1), (2, .int a2)] [.int r3] M _
    exact g_iret hC hm rfl dX1_valueOf_85
  refine g_tcase hC (i := (3 : Int32)) (62) 63 dX1_valueOf_1 (by decide) (by decide) (by decide) (by decide) ?_ (fun hn3 => ?_)
  · refine g_ldcS0 hC dX1_valueOf_63 ?_
    refine g_iload_n hC 2 dX1_valueOf_65 rfl rfl ?_
    refine g_i2c hC dX1_valueOf_66 ?_
    refine g_callt hC (st := []) (by decide) rfl (ctJ0_indexOf_0f7a4 x F 64 (i2c a2) (by decide) M) mvJ0_indexOf_0f7a4 m_312 (by decide) rfl rfl (Nat.le_of_ble_eq_true rfl) dX1_valueOf_67 (fun r4 => ?_)
    show GG x f 3 (Qm x f (φI M)) 70 [(0, .ref (x.1 k)), (1, .int a1), (2, .int a2)] [.int r4] M _
    exact g_iret hC hm rfl dX1_valueOf_70
  refine g_tcase hC (i := (4 : Int32)) (70) 71 dX1_valueOf_1 (by decide) (by decide) (by decide) (by decide) ?_ (fun hn4 => ?_)
  · refine g_ldcS1 hC dX1_valueOf_71 ?_
    refine g_iload_n hC 2 dX1_valueOf_73 rfl rfl ?_
    refine g_i2c hC dX1_valueOf_74 ?_
    refine g_callt hC (st := []) (by decide) rfl (ctJ0_indexOf_0f7a4 x F 65 (i2c a2) (by decide) M) mvJ0_indexOf_0f7a4 m_312 (by decide) rfl rfl (Nat.le_of_ble_eq_true rfl) dX1_valueOf_75 (fun r5 => ?_)
    show GG x f 3 (Qm x f (φI M)) 78 [(0, .ref (x.1 k)), (1, .int a1), (2, .int a2)] [.int r5] M _
    exact g_iret hC hm rfl dX1_valueOf_78
  refine g_tout hC 79 dX1_valueOf_1 (q_out5 hn0 hn1 hn2 hn3 hn4) (by decide) ?_
  refine g_iload_n hC 2 dX1_valueOf_79 rfl rfl ?_
  refine g_bipush hC (v := (9 : Int32)) dX1_valueOf_80 (by decide) ?_
  refine g_calls hC (st := []) (ctX1_figure x F a2 (9 : Int32) M) msX1_figure m_308 (by decide) rfl rfl (Nat.le_of_ble_eq_true rfl) dX1_valueOf_82 (fun r6 => ?_)
  show GG x f 3 (Qm x f (φI M)) 85 [(0, .ref (x.1 k)), (1, .int a1), (2, .int a2)] [.int r6] M _
  exact g_iret hC hm rfl dX1_valueOf_85

def sX1_keep (F : Nat) (k : Nat) (a1 : Int32) (a2 : Int32) (M : Mem) : Option Mem :=
nm (((M k 3) * (6 : Int32)) + a1) (fun v1 =>
if v1 < 0 then
(some M)
else
(if v1 < (60 : Int32) then
(nm (fun (q2 : Int32) =>
nm (fun (q4 : Int32) =>
ib v1 60 (
nm (st2 M (k + 3) (ix v1) q4) (fun M6 =>
nm (fun (q7 : Int32) =>
nm (st2 M6 k 5 q7) (fun M9 =>
some M9)) (fun J8 =>
if ¬ a1 = 0 then
(J8 (M6 k 5))
else
(J8 a2))))) (fun J5 =>
if q2 = 0 then
(J5 a2)
else
(ib v1 60 (
J5 (((10 : Int32) * (M (k + 3) (ix v1))) + a2))))) (fun J3 =>
nm (J3 (0 : Int32)) (fun J10 =>
if ¬ a1 = (2 : Int32) then
(J10)
else
(if (M k 4) ≤ 0 then
(J10)
else
(if (Int32.ofNat (roL (fm k))) < (M k 4) then
(J10)
else
(ib ((M k 4) - (1 : Int32)) (roL (fm k)) (
if ¬ (roI (fm k) (ix ((M k 4) - (1 : Int32)))) = (2 : Int32) then
(J10)
else
(J3 (1 : Int32)))))))))
else
(some M)))

theorem mvX1_keep : MV yX1_keep cX1_keep 5 none 2 := ⟨⟨m_400, m_70, by decide, by decide, by decide⟩, m_399, m_2⟩
set_option maxHeartbeats 4000000 in
set_option maxRecDepth 100000 in
theorem ctX1_keep (x : Wx) (F : Nat) (k : Nat) (a1 : Int32) (a2 : Int32) (hk : kd k = 1) (M : Mem) : Ct x yX1_keep cX1_keep 5 none { frames := 0, cells := 0, slots := 0, locals := 0 } φM [.ref (x.1 k), .int a1, .int a2] M (sX1_keep F k a1 a2 M) := by
  refine ct_of (by decide) (Nat.le_of_ble_eq_true rfl) (fun f hC hm => ?_)
  have hC : Cx x f "AnswersFirst$Entries" cX1_keep 5 { frames := 0, cells := 0, slots := 0, locals := 0 } := hC
  show GG x f 5 (Qm x f φM) 0 [(0, .ref (x.1 k)), (1, .int a1), (2, .int a2)] [] M _
  unfold sX1_keep
  refine g_aload_n hC 0 dX1_keep_0 rfl rfl ?_
  refine g_getI hC cf1 hk 3 (by decide) rfl m_123 dX1_keep_1 ?_
  refine g_bipush hC (v := (6 : Int32)) dX1_keep_4 (by decide) ?_
  refine g_imul hC dX1_keep_6 ?_
  refine g_iload_n hC 1 dX1_keep_7 rfl rfl ?_
  refine g_iadd hC dX1_keep_8 ?_
  refine g_top (fun v1 => ?_)
  show GG x f 5 (Qm x f φM) 9 [(0, .ref (x.1 k)), (1, .int a1), (2, .int a2)] [.int v1] M _
  refine g_istore_n hC (lv' := [(0, .ref (x.1 k)), (1, .int a1), (2, .int a2), (3, .int v1)]) [1, 2, 3, 0] dX1_keep_9 rfl (by decide) rfl ?_
  refine g_iload_n hC 3 dX1_keep_10 rfl rfl ?_
  refine g_if_lt hC 23 dX1_keep_11 (by decide) ?_ ?_
  · exact g_vret hC hm rfl dX1_keep_23
  · refine g_iload_n hC 3 dX1_keep_14 rfl rfl ?_
    refine g_aload_n hC 0 dX1_keep_15 rfl rfl ?_
    refine g_getR hC cf1 (t := (k + 3)) hk 1 (by decide) rfl m_121 dX1_keep_16 ?_
    refine g_alen hC (n := (60 : Int32)) 9 0 (kp_E hk) (by decide) (by rw [lp_E hk]; rfl) dX1_keep_19 ?_
    refine g_icmp_lt hC 24 dX1_keep_20 (by decide) ?_ ?_
    · refine g_iload_n hC 1 dX1_keep_24 rfl rfl ?_
      refine g_iconst hC (v := (2 : Int32)) dX1_keep_25 (by decide) ?_
      refine g_nm (fun (J3 : Int32 → Option Mem) => ∀ (q2 : Int32), GG x f 5 (Qm x f φM) 68 [(0, .ref (x.1 k)), (1, .int a1), (2, .int a2), (3, .int v1)] [.int q2] M (J3 q2)) (fun q2 => ?_) (fun J3 hJ3 => ?_)
      · show GG x f 5 (Qm x f φM) 68 [(0, .ref (x.1 k)), (1, .int a1), (2, .int a2), (3, .int v1)] [.int q2] M _
        refine g_istore hC (lv' := [(0, .ref (x.1 k)), (1, .int a1), (2, .int a2), (3, .int v1), (4, .int q2)]) [1, 2, 3, 4, 0] dX1_keep_68 (by decide) rfl ?_
        refine g_aload_n hC 0 dX1_keep_70 rfl rfl ?_
        refine g_getR hC cf1 (t := (k + 3)) hk 1 (by decide) rfl m_121 dX1_keep_71 ?_
        refine g_iload_n hC 3 dX1_keep_74 rfl rfl ?_
        refine g_iload hC 4 dX1_keep_75 rfl ?_
        refine g_nm (fun (J5 : Int32 → Option Mem) => ∀ (q4 : Int32), GG x f 5 (Qm x f φM) 95 [(0, .ref (x.1 k)), (1, .int a1), (2, .int a2)] [.int q4, .int v1, .ref (x.1 (k + 3))] M (J5 q4)) (fun q4 => ?_) (fun J5 hJ5 => ?_)
        · show GG x f 5 (Qm x f φM) 95 [(0, .ref (x.1 k)), (1, .int a1), (2, .int a2)] [.int q4, .int v1, .ref (x.1 (k + 3))] M _
          refine g_iast hC (kp_E hk) (lp_E hk) dX1_keep_95 (fun M6 => ?_)
          show GG x f 5 (Qm x f φM) 96 [(0, .ref (x.1 k)), (1, .int a1), (2, .int a2)] [] M6 _
          refine g_aload_n hC 0 dX1_keep_96 rfl rfl ?_
          refine g_iload_n hC 1 dX1_keep_97 rfl rfl ?_
          refine g_nm (fun (J8 : Int32 → Option Mem) => ∀ (q7 : Int32), GG x f 5 (Qm x f φM) 109 [] [.int q7, .ref (x.1 k)] M6 (J8 q7)) (fun q7 => ?_) (fun J8 hJ8 => ?_)
          · show GG x f 5 (Qm x f φM) 109 [] [.int q7, .ref (x.1 k)] M6 _
            refine g_put hC cf1 hk 5 (by decide) rfl m_125 rfl rfl rfl dX1_keep_109 (fun M9 => ?_)
            show GG x f 5 (Qm x f φM) 112 [] [] M9 _
            exact g_vret hC hm rfl dX1_keep_112
          refine g_if_ne hC 105 dX1_keep_98 (by decide) ?_ ?_
          · refine g_aload_n hC 0 dX1_keep_105 rfl rfl ?_
            refine g_getI hC cf1 hk 5 (by decide) rfl m_125 dX1_keep_106 ?_
            refine g_lv (lv' := []) [] rfl ?_
            exact hJ8 (M6 k 5)
          · refine g_iload_n hC 2 dX1_keep_101 rfl rfl ?_
            refine g_goto hC 109 dX1_keep_102 (by decide) ?_
            refine g_lv (lv' := []) [] rfl ?_
            exact hJ8 a2
        refine g_if_eq hC 94 dX1_keep_77 (by decide) ?_ ?_
        · refine g_iload_n hC 2 dX1_keep_94 rfl rfl ?_
          refine g_lv (lv' := [(0, .ref (x.1 k)), (1, .int a1), (2, .int a2)]) [0, 1, 2] rfl ?_
          exact hJ5 a2
        · refine g_bipush hC (v := (10 : Int32)) dX1_keep_80 (by decide) ?_
          refine g_aload_n hC 0 dX1_keep_82 rfl rfl ?_
          refine g_getR hC cf1 (t := (k + 3)) hk 1 (by decide) rfl m_121 dX1_keep_83 ?_
          refine g_iload_n hC 3 dX1_keep_86 rfl rfl ?_
          refine g_iald hC (kp_E hk) (lp_E hk) dX1_keep_87 ?_
          refine g_imul hC dX1_keep_88 ?_
          refine g_iload_n hC 2 dX1_keep_89 rfl rfl ?_
          refine g_iadd hC dX1_keep_90 ?_
          refine g_goto hC 95 dX1_keep_91 (by decide) ?_
          refine g_lv (lv' := [(0, .ref (x.1 k)), (1, .int a1), (2, .int a2)]) [0, 1, 2] rfl ?_
          exact hJ5 (((10 : Int32) * (M (k + 3) (ix v1))) + a2)
      refine g_nm (fun (J10 : Option Mem) => GG x f 5 (Qm x f φM) 67 [(0, .ref (x.1 k)), (1, .int a1), (2, .int a2), (3, .int v1)] [] M J10) ?_ (fun J10 hJ10 => ?_)
      · show GG x f 5 (Qm x f φM) 67 [(0, .ref (x.1 k)), (1, .int a1), (2, .int a2), (3, .int v1)] [] M _
        refine g_iconst hC (v := (0 : Int32)) dX1_keep_67 (by decide) ?_
        exact hJ3 (0 : Int32)
      refine g_icmp_ne hC 67 dX1_keep_26 (by decide) ?_ ?_
      · exact hJ10
      · refine g_aload_n hC 0 dX1_keep_29 rfl rfl ?_
        refine g_getI hC cf1 hk 4 (by decide) rfl m_124 dX1_keep_30 ?_
        refine g_if_le hC 67 dX1_keep_33 (by decide) ?_ ?_
        · exact hJ10
        · refine g_aload_n hC 0 dX1_keep_36 rfl rfl ?_
          refine g_getI hC cf1 hk 4 (by decide) rfl m_124 dX1_keep_37 ?_
          refine g_aload_n hC 0 dX1_keep_40 rfl rfl ?_
          refine g_getR hC cf1 (t := (fm k)) hk 0 (by decide) rfl m_120 dX1_keep_41 ?_
          refine g_rolen hC (n := (Int32.ofNat (roL (fm k)))) (kf_E k) rfl dX1_keep_44 ?_
          refine g_icmp_gt hC 67 dX1_keep_45 (by decide) ?_ ?_
          · exact hJ10
          · refine g_aload_n hC 0 dX1_keep_48 rfl rfl ?_
            refine g_getR hC cf1 (t := (fm k)) hk 0 (by decide) rfl m_120 dX1_keep_49 ?_
            refine g_aload_n hC 0 dX1_keep_52 rfl rfl ?_
            refine g_getI hC cf1 hk 4 (by decide) rfl m_124 dX1_keep_53 ?_
            refine g_iconst hC (v := (1 : Int32)) dX1_keep_56 (by decide) ?_
            refine g_isub hC dX1_keep_57 ?_
            refine g_roald hC (kf_E k) rfl dX1_keep_58 ?_
            refine g_iconst hC (v := (2 : Int32)) dX1_keep_59 (by decide) ?_
            refine g_icmp_ne hC 67 dX1_keep_60 (by decide) ?_ ?_
            · exact hJ10
            · refine g_iconst hC (v := (1 : Int32)) dX1_keep_63 (by decide) ?_
              refine g_goto hC 68 dX1_keep_64 (by decide) ?_
              exact hJ3 (1 : Int32)
    · exact g_vret hC hm rfl dX1_keep_23

def sX1_goesOnWith (F : Nat) (k : Nat) (a1 : Int32) (M : Mem) : Option (Bool × Mem) :=
if (M k 4) < (Int32.ofNat (roL (fm k))) then
(if (M k 4) < 0 then
(some (false, M))
else
(if (M k 3) < 0 then
(some (false, M))
else
(if (M k 3) < (10 : Int32) then
(ib (M k 4) (roL (fm k)) (
nm (roI (fm k) (ix (M k 4))) (fun v1 =>
(sX1_valueOf F k v1 a1 M).bind (fun r2 =>
if ¬ r2 = (-1 : Int32) then
((sX1_keep F k v1 r2 M).bind (fun r3 =>
nm (st2 r3 k 4 ((r3 k 4) + (1 : Int32))) (fun M4 =>
if ¬ v1 = (4 : Int32) then
(some (true, M4))
else
(if (2 : Int32) ≤ r2 then
(some (true, M4))
else
((sX1_keep F k (5 : Int32) (-1 : Int32) M4).bind (fun r5 =>
nm (st2 r5 k 4 (Int32.ofNat (roL (fm k)))) (fun M6 =>
some (true, M6))))))))
else
(some (false, M))))))
else
(some (false, M)))))
else
(nm (st2 M k 3 ((M k 3) + (1 : Int32))) (fun M7 =>
nm (st2 M7 k 4 (0 : Int32)) (fun M8 =>
if ¬ a1 = (59 : Int32) then
(some (false, M8))
else
(some (true, M8)))))

theorem mvX1_goesOnWith : MV yX1_goesOnWith cX1_goesOnWith 4 (some .boolean) 1 := ⟨⟨m_303, m_70, by decide, by decide, by decide⟩, m_302, m_0⟩
set_option maxHeartbeats 4000000 in
set_option maxRecDepth 100000 in
theorem ctX1_goesOnWith (x : Wx) (F : Nat) (k : Nat) (a1 : Int32) (hk : kd k = 1) (M : Mem) : Ct x yX1_goesOnWith cX1_goesOnWith 4 (some .boolean) { frames := 5, cells := 0, slots := 0, locals := 113 } φBM [.ref (x.1 k), .int a1] M (sX1_goesOnWith F k a1 M) := by
  refine ct_of (by decide) (Nat.le_of_ble_eq_true rfl) (fun f hC hm => ?_)
  have hC : Cx x f "AnswersFirst$Entries" cX1_goesOnWith 4 { frames := 5, cells := 0, slots := 0, locals := 113 } := hC
  show GG x f 4 (Qm x f φBM) 0 [(0, .ref (x.1 k)), (1, .int a1)] [] M _
  unfold sX1_goesOnWith
  refine g_aload_n hC 0 dX1_goesOnWith_0 rfl rfl ?_
  refine g_getI hC cf1 hk 4 (by decide) rfl m_124 dX1_goesOnWith_1 ?_
  refine g_aload_n hC 0 dX1_goesOnWith_4 rfl rfl ?_
  refine g_getR hC cf1 (t := (fm k)) hk 0 (by decide) rfl m_120 dX1_goesOnWith_5 ?_
  refine g_rolen hC (n := (Int32.ofNat (roL (fm k)))) (kf_E k) rfl dX1_goesOnWith_8 ?_
  refine g_icmp_lt hC 39 dX1_goesOnWith_9 (by decide) ?_ ?_
  · refine g_aload_n hC 0 dX1_goesOnWith_39 rfl rfl ?_
    refine g_getI hC cf1 hk 4 (by decide) rfl m_124 dX1_goesOnWith_40 ?_
    refine g_if_lt hC 62 dX1_goesOnWith_43 (by decide) ?_ ?_
    · refine g_iconst hC (v := (0 : Int32)) dX1_goesOnWith_62 (by decide) ?_
      exact g_zret hC hm rfl rfl dX1_goesOnWith_63
    · refine g_aload_n hC 0 dX1_goesOnWith_46 rfl rfl ?_
      refine g_getI hC cf1 hk 3 (by decide) rfl m_123 dX1_goesOnWith_47 ?_
      refine g_if_lt hC 62 dX1_goesOnWith_50 (by decide) ?_ ?_
      · refine g_iconst hC (v := (0 : Int32)) dX1_goesOnWith_62 (by decide) ?_
        exact g_zret hC hm rfl rfl dX1_goesOnWith_63
      · refine g_aload_n hC 0 dX1_goesOnWith_53 rfl rfl ?_
        refine g_getI hC cf1 hk 3 (by decide) rfl m_123 dX1_goesOnWith_54 ?_
        refine g_bipush hC (v := (10 : Int32)) dX1_goesOnWith_57 (by decide) ?_
        refine g_icmp_lt hC 64 dX1_goesOnWith_59 (by decide) ?_ ?_
        · refine g_aload_n hC 0 dX1_goesOnWith_64 rfl rfl ?_
          refine g_getR hC cf1 (t := (fm k)) hk 0 (by decide) rfl m_120 dX1_goesOnWith_65 ?_
          refine g_aload_n hC 0 dX1_goesOnWith_68 rfl rfl ?_
          refine g_getI hC cf1 hk 4 (by decide) rfl m_124 dX1_goesOnWith_69 ?_
          refine g_roald hC (kf_E k) rfl dX1_goesOnWith_72 ?_
          refine g_top (fun v1 => ?_)
          show GG x f 4 (Qm x f φBM) 73 [(0, .ref (x.1 k)), (1, .int a1)] [.int v1] M _
          refine g_istore_n hC (lv' := [(0, .ref (x.1 k)), (1, .int a1), (2, .int v1)]) [1, 2, 0] dX1_goesOnWith_73 rfl (by decide) rfl ?_
          refine g_aload_n hC 0 dX1_goesOnWith_74 rfl rfl ?_
          refine g_iload_n hC 2 dX1_goesOnWith_75 rfl rfl ?_
          refine g_iload_n hC 1 dX1_goesOnWith_76 rfl rfl ?_
          refine g_callv hC (st := []) (c := 1) rfl (by decide) hk (ctX1_valueOf x F k v1 a1 hk M) mvX1_valueOf m_304 (by decide) rfl rfl (Nat.le_of_ble_eq_true rfl) dX1_goesOnWith_77 (fun r2 => ?_)
          show GG x f 4 (Qm x f φBM) 80 [(0, .ref (x.1 k)), (1, .int a1), (2, .int v1)] [.int r2] M _
          refine g_istore_n hC (lv' := [(0, .ref (x.1 k)), (2, .int v1), (3, .int r2)]) [1, 3, 0] dX1_goesOnWith_80 rfl (by decide) rfl ?_
          refine g_iload_n hC 2 dX1_goesOnWith_81 rfl rfl ?_
          refine g_iconst hC (v := (-1 : Int32)) dX1_goesOnWith_82 (by decide) ?_
          refine g_icmp_ne hC 88 dX1_goesOnWith_83 (by decide) ?_ ?_
          · refine g_aload_n hC 0 dX1_goesOnWith_88 rfl rfl ?_
            refine g_iload_n hC 1 dX1_goesOnWith_89 rfl rfl ?_
            refine g_iload_n hC 2 dX1_goesOnWith_90 rfl rfl ?_
            refine g_callv hC (st := []) (c := 1) rfl (by decide) hk (ctX1_keep x F k v1 r2 hk M) mvX1_keep m_397 (by decide) rfl rfl (Nat.le_of_ble_eq_true rfl) dX1_goesOnWith_91 (fun r3 => ?_)
            show GG x f 4 (Qm x f φBM) 94 [(0, .ref (x.1 k)), (2, .int v1), (3, .int r2)] [] r3 _
            refine g_aload_n hC 0 dX1_goesOnWith_94 rfl rfl ?_
            refine g_dup hC dX1_goesOnWith_95 rfl ?_
            refine g_getI hC cf1 hk 4 (by decide) rfl m_124 dX1_goesOnWith_96 ?_
            refine g_iconst hC (v := (1 : Int32)) dX1_goesOnWith_99 (by decide) ?_
            refine g_iadd hC dX1_goesOnWith_100 ?_
            refine g_put hC cf1 hk 4 (by decide) rfl m_124 rfl rfl rfl dX1_goesOnWith_101 (fun M4 => ?_)
            show GG x f 4 (Qm x f φBM) 104 [(0, .ref (x.1 k)), (2, .int v1), (3, .int r2)] [] M4 _
            refine g_iload_n hC 1 dX1_goesOnWith_104 rfl rfl ?_
            refine g_iconst hC (v := (4 : Int32)) dX1_goesOnWith_105 (by decide) ?_
            refine g_icmp_ne hC 129 dX1_goesOnWith_106 (by decide) ?_ ?_
            · refine g_iconst hC (v := (1 : Int32)) dX1_goesOnWith_129 (by decide) ?_
              exact g_zret hC hm rfl rfl dX1_goesOnWith_130
            · refine g_iload_n hC 2 dX1_goesOnWith_109 rfl rfl ?_
              refine g_iconst hC (v := (2 : Int32)) dX1_goesOnWith_110 (by decide) ?_
              refine g_icmp_ge hC 129 dX1_goesOnWith_111 (by decide) ?_ ?_
              · refine g_iconst hC (v := (1 : Int32)) dX1_goesOnWith_129 (by decide) ?_
                exact g_zret hC hm rfl rfl dX1_goesOnWith_130
              · refine g_aload_n hC 0 dX1_goesOnWith_114 rfl rfl ?_
                refine g_iconst hC (v := (5 : Int32)) dX1_goesOnWith_115 (by decide) ?_
                refine g_iconst hC (v := (-1 : Int32)) dX1_goesOnWith_116 (by decide) ?_
                refine g_callv hC (st := []) (c := 1) rfl (by decide) hk (ctX1_keep x F k (5 : Int32) (-1 : Int32) hk M4) mvX1_keep m_397 (by decide) rfl rfl (Nat.le_of_ble_eq_true rfl) dX1_goesOnWith_117 (fun r5 => ?_)
                show GG x f 4 (Qm x f φBM) 120 [(0, .ref (x.1 k)), (2, .int v1), (3, .int r2)] [] r5 _
                refine g_aload_n hC 0 dX1_goesOnWith_120 rfl rfl ?_
                refine g_aload_n hC 0 dX1_goesOnWith_121 rfl rfl ?_
                refine g_getR hC cf1 (t := (fm k)) hk 0 (by decide) rfl m_120 dX1_goesOnWith_122 ?_
                refine g_rolen hC (n := (Int32.ofNat (roL (fm k)))) (kf_E k) rfl dX1_goesOnWith_125 ?_
                refine g_put hC cf1 hk 4 (by decide) rfl m_124 rfl rfl rfl dX1_goesOnWith_126 (fun M6 => ?_)
                show GG x f 4 (Qm x f φBM) 129 [(0, .ref (x.1 k)), (2, .int v1), (3, .int r2)] [] M6 _
                refine g_iconst hC (v := (1 : Int32)) dX1_goesOnWith_129 (by decide) ?_
                exact g_zret hC hm rfl rfl dX1_goesOnWith_130
          · refine g_iconst hC (v := (0 : Int32)) dX1_goesOnWith_86 (by decide) ?_
            exact g_zret hC hm rfl rfl dX1_goesOnWith_87
        · refine g_iconst hC (v := (0 : Int32)) dX1_goesOnWith_62 (by decide) ?_
          exact g_zret hC hm rfl rfl dX1_goesOnWith_63
  · refine g_aload_n hC 0 dX1_goesOnWith_12 rfl rfl ?_
    refine g_dup hC dX1_goesOnWith_13 rfl ?_
    refine g_getI hC cf1 hk 3 (by decide) rfl m_123 dX1_goesOnWith_14 ?_
    refine g_iconst hC (v := (1 : Int32)) dX1_goesOnWith_17 (by decide) ?_
    refine g_iadd hC dX1_goesOnWith_18 ?_
    refine g_put hC cf1 hk 3 (by decide) rfl m_123 rfl rfl rfl dX1_goesOnWith_19 (fun M7 => ?_)
    show GG x f 4 (Qm x f φBM) 22 [(0, .ref (x.1 k)), (1, .int a1)] [] M7 _
    refine g_aload_n hC 0 dX1_goesOnWith_22 rfl rfl ?_
    refine g_iconst hC (v := (0 : Int32)) dX1_goesOnWith_23 (by decide) ?_
    refine g_put hC cf1 hk 4 (by decide) rfl m_124 rfl rfl rfl dX1_goesOnWith_24 (fun M8 => ?_)
    show GG x f 4 (Qm x f φBM) 27 [(0, .ref (x.1 k)), (1, .int a1)] [] M8 _
    refine g_iload_n hC 1 dX1_goesOnWith_27 rfl rfl ?_
    refine g_bipush hC (v := (59 : Int32)) dX1_goesOnWith_28 (by decide) ?_
    refine g_icmp_ne hC 37 dX1_goesOnWith_30 (by decide) ?_ ?_
    · refine g_iconst hC (v := (0 : Int32)) dX1_goesOnWith_37 (by decide) ?_
      exact g_zret hC hm rfl rfl dX1_goesOnWith_38
    · refine g_iconst hC (v := (1 : Int32)) dX1_goesOnWith_33 (by decide) ?_
      refine g_goto hC 38 dX1_goesOnWith_34 (by decide) ?_
      exact g_zret hC hm rfl rfl dX1_goesOnWith_38

def sX1_take (F : Nat) (k : Nat) (a1 : Int32) (M : Mem) : Option Mem :=
nm (fun (M1 : Mem) =>
nm (st2 M1 k 2 ((M1 k 2) + (1 : Int32))) (fun M3 =>
nm (fun (q4 : Int32) =>
nm (fun (q6 : Int32) =>
nm (st2 M3 k 6 q6) (fun M8 =>
some M8)) (fun J7 =>
if q4 = 0 then
(J7 (0 : Int32))
else
(J7 ((M3 k 3) + (1 : Int32))))) (fun J5 =>
nm (J5 (0 : Int32)) (fun J9 =>
if ¬ (M3 k 7) = (-1 : Int32) then
(J9)
else
(if ¬ (M3 k 4) = (Int32.ofNat (roL (fm k))) then
(J9)
else
(J5 (1 : Int32))))))) (fun J2 =>
if ¬ (M k 7) = (-1 : Int32) then
(J2 M)
else
((sX1_goesOnWith F k a1 M).bind (fun r10 =>
if r10.1 = true then
(J2 r10.2)
else
(nm (st2 r10.2 k 7 (r10.2 k 2)) (fun M11 =>
J2 M11)))))

theorem mvX1_take : MV yX1_take cX1_take 3 none 1 := ⟨⟨m_299, m_70, by decide, by decide, by decide⟩, m_297, m_298⟩
set_option maxHeartbeats 4000000 in
set_option maxRecDepth 100000 in
theorem ctX1_take (x : Wx) (F : Nat) (k : Nat) (a1 : Int32) (hk : kd k = 1) (M : Mem) : Ct x yX1_take cX1_take 3 none { frames := 6, cells := 0, slots := 0, locals := 136 } φM [.ref (x.1 k), .int a1] M (sX1_take F k a1 M) := by
  refine ct_of (by decide) (Nat.le_of_ble_eq_true rfl) (fun f hC hm => ?_)
  have hC : Cx x f "AnswersFirst$Entries" cX1_take 3 { frames := 6, cells := 0, slots := 0, locals := 136 } := hC
  show GG x f 3 (Qm x f φM) 0 [(0, .ref (x.1 k)), (1, .int a1)] [] M _
  unfold sX1_take
  refine g_aload_n hC 0 dX1_take_0 rfl rfl ?_
  refine g_getI hC cf1 hk 7 (by decide) rfl m_127 dX1_take_1 ?_
  refine g_iconst hC (v := (-1 : Int32)) dX1_take_4 (by decide) ?_
  refine g_nm (fun (J2 : Mem → Option Mem) => ∀ (M1 : Mem), GG x f 3 (Qm x f φM) 24 [(0, .ref (x.1 k))] [] M1 (J2 M1)) (fun M1 => ?_) (fun J2 hJ2 => ?_)
  · show GG x f 3 (Qm x f φM) 24 [(0, .ref (x.1 k))] [] M1 _
    refine g_aload_n hC 0 dX1_take_24 rfl rfl ?_
    refine g_dup hC dX1_take_25 rfl ?_
    refine g_getI hC cf1 hk 2 (by decide) rfl m_122 dX1_take_26 ?_
    refine g_iconst hC (v := (1 : Int32)) dX1_take_29 (by decide) ?_
    refine g_iadd hC dX1_take_30 ?_
    refine g_put hC cf1 hk 2 (by decide) rfl m_122 rfl rfl rfl dX1_take_31 (fun M3 => ?_)
    show GG x f 3 (Qm x f φM) 34 [(0, .ref (x.1 k))] [] M3 _
    refine g_aload_n hC 0 dX1_take_34 rfl rfl ?_
    refine g_getI hC cf1 hk 7 (by decide) rfl m_127 dX1_take_35 ?_
    refine g_iconst hC (v := (-1 : Int32)) dX1_take_38 (by decide) ?_
    refine g_nm (fun (J5 : Int32 → Option Mem) => ∀ (q4 : Int32), GG x f 3 (Qm x f φM) 59 [(0, .ref (x.1 k))] [.int q4] M3 (J5 q4)) (fun q4 => ?_) (fun J5 hJ5 => ?_)
    · show GG x f 3 (Qm x f φM) 59 [(0, .ref (x.1 k))] [.int q4] M3 _
      refine g_istore_n hC (lv' := [(0, .ref (x.1 k)), (2, .int q4)]) [1, 0] dX1_take_59 rfl (by decide) rfl ?_
      refine g_aload_n hC 0 dX1_take_60 rfl rfl ?_
      refine g_iload_n hC 1 dX1_take_61 rfl rfl ?_
      refine g_nm (fun (J7 : Int32 → Option Mem) => ∀ (q6 : Int32), GG x f 3 (Qm x f φM) 75 [] [.int q6, .ref (x.1 k)] M3 (J7 q6)) (fun q6 => ?_) (fun J7 hJ7 => ?_)
      · show GG x f 3 (Qm x f φM) 75 [] [.int q6, .ref (x.1 k)] M3 _
        refine g_put hC cf1 hk 6 (by decide) rfl m_126 rfl rfl rfl dX1_take_75 (fun M8 => ?_)
        show GG x f 3 (Qm x f φM) 78 [] [] M8 _
        exact g_vret hC hm rfl dX1_take_78
      refine g_if_eq hC 74 dX1_take_62 (by decide) ?_ ?_
      · refine g_iconst hC (v := (0 : Int32)) dX1_take_74 (by decide) ?_
        refine g_lv (lv' := []) [] rfl ?_
        exact hJ7 (0 : Int32)
      · refine g_aload_n hC 0 dX1_take_65 rfl rfl ?_
        refine g_getI hC cf1 hk 3 (by decide) rfl m_123 dX1_take_66 ?_
        refine g_iconst hC (v := (1 : Int32)) dX1_take_69 (by decide) ?_
        refine g_iadd hC dX1_take_70 ?_
        refine g_goto hC 75 dX1_take_71 (by decide) ?_
        refine g_lv (lv' := []) [] rfl ?_
        exact hJ7 ((M3 k 3) + (1 : Int32))
    refine g_nm (fun (J9 : Option Mem) => GG x f 3 (Qm x f φM) 58 [(0, .ref (x.1 k))] [] M3 J9) ?_ (fun J9 hJ9 => ?_)
    · show GG x f 3 (Qm x f φM) 58 [(0, .ref (x.1 k))] [] M3 _
      refine g_iconst hC (v := (0 : Int32)) dX1_take_58 (by decide) ?_
      exact hJ5 (0 : Int32)
    refine g_icmp_ne hC 58 dX1_take_39 (by decide) ?_ ?_
    · exact hJ9
    · refine g_aload_n hC 0 dX1_take_42 rfl rfl ?_
      refine g_getI hC cf1 hk 4 (by decide) rfl m_124 dX1_take_43 ?_
      refine g_aload_n hC 0 dX1_take_46 rfl rfl ?_
      refine g_getR hC cf1 (t := (fm k)) hk 0 (by decide) rfl m_120 dX1_take_47 ?_
      refine g_rolen hC (n := (Int32.ofNat (roL (fm k)))) (kf_E k) rfl dX1_take_50 ?_
      refine g_icmp_ne hC 58 dX1_take_51 (by decide) ?_ ?_
      · exact hJ9
      · refine g_iconst hC (v := (1 : Int32)) dX1_take_54 (by decide) ?_
        refine g_goto hC 59 dX1_take_55 (by decide) ?_
        exact hJ5 (1 : Int32)
  refine g_icmp_ne hC 24 dX1_take_5 (by decide) ?_ ?_
  · refine g_lv (lv' := [(0, .ref (x.1 k))]) [0] rfl ?_
    exact hJ2 M
  · refine g_aload_n hC 0 dX1_take_8 rfl rfl ?_
    refine g_iload_n hC 1 dX1_take_9 rfl rfl ?_
    refine g_callv hC (st := []) (c := 1) rfl (by decide) hk (ctX1_goesOnWith x F k a1 hk M) mvX1_goesOnWith m_300 (by decide) rfl rfl (Nat.le_of_ble_eq_true rfl) dX1_take_10 (fun r10 => ?_)
    show GG x f 3 (Qm x f φM) 13 [(0, .ref (x.1 k)), (1, .int a1)] [.int (bi r10.1)] r10.2 _
    refine g_ifB_ne hC 24 dX1_take_13 (by decide) ?_ ?_
    · refine g_lv (lv' := [(0, .ref (x.1 k))]) [0] rfl ?_
      exact hJ2 r10.2
    · refine g_aload_n hC 0 dX1_take_16 rfl rfl ?_
      refine g_aload_n hC 0 dX1_take_17 rfl rfl ?_
      refine g_getI hC cf1 hk 2 (by decide) rfl m_122 dX1_take_18 ?_
      refine g_put hC cf1 hk 7 (by decide) rfl m_127 rfl rfl rfl dX1_take_21 (fun M11 => ?_)
      show GG x f 3 (Qm x f φM) 24 [(0, .ref (x.1 k)), (1, .int a1)] [] M11 _
      refine g_lv (lv' := [(0, .ref (x.1 k))]) [0] rfl ?_
      exact hJ2 M11

def sX7_markOld (F : Nat) (M : Mem) : Option Mem :=
nm (st2 M 0 5 (1 : Int32)) (fun M1 =>
nm (st2 M1 0 7 (1 : Int32)) (fun M2 =>
some M2))

theorem mvX7_markOld : MV yX7_markOld cX7_markOld 1 none 0 := ⟨⟨m_404, m_67, by decide, by decide, by decide⟩, m_403, m_3⟩
set_option maxHeartbeats 4000000 in
set_option maxRecDepth 100000 in
theorem ctX7_markOld (x : Wx) (F : Nat) (M : Mem) : Ct x yX7_markOld cX7_markOld 1 none { frames := 0, cells := 0, slots := 0, locals := 0 } φM [.ref (x.1 0)] M (sX7_markOld F M) := by
  refine ct_of (by decide) (Nat.le_of_ble_eq_true rfl) (fun f hC hm => ?_)
  have hC : Cx x f "AnswersFirst" cX7_markOld 1 { frames := 0, cells := 0, slots := 0, locals := 0 } := hC
  show GG x f 1 (Qm x f φM) 0 [(0, .ref (x.1 0))] [] M _
  unfold sX7_markOld
  refine g_aload_n hC 0 dX7_markOld_0 rfl rfl ?_
  refine g_iconst hC (v := (1 : Int32)) dX7_markOld_1 (by decide) ?_
  refine g_put hC cf7 rfl 5 (by decide) rfl m_249 rfl rfl rfl dX7_markOld_2 (fun M1 => ?_)
  show GG x f 1 (Qm x f φM) 5 [(0, .ref (x.1 0))] [] M1 _
  refine g_aload_n hC 0 dX7_markOld_5 rfl rfl ?_
  refine g_iconst hC (v := (1 : Int32)) dX7_markOld_6 (by decide) ?_
  refine g_put hC cf7 rfl 7 (by decide) rfl m_251 rfl rfl rfl dX7_markOld_7 (fun M2 => ?_)
  show GG x f 1 (Qm x f φM) 10 [(0, .ref (x.1 0))] [] M2 _
  exact g_vret hC hm rfl dX7_markOld_10

def sX6_length (F : Nat) (k : Nat) (M : Mem) : Option Int32 :=
some (M k 1)

theorem mvX6_length : MV yX6_length cX6_length 1 (some .int) 0 := ⟨⟨m_408, m_68, by decide, by decide, by decide⟩, m_406, m_407⟩
set_option maxHeartbeats 4000000 in
set_option maxRecDepth 100000 in
theorem ctX6_length (x : Wx) (F : Nat) (k : Nat) (hk : kd k = 6) (M : Mem) : Ct x yX6_length cX6_length 1 (some .int) { frames := 0, cells := 0, slots := 0, locals := 0 } (φI M) [.ref (x.1 k)] M (sX6_length F k M) := by
  refine ct_of (by decide) (Nat.le_of_ble_eq_true rfl) (fun f hC hm => ?_)
  have hC : Cx x f "AnswersFirst$Text" cX6_length 1 { frames := 0, cells := 0, slots := 0, locals := 0 } := hC
  show GG x f 1 (Qm x f (φI M)) 0 [(0, .ref (x.1 k))] [] M _
  unfold sX6_length
  refine g_aload_n hC 0 dX6_length_0 rfl rfl ?_
  refine g_getI hC cf6 hk 1 (by decide) rfl m_104 dX6_length_1 ?_
  exact g_iret hC hm rfl dX6_length_4

def sX7_type (F : Nat) (a1 : Int32) (a2 : Int32) (M : Mem) : Option (Int32 × Mem) :=
(sX7_isOutside F a1 (3 : Int32) M).bind (fun r1 =>
if r1 = true then
(some ((-2 : Int32), M))
else
(if a2 < 0 then
(some ((-2 : Int32), M))
else
(if a2 ≤ (255 : Int32) then
(ib a1 3 (
(sX6_isFull F (1 + 1 + ix a1) M).bind (fun r3 =>
if r3 = true then
(some ((-4 : Int32), M))
else
(ib a1 3 (
(sX6_append F (1 + 1 + ix a1) a2 M).bind (fun r5 =>
ib a1 3 (
(sX1_take F (8 + 1 + ix a1) a2 r5).bind (fun r7 =>
(sX7_markOld F r7).bind (fun r8 =>
ib a1 3 (
(sX6_length F (1 + 1 + ix a1) r8).bind (fun r10 =>
some (r10, r8))))))))))))
else
(some ((-2 : Int32), M)))))

theorem mvX7_type : MV yX7_type cX7_type 3 (some .int) 2 := ⟨⟨m_284, m_67, by decide, by decide, by decide⟩, m_282, m_283⟩
set_option maxHeartbeats 4000000 in
set_option maxRecDepth 100000 in
theorem ctX7_type (x : Wx) (F : Nat) (a1 : Int32) (a2 : Int32) (M : Mem) : Ct x yX7_type cX7_type 3 (some .int) { frames := 7, cells := 0, slots := 0, locals := 158 } φIM [.ref (x.1 0), .int a1, .int a2] M (sX7_type F a1 a2 M) := by
  refine ct_of (by decide) (Nat.le_of_ble_eq_true rfl) (fun f hC hm => ?_)
  have hC : Cx x f "AnswersFirst" cX7_type 3 { frames := 7, cells := 0, slots := 0, locals := 158 } := hC
  show GG x f 3 (Qm x f φIM) 0 [(0, .ref (x.1 0)), (1, .int a1), (2, .int a2)] [] M _
  unfold sX7_type
  refine g_iload_n hC 1 dX7_type_0 rfl rfl ?_
  refine g_iconst hC (v := (3 : Int32)) dX7_type_1 (by decide) ?_
  refine g_calls hC (st := []) (ctX7_isOutside x F a1 (3 : Int32) M) msX7_isOutside m_285 (by decide) rfl rfl (Nat.le_of_ble_eq_true rfl) dX7_type_2 (fun r1 => ?_)
  show GG x f 3 (Qm x f φIM) 5 [(0, .ref (x.1 0)), (1, .int a1), (2, .int a2)] [.int (bi r1)] M _
  refine g_ifB_ne hC 19 dX7_type_5 (by decide) ?_ ?_
  · refine g_bipush hC (v := (-2 : Int32)) dX7_type_19 (by decide) ?_
    exact g_iret hC hm rfl dX7_type_21
  · refine g_iload_n hC 2 dX7_type_8 rfl rfl ?_
    refine g_if_lt hC 19 dX7_type_9 (by decide) ?_ ?_
    · refine g_bipush hC (v := (-2 : Int32)) dX7_type_19 (by decide) ?_
      exact g_iret hC hm rfl dX7_type_21
    · refine g_iload_n hC 2 dX7_type_12 rfl rfl ?_
      refine g_sipush hC (v := (255 : Int32)) dX7_type_13 (by decide) ?_
      refine g_icmp_le hC 22 dX7_type_16 (by decide) ?_ ?_
      · refine g_aload_n hC 0 dX7_type_22 rfl rfl ?_
        refine g_getR hC cf7 (t := 1) rfl 0 (by decide) rfl m_244 dX7_type_23 ?_
        refine g_iload_n hC 1 dX7_type_26 rfl rfl ?_
        refine g_aald hC 14 rfl (by decide) rfl dX7_type_27 (fun hi2 => ?_)
        show GG x f 3 (Qm x f φIM) 28 [(0, .ref (x.1 0)), (1, .int a1), (2, .int a2)] [.ref (x.1 (1 + 1 + ix a1))] M _
        refine g_callv hC (st := []) (c := 6) rfl (by decide) (ka_T hi2) (ctX6_isFull x F (1 + 1 + ix a1) (ka_T hi2) M) mvX6_isFull m_288 (by decide) rfl rfl (Nat.le_of_ble_eq_true rfl) dX7_type_28 (fun r3 => ?_)
        show GG x f 3 (Qm x f φIM) 31 [(0, .ref (x.1 0)), (1, .int a1), (2, .int a2)] [.int (bi r3)] M _
        refine g_ifB_eq hC 37 dX7_type_31 (by decide) ?_ ?_
        · refine g_bipush hC (v := (-4 : Int32)) dX7_type_34 (by decide) ?_
          exact g_iret hC hm rfl dX7_type_36
        · refine g_aload_n hC 0 dX7_type_37 rfl rfl ?_
          refine g_getR hC cf7 (t := 1) rfl 0 (by decide) rfl m_244 dX7_type_38 ?_
          refine g_iload_n hC 1 dX7_type_41 rfl rfl ?_
          refine g_aald hC 14 rfl (by decide) rfl dX7_type_42 (fun hi4 => ?_)
          show GG x f 3 (Qm x f φIM) 43 [(0, .ref (x.1 0)), (1, .int a1), (2, .int a2)] [.ref (x.1 (1 + 1 + ix a1))] M _
          refine g_iload_n hC 2 dX7_type_43 rfl rfl ?_
          refine g_callv hC (st := []) (c := 6) rfl (by decide) (ka_T hi4) (ctX6_append x F (1 + 1 + ix a1) a2 (ka_T hi4) M) mvX6_append m_292 (by decide) rfl rfl (Nat.le_of_ble_eq_true rfl) dX7_type_44 (fun r5 => ?_)
          show GG x f 3 (Qm x f φIM) 47 [(0, .ref (x.1 0)), (1, .int a1), (2, .int a2)] [] r5 _
          refine g_aload_n hC 0 dX7_type_47 rfl rfl ?_
          refine g_getR hC cf7 (t := 8) rfl 1 (by decide) rfl m_245 dX7_type_48 ?_
          refine g_iload_n hC 1 dX7_type_51 rfl rfl ?_
          refine g_aald hC 12 rfl (by decide) rfl dX7_type_52 (fun hi6 => ?_)
          show GG x f 3 (Qm x f φIM) 53 [(0, .ref (x.1 0)), (1, .int a1), (2, .int a2)] [.ref (x.1 (8 + 1 + ix a1))] r5 _
          refine g_iload_n hC 2 dX7_type_53 rfl rfl ?_
          refine g_callv hC (st := []) (c := 1) rfl (by decide) (ka_E hi6) (ctX1_take x F (8 + 1 + ix a1) a2 (ka_E hi6) r5) mvX1_take m_296 (by decide) rfl rfl (Nat.le_of_ble_eq_true rfl) dX7_type_54 (fun r7 => ?_)
          show GG x f 3 (Qm x f φIM) 57 [(0, .ref (x.1 0)), (1, .int a1), (2, .int a2)] [] r7 _
          refine g_aload_n hC 0 dX7_type_57 rfl rfl ?_
          refine g_callv hC (st := []) (c := 7) rfl (by decide) rfl (ctX7_markOld x F r7) mvX7_markOld m_401 (by decide) rfl rfl (Nat.le_of_ble_eq_true rfl) dX7_type_58 (fun r8 => ?_)
          show GG x f 3 (Qm x f φIM) 61 [(0, .ref (x.1 0)), (1, .int a1), (2, .int a2)] [] r8 _
          refine g_aload_n hC 0 dX7_type_61 rfl rfl ?_
          refine g_getR hC cf7 (t := 1) rfl 0 (by decide) rfl m_244 dX7_type_62 ?_
          refine g_iload_n hC 1 dX7_type_65 rfl rfl ?_
          refine g_aald hC 14 rfl (by decide) rfl dX7_type_66 (fun hi9 => ?_)
          show GG x f 3 (Qm x f φIM) 67 [(0, .ref (x.1 0)), (1, .int a1), (2, .int a2)] [.ref (x.1 (1 + 1 + ix a1))] r8 _
          refine g_callv hC (st := []) (c := 6) rfl (by decide) (ka_T hi9) (ctX6_length x F (1 + 1 + ix a1) (ka_T hi9) r8) mvX6_length m_405 (by decide) rfl rfl (Nat.le_of_ble_eq_true rfl) dX7_type_67 (fun r10 => ?_)
          show GG x f 3 (Qm x f φIM) 70 [(0, .ref (x.1 0)), (1, .int a1), (2, .int a2)] [.int r10] r8 _
          exact g_iret hC hm rfl dX7_type_70
      · refine g_bipush hC (v := (-2 : Int32)) dX7_type_19 (by decide) ?_
        exact g_iret hC hm rfl dX7_type_21

