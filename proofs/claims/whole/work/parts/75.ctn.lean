theorem wd_10 : (Jvm.Cond.classLink "LabelledFlowsLaw" (7 : Nat) "LabelledFlows") ∈ lw_w := List.mem_filter.mpr ⟨List.mem_append_right _ (List.mem_of_getElem? (i := 10) (by decide +kernel)), rfl⟩
theorem wd_11 : (Jvm.Cond.instantiable "LabelledFlows" (5 : Nat)) ∈ lw_w := List.mem_filter.mpr ⟨List.mem_append_right _ (List.mem_of_getElem? (i := 11) (by decide +kernel)), rfl⟩
theorem wd_12 : (Jvm.Cond.methodLink "LabelledFlowsLaw" (9 : Nat) ({ cls := "LabelledFlows", name := "<init>", desc := "()V" } : Jvm.MethodName)) ∈ lw_w := List.mem_filter.mpr ⟨List.mem_append_right _ (List.mem_of_getElem? (i := 12) (by decide +kernel)), rfl⟩
theorem wd_13 : (Jvm.Cond.instanceMethod ({ cls := "LabelledFlows", name := "<init>", desc := "()V" } : Jvm.MethodName)) ∈ lw_w := List.mem_filter.mpr ⟨List.mem_append_right _ (List.mem_of_getElem? (i := 13) (by decide +kernel)), rfl⟩
theorem wd_14 : (Jvm.Cond.code ({ cls := "LabelledFlows", name := "<init>", desc := "()V" } : Jvm.MethodName) prog_1_method_1_code (1 : Nat) (Option.none : Option Jvm.ClassFile.FieldType)) ∈ lw_w := List.mem_filter.mpr ⟨List.mem_append_right _ (List.mem_of_getElem? (i := 14) (by decide +kernel)), rfl⟩
theorem wd_15 : (Jvm.Cond.methodLink "LabelledFlows" (3 : Nat) ({ cls := "java/lang/Object", name := "<init>", desc := "()V" } : Jvm.MethodName)) ∈ lw_w := List.mem_filter.mpr ⟨List.mem_append_right _ (List.mem_of_getElem? (i := 15) (by decide +kernel)), rfl⟩
theorem wd_16 : (Jvm.Cond.instanceMethod ({ cls := "java/lang/Object", name := "<init>", desc := "()V" } : Jvm.MethodName)) ∈ lw_w := List.mem_filter.mpr ⟨List.mem_append_right _ (List.mem_of_getElem? (i := 16) (by decide +kernel)), rfl⟩
theorem wd_17 : (Jvm.Cond.code ({ cls := "java/lang/Object", name := "<init>", desc := "()V" } : Jvm.MethodName) object_method_1_code (1 : Nat) (Option.none : Option Jvm.ClassFile.FieldType)) ∈ lw_w := List.mem_filter.mpr ⟨List.mem_append_right _ (List.mem_of_getElem? (i := 17) (by decide +kernel)), rfl⟩
theorem wd_18 : (Jvm.Cond.classLink "LabelledFlows" (9 : Nat) "LabelledFlows$Program") ∈ lw_w := List.mem_filter.mpr ⟨List.mem_append_right _ (List.mem_of_getElem? (i := 18) (by decide +kernel)), rfl⟩
theorem wd_19 : (Jvm.Cond.instantiable "LabelledFlows$Program" (12 : Nat)) ∈ lw_w := List.mem_filter.mpr ⟨List.mem_append_right _ (List.mem_of_getElem? (i := 19) (by decide +kernel)), rfl⟩
theorem wd_20 : (Jvm.Cond.methodLink "LabelledFlows" (11 : Nat) ({ cls := "LabelledFlows$Program", name := "<init>", desc := "()V" } : Jvm.MethodName)) ∈ lw_w := List.mem_filter.mpr ⟨List.mem_append_right _ (List.mem_of_getElem? (i := 20) (by decide +kernel)), rfl⟩
theorem wd_21 : (Jvm.Cond.instanceMethod ({ cls := "LabelledFlows$Program", name := "<init>", desc := "()V" } : Jvm.MethodName)) ∈ lw_w := List.mem_filter.mpr ⟨List.mem_append_right _ (List.mem_of_getElem? (i := 21) (by decide +kernel)), rfl⟩
theorem wd_22 : (Jvm.Cond.code ({ cls := "LabelledFlows$Program", name := "<init>", desc := "()V" } : Jvm.MethodName) prog_5_method_1_code (1 : Nat) (Option.none : Option Jvm.ClassFile.FieldType)) ∈ lw_w := List.mem_filter.mpr ⟨List.mem_append_right _ (List.mem_of_getElem? (i := 22) (by decide +kernel)), rfl⟩
theorem wd_23 : (Jvm.Cond.methodLink "LabelledFlows$Program" (3 : Nat) ({ cls := "java/lang/Object", name := "<init>", desc := "()V" } : Jvm.MethodName)) ∈ lw_w := List.mem_filter.mpr ⟨List.mem_append_right _ (List.mem_of_getElem? (i := 23) (by decide +kernel)), rfl⟩
theorem wd_89 : (Jvm.Cond.arrayClass Jvm.ClassFile.FieldType.int) ∈ lw_w := List.mem_filter.mpr ⟨List.mem_append_right _ (List.mem_of_getElem? (i := 89) (by decide +kernel)), rfl⟩
theorem wd_90 : (Jvm.Cond.classLink "LabelledFlows" (16 : Nat) "LabelledFlows$Pointing") ∈ lw_w := List.mem_filter.mpr ⟨List.mem_append_right _ (List.mem_of_getElem? (i := 90) (by decide +kernel)), rfl⟩
theorem wd_91 : (Jvm.Cond.instantiable "LabelledFlows$Pointing" (6 : Nat)) ∈ lw_w := List.mem_filter.mpr ⟨List.mem_append_right _ (List.mem_of_getElem? (i := 91) (by decide +kernel)), rfl⟩
theorem wd_92 : (Jvm.Cond.methodLink "LabelledFlows" (18 : Nat) ({ cls := "LabelledFlows$Pointing", name := "<init>", desc := "(LLabelledFlows$Program;)V" } : Jvm.MethodName)) ∈ lw_w := List.mem_filter.mpr ⟨List.mem_append_right _ (List.mem_of_getElem? (i := 92) (by decide +kernel)), rfl⟩
theorem wd_93 : (Jvm.Cond.instanceMethod ({ cls := "LabelledFlows$Pointing", name := "<init>", desc := "(LLabelledFlows$Program;)V" } : Jvm.MethodName)) ∈ lw_w := List.mem_filter.mpr ⟨List.mem_append_right _ (List.mem_of_getElem? (i := 93) (by decide +kernel)), rfl⟩
theorem wd_94 : (Jvm.Cond.code ({ cls := "LabelledFlows$Pointing", name := "<init>", desc := "(LLabelledFlows$Program;)V" } : Jvm.MethodName) prog_4_method_1_code (2 : Nat) (Option.none : Option Jvm.ClassFile.FieldType)) ∈ lw_w := List.mem_filter.mpr ⟨List.mem_append_right _ (List.mem_of_getElem? (i := 94) (by decide +kernel)), rfl⟩
theorem wd_95 : (Jvm.Cond.methodLink "LabelledFlows$Pointing" (3 : Nat) ({ cls := "java/lang/Object", name := "<init>", desc := "()V" } : Jvm.MethodName)) ∈ lw_w := List.mem_filter.mpr ⟨List.mem_append_right _ (List.mem_of_getElem? (i := 95) (by decide +kernel)), rfl⟩
theorem wd_119 : (Jvm.Cond.classLink "LabelledFlows" (25 : Nat) "LabelledFlows$Flow") ∈ lw_w := List.mem_filter.mpr ⟨List.mem_append_right _ (List.mem_of_getElem? (i := 119) (by decide +kernel)), rfl⟩
theorem wd_120 : (Jvm.Cond.instantiable "LabelledFlows$Flow" (7 : Nat)) ∈ lw_w := List.mem_filter.mpr ⟨List.mem_append_right _ (List.mem_of_getElem? (i := 120) (by decide +kernel)), rfl⟩
theorem wd_121 : (Jvm.Cond.methodLink "LabelledFlows" (27 : Nat) ({ cls := "LabelledFlows$Flow", name := "<init>", desc := "(LLabelledFlows$Program;LLabelledFlows$Pointing;)V" } : Jvm.MethodName)) ∈ lw_w := List.mem_filter.mpr ⟨List.mem_append_right _ (List.mem_of_getElem? (i := 121) (by decide +kernel)), rfl⟩
theorem wd_122 : (Jvm.Cond.instanceMethod ({ cls := "LabelledFlows$Flow", name := "<init>", desc := "(LLabelledFlows$Program;LLabelledFlows$Pointing;)V" } : Jvm.MethodName)) ∈ lw_w := List.mem_filter.mpr ⟨List.mem_append_right _ (List.mem_of_getElem? (i := 122) (by decide +kernel)), rfl⟩
theorem wd_123 : (Jvm.Cond.code ({ cls := "LabelledFlows$Flow", name := "<init>", desc := "(LLabelledFlows$Program;LLabelledFlows$Pointing;)V" } : Jvm.MethodName) prog_2_method_1_code (3 : Nat) (Option.none : Option Jvm.ClassFile.FieldType)) ∈ lw_w := List.mem_filter.mpr ⟨List.mem_append_right _ (List.mem_of_getElem? (i := 123) (by decide +kernel)), rfl⟩
theorem wd_124 : (Jvm.Cond.methodLink "LabelledFlows$Flow" (5 : Nat) ({ cls := "java/lang/Object", name := "<init>", desc := "()V" } : Jvm.MethodName)) ∈ lw_w := List.mem_filter.mpr ⟨List.mem_append_right _ (List.mem_of_getElem? (i := 124) (by decide +kernel)), rfl⟩
theorem wd_147 : (Jvm.Cond.classLink "LabelledFlows" (34 : Nat) "LabelledFlows$Machine") ∈ lw_w := List.mem_filter.mpr ⟨List.mem_append_right _ (List.mem_of_getElem? (i := 147) (by decide +kernel)), rfl⟩
theorem wd_148 : (Jvm.Cond.instantiable "LabelledFlows$Machine" (13 : Nat)) ∈ lw_w := List.mem_filter.mpr ⟨List.mem_append_right _ (List.mem_of_getElem? (i := 148) (by decide +kernel)), rfl⟩
theorem wd_149 : (Jvm.Cond.methodLink "LabelledFlows" (36 : Nat) ({ cls := "LabelledFlows$Machine", name := "<init>", desc := "(LLabelledFlows$Program;)V" } : Jvm.MethodName)) ∈ lw_w := List.mem_filter.mpr ⟨List.mem_append_right _ (List.mem_of_getElem? (i := 149) (by decide +kernel)), rfl⟩
theorem wd_150 : (Jvm.Cond.instanceMethod ({ cls := "LabelledFlows$Machine", name := "<init>", desc := "(LLabelledFlows$Program;)V" } : Jvm.MethodName)) ∈ lw_w := List.mem_filter.mpr ⟨List.mem_append_right _ (List.mem_of_getElem? (i := 150) (by decide +kernel)), rfl⟩
theorem wd_151 : (Jvm.Cond.code ({ cls := "LabelledFlows$Machine", name := "<init>", desc := "(LLabelledFlows$Program;)V" } : Jvm.MethodName) prog_3_method_1_code (2 : Nat) (Option.none : Option Jvm.ClassFile.FieldType)) ∈ lw_w := List.mem_filter.mpr ⟨List.mem_append_right _ (List.mem_of_getElem? (i := 151) (by decide +kernel)), rfl⟩
theorem wd_152 : (Jvm.Cond.methodLink "LabelledFlows$Machine" (3 : Nat) ({ cls := "java/lang/Object", name := "<init>", desc := "()V" } : Jvm.MethodName)) ∈ lw_w := List.mem_filter.mpr ⟨List.mem_append_right _ (List.mem_of_getElem? (i := 152) (by decide +kernel)), rfl⟩
theorem wd_212 : (Jvm.Cond.methodLink "LabelledFlowsLaw" (13 : Nat) ({ cls := "LabelledFlows", name := "add", desc := "(IIIII)I" } : Jvm.MethodName)) ∈ lw_w := List.mem_filter.mpr ⟨List.mem_append_right _ (List.mem_of_getElem? (i := 212) (by decide +kernel)), rfl⟩
theorem wd_213 : (Jvm.Cond.instanceMethod ({ cls := "LabelledFlows", name := "add", desc := "(IIIII)I" } : Jvm.MethodName)) ∈ lw_w := List.mem_filter.mpr ⟨List.mem_append_right _ (List.mem_of_getElem? (i := 213) (by decide +kernel)), rfl⟩
theorem wd_214 : (Jvm.Cond.selects "LabelledFlows" ({ cls := "LabelledFlows", name := "add", desc := "(IIIII)I" } : Jvm.MethodName) ({ cls := "LabelledFlows", name := "add", desc := "(IIIII)I" } : Jvm.MethodName)) ∈ lw_w := List.mem_filter.mpr ⟨List.mem_append_right _ (List.mem_of_getElem? (i := 214) (by decide +kernel)), rfl⟩
theorem wd_215 : (Jvm.Cond.code ({ cls := "LabelledFlows", name := "add", desc := "(IIIII)I" } : Jvm.MethodName) prog_1_method_2_code (7 : Nat) (Option.some Jvm.ClassFile.FieldType.int)) ∈ lw_w := List.mem_filter.mpr ⟨List.mem_append_right _ (List.mem_of_getElem? (i := 215) (by decide +kernel)), rfl⟩
theorem wd_241 : (Jvm.Cond.methodLink "LabelledFlowsLaw" (18 : Nat) ({ cls := "LabelledFlows", name := "drop", desc := "(I)Z" } : Jvm.MethodName)) ∈ lw_w := List.mem_filter.mpr ⟨List.mem_append_right _ (List.mem_of_getElem? (i := 241) (by decide +kernel)), rfl⟩
theorem wd_242 : (Jvm.Cond.instanceMethod ({ cls := "LabelledFlows", name := "drop", desc := "(I)Z" } : Jvm.MethodName)) ∈ lw_w := List.mem_filter.mpr ⟨List.mem_append_right _ (List.mem_of_getElem? (i := 242) (by decide +kernel)), rfl⟩
theorem wd_243 : (Jvm.Cond.selects "LabelledFlows" ({ cls := "LabelledFlows", name := "drop", desc := "(I)Z" } : Jvm.MethodName) ({ cls := "LabelledFlows", name := "drop", desc := "(I)Z" } : Jvm.MethodName)) ∈ lw_w := List.mem_filter.mpr ⟨List.mem_append_right _ (List.mem_of_getElem? (i := 243) (by decide +kernel)), rfl⟩
theorem wd_244 : (Jvm.Cond.code ({ cls := "LabelledFlows", name := "drop", desc := "(I)Z" } : Jvm.MethodName) prog_1_method_3_code (2 : Nat) (Option.some Jvm.ClassFile.FieldType.boolean)) ∈ lw_w := List.mem_filter.mpr ⟨List.mem_append_right _ (List.mem_of_getElem? (i := 244) (by decide +kernel)), rfl⟩
theorem wd_249 : (Jvm.Cond.methodLink "LabelledFlowsLaw" (23 : Nat) ({ cls := "LabelledFlows", name := "derive", desc := "(II)Z" } : Jvm.MethodName)) ∈ lw_w := List.mem_filter.mpr ⟨List.mem_append_right _ (List.mem_of_getElem? (i := 249) (by decide +kernel)), rfl⟩
theorem wd_250 : (Jvm.Cond.instanceMethod ({ cls := "LabelledFlows", name := "derive", desc := "(II)Z" } : Jvm.MethodName)) ∈ lw_w := List.mem_filter.mpr ⟨List.mem_append_right _ (List.mem_of_getElem? (i := 250) (by decide +kernel)), rfl⟩
theorem wd_251 : (Jvm.Cond.selects "LabelledFlows" ({ cls := "LabelledFlows", name := "derive", desc := "(II)Z" } : Jvm.MethodName) ({ cls := "LabelledFlows", name := "derive", desc := "(II)Z" } : Jvm.MethodName)) ∈ lw_w := List.mem_filter.mpr ⟨List.mem_append_right _ (List.mem_of_getElem? (i := 251) (by decide +kernel)), rfl⟩
theorem wd_252 : (Jvm.Cond.code ({ cls := "LabelledFlows", name := "derive", desc := "(II)Z" } : Jvm.MethodName) prog_1_method_4_code (3 : Nat) (Option.some Jvm.ClassFile.FieldType.boolean)) ∈ lw_w := List.mem_filter.mpr ⟨List.mem_append_right _ (List.mem_of_getElem? (i := 252) (by decide +kernel)), rfl⟩
theorem wd_253 : (Jvm.Cond.methodLink "LabelledFlowsLaw" (28 : Nat) ({ cls := "LabelledFlows", name := "bind", desc := "(III)Z" } : Jvm.MethodName)) ∈ lw_w := List.mem_filter.mpr ⟨List.mem_append_right _ (List.mem_of_getElem? (i := 253) (by decide +kernel)), rfl⟩
theorem wd_254 : (Jvm.Cond.instanceMethod ({ cls := "LabelledFlows", name := "bind", desc := "(III)Z" } : Jvm.MethodName)) ∈ lw_w := List.mem_filter.mpr ⟨List.mem_append_right _ (List.mem_of_getElem? (i := 254) (by decide +kernel)), rfl⟩
theorem wd_255 : (Jvm.Cond.selects "LabelledFlows" ({ cls := "LabelledFlows", name := "bind", desc := "(III)Z" } : Jvm.MethodName) ({ cls := "LabelledFlows", name := "bind", desc := "(III)Z" } : Jvm.MethodName)) ∈ lw_w := List.mem_filter.mpr ⟨List.mem_append_right _ (List.mem_of_getElem? (i := 255) (by decide +kernel)), rfl⟩
theorem wd_256 : (Jvm.Cond.code ({ cls := "LabelledFlows", name := "bind", desc := "(III)Z" } : Jvm.MethodName) prog_1_method_5_code (4 : Nat) (Option.some Jvm.ClassFile.FieldType.boolean)) ∈ lw_w := List.mem_filter.mpr ⟨List.mem_append_right _ (List.mem_of_getElem? (i := 256) (by decide +kernel)), rfl⟩
theorem wd_257 : (Jvm.Cond.methodLink "LabelledFlowsLaw" (33 : Nat) ({ cls := "LabelledFlows", name := "target", desc := "(II)I" } : Jvm.MethodName)) ∈ lw_w := List.mem_filter.mpr ⟨List.mem_append_right _ (List.mem_of_getElem? (i := 257) (by decide +kernel)), rfl⟩
theorem wd_258 : (Jvm.Cond.instanceMethod ({ cls := "LabelledFlows", name := "target", desc := "(II)I" } : Jvm.MethodName)) ∈ lw_w := List.mem_filter.mpr ⟨List.mem_append_right _ (List.mem_of_getElem? (i := 258) (by decide +kernel)), rfl⟩
theorem wd_259 : (Jvm.Cond.selects "LabelledFlows" ({ cls := "LabelledFlows", name := "target", desc := "(II)I" } : Jvm.MethodName) ({ cls := "LabelledFlows", name := "target", desc := "(II)I" } : Jvm.MethodName)) ∈ lw_w := List.mem_filter.mpr ⟨List.mem_append_right _ (List.mem_of_getElem? (i := 259) (by decide +kernel)), rfl⟩
theorem wd_260 : (Jvm.Cond.code ({ cls := "LabelledFlows", name := "target", desc := "(II)I" } : Jvm.MethodName) prog_1_method_6_code (3 : Nat) (Option.some Jvm.ClassFile.FieldType.int)) ∈ lw_w := List.mem_filter.mpr ⟨List.mem_append_right _ (List.mem_of_getElem? (i := 260) (by decide +kernel)), rfl⟩
theorem wd_265 : (Jvm.Cond.methodLink "LabelledFlowsLaw" (38 : Nat) ({ cls := "LabelledFlows", name := "size", desc := "(I)I" } : Jvm.MethodName)) ∈ lw_w := List.mem_filter.mpr ⟨List.mem_append_right _ (List.mem_of_getElem? (i := 265) (by decide +kernel)), rfl⟩
theorem wd_266 : (Jvm.Cond.instanceMethod ({ cls := "LabelledFlows", name := "size", desc := "(I)I" } : Jvm.MethodName)) ∈ lw_w := List.mem_filter.mpr ⟨List.mem_append_right _ (List.mem_of_getElem? (i := 266) (by decide +kernel)), rfl⟩
theorem wd_267 : (Jvm.Cond.selects "LabelledFlows" ({ cls := "LabelledFlows", name := "size", desc := "(I)I" } : Jvm.MethodName) ({ cls := "LabelledFlows", name := "size", desc := "(I)I" } : Jvm.MethodName)) ∈ lw_w := List.mem_filter.mpr ⟨List.mem_append_right _ (List.mem_of_getElem? (i := 267) (by decide +kernel)), rfl⟩
theorem wd_268 : (Jvm.Cond.code ({ cls := "LabelledFlows", name := "size", desc := "(I)I" } : Jvm.MethodName) prog_1_method_7_code (2 : Nat) (Option.some Jvm.ClassFile.FieldType.int)) ∈ lw_w := List.mem_filter.mpr ⟨List.mem_append_right _ (List.mem_of_getElem? (i := 268) (by decide +kernel)), rfl⟩
theorem wd_269 : (Jvm.Cond.methodLink "LabelledFlowsLaw" (43 : Nat) ({ cls := "LabelledFlows", name := "analyse", desc := "(I)I" } : Jvm.MethodName)) ∈ lw_w := List.mem_filter.mpr ⟨List.mem_append_right _ (List.mem_of_getElem? (i := 269) (by decide +kernel)), rfl⟩
theorem wd_270 : (Jvm.Cond.instanceMethod ({ cls := "LabelledFlows", name := "analyse", desc := "(I)I" } : Jvm.MethodName)) ∈ lw_w := List.mem_filter.mpr ⟨List.mem_append_right _ (List.mem_of_getElem? (i := 270) (by decide +kernel)), rfl⟩
theorem wd_271 : (Jvm.Cond.selects "LabelledFlows" ({ cls := "LabelledFlows", name := "analyse", desc := "(I)I" } : Jvm.MethodName) ({ cls := "LabelledFlows", name := "analyse", desc := "(I)I" } : Jvm.MethodName)) ∈ lw_w := List.mem_filter.mpr ⟨List.mem_append_right _ (List.mem_of_getElem? (i := 271) (by decide +kernel)), rfl⟩
theorem wd_272 : (Jvm.Cond.code ({ cls := "LabelledFlows", name := "analyse", desc := "(I)I" } : Jvm.MethodName) prog_1_method_8_code (3 : Nat) (Option.some Jvm.ClassFile.FieldType.int)) ∈ lw_w := List.mem_filter.mpr ⟨List.mem_append_right _ (List.mem_of_getElem? (i := 272) (by decide +kernel)), rfl⟩
theorem wd_403 : (Jvm.Cond.methodLink "LabelledFlowsLaw" (47 : Nat) ({ cls := "LabelledFlows", name := "verdict", desc := "()I" } : Jvm.MethodName)) ∈ lw_w := List.mem_filter.mpr ⟨List.mem_append_right _ (List.mem_of_getElem? (i := 403) (by decide +kernel)), rfl⟩
theorem wd_404 : (Jvm.Cond.instanceMethod ({ cls := "LabelledFlows", name := "verdict", desc := "()I" } : Jvm.MethodName)) ∈ lw_w := List.mem_filter.mpr ⟨List.mem_append_right _ (List.mem_of_getElem? (i := 404) (by decide +kernel)), rfl⟩
theorem wd_405 : (Jvm.Cond.selects "LabelledFlows" ({ cls := "LabelledFlows", name := "verdict", desc := "()I" } : Jvm.MethodName) ({ cls := "LabelledFlows", name := "verdict", desc := "()I" } : Jvm.MethodName)) ∈ lw_w := List.mem_filter.mpr ⟨List.mem_append_right _ (List.mem_of_getElem? (i := 405) (by decide +kernel)), rfl⟩
theorem wd_406 : (Jvm.Cond.code ({ cls := "LabelledFlows", name := "verdict", desc := "()I" } : Jvm.MethodName) prog_1_method_9_code (1 : Nat) (Option.some Jvm.ClassFile.FieldType.int)) ∈ lw_w := List.mem_filter.mpr ⟨List.mem_append_right _ (List.mem_of_getElem? (i := 406) (by decide +kernel)), rfl⟩
theorem wd_407 : (Jvm.Cond.methodLink "LabelledFlowsLaw" (52 : Nat) ({ cls := "LabelledFlows", name := "finding", desc := "(II)Z" } : Jvm.MethodName)) ∈ lw_w := List.mem_filter.mpr ⟨List.mem_append_right _ (List.mem_of_getElem? (i := 407) (by decide +kernel)), rfl⟩
theorem wd_408 : (Jvm.Cond.instanceMethod ({ cls := "LabelledFlows", name := "finding", desc := "(II)Z" } : Jvm.MethodName)) ∈ lw_w := List.mem_filter.mpr ⟨List.mem_append_right _ (List.mem_of_getElem? (i := 408) (by decide +kernel)), rfl⟩
theorem wd_409 : (Jvm.Cond.selects "LabelledFlows" ({ cls := "LabelledFlows", name := "finding", desc := "(II)Z" } : Jvm.MethodName) ({ cls := "LabelledFlows", name := "finding", desc := "(II)Z" } : Jvm.MethodName)) ∈ lw_w := List.mem_filter.mpr ⟨List.mem_append_right _ (List.mem_of_getElem? (i := 409) (by decide +kernel)), rfl⟩
theorem wd_410 : (Jvm.Cond.code ({ cls := "LabelledFlows", name := "finding", desc := "(II)Z" } : Jvm.MethodName) prog_1_method_10_code (4 : Nat) (Option.some Jvm.ClassFile.FieldType.boolean)) ∈ lw_w := List.mem_filter.mpr ⟨List.mem_append_right _ (List.mem_of_getElem? (i := 410) (by decide +kernel)), rfl⟩
theorem wd_423 : (Jvm.Cond.methodLink "LabelledFlowsLaw" (56 : Nat) ({ cls := "LabelledFlows", name := "may", desc := "(IIII)Z" } : Jvm.MethodName)) ∈ lw_w := List.mem_filter.mpr ⟨List.mem_append_right _ (List.mem_of_getElem? (i := 423) (by decide +kernel)), rfl⟩
theorem wd_424 : (Jvm.Cond.instanceMethod ({ cls := "LabelledFlows", name := "may", desc := "(IIII)Z" } : Jvm.MethodName)) ∈ lw_w := List.mem_filter.mpr ⟨List.mem_append_right _ (List.mem_of_getElem? (i := 424) (by decide +kernel)), rfl⟩
theorem wd_425 : (Jvm.Cond.selects "LabelledFlows" ({ cls := "LabelledFlows", name := "may", desc := "(IIII)Z" } : Jvm.MethodName) ({ cls := "LabelledFlows", name := "may", desc := "(IIII)Z" } : Jvm.MethodName)) ∈ lw_w := List.mem_filter.mpr ⟨List.mem_append_right _ (List.mem_of_getElem? (i := 425) (by decide +kernel)), rfl⟩
theorem wd_426 : (Jvm.Cond.code ({ cls := "LabelledFlows", name := "may", desc := "(IIII)Z" } : Jvm.MethodName) prog_1_method_11_code (5 : Nat) (Option.some Jvm.ClassFile.FieldType.boolean)) ∈ lw_w := List.mem_filter.mpr ⟨List.mem_append_right _ (List.mem_of_getElem? (i := 426) (by decide +kernel)), rfl⟩
theorem wd_427 : (Jvm.Cond.methodLink "LabelledFlowsLaw" (61 : Nat) ({ cls := "LabelledFlows", name := "entries", desc := "(I)I" } : Jvm.MethodName)) ∈ lw_w := List.mem_filter.mpr ⟨List.mem_append_right _ (List.mem_of_getElem? (i := 427) (by decide +kernel)), rfl⟩
theorem wd_428 : (Jvm.Cond.instanceMethod ({ cls := "LabelledFlows", name := "entries", desc := "(I)I" } : Jvm.MethodName)) ∈ lw_w := List.mem_filter.mpr ⟨List.mem_append_right _ (List.mem_of_getElem? (i := 428) (by decide +kernel)), rfl⟩
theorem wd_429 : (Jvm.Cond.selects "LabelledFlows" ({ cls := "LabelledFlows", name := "entries", desc := "(I)I" } : Jvm.MethodName) ({ cls := "LabelledFlows", name := "entries", desc := "(I)I" } : Jvm.MethodName)) ∈ lw_w := List.mem_filter.mpr ⟨List.mem_append_right _ (List.mem_of_getElem? (i := 429) (by decide +kernel)), rfl⟩
theorem wd_430 : (Jvm.Cond.code ({ cls := "LabelledFlows", name := "entries", desc := "(I)I" } : Jvm.MethodName) prog_1_method_12_code (2 : Nat) (Option.some Jvm.ClassFile.FieldType.int)) ∈ lw_w := List.mem_filter.mpr ⟨List.mem_append_right _ (List.mem_of_getElem? (i := 430) (by decide +kernel)), rfl⟩
theorem wd_435 : (Jvm.Cond.methodLink "LabelledFlowsLaw" (65 : Nat) ({ cls := "LabelledFlows", name := "points", desc := "(II)I" } : Jvm.MethodName)) ∈ lw_w := List.mem_filter.mpr ⟨List.mem_append_right _ (List.mem_of_getElem? (i := 435) (by decide +kernel)), rfl⟩
theorem wd_436 : (Jvm.Cond.instanceMethod ({ cls := "LabelledFlows", name := "points", desc := "(II)I" } : Jvm.MethodName)) ∈ lw_w := List.mem_filter.mpr ⟨List.mem_append_right _ (List.mem_of_getElem? (i := 436) (by decide +kernel)), rfl⟩
theorem wd_437 : (Jvm.Cond.selects "LabelledFlows" ({ cls := "LabelledFlows", name := "points", desc := "(II)I" } : Jvm.MethodName) ({ cls := "LabelledFlows", name := "points", desc := "(II)I" } : Jvm.MethodName)) ∈ lw_w := List.mem_filter.mpr ⟨List.mem_append_right _ (List.mem_of_getElem? (i := 437) (by decide +kernel)), rfl⟩
theorem wd_438 : (Jvm.Cond.code ({ cls := "LabelledFlows", name := "points", desc := "(II)I" } : Jvm.MethodName) prog_1_method_13_code (3 : Nat) (Option.some Jvm.ClassFile.FieldType.int)) ∈ lw_w := List.mem_filter.mpr ⟨List.mem_append_right _ (List.mem_of_getElem? (i := 438) (by decide +kernel)), rfl⟩
theorem wd_439 : (Jvm.Cond.methodLink "LabelledFlowsLaw" (69 : Nat) ({ cls := "LabelledFlows", name := "cell", desc := "(II)I" } : Jvm.MethodName)) ∈ lw_w := List.mem_filter.mpr ⟨List.mem_append_right _ (List.mem_of_getElem? (i := 439) (by decide +kernel)), rfl⟩
theorem wd_440 : (Jvm.Cond.instanceMethod ({ cls := "LabelledFlows", name := "cell", desc := "(II)I" } : Jvm.MethodName)) ∈ lw_w := List.mem_filter.mpr ⟨List.mem_append_right _ (List.mem_of_getElem? (i := 440) (by decide +kernel)), rfl⟩
theorem wd_441 : (Jvm.Cond.selects "LabelledFlows" ({ cls := "LabelledFlows", name := "cell", desc := "(II)I" } : Jvm.MethodName) ({ cls := "LabelledFlows", name := "cell", desc := "(II)I" } : Jvm.MethodName)) ∈ lw_w := List.mem_filter.mpr ⟨List.mem_append_right _ (List.mem_of_getElem? (i := 441) (by decide +kernel)), rfl⟩
theorem wd_442 : (Jvm.Cond.code ({ cls := "LabelledFlows", name := "cell", desc := "(II)I" } : Jvm.MethodName) prog_1_method_14_code (3 : Nat) (Option.some Jvm.ClassFile.FieldType.int)) ∈ lw_w := List.mem_filter.mpr ⟨List.mem_append_right _ (List.mem_of_getElem? (i := 442) (by decide +kernel)), rfl⟩
theorem wd_443 : (Jvm.Cond.methodLink "LabelledFlowsLaw" (73 : Nat) ({ cls := "LabelledFlows", name := "run", desc := "(II)I" } : Jvm.MethodName)) ∈ lw_w := List.mem_filter.mpr ⟨List.mem_append_right _ (List.mem_of_getElem? (i := 443) (by decide +kernel)), rfl⟩
theorem wd_444 : (Jvm.Cond.instanceMethod ({ cls := "LabelledFlows", name := "run", desc := "(II)I" } : Jvm.MethodName)) ∈ lw_w := List.mem_filter.mpr ⟨List.mem_append_right _ (List.mem_of_getElem? (i := 444) (by decide +kernel)), rfl⟩
theorem wd_445 : (Jvm.Cond.selects "LabelledFlows" ({ cls := "LabelledFlows", name := "run", desc := "(II)I" } : Jvm.MethodName) ({ cls := "LabelledFlows", name := "run", desc := "(II)I" } : Jvm.MethodName)) ∈ lw_w := List.mem_filter.mpr ⟨List.mem_append_right _ (List.mem_of_getElem? (i := 445) (by decide +kernel)), rfl⟩
theorem wd_446 : (Jvm.Cond.code ({ cls := "LabelledFlows", name := "run", desc := "(II)I" } : Jvm.MethodName) prog_1_method_15_code (3 : Nat) (Option.some Jvm.ClassFile.FieldType.int)) ∈ lw_w := List.mem_filter.mpr ⟨List.mem_append_right _ (List.mem_of_getElem? (i := 446) (by decide +kernel)), rfl⟩
theorem wd_507 : (Jvm.Cond.methodLink "LabelledFlowsLaw" (77 : Nat) ({ cls := "LabelledFlows", name := "outcome", desc := "()I" } : Jvm.MethodName)) ∈ lw_w := List.mem_filter.mpr ⟨List.mem_append_right _ (List.mem_of_getElem? (i := 507) (by decide +kernel)), rfl⟩
theorem wd_508 : (Jvm.Cond.instanceMethod ({ cls := "LabelledFlows", name := "outcome", desc := "()I" } : Jvm.MethodName)) ∈ lw_w := List.mem_filter.mpr ⟨List.mem_append_right _ (List.mem_of_getElem? (i := 508) (by decide +kernel)), rfl⟩
theorem wd_509 : (Jvm.Cond.selects "LabelledFlows" ({ cls := "LabelledFlows", name := "outcome", desc := "()I" } : Jvm.MethodName) ({ cls := "LabelledFlows", name := "outcome", desc := "()I" } : Jvm.MethodName)) ∈ lw_w := List.mem_filter.mpr ⟨List.mem_append_right _ (List.mem_of_getElem? (i := 509) (by decide +kernel)), rfl⟩
theorem wd_510 : (Jvm.Cond.code ({ cls := "LabelledFlows", name := "outcome", desc := "()I" } : Jvm.MethodName) prog_1_method_16_code (1 : Nat) (Option.some Jvm.ClassFile.FieldType.int)) ∈ lw_w := List.mem_filter.mpr ⟨List.mem_append_right _ (List.mem_of_getElem? (i := 510) (by decide +kernel)), rfl⟩
theorem wd_511 : (Jvm.Cond.methodLink "LabelledFlowsLaw" (81 : Nat) ({ cls := "LabelledFlows", name := "hits", desc := "(II)I" } : Jvm.MethodName)) ∈ lw_w := List.mem_filter.mpr ⟨List.mem_append_right _ (List.mem_of_getElem? (i := 511) (by decide +kernel)), rfl⟩
theorem wd_512 : (Jvm.Cond.instanceMethod ({ cls := "LabelledFlows", name := "hits", desc := "(II)I" } : Jvm.MethodName)) ∈ lw_w := List.mem_filter.mpr ⟨List.mem_append_right _ (List.mem_of_getElem? (i := 512) (by decide +kernel)), rfl⟩
theorem wd_513 : (Jvm.Cond.selects "LabelledFlows" ({ cls := "LabelledFlows", name := "hits", desc := "(II)I" } : Jvm.MethodName) ({ cls := "LabelledFlows", name := "hits", desc := "(II)I" } : Jvm.MethodName)) ∈ lw_w := List.mem_filter.mpr ⟨List.mem_append_right _ (List.mem_of_getElem? (i := 513) (by decide +kernel)), rfl⟩
theorem wd_514 : (Jvm.Cond.code ({ cls := "LabelledFlows", name := "hits", desc := "(II)I" } : Jvm.MethodName) prog_1_method_17_code (3 : Nat) (Option.some Jvm.ClassFile.FieldType.int)) ∈ lw_w := List.mem_filter.mpr ⟨List.mem_append_right _ (List.mem_of_getElem? (i := 514) (by decide +kernel)), rfl⟩
theorem wd_515 : (Jvm.Cond.methodLink "LabelledFlowsLaw" (85 : Nat) ({ cls := "LabelledFlows", name := "made", desc := "()I" } : Jvm.MethodName)) ∈ lw_w := List.mem_filter.mpr ⟨List.mem_append_right _ (List.mem_of_getElem? (i := 515) (by decide +kernel)), rfl⟩
theorem wd_516 : (Jvm.Cond.instanceMethod ({ cls := "LabelledFlows", name := "made", desc := "()I" } : Jvm.MethodName)) ∈ lw_w := List.mem_filter.mpr ⟨List.mem_append_right _ (List.mem_of_getElem? (i := 516) (by decide +kernel)), rfl⟩
theorem wd_517 : (Jvm.Cond.selects "LabelledFlows" ({ cls := "LabelledFlows", name := "made", desc := "()I" } : Jvm.MethodName) ({ cls := "LabelledFlows", name := "made", desc := "()I" } : Jvm.MethodName)) ∈ lw_w := List.mem_filter.mpr ⟨List.mem_append_right _ (List.mem_of_getElem? (i := 517) (by decide +kernel)), rfl⟩
theorem wd_518 : (Jvm.Cond.code ({ cls := "LabelledFlows", name := "made", desc := "()I" } : Jvm.MethodName) prog_1_method_18_code (1 : Nat) (Option.some Jvm.ClassFile.FieldType.int)) ∈ lw_w := List.mem_filter.mpr ⟨List.mem_append_right _ (List.mem_of_getElem? (i := 518) (by decide +kernel)), rfl⟩
theorem wd_519 : (Jvm.Cond.classLink "LabelledFlowsLaw" (10 : Nat) "LabelledFlowsModel") ∈ lw_w := List.mem_filter.mpr ⟨List.mem_append_right _ (List.mem_of_getElem? (i := 519) (by decide +kernel)), rfl⟩
theorem wd_520 : (Jvm.Cond.instantiable "LabelledFlowsModel" (30 : Nat)) ∈ lw_w := List.mem_filter.mpr ⟨List.mem_append_right _ (List.mem_of_getElem? (i := 520) (by decide +kernel)), rfl⟩
theorem wd_521 : (Jvm.Cond.methodLink "LabelledFlowsLaw" (12 : Nat) ({ cls := "LabelledFlowsModel", name := "<init>", desc := "()V" } : Jvm.MethodName)) ∈ lw_w := List.mem_filter.mpr ⟨List.mem_append_right _ (List.mem_of_getElem? (i := 521) (by decide +kernel)), rfl⟩
theorem wd_522 : (Jvm.Cond.instanceMethod ({ cls := "LabelledFlowsModel", name := "<init>", desc := "()V" } : Jvm.MethodName)) ∈ lw_w := List.mem_filter.mpr ⟨List.mem_append_right _ (List.mem_of_getElem? (i := 522) (by decide +kernel)), rfl⟩
theorem wd_523 : (Jvm.Cond.code ({ cls := "LabelledFlowsModel", name := "<init>", desc := "()V" } : Jvm.MethodName) prog_7_method_1_code (2 : Nat) (Option.none : Option Jvm.ClassFile.FieldType)) ∈ lw_w := List.mem_filter.mpr ⟨List.mem_append_right _ (List.mem_of_getElem? (i := 523) (by decide +kernel)), rfl⟩
theorem wd_524 : (Jvm.Cond.methodLink "LabelledFlowsModel" (1 : Nat) ({ cls := "java/lang/Object", name := "<init>", desc := "()V" } : Jvm.MethodName)) ∈ lw_w := List.mem_filter.mpr ⟨List.mem_append_right _ (List.mem_of_getElem? (i := 524) (by decide +kernel)), rfl⟩
theorem wd_616 : (Jvm.Cond.arrayClass Jvm.ClassFile.FieldType.boolean) ∈ lw_w := List.mem_filter.mpr ⟨List.mem_append_right _ (List.mem_of_getElem? (i := 616) (by decide +kernel)), rfl⟩
theorem wd_617 : (Jvm.Cond.arrayClass Jvm.ClassFile.FieldType.long) ∈ lw_w := List.mem_filter.mpr ⟨List.mem_append_right _ (List.mem_of_getElem? (i := 617) (by decide +kernel)), rfl⟩
theorem wd_618 : (Jvm.Cond.methodLink "LabelledFlowsLaw" (17 : Nat) ({ cls := "LabelledFlowsModel", name := "add", desc := "(IIIII)I" } : Jvm.MethodName)) ∈ lw_w := List.mem_filter.mpr ⟨List.mem_append_right _ (List.mem_of_getElem? (i := 618) (by decide +kernel)), rfl⟩
theorem wd_619 : (Jvm.Cond.instanceMethod ({ cls := "LabelledFlowsModel", name := "add", desc := "(IIIII)I" } : Jvm.MethodName)) ∈ lw_w := List.mem_filter.mpr ⟨List.mem_append_right _ (List.mem_of_getElem? (i := 619) (by decide +kernel)), rfl⟩
theorem wd_620 : (Jvm.Cond.selects "LabelledFlowsModel" ({ cls := "LabelledFlowsModel", name := "add", desc := "(IIIII)I" } : Jvm.MethodName) ({ cls := "LabelledFlowsModel", name := "add", desc := "(IIIII)I" } : Jvm.MethodName)) ∈ lw_w := List.mem_filter.mpr ⟨List.mem_append_right _ (List.mem_of_getElem? (i := 620) (by decide +kernel)), rfl⟩
theorem wd_621 : (Jvm.Cond.code ({ cls := "LabelledFlowsModel", name := "add", desc := "(IIIII)I" } : Jvm.MethodName) prog_7_method_6_code (8 : Nat) (Option.some Jvm.ClassFile.FieldType.int)) ∈ lw_w := List.mem_filter.mpr ⟨List.mem_append_right _ (List.mem_of_getElem? (i := 621) (by decide +kernel)), rfl⟩
theorem wd_636 : (Jvm.Cond.methodLink "LabelledFlowsLaw" (22 : Nat) ({ cls := "LabelledFlowsModel", name := "drop", desc := "(I)Z" } : Jvm.MethodName)) ∈ lw_w := List.mem_filter.mpr ⟨List.mem_append_right _ (List.mem_of_getElem? (i := 636) (by decide +kernel)), rfl⟩
theorem wd_637 : (Jvm.Cond.instanceMethod ({ cls := "LabelledFlowsModel", name := "drop", desc := "(I)Z" } : Jvm.MethodName)) ∈ lw_w := List.mem_filter.mpr ⟨List.mem_append_right _ (List.mem_of_getElem? (i := 637) (by decide +kernel)), rfl⟩
theorem wd_638 : (Jvm.Cond.selects "LabelledFlowsModel" ({ cls := "LabelledFlowsModel", name := "drop", desc := "(I)Z" } : Jvm.MethodName) ({ cls := "LabelledFlowsModel", name := "drop", desc := "(I)Z" } : Jvm.MethodName)) ∈ lw_w := List.mem_filter.mpr ⟨List.mem_append_right _ (List.mem_of_getElem? (i := 638) (by decide +kernel)), rfl⟩
theorem wd_639 : (Jvm.Cond.code ({ cls := "LabelledFlowsModel", name := "drop", desc := "(I)Z" } : Jvm.MethodName) prog_7_method_7_code (2 : Nat) (Option.some Jvm.ClassFile.FieldType.boolean)) ∈ lw_w := List.mem_filter.mpr ⟨List.mem_append_right _ (List.mem_of_getElem? (i := 639) (by decide +kernel)), rfl⟩
theorem wd_640 : (Jvm.Cond.methodLink "LabelledFlowsLaw" (27 : Nat) ({ cls := "LabelledFlowsModel", name := "derive", desc := "(II)Z" } : Jvm.MethodName)) ∈ lw_w := List.mem_filter.mpr ⟨List.mem_append_right _ (List.mem_of_getElem? (i := 640) (by decide +kernel)), rfl⟩
theorem wd_641 : (Jvm.Cond.instanceMethod ({ cls := "LabelledFlowsModel", name := "derive", desc := "(II)Z" } : Jvm.MethodName)) ∈ lw_w := List.mem_filter.mpr ⟨List.mem_append_right _ (List.mem_of_getElem? (i := 641) (by decide +kernel)), rfl⟩
theorem wd_642 : (Jvm.Cond.selects "LabelledFlowsModel" ({ cls := "LabelledFlowsModel", name := "derive", desc := "(II)Z" } : Jvm.MethodName) ({ cls := "LabelledFlowsModel", name := "derive", desc := "(II)Z" } : Jvm.MethodName)) ∈ lw_w := List.mem_filter.mpr ⟨List.mem_append_right _ (List.mem_of_getElem? (i := 642) (by decide +kernel)), rfl⟩
theorem wd_643 : (Jvm.Cond.code ({ cls := "LabelledFlowsModel", name := "derive", desc := "(II)Z" } : Jvm.MethodName) prog_7_method_8_code (3 : Nat) (Option.some Jvm.ClassFile.FieldType.boolean)) ∈ lw_w := List.mem_filter.mpr ⟨List.mem_append_right _ (List.mem_of_getElem? (i := 643) (by decide +kernel)), rfl⟩
theorem wd_644 : (Jvm.Cond.methodLink "LabelledFlowsLaw" (32 : Nat) ({ cls := "LabelledFlowsModel", name := "bind", desc := "(III)Z" } : Jvm.MethodName)) ∈ lw_w := List.mem_filter.mpr ⟨List.mem_append_right _ (List.mem_of_getElem? (i := 644) (by decide +kernel)), rfl⟩
theorem wd_645 : (Jvm.Cond.instanceMethod ({ cls := "LabelledFlowsModel", name := "bind", desc := "(III)Z" } : Jvm.MethodName)) ∈ lw_w := List.mem_filter.mpr ⟨List.mem_append_right _ (List.mem_of_getElem? (i := 645) (by decide +kernel)), rfl⟩
theorem wd_646 : (Jvm.Cond.selects "LabelledFlowsModel" ({ cls := "LabelledFlowsModel", name := "bind", desc := "(III)Z" } : Jvm.MethodName) ({ cls := "LabelledFlowsModel", name := "bind", desc := "(III)Z" } : Jvm.MethodName)) ∈ lw_w := List.mem_filter.mpr ⟨List.mem_append_right _ (List.mem_of_getElem? (i := 646) (by decide +kernel)), rfl⟩
theorem wd_647 : (Jvm.Cond.code ({ cls := "LabelledFlowsModel", name := "bind", desc := "(III)Z" } : Jvm.MethodName) prog_7_method_9_code (4 : Nat) (Option.some Jvm.ClassFile.FieldType.boolean)) ∈ lw_w := List.mem_filter.mpr ⟨List.mem_append_right _ (List.mem_of_getElem? (i := 647) (by decide +kernel)), rfl⟩
theorem wd_648 : (Jvm.Cond.methodLink "LabelledFlowsLaw" (37 : Nat) ({ cls := "LabelledFlowsModel", name := "target", desc := "(II)I" } : Jvm.MethodName)) ∈ lw_w := List.mem_filter.mpr ⟨List.mem_append_right _ (List.mem_of_getElem? (i := 648) (by decide +kernel)), rfl⟩
theorem wd_652 : (Jvm.Cond.methodLink "LabelledFlowsLaw" (42 : Nat) ({ cls := "LabelledFlowsModel", name := "size", desc := "(I)I" } : Jvm.MethodName)) ∈ lw_w := List.mem_filter.mpr ⟨List.mem_append_right _ (List.mem_of_getElem? (i := 652) (by decide +kernel)), rfl⟩
theorem wd_653 : (Jvm.Cond.instanceMethod ({ cls := "LabelledFlowsModel", name := "size", desc := "(I)I" } : Jvm.MethodName)) ∈ lw_w := List.mem_filter.mpr ⟨List.mem_append_right _ (List.mem_of_getElem? (i := 653) (by decide +kernel)), rfl⟩
theorem wd_654 : (Jvm.Cond.selects "LabelledFlowsModel" ({ cls := "LabelledFlowsModel", name := "size", desc := "(I)I" } : Jvm.MethodName) ({ cls := "LabelledFlowsModel", name := "size", desc := "(I)I" } : Jvm.MethodName)) ∈ lw_w := List.mem_filter.mpr ⟨List.mem_append_right _ (List.mem_of_getElem? (i := 654) (by decide +kernel)), rfl⟩
theorem wd_655 : (Jvm.Cond.code ({ cls := "LabelledFlowsModel", name := "size", desc := "(I)I" } : Jvm.MethodName) prog_7_method_11_code (2 : Nat) (Option.some Jvm.ClassFile.FieldType.int)) ∈ lw_w := List.mem_filter.mpr ⟨List.mem_append_right _ (List.mem_of_getElem? (i := 655) (by decide +kernel)), rfl⟩
theorem wd_656 : (Jvm.Cond.methodLink "LabelledFlowsLaw" (46 : Nat) ({ cls := "LabelledFlowsModel", name := "analyse", desc := "(I)I" } : Jvm.MethodName)) ∈ lw_w := List.mem_filter.mpr ⟨List.mem_append_right _ (List.mem_of_getElem? (i := 656) (by decide +kernel)), rfl⟩
theorem wd_657 : (Jvm.Cond.instanceMethod ({ cls := "LabelledFlowsModel", name := "analyse", desc := "(I)I" } : Jvm.MethodName)) ∈ lw_w := List.mem_filter.mpr ⟨List.mem_append_right _ (List.mem_of_getElem? (i := 657) (by decide +kernel)), rfl⟩
theorem wd_658 : (Jvm.Cond.selects "LabelledFlowsModel" ({ cls := "LabelledFlowsModel", name := "analyse", desc := "(I)I" } : Jvm.MethodName) ({ cls := "LabelledFlowsModel", name := "analyse", desc := "(I)I" } : Jvm.MethodName)) ∈ lw_w := List.mem_filter.mpr ⟨List.mem_append_right _ (List.mem_of_getElem? (i := 658) (by decide +kernel)), rfl⟩
theorem wd_659 : (Jvm.Cond.code ({ cls := "LabelledFlowsModel", name := "analyse", desc := "(I)I" } : Jvm.MethodName) prog_7_method_32_code (4 : Nat) (Option.some Jvm.ClassFile.FieldType.int)) ∈ lw_w := List.mem_filter.mpr ⟨List.mem_append_right _ (List.mem_of_getElem? (i := 659) (by decide +kernel)), rfl⟩
theorem wd_743 : (Jvm.Cond.methodLink "LabelledFlowsLaw" (51 : Nat) ({ cls := "LabelledFlowsModel", name := "verdict", desc := "()I" } : Jvm.MethodName)) ∈ lw_w := List.mem_filter.mpr ⟨List.mem_append_right _ (List.mem_of_getElem? (i := 743) (by decide +kernel)), rfl⟩
theorem wd_744 : (Jvm.Cond.instanceMethod ({ cls := "LabelledFlowsModel", name := "verdict", desc := "()I" } : Jvm.MethodName)) ∈ lw_w := List.mem_filter.mpr ⟨List.mem_append_right _ (List.mem_of_getElem? (i := 744) (by decide +kernel)), rfl⟩
theorem wd_745 : (Jvm.Cond.selects "LabelledFlowsModel" ({ cls := "LabelledFlowsModel", name := "verdict", desc := "()I" } : Jvm.MethodName) ({ cls := "LabelledFlowsModel", name := "verdict", desc := "()I" } : Jvm.MethodName)) ∈ lw_w := List.mem_filter.mpr ⟨List.mem_append_right _ (List.mem_of_getElem? (i := 745) (by decide +kernel)), rfl⟩
theorem wd_746 : (Jvm.Cond.code ({ cls := "LabelledFlowsModel", name := "verdict", desc := "()I" } : Jvm.MethodName) prog_7_method_33_code (1 : Nat) (Option.some Jvm.ClassFile.FieldType.int)) ∈ lw_w := List.mem_filter.mpr ⟨List.mem_append_right _ (List.mem_of_getElem? (i := 746) (by decide +kernel)), rfl⟩
theorem wd_747 : (Jvm.Cond.methodLink "LabelledFlowsLaw" (55 : Nat) ({ cls := "LabelledFlowsModel", name := "finding", desc := "(II)Z" } : Jvm.MethodName)) ∈ lw_w := List.mem_filter.mpr ⟨List.mem_append_right _ (List.mem_of_getElem? (i := 747) (by decide +kernel)), rfl⟩
theorem wd_748 : (Jvm.Cond.instanceMethod ({ cls := "LabelledFlowsModel", name := "finding", desc := "(II)Z" } : Jvm.MethodName)) ∈ lw_w := List.mem_filter.mpr ⟨List.mem_append_right _ (List.mem_of_getElem? (i := 748) (by decide +kernel)), rfl⟩
theorem wd_749 : (Jvm.Cond.selects "LabelledFlowsModel" ({ cls := "LabelledFlowsModel", name := "finding", desc := "(II)Z" } : Jvm.MethodName) ({ cls := "LabelledFlowsModel", name := "finding", desc := "(II)Z" } : Jvm.MethodName)) ∈ lw_w := List.mem_filter.mpr ⟨List.mem_append_right _ (List.mem_of_getElem? (i := 749) (by decide +kernel)), rfl⟩
theorem wd_750 : (Jvm.Cond.code ({ cls := "LabelledFlowsModel", name := "finding", desc := "(II)Z" } : Jvm.MethodName) prog_7_method_34_code (8 : Nat) (Option.some Jvm.ClassFile.FieldType.boolean)) ∈ lw_w := List.mem_filter.mpr ⟨List.mem_append_right _ (List.mem_of_getElem? (i := 750) (by decide +kernel)), rfl⟩
theorem wd_755 : (Jvm.Cond.methodLink "LabelledFlowsLaw" (60 : Nat) ({ cls := "LabelledFlowsModel", name := "may", desc := "(IIII)Z" } : Jvm.MethodName)) ∈ lw_w := List.mem_filter.mpr ⟨List.mem_append_right _ (List.mem_of_getElem? (i := 755) (by decide +kernel)), rfl⟩
theorem wd_756 : (Jvm.Cond.methodLink "LabelledFlowsLaw" (64 : Nat) ({ cls := "LabelledFlowsModel", name := "entries", desc := "(I)I" } : Jvm.MethodName)) ∈ lw_w := List.mem_filter.mpr ⟨List.mem_append_right _ (List.mem_of_getElem? (i := 756) (by decide +kernel)), rfl⟩
theorem wd_757 : (Jvm.Cond.instanceMethod ({ cls := "LabelledFlowsModel", name := "entries", desc := "(I)I" } : Jvm.MethodName)) ∈ lw_w := List.mem_filter.mpr ⟨List.mem_append_right _ (List.mem_of_getElem? (i := 757) (by decide +kernel)), rfl⟩
theorem wd_758 : (Jvm.Cond.selects "LabelledFlowsModel" ({ cls := "LabelledFlowsModel", name := "entries", desc := "(I)I" } : Jvm.MethodName) ({ cls := "LabelledFlowsModel", name := "entries", desc := "(I)I" } : Jvm.MethodName)) ∈ lw_w := List.mem_filter.mpr ⟨List.mem_append_right _ (List.mem_of_getElem? (i := 758) (by decide +kernel)), rfl⟩
theorem wd_759 : (Jvm.Cond.code ({ cls := "LabelledFlowsModel", name := "entries", desc := "(I)I" } : Jvm.MethodName) prog_7_method_36_code (2 : Nat) (Option.some Jvm.ClassFile.FieldType.int)) ∈ lw_w := List.mem_filter.mpr ⟨List.mem_append_right _ (List.mem_of_getElem? (i := 759) (by decide +kernel)), rfl⟩
theorem wd_760 : (Jvm.Cond.methodLink "LabelledFlowsLaw" (68 : Nat) ({ cls := "LabelledFlowsModel", name := "points", desc := "(II)I" } : Jvm.MethodName)) ∈ lw_w := List.mem_filter.mpr ⟨List.mem_append_right _ (List.mem_of_getElem? (i := 760) (by decide +kernel)), rfl⟩
theorem wd_761 : (Jvm.Cond.instanceMethod ({ cls := "LabelledFlowsModel", name := "points", desc := "(II)I" } : Jvm.MethodName)) ∈ lw_w := List.mem_filter.mpr ⟨List.mem_append_right _ (List.mem_of_getElem? (i := 761) (by decide +kernel)), rfl⟩
theorem wd_762 : (Jvm.Cond.selects "LabelledFlowsModel" ({ cls := "LabelledFlowsModel", name := "points", desc := "(II)I" } : Jvm.MethodName) ({ cls := "LabelledFlowsModel", name := "points", desc := "(II)I" } : Jvm.MethodName)) ∈ lw_w := List.mem_filter.mpr ⟨List.mem_append_right _ (List.mem_of_getElem? (i := 762) (by decide +kernel)), rfl⟩
theorem wd_763 : (Jvm.Cond.code ({ cls := "LabelledFlowsModel", name := "points", desc := "(II)I" } : Jvm.MethodName) prog_7_method_37_code (3 : Nat) (Option.some Jvm.ClassFile.FieldType.int)) ∈ lw_w := List.mem_filter.mpr ⟨List.mem_append_right _ (List.mem_of_getElem? (i := 763) (by decide +kernel)), rfl⟩
theorem wd_764 : (Jvm.Cond.methodLink "LabelledFlowsLaw" (72 : Nat) ({ cls := "LabelledFlowsModel", name := "cell", desc := "(II)I" } : Jvm.MethodName)) ∈ lw_w := List.mem_filter.mpr ⟨List.mem_append_right _ (List.mem_of_getElem? (i := 764) (by decide +kernel)), rfl⟩
theorem wd_765 : (Jvm.Cond.instanceMethod ({ cls := "LabelledFlowsModel", name := "cell", desc := "(II)I" } : Jvm.MethodName)) ∈ lw_w := List.mem_filter.mpr ⟨List.mem_append_right _ (List.mem_of_getElem? (i := 765) (by decide +kernel)), rfl⟩
theorem wd_766 : (Jvm.Cond.selects "LabelledFlowsModel" ({ cls := "LabelledFlowsModel", name := "cell", desc := "(II)I" } : Jvm.MethodName) ({ cls := "LabelledFlowsModel", name := "cell", desc := "(II)I" } : Jvm.MethodName)) ∈ lw_w := List.mem_filter.mpr ⟨List.mem_append_right _ (List.mem_of_getElem? (i := 766) (by decide +kernel)), rfl⟩
theorem wd_767 : (Jvm.Cond.code ({ cls := "LabelledFlowsModel", name := "cell", desc := "(II)I" } : Jvm.MethodName) prog_7_method_38_code (3 : Nat) (Option.some Jvm.ClassFile.FieldType.int)) ∈ lw_w := List.mem_filter.mpr ⟨List.mem_append_right _ (List.mem_of_getElem? (i := 767) (by decide +kernel)), rfl⟩
theorem wd_768 : (Jvm.Cond.methodLink "LabelledFlowsLaw" (76 : Nat) ({ cls := "LabelledFlowsModel", name := "run", desc := "(II)I" } : Jvm.MethodName)) ∈ lw_w := List.mem_filter.mpr ⟨List.mem_append_right _ (List.mem_of_getElem? (i := 768) (by decide +kernel)), rfl⟩
theorem wd_769 : (Jvm.Cond.instanceMethod ({ cls := "LabelledFlowsModel", name := "run", desc := "(II)I" } : Jvm.MethodName)) ∈ lw_w := List.mem_filter.mpr ⟨List.mem_append_right _ (List.mem_of_getElem? (i := 769) (by decide +kernel)), rfl⟩
theorem wd_770 : (Jvm.Cond.selects "LabelledFlowsModel" ({ cls := "LabelledFlowsModel", name := "run", desc := "(II)I" } : Jvm.MethodName) ({ cls := "LabelledFlowsModel", name := "run", desc := "(II)I" } : Jvm.MethodName)) ∈ lw_w := List.mem_filter.mpr ⟨List.mem_append_right _ (List.mem_of_getElem? (i := 770) (by decide +kernel)), rfl⟩
theorem wd_771 : (Jvm.Cond.code ({ cls := "LabelledFlowsModel", name := "run", desc := "(II)I" } : Jvm.MethodName) prog_7_method_45_code (6 : Nat) (Option.some Jvm.ClassFile.FieldType.int)) ∈ lw_w := List.mem_filter.mpr ⟨List.mem_append_right _ (List.mem_of_getElem? (i := 771) (by decide +kernel)), rfl⟩
theorem wd_796 : (Jvm.Cond.methodLink "LabelledFlowsLaw" (80 : Nat) ({ cls := "LabelledFlowsModel", name := "outcome", desc := "()I" } : Jvm.MethodName)) ∈ lw_w := List.mem_filter.mpr ⟨List.mem_append_right _ (List.mem_of_getElem? (i := 796) (by decide +kernel)), rfl⟩
theorem wd_797 : (Jvm.Cond.instanceMethod ({ cls := "LabelledFlowsModel", name := "outcome", desc := "()I" } : Jvm.MethodName)) ∈ lw_w := List.mem_filter.mpr ⟨List.mem_append_right _ (List.mem_of_getElem? (i := 797) (by decide +kernel)), rfl⟩
theorem wd_798 : (Jvm.Cond.selects "LabelledFlowsModel" ({ cls := "LabelledFlowsModel", name := "outcome", desc := "()I" } : Jvm.MethodName) ({ cls := "LabelledFlowsModel", name := "outcome", desc := "()I" } : Jvm.MethodName)) ∈ lw_w := List.mem_filter.mpr ⟨List.mem_append_right _ (List.mem_of_getElem? (i := 798) (by decide +kernel)), rfl⟩
theorem wd_799 : (Jvm.Cond.code ({ cls := "LabelledFlowsModel", name := "outcome", desc := "()I" } : Jvm.MethodName) prog_7_method_46_code (1 : Nat) (Option.some Jvm.ClassFile.FieldType.int)) ∈ lw_w := List.mem_filter.mpr ⟨List.mem_append_right _ (List.mem_of_getElem? (i := 799) (by decide +kernel)), rfl⟩
theorem wd_800 : (Jvm.Cond.methodLink "LabelledFlowsLaw" (84 : Nat) ({ cls := "LabelledFlowsModel", name := "hits", desc := "(II)I" } : Jvm.MethodName)) ∈ lw_w := List.mem_filter.mpr ⟨List.mem_append_right _ (List.mem_of_getElem? (i := 800) (by decide +kernel)), rfl⟩
theorem wd_801 : (Jvm.Cond.instanceMethod ({ cls := "LabelledFlowsModel", name := "hits", desc := "(II)I" } : Jvm.MethodName)) ∈ lw_w := List.mem_filter.mpr ⟨List.mem_append_right _ (List.mem_of_getElem? (i := 801) (by decide +kernel)), rfl⟩
theorem wd_802 : (Jvm.Cond.selects "LabelledFlowsModel" ({ cls := "LabelledFlowsModel", name := "hits", desc := "(II)I" } : Jvm.MethodName) ({ cls := "LabelledFlowsModel", name := "hits", desc := "(II)I" } : Jvm.MethodName)) ∈ lw_w := List.mem_filter.mpr ⟨List.mem_append_right _ (List.mem_of_getElem? (i := 802) (by decide +kernel)), rfl⟩
theorem wd_803 : (Jvm.Cond.code ({ cls := "LabelledFlowsModel", name := "hits", desc := "(II)I" } : Jvm.MethodName) prog_7_method_47_code (5 : Nat) (Option.some Jvm.ClassFile.FieldType.int)) ∈ lw_w := List.mem_filter.mpr ⟨List.mem_append_right _ (List.mem_of_getElem? (i := 803) (by decide +kernel)), rfl⟩
theorem wd_804 : (Jvm.Cond.methodLink "LabelledFlowsLaw" (88 : Nat) ({ cls := "LabelledFlowsModel", name := "made", desc := "()I" } : Jvm.MethodName)) ∈ lw_w := List.mem_filter.mpr ⟨List.mem_append_right _ (List.mem_of_getElem? (i := 804) (by decide +kernel)), rfl⟩
theorem wd_805 : (Jvm.Cond.instanceMethod ({ cls := "LabelledFlowsModel", name := "made", desc := "()I" } : Jvm.MethodName)) ∈ lw_w := List.mem_filter.mpr ⟨List.mem_append_right _ (List.mem_of_getElem? (i := 805) (by decide +kernel)), rfl⟩
theorem wd_806 : (Jvm.Cond.selects "LabelledFlowsModel" ({ cls := "LabelledFlowsModel", name := "made", desc := "()I" } : Jvm.MethodName) ({ cls := "LabelledFlowsModel", name := "made", desc := "()I" } : Jvm.MethodName)) ∈ lw_w := List.mem_filter.mpr ⟨List.mem_append_right _ (List.mem_of_getElem? (i := 806) (by decide +kernel)), rfl⟩
theorem wd_807 : (Jvm.Cond.code ({ cls := "LabelledFlowsModel", name := "made", desc := "()I" } : Jvm.MethodName) prog_7_method_48_code (1 : Nat) (Option.some Jvm.ClassFile.FieldType.int)) ∈ lw_w := List.mem_filter.mpr ⟨List.mem_append_right _ (List.mem_of_getElem? (i := 807) (by decide +kernel)), rfl⟩
abbrev c_P_init : ByteArray := prog_5_method_1_code
def y_P_init : MethodName := ⟨"LabelledFlows$Program", "<init>", "()V"⟩
def ws_P_init : List Cond := .code y_P_init c_P_init 1 none :: lw_w
def rm_P_init : Room := { frames := 1, cells := 11, slots := 433, locals := 23 }
abbrev c_Q_init : ByteArray := prog_4_method_1_code
def y_Q_init : MethodName := ⟨"LabelledFlows$Pointing", "<init>", "(LLabelledFlows$Program;)V"⟩
def ws_Q_init : List Cond := .code y_Q_init c_Q_init 2 none :: lw_w
def rm_Q_init : Room := { frames := 1, cells := 3, slots := 114, locals := 12 }
abbrev c_F_init : ByteArray := prog_2_method_1_code
def y_F_init : MethodName := ⟨"LabelledFlows$Flow", "<init>", "(LLabelledFlows$Program;LLabelledFlows$Pointing;)V"⟩
def ws_F_init : List Cond := .code y_F_init c_F_init 3 none :: lw_w
def rm_F_init : Room := { frames := 1, cells := 4, slots := 1806, locals := 12 }
abbrev c_A_init : ByteArray := prog_3_method_1_code
def y_A_init : MethodName := ⟨"LabelledFlows$Machine", "<init>", "(LLabelledFlows$Program;)V"⟩
def ws_A_init : List Cond := .code y_A_init c_A_init 2 none :: lw_w
def rm_A_init : Room := { frames := 1, cells := 6, slots := 88, locals := 12 }
abbrev c_X_init : ByteArray := prog_1_method_1_code
def y_X_init : MethodName := ⟨"LabelledFlows", "<init>", "()V"⟩
def ws_X_init : List Cond := .code y_X_init c_X_init 1 none :: lw_w
def rm_X_init : Room := { frames := 2, cells := 28, slots := 2479, locals := 43 }
abbrev c_M_init : ByteArray := prog_7_method_1_code
def y_M_init : MethodName := ⟨"LabelledFlowsModel", "<init>", "()V"⟩
def ws_M_init : List Cond := .code y_M_init c_M_init 2 none :: lw_w
def rm_M_init : Room := { frames := 1, cells := 23, slots := 5720, locals := 12 }
theorem d_P_init_0 : decode c_P_init 0 = .ok (.aload_n 0, 1) := by decide +kernel
theorem d_P_init_1 : decode c_P_init 1 = .ok (.invokespecial 3, 3) := by decide +kernel
theorem d_P_init_4 : decode c_P_init 4 = .ok (.aload_n 0, 1) := by decide +kernel
theorem d_P_init_5 : decode c_P_init 5 = .ok (.bipush 78, 2) := by decide +kernel
theorem d_P_init_7 : decode c_P_init 7 = .ok (.newarray .int, 2) := by decide +kernel
theorem d_P_init_9 : decode c_P_init 9 = .ok (.putfield 9, 3) := by decide +kernel
theorem d_P_init_12 : decode c_P_init 12 = .ok (.aload_n 0, 1) := by decide +kernel
theorem d_P_init_13 : decode c_P_init 13 = .ok (.bipush 78, 2) := by decide +kernel
theorem d_P_init_15 : decode c_P_init 15 = .ok (.newarray .int, 2) := by decide +kernel
theorem d_P_init_17 : decode c_P_init 17 = .ok (.putfield 15, 3) := by decide +kernel
theorem d_P_init_20 : decode c_P_init 20 = .ok (.aload_n 0, 1) := by decide +kernel
theorem d_P_init_21 : decode c_P_init 21 = .ok (.bipush 78, 2) := by decide +kernel
theorem d_P_init_23 : decode c_P_init 23 = .ok (.newarray .int, 2) := by decide +kernel
theorem d_P_init_25 : decode c_P_init 25 = .ok (.putfield 18, 3) := by decide +kernel
theorem d_P_init_28 : decode c_P_init 28 = .ok (.aload_n 0, 1) := by decide +kernel
theorem d_P_init_29 : decode c_P_init 29 = .ok (.bipush 78, 2) := by decide +kernel
theorem d_P_init_31 : decode c_P_init 31 = .ok (.newarray .int, 2) := by decide +kernel
theorem d_P_init_33 : decode c_P_init 33 = .ok (.putfield 21, 3) := by decide +kernel
theorem d_P_init_36 : decode c_P_init 36 = .ok (.aload_n 0, 1) := by decide +kernel
theorem d_P_init_37 : decode c_P_init 37 = .ok (.bipush 78, 2) := by decide +kernel
theorem d_P_init_39 : decode c_P_init 39 = .ok (.newarray .int, 2) := by decide +kernel
theorem d_P_init_41 : decode c_P_init 41 = .ok (.putfield 24, 3) := by decide +kernel
theorem d_P_init_44 : decode c_P_init 44 = .ok (.aload_n 0, 1) := by decide +kernel
theorem d_P_init_45 : decode c_P_init 45 = .ok (.bipush 6, 2) := by decide +kernel
theorem d_P_init_47 : decode c_P_init 47 = .ok (.newarray .int, 2) := by decide +kernel
theorem d_P_init_49 : decode c_P_init 49 = .ok (.putfield 27, 3) := by decide +kernel
theorem d_P_init_52 : decode c_P_init 52 = .ok (.aload_n 0, 1) := by decide +kernel
theorem d_P_init_53 : decode c_P_init 53 = .ok (.bipush 11, 2) := by decide +kernel
theorem d_P_init_55 : decode c_P_init 55 = .ok (.newarray .int, 2) := by decide +kernel
theorem d_P_init_57 : decode c_P_init 57 = .ok (.putfield 30, 3) := by decide +kernel
theorem d_P_init_60 : decode c_P_init 60 = .ok (.aload_n 0, 1) := by decide +kernel
theorem d_P_init_61 : decode c_P_init 61 = .ok (.bipush 6, 2) := by decide +kernel
theorem d_P_init_63 : decode c_P_init 63 = .ok (.newarray .int, 2) := by decide +kernel
theorem d_P_init_65 : decode c_P_init 65 = .ok (.putfield 33, 3) := by decide +kernel
theorem d_P_init_68 : decode c_P_init 68 = .ok (.aload_n 0, 1) := by decide +kernel
theorem d_P_init_69 : decode c_P_init 69 = .ok (.iconst 4, 1) := by decide +kernel
theorem d_P_init_70 : decode c_P_init 70 = .ok (.newarray .int, 2) := by decide +kernel
theorem d_P_init_72 : decode c_P_init 72 = .ok (.putfield 36, 3) := by decide +kernel
theorem d_P_init_75 : decode c_P_init 75 = .ok (.aload_n 0, 1) := by decide +kernel
theorem d_P_init_76 : decode c_P_init 76 = .ok (.iconst 4, 1) := by decide +kernel
theorem d_P_init_77 : decode c_P_init 77 = .ok (.newarray .int, 2) := by decide +kernel
theorem d_P_init_79 : decode c_P_init 79 = .ok (.putfield 39, 3) := by decide +kernel
theorem d_P_init_82 : decode c_P_init 82 = .ok (.aload_n 0, 1) := by decide +kernel
theorem d_P_init_83 : decode c_P_init 83 = .ok (.bipush 12, 2) := by decide +kernel
theorem d_P_init_85 : decode c_P_init 85 = .ok (.newarray .int, 2) := by decide +kernel
theorem d_P_init_87 : decode c_P_init 87 = .ok (.putfield 42, 3) := by decide +kernel
theorem d_P_init_90 : decode c_P_init 90 = .ok (.aload_n 0, 1) := by decide +kernel
theorem d_P_init_91 : decode c_P_init 91 = .ok (.getfield 39, 3) := by decide +kernel
theorem d_P_init_94 : decode c_P_init 94 = .ok (.iconst (-1), 1) := by decide +kernel
theorem d_P_init_95 : decode c_P_init 95 = .ok (.invokestatic 45, 3) := by decide +kernel
theorem d_P_init_98 : decode c_P_init 98 = .ok (.aload_n 0, 1) := by decide +kernel
theorem d_P_init_99 : decode c_P_init 99 = .ok (.getfield 42, 3) := by decide +kernel
theorem d_P_init_102 : decode c_P_init 102 = .ok (.iconst (-1), 1) := by decide +kernel
theorem d_P_init_103 : decode c_P_init 103 = .ok (.invokestatic 45, 3) := by decide +kernel
theorem d_P_init_106 : decode c_P_init 106 = .ok (.return_, 1) := by decide +kernel
theorem d_Q_init_0 : decode c_Q_init 0 = .ok (.aload_n 0, 1) := by decide +kernel
theorem d_Q_init_1 : decode c_Q_init 1 = .ok (.invokespecial 3, 3) := by decide +kernel
theorem d_Q_init_4 : decode c_Q_init 4 = .ok (.aload_n 0, 1) := by decide +kernel
theorem d_Q_init_5 : decode c_Q_init 5 = .ok (.aload_n 1, 1) := by decide +kernel
theorem d_Q_init_6 : decode c_Q_init 6 = .ok (.putfield 9, 3) := by decide +kernel
theorem d_Q_init_9 : decode c_Q_init 9 = .ok (.aload_n 0, 1) := by decide +kernel
theorem d_Q_init_10 : decode c_Q_init 10 = .ok (.bipush 24, 2) := by decide +kernel
theorem d_Q_init_12 : decode c_Q_init 12 = .ok (.newarray .int, 2) := by decide +kernel
theorem d_Q_init_14 : decode c_Q_init 14 = .ok (.putfield 15, 3) := by decide +kernel
theorem d_Q_init_17 : decode c_Q_init 17 = .ok (.aload_n 0, 1) := by decide +kernel
theorem d_Q_init_18 : decode c_Q_init 18 = .ok (.bipush 12, 2) := by decide +kernel
theorem d_Q_init_20 : decode c_Q_init 20 = .ok (.newarray .int, 2) := by decide +kernel
theorem d_Q_init_22 : decode c_Q_init 22 = .ok (.putfield 19, 3) := by decide +kernel
theorem d_Q_init_25 : decode c_Q_init 25 = .ok (.aload_n 0, 1) := by decide +kernel
theorem d_Q_init_26 : decode c_Q_init 26 = .ok (.bipush 78, 2) := by decide +kernel
theorem d_Q_init_28 : decode c_Q_init 28 = .ok (.newarray .int, 2) := by decide +kernel
theorem d_Q_init_30 : decode c_Q_init 30 = .ok (.putfield 22, 3) := by decide +kernel
theorem d_Q_init_33 : decode c_Q_init 33 = .ok (.return_, 1) := by decide +kernel
theorem d_F_init_0 : decode c_F_init 0 = .ok (.aload_n 0, 1) := by decide +kernel
theorem d_F_init_1 : decode c_F_init 1 = .ok (.invokespecial 5, 3) := by decide +kernel
theorem d_F_init_4 : decode c_F_init 4 = .ok (.aload_n 0, 1) := by decide +kernel
theorem d_F_init_5 : decode c_F_init 5 = .ok (.aload_n 1, 1) := by decide +kernel
theorem d_F_init_6 : decode c_F_init 6 = .ok (.putfield 11, 3) := by decide +kernel
theorem d_F_init_9 : decode c_F_init 9 = .ok (.aload_n 0, 1) := by decide +kernel
theorem d_F_init_10 : decode c_F_init 10 = .ok (.aload_n 2, 1) := by decide +kernel
theorem d_F_init_11 : decode c_F_init 11 = .ok (.putfield 15, 3) := by decide +kernel
theorem d_F_init_14 : decode c_F_init 14 = .ok (.aload_n 0, 1) := by decide +kernel
theorem d_F_init_15 : decode c_F_init 15 = .ok (.sipush 1560, 3) := by decide +kernel
theorem d_F_init_18 : decode c_F_init 18 = .ok (.newarray .int, 2) := by decide +kernel
theorem d_F_init_20 : decode c_F_init 20 = .ok (.putfield 19, 3) := by decide +kernel
theorem d_F_init_23 : decode c_F_init 23 = .ok (.aload_n 0, 1) := by decide +kernel
theorem d_F_init_24 : decode c_F_init 24 = .ok (.bipush 120, 2) := by decide +kernel
theorem d_F_init_26 : decode c_F_init 26 = .ok (.newarray .int, 2) := by decide +kernel
theorem d_F_init_28 : decode c_F_init 28 = .ok (.putfield 23, 3) := by decide +kernel
theorem d_F_init_31 : decode c_F_init 31 = .ok (.aload_n 0, 1) := by decide +kernel
theorem d_F_init_32 : decode c_F_init 32 = .ok (.bipush 120, 2) := by decide +kernel
theorem d_F_init_34 : decode c_F_init 34 = .ok (.newarray .int, 2) := by decide +kernel
theorem d_F_init_36 : decode c_F_init 36 = .ok (.putfield 26, 3) := by decide +kernel
theorem d_F_init_39 : decode c_F_init 39 = .ok (.aload_n 0, 1) := by decide +kernel
theorem d_F_init_40 : decode c_F_init 40 = .ok (.bipush 6, 2) := by decide +kernel
theorem d_F_init_42 : decode c_F_init 42 = .ok (.newarray .int, 2) := by decide +kernel
theorem d_F_init_44 : decode c_F_init 44 = .ok (.putfield 29, 3) := by decide +kernel
theorem d_F_init_47 : decode c_F_init 47 = .ok (.return_, 1) := by decide +kernel
theorem d_A_init_0 : decode c_A_init 0 = .ok (.aload_n 0, 1) := by decide +kernel
theorem d_A_init_1 : decode c_A_init 1 = .ok (.invokespecial 3, 3) := by decide +kernel
theorem d_A_init_4 : decode c_A_init 4 = .ok (.aload_n 0, 1) := by decide +kernel
theorem d_A_init_5 : decode c_A_init 5 = .ok (.aload_n 1, 1) := by decide +kernel
theorem d_A_init_6 : decode c_A_init 6 = .ok (.putfield 9, 3) := by decide +kernel
theorem d_A_init_9 : decode c_A_init 9 = .ok (.aload_n 0, 1) := by decide +kernel
theorem d_A_init_10 : decode c_A_init 10 = .ok (.bipush 6, 2) := by decide +kernel
theorem d_A_init_12 : decode c_A_init 12 = .ok (.newarray .int, 2) := by decide +kernel
theorem d_A_init_14 : decode c_A_init 14 = .ok (.putfield 15, 3) := by decide +kernel
theorem d_A_init_17 : decode c_A_init 17 = .ok (.aload_n 0, 1) := by decide +kernel
theorem d_A_init_18 : decode c_A_init 18 = .ok (.bipush 6, 2) := by decide +kernel
theorem d_A_init_20 : decode c_A_init 20 = .ok (.newarray .int, 2) := by decide +kernel
theorem d_A_init_22 : decode c_A_init 22 = .ok (.putfield 19, 3) := by decide +kernel
theorem d_A_init_25 : decode c_A_init 25 = .ok (.aload_n 0, 1) := by decide +kernel
theorem d_A_init_26 : decode c_A_init 26 = .ok (.bipush 24, 2) := by decide +kernel
theorem d_A_init_28 : decode c_A_init 28 = .ok (.newarray .int, 2) := by decide +kernel
theorem d_A_init_30 : decode c_A_init 30 = .ok (.putfield 22, 3) := by decide +kernel
theorem d_A_init_33 : decode c_A_init 33 = .ok (.aload_n 0, 1) := by decide +kernel
theorem d_A_init_34 : decode c_A_init 34 = .ok (.bipush 12, 2) := by decide +kernel
theorem d_A_init_36 : decode c_A_init 36 = .ok (.newarray .int, 2) := by decide +kernel
theorem d_A_init_38 : decode c_A_init 38 = .ok (.putfield 25, 3) := by decide +kernel
theorem d_A_init_41 : decode c_A_init 41 = .ok (.aload_n 0, 1) := by decide +kernel
theorem d_A_init_42 : decode c_A_init 42 = .ok (.bipush 24, 2) := by decide +kernel
theorem d_A_init_44 : decode c_A_init 44 = .ok (.newarray .int, 2) := by decide +kernel
theorem d_A_init_46 : decode c_A_init 46 = .ok (.putfield 28, 3) := by decide +kernel
theorem d_A_init_49 : decode c_A_init 49 = .ok (.aload_n 0, 1) := by decide +kernel
theorem d_A_init_50 : decode c_A_init 50 = .ok (.bipush 16, 2) := by decide +kernel
theorem d_A_init_52 : decode c_A_init 52 = .ok (.newarray .int, 2) := by decide +kernel
theorem d_A_init_54 : decode c_A_init 54 = .ok (.putfield 31, 3) := by decide +kernel
theorem d_A_init_57 : decode c_A_init 57 = .ok (.aload_n 0, 1) := by decide +kernel
theorem d_A_init_58 : decode c_A_init 58 = .ok (.iconst 0, 1) := by decide +kernel
theorem d_A_init_59 : decode c_A_init 59 = .ok (.putfield 34, 3) := by decide +kernel
theorem d_A_init_62 : decode c_A_init 62 = .ok (.return_, 1) := by decide +kernel
theorem d_X_init_0 : decode c_X_init 0 = .ok (.aload_n 0, 1) := by decide +kernel
theorem d_X_init_1 : decode c_X_init 1 = .ok (.invokespecial 3, 3) := by decide +kernel
theorem d_X_init_4 : decode c_X_init 4 = .ok (.aload_n 0, 1) := by decide +kernel
theorem d_X_init_5 : decode c_X_init 5 = .ok (.new 9, 3) := by decide +kernel
theorem d_X_init_8 : decode c_X_init 8 = .ok (.dup, 1) := by decide +kernel
theorem d_X_init_9 : decode c_X_init 9 = .ok (.invokespecial 11, 3) := by decide +kernel
theorem d_X_init_12 : decode c_X_init 12 = .ok (.putfield 12, 3) := by decide +kernel
theorem d_X_init_15 : decode c_X_init 15 = .ok (.aload_n 0, 1) := by decide +kernel
theorem d_X_init_16 : decode c_X_init 16 = .ok (.new 16, 3) := by decide +kernel
theorem d_X_init_19 : decode c_X_init 19 = .ok (.dup, 1) := by decide +kernel
theorem d_X_init_20 : decode c_X_init 20 = .ok (.aload_n 0, 1) := by decide +kernel
theorem d_X_init_21 : decode c_X_init 21 = .ok (.getfield 12, 3) := by decide +kernel
theorem d_X_init_24 : decode c_X_init 24 = .ok (.invokespecial 18, 3) := by decide +kernel
theorem d_X_init_27 : decode c_X_init 27 = .ok (.putfield 21, 3) := by decide +kernel
theorem d_X_init_30 : decode c_X_init 30 = .ok (.aload_n 0, 1) := by decide +kernel
theorem d_X_init_31 : decode c_X_init 31 = .ok (.new 25, 3) := by decide +kernel
theorem d_X_init_34 : decode c_X_init 34 = .ok (.dup, 1) := by decide +kernel
theorem d_X_init_35 : decode c_X_init 35 = .ok (.aload_n 0, 1) := by decide +kernel
theorem d_X_init_36 : decode c_X_init 36 = .ok (.getfield 12, 3) := by decide +kernel
theorem d_X_init_39 : decode c_X_init 39 = .ok (.aload_n 0, 1) := by decide +kernel
theorem d_X_init_40 : decode c_X_init 40 = .ok (.getfield 21, 3) := by decide +kernel
theorem d_X_init_43 : decode c_X_init 43 = .ok (.invokespecial 27, 3) := by decide +kernel
theorem d_X_init_46 : decode c_X_init 46 = .ok (.putfield 30, 3) := by decide +kernel
theorem d_X_init_49 : decode c_X_init 49 = .ok (.aload_n 0, 1) := by decide +kernel
theorem d_X_init_50 : decode c_X_init 50 = .ok (.new 34, 3) := by decide +kernel
theorem d_X_init_53 : decode c_X_init 53 = .ok (.dup, 1) := by decide +kernel
theorem d_X_init_54 : decode c_X_init 54 = .ok (.aload_n 0, 1) := by decide +kernel
theorem d_X_init_55 : decode c_X_init 55 = .ok (.getfield 12, 3) := by decide +kernel
theorem d_X_init_58 : decode c_X_init 58 = .ok (.invokespecial 36, 3) := by decide +kernel
theorem d_X_init_61 : decode c_X_init 61 = .ok (.putfield 37, 3) := by decide +kernel
theorem d_X_init_64 : decode c_X_init 64 = .ok (.aload_n 0, 1) := by decide +kernel
theorem d_X_init_65 : decode c_X_init 65 = .ok (.iconst 0, 1) := by decide +kernel
theorem d_X_init_66 : decode c_X_init 66 = .ok (.putfield 41, 3) := by decide +kernel
theorem d_X_init_69 : decode c_X_init 69 = .ok (.return_, 1) := by decide +kernel
theorem d_M_init_0 : decode c_M_init 0 = .ok (.aload_n 0, 1) := by decide +kernel
theorem d_M_init_1 : decode c_M_init 1 = .ok (.invokespecial 1, 3) := by decide +kernel
theorem d_M_init_4 : decode c_M_init 4 = .ok (.aload_n 0, 1) := by decide +kernel
theorem d_M_init_5 : decode c_M_init 5 = .ok (.bipush 6, 2) := by decide +kernel
theorem d_M_init_7 : decode c_M_init 7 = .ok (.newarray .int, 2) := by decide +kernel
theorem d_M_init_9 : decode c_M_init 9 = .ok (.putfield 7, 3) := by decide +kernel
theorem d_M_init_12 : decode c_M_init 12 = .ok (.aload_n 0, 1) := by decide +kernel
theorem d_M_init_13 : decode c_M_init 13 = .ok (.bipush 72, 2) := by decide +kernel
theorem d_M_init_15 : decode c_M_init 15 = .ok (.newarray .int, 2) := by decide +kernel
theorem d_M_init_17 : decode c_M_init 17 = .ok (.putfield 13, 3) := by decide +kernel
theorem d_M_init_20 : decode c_M_init 20 = .ok (.aload_n 0, 1) := by decide +kernel
theorem d_M_init_21 : decode c_M_init 21 = .ok (.bipush 72, 2) := by decide +kernel
theorem d_M_init_23 : decode c_M_init 23 = .ok (.newarray .int, 2) := by decide +kernel
theorem d_M_init_25 : decode c_M_init 25 = .ok (.putfield 16, 3) := by decide +kernel
theorem d_M_init_28 : decode c_M_init 28 = .ok (.aload_n 0, 1) := by decide +kernel
theorem d_M_init_29 : decode c_M_init 29 = .ok (.bipush 72, 2) := by decide +kernel
theorem d_M_init_31 : decode c_M_init 31 = .ok (.newarray .int, 2) := by decide +kernel
theorem d_M_init_33 : decode c_M_init 33 = .ok (.putfield 19, 3) := by decide +kernel
theorem d_M_init_36 : decode c_M_init 36 = .ok (.aload_n 0, 1) := by decide +kernel
theorem d_M_init_37 : decode c_M_init 37 = .ok (.bipush 72, 2) := by decide +kernel
theorem d_M_init_39 : decode c_M_init 39 = .ok (.newarray .int, 2) := by decide +kernel
theorem d_M_init_41 : decode c_M_init 41 = .ok (.putfield 22, 3) := by decide +kernel
theorem d_M_init_44 : decode c_M_init 44 = .ok (.aload_n 0, 1) := by decide +kernel
theorem d_M_init_45 : decode c_M_init 45 = .ok (.iconst 4, 1) := by decide +kernel
theorem d_M_init_46 : decode c_M_init 46 = .ok (.newarray .int, 2) := by decide +kernel
theorem d_M_init_48 : decode c_M_init 48 = .ok (.putfield 25, 3) := by decide +kernel
theorem d_M_init_51 : decode c_M_init 51 = .ok (.aload_n 0, 1) := by decide +kernel
theorem d_M_init_52 : decode c_M_init 52 = .ok (.bipush 12, 2) := by decide +kernel
theorem d_M_init_54 : decode c_M_init 54 = .ok (.newarray .int, 2) := by decide +kernel
theorem d_M_init_56 : decode c_M_init 56 = .ok (.putfield 28, 3) := by decide +kernel
theorem d_M_init_59 : decode c_M_init 59 = .ok (.aload_n 0, 1) := by decide +kernel
theorem d_M_init_60 : decode c_M_init 60 = .ok (.bipush 24, 2) := by decide +kernel
theorem d_M_init_62 : decode c_M_init 62 = .ok (.newarray .int, 2) := by decide +kernel
theorem d_M_init_64 : decode c_M_init 64 = .ok (.putfield 31, 3) := by decide +kernel
theorem d_M_init_67 : decode c_M_init 67 = .ok (.aload_n 0, 1) := by decide +kernel
theorem d_M_init_68 : decode c_M_init 68 = .ok (.bipush 12, 2) := by decide +kernel
theorem d_M_init_70 : decode c_M_init 70 = .ok (.newarray .int, 2) := by decide +kernel
theorem d_M_init_72 : decode c_M_init 72 = .ok (.putfield 34, 3) := by decide +kernel
theorem d_M_init_75 : decode c_M_init 75 = .ok (.aload_n 0, 1) := by decide +kernel
theorem d_M_init_76 : decode c_M_init 76 = .ok (.bipush 6, 2) := by decide +kernel
theorem d_M_init_78 : decode c_M_init 78 = .ok (.newarray .boolean, 2) := by decide +kernel
theorem d_M_init_80 : decode c_M_init 80 = .ok (.putfield 37, 3) := by decide +kernel
theorem d_M_init_83 : decode c_M_init 83 = .ok (.aload_n 0, 1) := by decide +kernel
theorem d_M_init_84 : decode c_M_init 84 = .ok (.bipush 72, 2) := by decide +kernel
theorem d_M_init_86 : decode c_M_init 86 = .ok (.newarray .int, 2) := by decide +kernel
theorem d_M_init_88 : decode c_M_init 88 = .ok (.putfield 41, 3) := by decide +kernel
theorem d_M_init_91 : decode c_M_init 91 = .ok (.aload_n 0, 1) := by decide +kernel
theorem d_M_init_92 : decode c_M_init 92 = .ok (.sipush 5070, 3) := by decide +kernel
theorem d_M_init_95 : decode c_M_init 95 = .ok (.newarray .long, 2) := by decide +kernel
theorem d_M_init_97 : decode c_M_init 97 = .ok (.putfield 44, 3) := by decide +kernel
theorem d_M_init_100 : decode c_M_init 100 = .ok (.aload_n 0, 1) := by decide +kernel
theorem d_M_init_101 : decode c_M_init 101 = .ok (.bipush 78, 2) := by decide +kernel
theorem d_M_init_103 : decode c_M_init 103 = .ok (.newarray .boolean, 2) := by decide +kernel
theorem d_M_init_105 : decode c_M_init 105 = .ok (.putfield 48, 3) := by decide +kernel
theorem d_M_init_108 : decode c_M_init 108 = .ok (.aload_n 0, 1) := by decide +kernel
theorem d_M_init_109 : decode c_M_init 109 = .ok (.bipush 6, 2) := by decide +kernel
theorem d_M_init_111 : decode c_M_init 111 = .ok (.newarray .long, 2) := by decide +kernel
theorem d_M_init_113 : decode c_M_init 113 = .ok (.putfield 51, 3) := by decide +kernel
theorem d_M_init_116 : decode c_M_init 116 = .ok (.aload_n 0, 1) := by decide +kernel
theorem d_M_init_117 : decode c_M_init 117 = .ok (.bipush 6, 2) := by decide +kernel
theorem d_M_init_119 : decode c_M_init 119 = .ok (.newarray .boolean, 2) := by decide +kernel
theorem d_M_init_121 : decode c_M_init 121 = .ok (.putfield 54, 3) := by decide +kernel
theorem d_M_init_124 : decode c_M_init 124 = .ok (.aload_n 0, 1) := by decide +kernel
theorem d_M_init_125 : decode c_M_init 125 = .ok (.bipush 16, 2) := by decide +kernel
theorem d_M_init_127 : decode c_M_init 127 = .ok (.newarray .int, 2) := by decide +kernel
theorem d_M_init_129 : decode c_M_init 129 = .ok (.putfield 57, 3) := by decide +kernel
theorem d_M_init_132 : decode c_M_init 132 = .ok (.aload_n 0, 1) := by decide +kernel
theorem d_M_init_133 : decode c_M_init 133 = .ok (.bipush 6, 2) := by decide +kernel
theorem d_M_init_135 : decode c_M_init 135 = .ok (.newarray .int, 2) := by decide +kernel
theorem d_M_init_137 : decode c_M_init 137 = .ok (.putfield 60, 3) := by decide +kernel
theorem d_M_init_140 : decode c_M_init 140 = .ok (.aload_n 0, 1) := by decide +kernel
theorem d_M_init_141 : decode c_M_init 141 = .ok (.bipush 6, 2) := by decide +kernel
theorem d_M_init_143 : decode c_M_init 143 = .ok (.newarray .int, 2) := by decide +kernel
theorem d_M_init_145 : decode c_M_init 145 = .ok (.putfield 63, 3) := by decide +kernel
theorem d_M_init_148 : decode c_M_init 148 = .ok (.aload_n 0, 1) := by decide +kernel
theorem d_M_init_149 : decode c_M_init 149 = .ok (.bipush 24, 2) := by decide +kernel
theorem d_M_init_151 : decode c_M_init 151 = .ok (.newarray .int, 2) := by decide +kernel
theorem d_M_init_153 : decode c_M_init 153 = .ok (.putfield 66, 3) := by decide +kernel
theorem d_M_init_156 : decode c_M_init 156 = .ok (.aload_n 0, 1) := by decide +kernel
theorem d_M_init_157 : decode c_M_init 157 = .ok (.bipush 24, 2) := by decide +kernel
theorem d_M_init_159 : decode c_M_init 159 = .ok (.newarray .int, 2) := by decide +kernel
theorem d_M_init_161 : decode c_M_init 161 = .ok (.putfield 69, 3) := by decide +kernel
theorem d_M_init_164 : decode c_M_init 164 = .ok (.aload_n 0, 1) := by decide +kernel
theorem d_M_init_165 : decode c_M_init 165 = .ok (.bipush 12, 2) := by decide +kernel
theorem d_M_init_167 : decode c_M_init 167 = .ok (.newarray .int, 2) := by decide +kernel
theorem d_M_init_169 : decode c_M_init 169 = .ok (.putfield 72, 3) := by decide +kernel
theorem d_M_init_172 : decode c_M_init 172 = .ok (.aload_n 0, 1) := by decide +kernel
theorem d_M_init_173 : decode c_M_init 173 = .ok (.bipush 24, 2) := by decide +kernel
theorem d_M_init_175 : decode c_M_init 175 = .ok (.newarray .int, 2) := by decide +kernel
theorem d_M_init_177 : decode c_M_init 177 = .ok (.putfield 75, 3) := by decide +kernel
theorem d_M_init_180 : decode c_M_init 180 = .ok (.aload_n 0, 1) := by decide +kernel
theorem d_M_init_181 : decode c_M_init 181 = .ok (.bipush 24, 2) := by decide +kernel
theorem d_M_init_183 : decode c_M_init 183 = .ok (.newarray .int, 2) := by decide +kernel
theorem d_M_init_185 : decode c_M_init 185 = .ok (.putfield 78, 3) := by decide +kernel
theorem d_M_init_188 : decode c_M_init 188 = .ok (.iconst 0, 1) := by decide +kernel
theorem d_M_init_189 : decode c_M_init 189 = .ok (.istore_n 1, 1) := by decide +kernel
theorem d_M_init_190 : decode c_M_init 190 = .ok (.iload_n 1, 1) := by decide +kernel
theorem d_M_init_191 : decode c_M_init 191 = .ok (.iconst 4, 1) := by decide +kernel
theorem d_M_init_192 : decode c_M_init 192 = .ok (.if_icmp .ge 16, 3) := by decide +kernel
theorem d_M_init_195 : decode c_M_init 195 = .ok (.aload_n 0, 1) := by decide +kernel
theorem d_M_init_196 : decode c_M_init 196 = .ok (.getfield 25, 3) := by decide +kernel
theorem d_M_init_199 : decode c_M_init 199 = .ok (.iload_n 1, 1) := by decide +kernel
theorem d_M_init_200 : decode c_M_init 200 = .ok (.iconst (-1), 1) := by decide +kernel
theorem d_M_init_201 : decode c_M_init 201 = .ok (.iastore, 1) := by decide +kernel
theorem d_M_init_202 : decode c_M_init 202 = .ok (.iinc 1 1, 3) := by decide +kernel
theorem d_M_init_205 : decode c_M_init 205 = .ok (.goto (-15), 3) := by decide +kernel
theorem d_M_init_208 : decode c_M_init 208 = .ok (.iconst 0, 1) := by decide +kernel
theorem d_M_init_209 : decode c_M_init 209 = .ok (.istore_n 1, 1) := by decide +kernel
theorem d_M_init_210 : decode c_M_init 210 = .ok (.iload_n 1, 1) := by decide +kernel
theorem d_M_init_211 : decode c_M_init 211 = .ok (.bipush 12, 2) := by decide +kernel
theorem d_M_init_213 : decode c_M_init 213 = .ok (.if_icmp .ge 16, 3) := by decide +kernel
theorem d_M_init_216 : decode c_M_init 216 = .ok (.aload_n 0, 1) := by decide +kernel
theorem d_M_init_217 : decode c_M_init 217 = .ok (.getfield 28, 3) := by decide +kernel
theorem d_M_init_220 : decode c_M_init 220 = .ok (.iload_n 1, 1) := by decide +kernel
theorem d_M_init_221 : decode c_M_init 221 = .ok (.iconst (-1), 1) := by decide +kernel
theorem d_M_init_222 : decode c_M_init 222 = .ok (.iastore, 1) := by decide +kernel
theorem d_M_init_223 : decode c_M_init 223 = .ok (.iinc 1 1, 3) := by decide +kernel
theorem d_M_init_226 : decode c_M_init 226 = .ok (.goto (-16), 3) := by decide +kernel
theorem d_M_init_229 : decode c_M_init 229 = .ok (.return_, 1) := by decide +kernel
