theorem la_X_cl : (Jvm.Cond.classLink "LabelledFlowsLaw" (7 : Nat) "LabelledFlows") ∈ lw_w := wd_10
theorem la_X_in : (Jvm.Cond.instantiable "LabelledFlows" (5 : Nat)) ∈ lw_w := wd_11
theorem la_X_ini : (Jvm.Cond.initialized "LabelledFlows") ∈ lw_w := wd_1
theorem la_X_ml : (Jvm.Cond.methodLink "LabelledFlowsLaw" (9 : Nat) ({ cls := "LabelledFlows", name := "<init>", desc := "()V" } : Jvm.MethodName)) ∈ lw_w := wd_12
theorem la_X_co : (Jvm.Cond.code ({ cls := "LabelledFlows", name := "<init>", desc := "()V" } : Jvm.MethodName) prog_1_method_1_code (1 : Nat) (Option.none : Option Jvm.ClassFile.FieldType)) ∈ lw_w := wd_14
theorem la_X_im : (Jvm.Cond.instanceMethod ({ cls := "LabelledFlows", name := "<init>", desc := "()V" } : Jvm.MethodName)) ∈ lw_w := wd_13
theorem la_M_cl : (Jvm.Cond.classLink "LabelledFlowsLaw" (10 : Nat) "LabelledFlowsModel") ∈ lw_w := wd_519
theorem la_M_in : (Jvm.Cond.instantiable "LabelledFlowsModel" (30 : Nat)) ∈ lw_w := wd_520
theorem la_M_ini : (Jvm.Cond.initialized "LabelledFlowsModel") ∈ lw_w := wd_7
theorem la_M_ml : (Jvm.Cond.methodLink "LabelledFlowsLaw" (12 : Nat) ({ cls := "LabelledFlowsModel", name := "<init>", desc := "()V" } : Jvm.MethodName)) ∈ lw_w := wd_521
theorem la_M_co : (Jvm.Cond.code ({ cls := "LabelledFlowsModel", name := "<init>", desc := "()V" } : Jvm.MethodName) prog_7_method_1_code (2 : Nat) (Option.none : Option Jvm.ClassFile.FieldType)) ∈ lw_w := wd_523
theorem la_M_im : (Jvm.Cond.instanceMethod ({ cls := "LabelledFlowsModel", name := "<init>", desc := "()V" } : Jvm.MethodName)) ∈ lw_w := wd_522
theorem la_inst_X : (Jvm.Cond.instantiable "LabelledFlows" (5 : Nat)) ∈ lw_w := wd_11
theorem la_inst_P : (Jvm.Cond.instantiable "LabelledFlows$Program" (12 : Nat)) ∈ lw_w := wd_19
theorem la_inst_Q : (Jvm.Cond.instantiable "LabelledFlows$Pointing" (6 : Nat)) ∈ lw_w := wd_91
theorem la_inst_F : (Jvm.Cond.instantiable "LabelledFlows$Flow" (7 : Nat)) ∈ lw_w := wd_120
theorem la_inst_A : (Jvm.Cond.instantiable "LabelledFlows$Machine" (13 : Nat)) ∈ lw_w := wd_148
theorem la_inst_M : (Jvm.Cond.instantiable "LabelledFlowsModel" (30 : Nat)) ∈ lw_w := wd_520
theorem la_arr_I : (Jvm.Cond.arrayClass Jvm.ClassFile.FieldType.int) ∈ lw_w := wd_89
theorem la_arr_Z : (Jvm.Cond.arrayClass Jvm.ClassFile.FieldType.boolean) ∈ lw_w := wd_616
theorem la_arr_J : (Jvm.Cond.arrayClass Jvm.ClassFile.FieldType.long) ∈ lw_w := wd_617
theorem ct_b25 : (Jvm.Cond.fieldLink "LabelledFlowsModel" (25 : Nat) "LabelledFlowsModel" "parent" "[I") ∈ lw_w := wd_530
theorem ct_b28 : (Jvm.Cond.fieldLink "LabelledFlowsModel" (28 : Nat) "LabelledFlowsModel" "bound" "[I") ∈ lw_w := wd_531
