/-! words that the constructors ask for (by program: wip/whole/gen_ctor.py) -/
theorem u_107 : (Jvm.Cond.classLink "PaceStoreLaw" (7 : Nat) "PaceStore") ∈ z_U := z_U_1 (i := 20) rfl rfl
theorem u_108 : (Jvm.Cond.instantiable "PaceStore" (11 : Nat)) ∈ z_U := z_U_1 (i := 21) rfl rfl
theorem u_109 : (Jvm.Cond.methodLink "PaceStoreLaw" (9 : Nat) ({ cls := "PaceStore", name := "<init>", desc := "()V" } : Jvm.MethodName)) ∈ z_U := z_U_1 (i := 22) rfl rfl
theorem u_110 : (Jvm.Cond.instanceMethod ({ cls := "PaceStore", name := "<init>", desc := "()V" } : Jvm.MethodName)) ∈ z_U := z_U_1 (i := 23) rfl rfl
theorem u_111 : (Jvm.Cond.code ({ cls := "PaceStore", name := "<init>", desc := "()V" } : Jvm.MethodName) prog_1_method_1_code (2 : Nat) (Option.none : Option Jvm.ClassFile.FieldType)) ∈ z_U := z_U_1 (i := 24) rfl rfl
theorem u_112 : (Jvm.Cond.methodLink "PaceStore" (1 : Nat) ({ cls := "java/lang/Object", name := "<init>", desc := "()V" } : Jvm.MethodName)) ∈ z_U := z_U_1 (i := 25) rfl rfl
theorem u_113 : (Jvm.Cond.instanceMethod ({ cls := "java/lang/Object", name := "<init>", desc := "()V" } : Jvm.MethodName)) ∈ z_U := z_U_1 (i := 26) rfl rfl
theorem u_114 : (Jvm.Cond.code ({ cls := "java/lang/Object", name := "<init>", desc := "()V" } : Jvm.MethodName) object_method_1_code (1 : Nat) (Option.none : Option Jvm.ClassFile.FieldType)) ∈ z_U := z_U_1 (i := 27) rfl rfl
theorem u_115 : (Jvm.Cond.classLink "PaceStore" (9 : Nat) "PaceStore$Sheet") ∈ z_U := z_U_1 (i := 28) rfl rfl
theorem u_117 : (Jvm.Cond.classLink "PaceStore" (15 : Nat) "PaceStore$Reader") ∈ z_U := z_U_1 (i := 30) rfl rfl
theorem u_118 : (Jvm.Cond.instantiable "PaceStore$Reader" (9 : Nat)) ∈ z_U := z_U_1 (i := 31) rfl rfl
theorem u_120 : (Jvm.Cond.instanceMethod ({ cls := "PaceStore$Reader", name := "<init>", desc := "()V" } : Jvm.MethodName)) ∈ z_U := z_U_1 (i := 33) rfl rfl
theorem u_121 : (Jvm.Cond.code ({ cls := "PaceStore$Reader", name := "<init>", desc := "()V" } : Jvm.MethodName) prog_7_method_1_code (1 : Nat) (Option.none : Option Jvm.ClassFile.FieldType)) ∈ z_U := z_U_1 (i := 34) rfl rfl
theorem u_122 : (Jvm.Cond.methodLink "PaceStore$Reader" (3 : Nat) ({ cls := "java/lang/Object", name := "<init>", desc := "()V" } : Jvm.MethodName)) ∈ z_U := z_U_1 (i := 35) rfl rfl
theorem u_123 : (Jvm.Cond.classLink "PaceStore$Reader" (15 : Nat) "PaceStore$Course") ∈ z_U := z_U_1 (i := 36) rfl rfl
theorem u_124 : (Jvm.Cond.instantiable "PaceStore$Course" (18 : Nat)) ∈ z_U := z_U_1 (i := 37) rfl rfl
theorem u_126 : (Jvm.Cond.instanceMethod ({ cls := "PaceStore$Course", name := "<init>", desc := "()V" } : Jvm.MethodName)) ∈ z_U := z_U_1 (i := 39) rfl rfl
theorem u_127 : (Jvm.Cond.code ({ cls := "PaceStore$Course", name := "<init>", desc := "()V" } : Jvm.MethodName) prog_4_method_1_code (1 : Nat) (Option.none : Option Jvm.ClassFile.FieldType)) ∈ z_U := z_U_1 (i := 40) rfl rfl
theorem u_128 : (Jvm.Cond.methodLink "PaceStore$Course" (3 : Nat) ({ cls := "java/lang/Object", name := "<init>", desc := "()V" } : Jvm.MethodName)) ∈ z_U := z_U_1 (i := 41) rfl rfl
theorem u_223 : (Jvm.Cond.arrayClass Jvm.ClassFile.FieldType.byte) ∈ z_U := z_U_1 (i := 136) rfl rfl
theorem u_224 : (Jvm.Cond.arrayClass Jvm.ClassFile.FieldType.int) ∈ z_U := z_U_1 (i := 137) rfl rfl
theorem u_257 : (Jvm.Cond.classLink "PaceStore" (22 : Nat) "PaceStore$Course") ∈ z_U := z_U_1 (i := 170) rfl rfl
theorem u_259 : (Jvm.Cond.classLink "PaceStore" (29 : Nat) "PaceStore$Results") ∈ z_U := z_U_1 (i := 172) rfl rfl
theorem u_260 : (Jvm.Cond.instantiable "PaceStore$Results" (4 : Nat)) ∈ z_U := z_U_1 (i := 173) rfl rfl
theorem u_262 : (Jvm.Cond.instanceMethod ({ cls := "PaceStore$Results", name := "<init>", desc := "()V" } : Jvm.MethodName)) ∈ z_U := z_U_1 (i := 175) rfl rfl
theorem u_263 : (Jvm.Cond.code ({ cls := "PaceStore$Results", name := "<init>", desc := "()V" } : Jvm.MethodName) prog_8_method_1_code (1 : Nat) (Option.none : Option Jvm.ClassFile.FieldType)) ∈ z_U := z_U_1 (i := 176) rfl rfl
theorem u_264 : (Jvm.Cond.methodLink "PaceStore$Results" (3 : Nat) ({ cls := "java/lang/Object", name := "<init>", desc := "()V" } : Jvm.MethodName)) ∈ z_U := z_U_1 (i := 177) rfl rfl
theorem u_265 : (Jvm.Cond.classLink "PaceStore$Results" (11 : Nat) "[[I") ∈ z_U := z_U_1 (i := 178) rfl rfl
theorem u_287 : (Jvm.Cond.classLink "PaceStore" (44 : Nat) "PaceStore$Field") ∈ z_U := z_U_1 (i := 200) rfl rfl
theorem u_288 : (Jvm.Cond.instantiable "PaceStore$Field" (3 : Nat)) ∈ z_U := z_U_1 (i := 201) rfl rfl
theorem u_289 : (Jvm.Cond.methodLink "PaceStore" (46 : Nat) ({ cls := "PaceStore$Field", name := "<init>", desc := "()V" } : Jvm.MethodName)) ∈ z_U := z_U_1 (i := 202) rfl rfl
theorem u_290 : (Jvm.Cond.instanceMethod ({ cls := "PaceStore$Field", name := "<init>", desc := "()V" } : Jvm.MethodName)) ∈ z_U := z_U_1 (i := 203) rfl rfl
theorem u_291 : (Jvm.Cond.code ({ cls := "PaceStore$Field", name := "<init>", desc := "()V" } : Jvm.MethodName) prog_5_method_1_code (2 : Nat) (Option.none : Option Jvm.ClassFile.FieldType)) ∈ z_U := z_U_1 (i := 204) rfl rfl
theorem u_292 : (Jvm.Cond.methodLink "PaceStore$Field" (3 : Nat) ({ cls := "java/lang/Object", name := "<init>", desc := "()V" } : Jvm.MethodName)) ∈ z_U := z_U_1 (i := 205) rfl rfl
theorem u_293 : (Jvm.Cond.classLink "PaceStore$Field" (9 : Nat) "PaceStore$Body") ∈ z_U := z_U_1 (i := 206) rfl rfl
theorem u_295 : (Jvm.Cond.instantiable "PaceStore$Body" (10 : Nat)) ∈ z_U := z_U_1 (i := 208) rfl rfl
theorem u_297 : (Jvm.Cond.instanceMethod ({ cls := "PaceStore$Body", name := "<init>", desc := "()V" } : Jvm.MethodName)) ∈ z_U := z_U_1 (i := 210) rfl rfl
theorem u_298 : (Jvm.Cond.code ({ cls := "PaceStore$Body", name := "<init>", desc := "()V" } : Jvm.MethodName) prog_3_method_1_code (1 : Nat) (Option.none : Option Jvm.ClassFile.FieldType)) ∈ z_U := z_U_1 (i := 211) rfl rfl
theorem u_299 : (Jvm.Cond.methodLink "PaceStore$Body" (1 : Nat) ({ cls := "java/lang/Object", name := "<init>", desc := "()V" } : Jvm.MethodName)) ∈ z_U := z_U_1 (i := 212) rfl rfl
theorem u_356 : (Jvm.Cond.classLink "PaceStore" (51 : Nat) "PaceStore$Alone") ∈ z_U := z_U_2 (i := 29) rfl rfl
theorem u_357 : (Jvm.Cond.instantiable "PaceStore$Alone" (11 : Nat)) ∈ z_U := z_U_2 (i := 30) rfl rfl
theorem u_358 : (Jvm.Cond.methodLink "PaceStore" (53 : Nat) ({ cls := "PaceStore$Alone", name := "<init>", desc := "()V" } : Jvm.MethodName)) ∈ z_U := z_U_2 (i := 31) rfl rfl
theorem u_359 : (Jvm.Cond.instanceMethod ({ cls := "PaceStore$Alone", name := "<init>", desc := "()V" } : Jvm.MethodName)) ∈ z_U := z_U_2 (i := 32) rfl rfl
theorem u_360 : (Jvm.Cond.code ({ cls := "PaceStore$Alone", name := "<init>", desc := "()V" } : Jvm.MethodName) prog_2_method_1_code (2 : Nat) (Option.none : Option Jvm.ClassFile.FieldType)) ∈ z_U := z_U_2 (i := 33) rfl rfl
theorem u_361 : (Jvm.Cond.methodLink "PaceStore$Alone" (3 : Nat) ({ cls := "java/lang/Object", name := "<init>", desc := "()V" } : Jvm.MethodName)) ∈ z_U := z_U_2 (i := 34) rfl rfl
theorem u_362 : (Jvm.Cond.classLink "PaceStore$Alone" (15 : Nat) "[[I") ∈ z_U := z_U_2 (i := 35) rfl rfl
theorem u_404 : (Jvm.Cond.classLink "PaceStore" (58 : Nat) "PaceStore$Game") ∈ z_U := z_U_2 (i := 77) rfl rfl
theorem u_405 : (Jvm.Cond.instantiable "PaceStore$Game" (2 : Nat)) ∈ z_U := z_U_2 (i := 78) rfl rfl
theorem u_407 : (Jvm.Cond.instanceMethod ({ cls := "PaceStore$Game", name := "<init>", desc := "()V" } : Jvm.MethodName)) ∈ z_U := z_U_2 (i := 80) rfl rfl
theorem u_408 : (Jvm.Cond.code ({ cls := "PaceStore$Game", name := "<init>", desc := "()V" } : Jvm.MethodName) prog_6_method_1_code (1 : Nat) (Option.none : Option Jvm.ClassFile.FieldType)) ∈ z_U := z_U_2 (i := 81) rfl rfl
theorem u_409 : (Jvm.Cond.methodLink "PaceStore$Game" (3 : Nat) ({ cls := "java/lang/Object", name := "<init>", desc := "()V" } : Jvm.MethodName)) ∈ z_U := z_U_2 (i := 82) rfl rfl
theorem u_410 : (Jvm.Cond.classLink "PaceStore$Game" (9 : Nat) "PaceStore$Field") ∈ z_U := z_U_2 (i := 83) rfl rfl
theorem u_411 : (Jvm.Cond.methodLink "PaceStore$Game" (11 : Nat) ({ cls := "PaceStore$Field", name := "<init>", desc := "()V" } : Jvm.MethodName)) ∈ z_U := z_U_2 (i := 84) rfl rfl
theorem u_419 : (Jvm.Cond.classLink "PaceStore" (65 : Nat) "PaceStore$Step") ∈ z_U := z_U_2 (i := 92) rfl rfl
theorem u_420 : (Jvm.Cond.instantiable "PaceStore$Step" (7 : Nat)) ∈ z_U := z_U_2 (i := 93) rfl rfl
theorem u_422 : (Jvm.Cond.instanceMethod ({ cls := "PaceStore$Step", name := "<init>", desc := "()V" } : Jvm.MethodName)) ∈ z_U := z_U_2 (i := 95) rfl rfl
theorem u_423 : (Jvm.Cond.code ({ cls := "PaceStore$Step", name := "<init>", desc := "()V" } : Jvm.MethodName) prog_10_method_1_code (1 : Nat) (Option.none : Option Jvm.ClassFile.FieldType)) ∈ z_U := z_U_2 (i := 96) rfl rfl
theorem u_424 : (Jvm.Cond.methodLink "PaceStore$Step" (1 : Nat) ({ cls := "java/lang/Object", name := "<init>", desc := "()V" } : Jvm.MethodName)) ∈ z_U := z_U_2 (i := 97) rfl rfl
theorem u_449 : (Jvm.Cond.instantiable "PaceStore$Sheet" (3 : Nat)) ∈ z_U := z_U_2 (i := 122) rfl rfl
theorem u_451 : (Jvm.Cond.instanceMethod ({ cls := "PaceStore$Sheet", name := "<init>", desc := "()V" } : Jvm.MethodName)) ∈ z_U := z_U_2 (i := 124) rfl rfl
theorem u_452 : (Jvm.Cond.code ({ cls := "PaceStore$Sheet", name := "<init>", desc := "()V" } : Jvm.MethodName) prog_9_method_1_code (1 : Nat) (Option.none : Option Jvm.ClassFile.FieldType)) ∈ z_U := z_U_2 (i := 125) rfl rfl
theorem u_453 : (Jvm.Cond.methodLink "PaceStore$Sheet" (3 : Nat) ({ cls := "java/lang/Object", name := "<init>", desc := "()V" } : Jvm.MethodName)) ∈ z_U := z_U_2 (i := 126) rfl rfl
theorem u_1103 : (Jvm.Cond.classLink "PaceStoreLaw" (10 : Nat) "PaceStoreModel") ∈ z_U := z_U_5 (i := 56) rfl rfl
theorem u_1104 : (Jvm.Cond.instantiable "PaceStoreModel" (30 : Nat)) ∈ z_U := z_U_5 (i := 57) rfl rfl
theorem u_1105 : (Jvm.Cond.methodLink "PaceStoreLaw" (12 : Nat) ({ cls := "PaceStoreModel", name := "<init>", desc := "()V" } : Jvm.MethodName)) ∈ z_U := z_U_5 (i := 58) rfl rfl
theorem u_1106 : (Jvm.Cond.instanceMethod ({ cls := "PaceStoreModel", name := "<init>", desc := "()V" } : Jvm.MethodName)) ∈ z_U := z_U_5 (i := 59) rfl rfl
theorem u_1107 : (Jvm.Cond.code ({ cls := "PaceStoreModel", name := "<init>", desc := "()V" } : Jvm.MethodName) prog_12_method_1_code (1 : Nat) (Option.none : Option Jvm.ClassFile.FieldType)) ∈ z_U := z_U_5 (i := 60) rfl rfl
theorem u_1108 : (Jvm.Cond.methodLink "PaceStoreModel" (1 : Nat) ({ cls := "java/lang/Object", name := "<init>", desc := "()V" } : Jvm.MethodName)) ∈ z_U := z_U_5 (i := 61) rfl rfl
theorem u_1200 : (Jvm.Cond.arrayClass Jvm.ClassFile.FieldType.boolean) ∈ z_U := z_U_5 (i := 153) rfl rfl
