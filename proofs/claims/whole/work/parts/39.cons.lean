theorem kw1_6 : (Jvm.Cond.initialized "IntraPicture$Rows") ∈ ipW := ip_w1 6 rfl rfl
theorem kw1_23 : (Jvm.Cond.methodLink "IntraPicture" (3 : Nat) ({ cls := "java/lang/Object", name := "<init>", desc := "()V" } : Jvm.MethodName)) ∈ ipW := ip_w1 23 rfl rfl
theorem kw1_24 : (Jvm.Cond.instanceMethod ({ cls := "java/lang/Object", name := "<init>", desc := "()V" } : Jvm.MethodName)) ∈ ipW := ip_w1 24 rfl rfl
theorem kw1_25 : (Jvm.Cond.code ({ cls := "java/lang/Object", name := "<init>", desc := "()V" } : Jvm.MethodName) object_method_1_code (1 : Nat) (Option.none : Option Jvm.ClassFile.FieldType)) ∈ ipW := ip_w1 25 rfl rfl
theorem kw1_26 : (Jvm.Cond.classLink "IntraPicture" (9 : Nat) "IntraPicture$FedBytes") ∈ ipW := ip_w1 26 rfl rfl
theorem kw1_27 : (Jvm.Cond.instantiable "IntraPicture$FedBytes" (4 : Nat)) ∈ ipW := ip_w1 27 rfl rfl
theorem kw1_29 : (Jvm.Cond.instanceMethod ({ cls := "IntraPicture$FedBytes", name := "<init>", desc := "()V" } : Jvm.MethodName)) ∈ ipW := ip_w1 29 rfl rfl
theorem kw1_30 : (Jvm.Cond.code ({ cls := "IntraPicture$FedBytes", name := "<init>", desc := "()V" } : Jvm.MethodName) prog_3_method_1_code (1 : Nat) (Option.none : Option Jvm.ClassFile.FieldType)) ∈ ipW := ip_w1 30 rfl rfl
theorem kw1_31 : (Jvm.Cond.methodLink "IntraPicture$FedBytes" (3 : Nat) ({ cls := "java/lang/Object", name := "<init>", desc := "()V" } : Jvm.MethodName)) ∈ ipW := ip_w1 31 rfl rfl
theorem kw1_48 : (Jvm.Cond.arrayClass Jvm.ClassFile.FieldType.int) ∈ ipW := ip_w1 48 rfl rfl
theorem kw1_49 : (Jvm.Cond.classLink "IntraPicture" (16 : Nat) "IntraPicture$RestBits") ∈ ipW := ip_w1 49 rfl rfl
theorem kw1_50 : (Jvm.Cond.instantiable "IntraPicture$RestBits" (3 : Nat)) ∈ ipW := ip_w1 50 rfl rfl
theorem kw1_51 : (Jvm.Cond.methodLink "IntraPicture" (22 : Nat) ({ cls := "IntraPicture$RestBits", name := "<init>", desc := "([I)V" } : Jvm.MethodName)) ∈ ipW := ip_w1 51 rfl rfl
theorem kw1_52 : (Jvm.Cond.instanceMethod ({ cls := "IntraPicture$RestBits", name := "<init>", desc := "([I)V" } : Jvm.MethodName)) ∈ ipW := ip_w1 52 rfl rfl
theorem kw1_53 : (Jvm.Cond.code ({ cls := "IntraPicture$RestBits", name := "<init>", desc := "([I)V" } : Jvm.MethodName) prog_11_method_1_code (2 : Nat) (Option.none : Option Jvm.ClassFile.FieldType)) ∈ ipW := ip_w1 53 rfl rfl
theorem kw1_54 : (Jvm.Cond.methodLink "IntraPicture$RestBits" (1 : Nat) ({ cls := "java/lang/Object", name := "<init>", desc := "()V" } : Jvm.MethodName)) ∈ ipW := ip_w1 54 rfl rfl
theorem kw1_65 : (Jvm.Cond.classLink "IntraPicture" (29 : Nat) "IntraPicture$Parameters") ∈ ipW := ip_w1 65 rfl rfl
theorem kw1_66 : (Jvm.Cond.instantiable "IntraPicture$Parameters" (5 : Nat)) ∈ ipW := ip_w1 66 rfl rfl
theorem kw1_67 : (Jvm.Cond.methodLink "IntraPicture" (31 : Nat) ({ cls := "IntraPicture$Parameters", name := "<init>", desc := "(LIntraPicture$RestBits;)V" } : Jvm.MethodName)) ∈ ipW := ip_w1 67 rfl rfl
theorem kw1_68 : (Jvm.Cond.instanceMethod ({ cls := "IntraPicture$Parameters", name := "<init>", desc := "(LIntraPicture$RestBits;)V" } : Jvm.MethodName)) ∈ ipW := ip_w1 68 rfl rfl
theorem kw1_69 : (Jvm.Cond.code ({ cls := "IntraPicture$Parameters", name := "<init>", desc := "(LIntraPicture$RestBits;)V" } : Jvm.MethodName) prog_7_method_1_code (2 : Nat) (Option.none : Option Jvm.ClassFile.FieldType)) ∈ ipW := ip_w1 69 rfl rfl
theorem kw1_70 : (Jvm.Cond.methodLink "IntraPicture$Parameters" (3 : Nat) ({ cls := "java/lang/Object", name := "<init>", desc := "()V" } : Jvm.MethodName)) ∈ ipW := ip_w1 70 rfl rfl
theorem kw1_89 : (Jvm.Cond.classLink "IntraPicture" (38 : Nat) "IntraPicture$BinDecoder") ∈ ipW := ip_w1 89 rfl rfl
theorem kw1_90 : (Jvm.Cond.instantiable "IntraPicture$BinDecoder" (5 : Nat)) ∈ ipW := ip_w1 90 rfl rfl
theorem kw1_91 : (Jvm.Cond.methodLink "IntraPicture" (40 : Nat) ({ cls := "IntraPicture$BinDecoder", name := "<init>", desc := "(LIntraPicture$RestBits;)V" } : Jvm.MethodName)) ∈ ipW := ip_w1 91 rfl rfl
theorem kw1_92 : (Jvm.Cond.instanceMethod ({ cls := "IntraPicture$BinDecoder", name := "<init>", desc := "(LIntraPicture$RestBits;)V" } : Jvm.MethodName)) ∈ ipW := ip_w1 92 rfl rfl
theorem kw1_93 : (Jvm.Cond.code ({ cls := "IntraPicture$BinDecoder", name := "<init>", desc := "(LIntraPicture$RestBits;)V" } : Jvm.MethodName) prog_2_method_1_code (2 : Nat) (Option.none : Option Jvm.ClassFile.FieldType)) ∈ ipW := ip_w1 93 rfl rfl
theorem kw1_94 : (Jvm.Cond.methodLink "IntraPicture$BinDecoder" (1 : Nat) ({ cls := "java/lang/Object", name := "<init>", desc := "()V" } : Jvm.MethodName)) ∈ ipW := ip_w1 94 rfl rfl
theorem kw1_113 : (Jvm.Cond.classLink "IntraPicture" (45 : Nat) "IntraPicture$Rows") ∈ ipW := ip_w1 113 rfl rfl
theorem kw1_114 : (Jvm.Cond.instantiable "IntraPicture$Rows" (6 : Nat)) ∈ ipW := ip_w1 114 rfl rfl
theorem kw1_116 : (Jvm.Cond.instanceMethod ({ cls := "IntraPicture$Rows", name := "<init>", desc := "()V" } : Jvm.MethodName)) ∈ ipW := ip_w1 116 rfl rfl
theorem kw1_117 : (Jvm.Cond.code ({ cls := "IntraPicture$Rows", name := "<init>", desc := "()V" } : Jvm.MethodName) prog_12_method_1_code (1 : Nat) (Option.none : Option Jvm.ClassFile.FieldType)) ∈ ipW := ip_w1 117 rfl rfl
theorem kw1_118 : (Jvm.Cond.methodLink "IntraPicture$Rows" (3 : Nat) ({ cls := "java/lang/Object", name := "<init>", desc := "()V" } : Jvm.MethodName)) ∈ ipW := ip_w1 118 rfl rfl
theorem kw1_119 : (Jvm.Cond.fieldLink "IntraPicture$Rows" (9 : Nat) "IntraPicture$Rows" "samples" "[I") ∈ ipW := ip_w1 119 rfl rfl
theorem kw1_122 : (Jvm.Cond.fieldLink "IntraPicture$Rows" (15 : Nat) "IntraPicture$Rows" "plain" "[I") ∈ ipW := ip_w1 122 rfl rfl
theorem kw1_126 : (Jvm.Cond.fieldLink "IntraPicture$Rows" (18 : Nat) "IntraPicture$Rows" "predicted" "[I") ∈ ipW := ip_w1 126 rfl rfl
theorem kw1_130 : (Jvm.Cond.fieldLink "IntraPicture$Rows" (21 : Nat) "IntraPicture$Rows" "levels" "[I") ∈ ipW := ip_w1 130 rfl rfl
theorem kw1_131 : (Jvm.Cond.fieldLink "IntraPicture$Picture" (32 : Nat) "IntraPicture$Rows" "levels" "[I") ∈ ipW := ip_w1 131 rfl rfl
theorem kw1_133 : (Jvm.Cond.fieldLink "IntraPicture$Rows" (24 : Nat) "IntraPicture$Rows" "modes" "[I") ∈ ipW := ip_w1 133 rfl rfl
theorem kw1_136 : (Jvm.Cond.fieldLink "IntraPicture$Rows" (27 : Nat) "IntraPicture$Rows" "sides" "[I") ∈ ipW := ip_w1 136 rfl rfl
theorem kw1_153 : (Jvm.Cond.classLink "IntraPicture" (52 : Nat) "IntraPicture$Picture") ∈ ipW := ip_w1 153 rfl rfl
theorem kw1_154 : (Jvm.Cond.instantiable "IntraPicture$Picture" (9 : Nat)) ∈ ipW := ip_w1 154 rfl rfl
theorem kw1_155 : (Jvm.Cond.methodLink "IntraPicture" (57 : Nat) ({ cls := "IntraPicture$Picture", name := "<init>", desc := "(LIntraPicture$BinDecoder;[ILIntraPicture$Rows;)V" } : Jvm.MethodName)) ∈ ipW := ip_w1 155 rfl rfl
theorem kw1_156 : (Jvm.Cond.instanceMethod ({ cls := "IntraPicture$Picture", name := "<init>", desc := "(LIntraPicture$BinDecoder;[ILIntraPicture$Rows;)V" } : Jvm.MethodName)) ∈ ipW := ip_w1 156 rfl rfl
theorem kw1_157 : (Jvm.Cond.code ({ cls := "IntraPicture$Picture", name := "<init>", desc := "(LIntraPicture$BinDecoder;[ILIntraPicture$Rows;)V" } : Jvm.MethodName) prog_8_method_1_code (4 : Nat) (Option.none : Option Jvm.ClassFile.FieldType)) ∈ ipW := ip_w1 157 rfl rfl
theorem kw1_158 : (Jvm.Cond.methodLink "IntraPicture$Picture" (3 : Nat) ({ cls := "java/lang/Object", name := "<init>", desc := "()V" } : Jvm.MethodName)) ∈ ipW := ip_w1 158 rfl rfl
theorem kw1_159 : (Jvm.Cond.classLink "IntraPicture$Picture" (9 : Nat) "IntraPicture$Leaf") ∈ ipW := ip_w1 159 rfl rfl
theorem kw1_160 : (Jvm.Cond.instantiable "IntraPicture$Leaf" (5 : Nat)) ∈ ipW := ip_w1 160 rfl rfl
theorem kw1_162 : (Jvm.Cond.instanceMethod ({ cls := "IntraPicture$Leaf", name := "<init>", desc := "()V" } : Jvm.MethodName)) ∈ ipW := ip_w1 162 rfl rfl
theorem kw1_163 : (Jvm.Cond.code ({ cls := "IntraPicture$Leaf", name := "<init>", desc := "()V" } : Jvm.MethodName) prog_5_method_1_code (1 : Nat) (Option.none : Option Jvm.ClassFile.FieldType)) ∈ ipW := ip_w1 163 rfl rfl
theorem kw1_164 : (Jvm.Cond.methodLink "IntraPicture$Leaf" (1 : Nat) ({ cls := "java/lang/Object", name := "<init>", desc := "()V" } : Jvm.MethodName)) ∈ ipW := ip_w1 164 rfl rfl
theorem kw1_191 : (Jvm.Cond.classLink "IntraPicture$Picture" (30 : Nat) "IntraPicture$LevelReader") ∈ ipW := ip_w1 191 rfl rfl
theorem kw1_192 : (Jvm.Cond.instantiable "IntraPicture$LevelReader" (6 : Nat)) ∈ ipW := ip_w1 192 rfl rfl
theorem kw1_193 : (Jvm.Cond.methodLink "IntraPicture$Picture" (37 : Nat) ({ cls := "IntraPicture$LevelReader", name := "<init>", desc := "(LIntraPicture$BinDecoder;[I)V" } : Jvm.MethodName)) ∈ ipW := ip_w1 193 rfl rfl
theorem kw1_194 : (Jvm.Cond.instanceMethod ({ cls := "IntraPicture$LevelReader", name := "<init>", desc := "(LIntraPicture$BinDecoder;[I)V" } : Jvm.MethodName)) ∈ ipW := ip_w1 194 rfl rfl
theorem kw1_195 : (Jvm.Cond.code ({ cls := "IntraPicture$LevelReader", name := "<init>", desc := "(LIntraPicture$BinDecoder;[I)V" } : Jvm.MethodName) prog_6_method_1_code (3 : Nat) (Option.none : Option Jvm.ClassFile.FieldType)) ∈ ipW := ip_w1 195 rfl rfl
theorem kw1_196 : (Jvm.Cond.methodLink "IntraPicture$LevelReader" (3 : Nat) ({ cls := "java/lang/Object", name := "<init>", desc := "()V" } : Jvm.MethodName)) ∈ ipW := ip_w1 196 rfl rfl
theorem kw1_216 : (Jvm.Cond.classLink "IntraPicture$Picture" (44 : Nat) "IntraPicture$Residuals") ∈ ipW := ip_w1 216 rfl rfl
theorem kw1_217 : (Jvm.Cond.instantiable "IntraPicture$Residuals" (4 : Nat)) ∈ ipW := ip_w1 217 rfl rfl
theorem kw1_218 : (Jvm.Cond.methodLink "IntraPicture$Picture" (46 : Nat) ({ cls := "IntraPicture$Residuals", name := "<init>", desc := "([I)V" } : Jvm.MethodName)) ∈ ipW := ip_w1 218 rfl rfl
theorem kw1_219 : (Jvm.Cond.instanceMethod ({ cls := "IntraPicture$Residuals", name := "<init>", desc := "([I)V" } : Jvm.MethodName)) ∈ ipW := ip_w1 219 rfl rfl
theorem kw1_220 : (Jvm.Cond.code ({ cls := "IntraPicture$Residuals", name := "<init>", desc := "([I)V" } : Jvm.MethodName) prog_10_method_1_code (2 : Nat) (Option.none : Option Jvm.ClassFile.FieldType)) ∈ ipW := ip_w1 220 rfl rfl
theorem kw1_221 : (Jvm.Cond.methodLink "IntraPicture$Residuals" (1 : Nat) ({ cls := "java/lang/Object", name := "<init>", desc := "()V" } : Jvm.MethodName)) ∈ ipW := ip_w1 221 rfl rfl
theorem kw1_236 : (Jvm.Cond.classLink "IntraPicture$Picture" (53 : Nat) "IntraPicture$Predictor") ∈ ipW := ip_w1 236 rfl rfl
theorem kw1_237 : (Jvm.Cond.instantiable "IntraPicture$Predictor" (4 : Nat)) ∈ ipW := ip_w1 237 rfl rfl
theorem kw1_238 : (Jvm.Cond.methodLink "IntraPicture$Picture" (55 : Nat) ({ cls := "IntraPicture$Predictor", name := "<init>", desc := "(LIntraPicture$Rows;)V" } : Jvm.MethodName)) ∈ ipW := ip_w1 238 rfl rfl
theorem kw1_239 : (Jvm.Cond.instanceMethod ({ cls := "IntraPicture$Predictor", name := "<init>", desc := "(LIntraPicture$Rows;)V" } : Jvm.MethodName)) ∈ ipW := ip_w1 239 rfl rfl
theorem kw2_0 : (Jvm.Cond.code ({ cls := "IntraPicture$Predictor", name := "<init>", desc := "(LIntraPicture$Rows;)V" } : Jvm.MethodName) prog_9_method_1_code (2 : Nat) (Option.none : Option Jvm.ClassFile.FieldType)) ∈ ipW := ip_w2 0 rfl rfl
theorem kw2_1 : (Jvm.Cond.methodLink "IntraPicture$Predictor" (3 : Nat) ({ cls := "java/lang/Object", name := "<init>", desc := "()V" } : Jvm.MethodName)) ∈ ipW := ip_w2 1 rfl rfl
theorem kw2_15 : (Jvm.Cond.classLink "IntraPicture$Picture" (62 : Nat) "IntraPicture$Finish") ∈ ipW := ip_w2 15 rfl rfl
theorem kw2_16 : (Jvm.Cond.instantiable "IntraPicture$Finish" (2 : Nat)) ∈ ipW := ip_w2 16 rfl rfl
theorem kw2_17 : (Jvm.Cond.methodLink "IntraPicture$Picture" (67 : Nat) ({ cls := "IntraPicture$Finish", name := "<init>", desc := "([I)V" } : Jvm.MethodName)) ∈ ipW := ip_w2 17 rfl rfl
theorem kw2_18 : (Jvm.Cond.instanceMethod ({ cls := "IntraPicture$Finish", name := "<init>", desc := "([I)V" } : Jvm.MethodName)) ∈ ipW := ip_w2 18 rfl rfl
theorem kw2_19 : (Jvm.Cond.code ({ cls := "IntraPicture$Finish", name := "<init>", desc := "([I)V" } : Jvm.MethodName) prog_4_method_1_code (2 : Nat) (Option.none : Option Jvm.ClassFile.FieldType)) ∈ ipW := ip_w2 19 rfl rfl
theorem kw2_20 : (Jvm.Cond.methodLink "IntraPicture$Finish" (3 : Nat) ({ cls := "java/lang/Object", name := "<init>", desc := "()V" } : Jvm.MethodName)) ∈ ipW := ip_w2 20 rfl rfl
theorem kw3_186 : (Jvm.Cond.methodLink "IntraPictureModel" (1 : Nat) ({ cls := "java/lang/Object", name := "<init>", desc := "()V" } : Jvm.MethodName)) ∈ ipW := ip_w3 186 rfl rfl
theorem kw4_44 : (Jvm.Cond.arrayClass Jvm.ClassFile.FieldType.boolean) ∈ ipW := ip_w4 44 rfl rfl
abbrev cFB_init : ByteArray := prog_3_method_1_code
def yFB_init : MethodName := ⟨kR_FB, "<init>", "()V"⟩
def wsFB_init : List Cond := .code yFB_init cFB_init 1 none :: ipW
theorem dFB_init_0 : decode cFB_init 0 = .ok (.aload_n 0, 1) := by decide +kernel
theorem dFB_init_1 : decode cFB_init 1 = .ok (.invokespecial 3, 3) := by decide +kernel
theorem dFB_init_4 : decode cFB_init 4 = .ok (.aload_n 0, 1) := by decide +kernel
theorem dFB_init_5 : decode cFB_init 5 = .ok (.sipush 240, 3) := by decide +kernel
theorem dFB_init_8 : decode cFB_init 8 = .ok (.newarray .int, 2) := by decide +kernel
theorem dFB_init_10 : decode cFB_init 10 = .ok (.putfield 11, 3) := by decide +kernel
theorem dFB_init_13 : decode cFB_init 13 = .ok (.aload_n 0, 1) := by decide +kernel
theorem dFB_init_14 : decode cFB_init 14 = .ok (.sipush 240, 3) := by decide +kernel
theorem dFB_init_17 : decode cFB_init 17 = .ok (.newarray .int, 2) := by decide +kernel
theorem dFB_init_19 : decode cFB_init 19 = .ok (.putfield 15, 3) := by decide +kernel
theorem dFB_init_22 : decode cFB_init 22 = .ok (.return_, 1) := by decide +kernel
abbrev cRB_init : ByteArray := prog_11_method_1_code
def yRB_init : MethodName := ⟨kR_RB, "<init>", "([I)V"⟩
def wsRB_init : List Cond := .code yRB_init cRB_init 2 none :: ipW
theorem dRB_init_0 : decode cRB_init 0 = .ok (.aload_n 0, 1) := by decide +kernel
theorem dRB_init_1 : decode cRB_init 1 = .ok (.invokespecial 1, 3) := by decide +kernel
theorem dRB_init_4 : decode cRB_init 4 = .ok (.aload_n 0, 1) := by decide +kernel
theorem dRB_init_5 : decode cRB_init 5 = .ok (.aload_n 1, 1) := by decide +kernel
theorem dRB_init_6 : decode cRB_init 6 = .ok (.putfield 7, 3) := by decide +kernel
theorem dRB_init_9 : decode cRB_init 9 = .ok (.return_, 1) := by decide +kernel
abbrev cPA_init : ByteArray := prog_7_method_1_code
def yPA_init : MethodName := ⟨kR_PA, "<init>", "(LIntraPicture$RestBits;)V"⟩
def wsPA_init : List Cond := .code yPA_init cPA_init 2 none :: ipW
theorem dPA_init_0 : decode cPA_init 0 = .ok (.aload_n 0, 1) := by decide +kernel
theorem dPA_init_1 : decode cPA_init 1 = .ok (.invokespecial 3, 3) := by decide +kernel
theorem dPA_init_4 : decode cPA_init 4 = .ok (.aload_n 0, 1) := by decide +kernel
theorem dPA_init_5 : decode cPA_init 5 = .ok (.bipush 10, 2) := by decide +kernel
theorem dPA_init_7 : decode cPA_init 7 = .ok (.newarray .int, 2) := by decide +kernel
theorem dPA_init_9 : decode cPA_init 9 = .ok (.putfield 9, 3) := by decide +kernel
theorem dPA_init_12 : decode cPA_init 12 = .ok (.aload_n 0, 1) := by decide +kernel
theorem dPA_init_13 : decode cPA_init 13 = .ok (.bipush 10, 2) := by decide +kernel
theorem dPA_init_15 : decode cPA_init 15 = .ok (.newarray .int, 2) := by decide +kernel
theorem dPA_init_17 : decode cPA_init 17 = .ok (.putfield 15, 3) := by decide +kernel
theorem dPA_init_20 : decode cPA_init 20 = .ok (.aload_n 0, 1) := by decide +kernel
theorem dPA_init_21 : decode cPA_init 21 = .ok (.aload_n 1, 1) := by decide +kernel
theorem dPA_init_22 : decode cPA_init 22 = .ok (.putfield 18, 3) := by decide +kernel
theorem dPA_init_25 : decode cPA_init 25 = .ok (.return_, 1) := by decide +kernel
abbrev cBD_init : ByteArray := prog_2_method_1_code
def yBD_init : MethodName := ⟨kR_BD, "<init>", "(LIntraPicture$RestBits;)V"⟩
def wsBD_init : List Cond := .code yBD_init cBD_init 2 none :: ipW
theorem dBD_init_0 : decode cBD_init 0 = .ok (.aload_n 0, 1) := by decide +kernel
theorem dBD_init_1 : decode cBD_init 1 = .ok (.invokespecial 1, 3) := by decide +kernel
theorem dBD_init_4 : decode cBD_init 4 = .ok (.aload_n 0, 1) := by decide +kernel
theorem dBD_init_5 : decode cBD_init 5 = .ok (.bipush 14, 2) := by decide +kernel
theorem dBD_init_7 : decode cBD_init 7 = .ok (.newarray .int, 2) := by decide +kernel
theorem dBD_init_9 : decode cBD_init 9 = .ok (.putfield 9, 3) := by decide +kernel
theorem dBD_init_12 : decode cBD_init 12 = .ok (.aload_n 0, 1) := by decide +kernel
theorem dBD_init_13 : decode cBD_init 13 = .ok (.iconst 3, 1) := by decide +kernel
theorem dBD_init_14 : decode cBD_init 14 = .ok (.newarray .int, 2) := by decide +kernel
theorem dBD_init_16 : decode cBD_init 16 = .ok (.putfield 13, 3) := by decide +kernel
theorem dBD_init_19 : decode cBD_init 19 = .ok (.aload_n 0, 1) := by decide +kernel
theorem dBD_init_20 : decode cBD_init 20 = .ok (.aload_n 1, 1) := by decide +kernel
theorem dBD_init_21 : decode cBD_init 21 = .ok (.putfield 16, 3) := by decide +kernel
theorem dBD_init_24 : decode cBD_init 24 = .ok (.return_, 1) := by decide +kernel
abbrev cLF_init : ByteArray := prog_5_method_1_code
def yLF_init : MethodName := ⟨kR_LF, "<init>", "()V"⟩
def wsLF_init : List Cond := .code yLF_init cLF_init 1 none :: ipW
theorem dLF_init_0 : decode cLF_init 0 = .ok (.aload_n 0, 1) := by decide +kernel
theorem dLF_init_1 : decode cLF_init 1 = .ok (.invokespecial 1, 3) := by decide +kernel
theorem dLF_init_4 : decode cLF_init 4 = .ok (.return_, 1) := by decide +kernel
abbrev cRW_init : ByteArray := prog_12_method_1_code
def yRW_init : MethodName := ⟨kR_RW, "<init>", "()V"⟩
def wsRW_init : List Cond := .code yRW_init cRW_init 1 none :: ipW
theorem dRW_init_0 : decode cRW_init 0 = .ok (.aload_n 0, 1) := by decide +kernel
theorem dRW_init_1 : decode cRW_init 1 = .ok (.invokespecial 3, 3) := by decide +kernel
theorem dRW_init_4 : decode cRW_init 4 = .ok (.aload_n 0, 1) := by decide +kernel
theorem dRW_init_5 : decode cRW_init 5 = .ok (.sipush 256, 3) := by decide +kernel
theorem dRW_init_8 : decode cRW_init 8 = .ok (.newarray .int, 2) := by decide +kernel
theorem dRW_init_10 : decode cRW_init 10 = .ok (.putfield 9, 3) := by decide +kernel
theorem dRW_init_13 : decode cRW_init 13 = .ok (.aload_n 0, 1) := by decide +kernel
theorem dRW_init_14 : decode cRW_init 14 = .ok (.sipush 256, 3) := by decide +kernel
theorem dRW_init_17 : decode cRW_init 17 = .ok (.newarray .int, 2) := by decide +kernel
theorem dRW_init_19 : decode cRW_init 19 = .ok (.putfield 15, 3) := by decide +kernel
theorem dRW_init_22 : decode cRW_init 22 = .ok (.aload_n 0, 1) := by decide +kernel
theorem dRW_init_23 : decode cRW_init 23 = .ok (.sipush 256, 3) := by decide +kernel
theorem dRW_init_26 : decode cRW_init 26 = .ok (.newarray .int, 2) := by decide +kernel
theorem dRW_init_28 : decode cRW_init 28 = .ok (.putfield 18, 3) := by decide +kernel
theorem dRW_init_31 : decode cRW_init 31 = .ok (.aload_n 0, 1) := by decide +kernel
theorem dRW_init_32 : decode cRW_init 32 = .ok (.sipush 256, 3) := by decide +kernel
theorem dRW_init_35 : decode cRW_init 35 = .ok (.newarray .int, 2) := by decide +kernel
theorem dRW_init_37 : decode cRW_init 37 = .ok (.putfield 21, 3) := by decide +kernel
theorem dRW_init_40 : decode cRW_init 40 = .ok (.aload_n 0, 1) := by decide +kernel
theorem dRW_init_41 : decode cRW_init 41 = .ok (.sipush 256, 3) := by decide +kernel
theorem dRW_init_44 : decode cRW_init 44 = .ok (.newarray .int, 2) := by decide +kernel
theorem dRW_init_46 : decode cRW_init 46 = .ok (.putfield 24, 3) := by decide +kernel
theorem dRW_init_49 : decode cRW_init 49 = .ok (.aload_n 0, 1) := by decide +kernel
theorem dRW_init_50 : decode cRW_init 50 = .ok (.sipush 256, 3) := by decide +kernel
theorem dRW_init_53 : decode cRW_init 53 = .ok (.newarray .int, 2) := by decide +kernel
theorem dRW_init_55 : decode cRW_init 55 = .ok (.putfield 27, 3) := by decide +kernel
theorem dRW_init_58 : decode cRW_init 58 = .ok (.return_, 1) := by decide +kernel
abbrev cLR_init : ByteArray := prog_6_method_1_code
def yLR_init : MethodName := ⟨kR_LR, "<init>", "(LIntraPicture$BinDecoder;[I)V"⟩
def wsLR_init : List Cond := .code yLR_init cLR_init 3 none :: ipW
theorem dLR_init_0 : decode cLR_init 0 = .ok (.aload_n 0, 1) := by decide +kernel
theorem dLR_init_1 : decode cLR_init 1 = .ok (.invokespecial 3, 3) := by decide +kernel
theorem dLR_init_4 : decode cLR_init 4 = .ok (.aload_n 0, 1) := by decide +kernel
theorem dLR_init_5 : decode cLR_init 5 = .ok (.bipush 16, 2) := by decide +kernel
theorem dLR_init_7 : decode cLR_init 7 = .ok (.newarray .int, 2) := by decide +kernel
theorem dLR_init_9 : decode cLR_init 9 = .ok (.putfield 11, 3) := by decide +kernel
theorem dLR_init_12 : decode cLR_init 12 = .ok (.aload_n 0, 1) := by decide +kernel
theorem dLR_init_13 : decode cLR_init 13 = .ok (.aload_n 1, 1) := by decide +kernel
theorem dLR_init_14 : decode cLR_init 14 = .ok (.putfield 15, 3) := by decide +kernel
theorem dLR_init_17 : decode cLR_init 17 = .ok (.aload_n 0, 1) := by decide +kernel
theorem dLR_init_18 : decode cLR_init 18 = .ok (.aload_n 2, 1) := by decide +kernel
theorem dLR_init_19 : decode cLR_init 19 = .ok (.putfield 19, 3) := by decide +kernel
theorem dLR_init_22 : decode cLR_init 22 = .ok (.return_, 1) := by decide +kernel
abbrev cRS_init : ByteArray := prog_10_method_1_code
def yRS_init : MethodName := ⟨kR_RS, "<init>", "([I)V"⟩
def wsRS_init : List Cond := .code yRS_init cRS_init 2 none :: ipW
theorem dRS_init_0 : decode cRS_init 0 = .ok (.aload_n 0, 1) := by decide +kernel
theorem dRS_init_1 : decode cRS_init 1 = .ok (.invokespecial 1, 3) := by decide +kernel
theorem dRS_init_4 : decode cRS_init 4 = .ok (.aload_n 0, 1) := by decide +kernel
theorem dRS_init_5 : decode cRS_init 5 = .ok (.bipush 64, 2) := by decide +kernel
theorem dRS_init_7 : decode cRS_init 7 = .ok (.newarray .int, 2) := by decide +kernel
theorem dRS_init_9 : decode cRS_init 9 = .ok (.putfield 7, 3) := by decide +kernel
theorem dRS_init_12 : decode cRS_init 12 = .ok (.aload_n 0, 1) := by decide +kernel
theorem dRS_init_13 : decode cRS_init 13 = .ok (.bipush 64, 2) := by decide +kernel
theorem dRS_init_15 : decode cRS_init 15 = .ok (.newarray .int, 2) := by decide +kernel
theorem dRS_init_17 : decode cRS_init 17 = .ok (.putfield 13, 3) := by decide +kernel
theorem dRS_init_20 : decode cRS_init 20 = .ok (.aload_n 0, 1) := by decide +kernel
theorem dRS_init_21 : decode cRS_init 21 = .ok (.bipush 64, 2) := by decide +kernel
theorem dRS_init_23 : decode cRS_init 23 = .ok (.newarray .int, 2) := by decide +kernel
theorem dRS_init_25 : decode cRS_init 25 = .ok (.putfield 16, 3) := by decide +kernel
theorem dRS_init_28 : decode cRS_init 28 = .ok (.aload_n 0, 1) := by decide +kernel
theorem dRS_init_29 : decode cRS_init 29 = .ok (.aload_n 1, 1) := by decide +kernel
theorem dRS_init_30 : decode cRS_init 30 = .ok (.putfield 19, 3) := by decide +kernel
theorem dRS_init_33 : decode cRS_init 33 = .ok (.return_, 1) := by decide +kernel
abbrev cPR_init : ByteArray := prog_9_method_1_code
def yPR_init : MethodName := ⟨kR_PR, "<init>", "(LIntraPicture$Rows;)V"⟩
def wsPR_init : List Cond := .code yPR_init cPR_init 2 none :: ipW
theorem dPR_init_0 : decode cPR_init 0 = .ok (.aload_n 0, 1) := by decide +kernel
theorem dPR_init_1 : decode cPR_init 1 = .ok (.invokespecial 3, 3) := by decide +kernel
theorem dPR_init_4 : decode cPR_init 4 = .ok (.aload_n 0, 1) := by decide +kernel
theorem dPR_init_5 : decode cPR_init 5 = .ok (.bipush 33, 2) := by decide +kernel
theorem dPR_init_7 : decode cPR_init 7 = .ok (.newarray .int, 2) := by decide +kernel
theorem dPR_init_9 : decode cPR_init 9 = .ok (.putfield 11, 3) := by decide +kernel
theorem dPR_init_12 : decode cPR_init 12 = .ok (.aload_n 0, 1) := by decide +kernel
theorem dPR_init_13 : decode cPR_init 13 = .ok (.bipush 33, 2) := by decide +kernel
theorem dPR_init_15 : decode cPR_init 15 = .ok (.newarray .int, 2) := by decide +kernel
theorem dPR_init_17 : decode cPR_init 17 = .ok (.putfield 15, 3) := by decide +kernel
theorem dPR_init_20 : decode cPR_init 20 = .ok (.aload_n 0, 1) := by decide +kernel
theorem dPR_init_21 : decode cPR_init 21 = .ok (.aload_n 1, 1) := by decide +kernel
theorem dPR_init_22 : decode cPR_init 22 = .ok (.putfield 18, 3) := by decide +kernel
theorem dPR_init_25 : decode cPR_init 25 = .ok (.return_, 1) := by decide +kernel
abbrev cFI_init : ByteArray := prog_4_method_1_code
def yFI_init : MethodName := ⟨kR_FI, "<init>", "([I)V"⟩
def wsFI_init : List Cond := .code yFI_init cFI_init 2 none :: ipW
theorem dFI_init_0 : decode cFI_init 0 = .ok (.aload_n 0, 1) := by decide +kernel
theorem dFI_init_1 : decode cFI_init 1 = .ok (.invokespecial 3, 3) := by decide +kernel
theorem dFI_init_4 : decode cFI_init 4 = .ok (.aload_n 0, 1) := by decide +kernel
theorem dFI_init_5 : decode cFI_init 5 = .ok (.sipush 256, 3) := by decide +kernel
theorem dFI_init_8 : decode cFI_init 8 = .ok (.newarray .int, 2) := by decide +kernel
theorem dFI_init_10 : decode cFI_init 10 = .ok (.putfield 9, 3) := by decide +kernel
theorem dFI_init_13 : decode cFI_init 13 = .ok (.aload_n 0, 1) := by decide +kernel
theorem dFI_init_14 : decode cFI_init 14 = .ok (.aload_n 1, 1) := by decide +kernel
theorem dFI_init_15 : decode cFI_init 15 = .ok (.putfield 15, 3) := by decide +kernel
theorem dFI_init_18 : decode cFI_init 18 = .ok (.return_, 1) := by decide +kernel
abbrev cPI_init : ByteArray := prog_8_method_1_code
def yPI_init : MethodName := ⟨kR_PI, "<init>", "(LIntraPicture$BinDecoder;[ILIntraPicture$Rows;)V"⟩
def wsPI_init : List Cond := .code yPI_init cPI_init 4 none :: ipW
theorem dPI_init_0 : decode cPI_init 0 = .ok (.aload_n 0, 1) := by decide +kernel
theorem dPI_init_1 : decode cPI_init 1 = .ok (.invokespecial 3, 3) := by decide +kernel
theorem dPI_init_4 : decode cPI_init 4 = .ok (.aload_n 0, 1) := by decide +kernel
theorem dPI_init_5 : decode cPI_init 5 = .ok (.new 9, 3) := by decide +kernel
theorem dPI_init_8 : decode cPI_init 8 = .ok (.dup, 1) := by decide +kernel
theorem dPI_init_9 : decode cPI_init 9 = .ok (.invokespecial 11, 3) := by decide +kernel
theorem dPI_init_12 : decode cPI_init 12 = .ok (.putfield 12, 3) := by decide +kernel
theorem dPI_init_15 : decode cPI_init 15 = .ok (.aload_n 0, 1) := by decide +kernel
theorem dPI_init_16 : decode cPI_init 16 = .ok (.aload_n 1, 1) := by decide +kernel
theorem dPI_init_17 : decode cPI_init 17 = .ok (.putfield 18, 3) := by decide +kernel
theorem dPI_init_20 : decode cPI_init 20 = .ok (.aload_n 0, 1) := by decide +kernel
theorem dPI_init_21 : decode cPI_init 21 = .ok (.aload_n 2, 1) := by decide +kernel
theorem dPI_init_22 : decode cPI_init 22 = .ok (.putfield 22, 3) := by decide +kernel
theorem dPI_init_25 : decode cPI_init 25 = .ok (.aload_n 0, 1) := by decide +kernel
theorem dPI_init_26 : decode cPI_init 26 = .ok (.aload_n 3, 1) := by decide +kernel
theorem dPI_init_27 : decode cPI_init 27 = .ok (.putfield 26, 3) := by decide +kernel
theorem dPI_init_30 : decode cPI_init 30 = .ok (.aload_n 0, 1) := by decide +kernel
theorem dPI_init_31 : decode cPI_init 31 = .ok (.new 30, 3) := by decide +kernel
theorem dPI_init_34 : decode cPI_init 34 = .ok (.dup, 1) := by decide +kernel
theorem dPI_init_35 : decode cPI_init 35 = .ok (.aload_n 1, 1) := by decide +kernel
theorem dPI_init_36 : decode cPI_init 36 = .ok (.aload_n 3, 1) := by decide +kernel
theorem dPI_init_37 : decode cPI_init 37 = .ok (.getfield 32, 3) := by decide +kernel
theorem dPI_init_40 : decode cPI_init 40 = .ok (.invokespecial 37, 3) := by decide +kernel
theorem dPI_init_43 : decode cPI_init 43 = .ok (.putfield 40, 3) := by decide +kernel
theorem dPI_init_46 : decode cPI_init 46 = .ok (.aload_n 0, 1) := by decide +kernel
theorem dPI_init_47 : decode cPI_init 47 = .ok (.new 44, 3) := by decide +kernel
theorem dPI_init_50 : decode cPI_init 50 = .ok (.dup, 1) := by decide +kernel
theorem dPI_init_51 : decode cPI_init 51 = .ok (.aload_n 3, 1) := by decide +kernel
theorem dPI_init_52 : decode cPI_init 52 = .ok (.getfield 32, 3) := by decide +kernel
theorem dPI_init_55 : decode cPI_init 55 = .ok (.invokespecial 46, 3) := by decide +kernel
theorem dPI_init_58 : decode cPI_init 58 = .ok (.putfield 49, 3) := by decide +kernel
theorem dPI_init_61 : decode cPI_init 61 = .ok (.aload_n 0, 1) := by decide +kernel
theorem dPI_init_62 : decode cPI_init 62 = .ok (.new 53, 3) := by decide +kernel
theorem dPI_init_65 : decode cPI_init 65 = .ok (.dup, 1) := by decide +kernel
theorem dPI_init_66 : decode cPI_init 66 = .ok (.aload_n 3, 1) := by decide +kernel
theorem dPI_init_67 : decode cPI_init 67 = .ok (.invokespecial 55, 3) := by decide +kernel
theorem dPI_init_70 : decode cPI_init 70 = .ok (.putfield 58, 3) := by decide +kernel
theorem dPI_init_73 : decode cPI_init 73 = .ok (.aload_n 0, 1) := by decide +kernel
theorem dPI_init_74 : decode cPI_init 74 = .ok (.new 62, 3) := by decide +kernel
theorem dPI_init_77 : decode cPI_init 77 = .ok (.dup, 1) := by decide +kernel
theorem dPI_init_78 : decode cPI_init 78 = .ok (.aload_n 3, 1) := by decide +kernel
theorem dPI_init_79 : decode cPI_init 79 = .ok (.getfield 64, 3) := by decide +kernel
theorem dPI_init_82 : decode cPI_init 82 = .ok (.invokespecial 67, 3) := by decide +kernel
theorem dPI_init_85 : decode cPI_init 85 = .ok (.putfield 68, 3) := by decide +kernel
theorem dPI_init_88 : decode cPI_init 88 = .ok (.return_, 1) := by decide +kernel
abbrev cIP_init : ByteArray := prog_1_method_1_code
def yIP_init : MethodName := ⟨kR_IP, "<init>", "()V"⟩
def wsIP_init : List Cond := .code yIP_init cIP_init 1 none :: ipW
theorem dIP_init_0 : decode cIP_init 0 = .ok (.aload_n 0, 1) := by decide +kernel
theorem dIP_init_1 : decode cIP_init 1 = .ok (.invokespecial 3, 3) := by decide +kernel
theorem dIP_init_4 : decode cIP_init 4 = .ok (.aload_n 0, 1) := by decide +kernel
theorem dIP_init_5 : decode cIP_init 5 = .ok (.new 9, 3) := by decide +kernel
theorem dIP_init_8 : decode cIP_init 8 = .ok (.dup, 1) := by decide +kernel
theorem dIP_init_9 : decode cIP_init 9 = .ok (.invokespecial 11, 3) := by decide +kernel
theorem dIP_init_12 : decode cIP_init 12 = .ok (.putfield 12, 3) := by decide +kernel
theorem dIP_init_15 : decode cIP_init 15 = .ok (.aload_n 0, 1) := by decide +kernel
theorem dIP_init_16 : decode cIP_init 16 = .ok (.new 16, 3) := by decide +kernel
theorem dIP_init_19 : decode cIP_init 19 = .ok (.dup, 1) := by decide +kernel
theorem dIP_init_20 : decode cIP_init 20 = .ok (.aload_n 0, 1) := by decide +kernel
theorem dIP_init_21 : decode cIP_init 21 = .ok (.getfield 12, 3) := by decide +kernel
theorem dIP_init_24 : decode cIP_init 24 = .ok (.getfield 18, 3) := by decide +kernel
theorem dIP_init_27 : decode cIP_init 27 = .ok (.invokespecial 22, 3) := by decide +kernel
theorem dIP_init_30 : decode cIP_init 30 = .ok (.putfield 25, 3) := by decide +kernel
theorem dIP_init_33 : decode cIP_init 33 = .ok (.aload_n 0, 1) := by decide +kernel
theorem dIP_init_34 : decode cIP_init 34 = .ok (.new 29, 3) := by decide +kernel
theorem dIP_init_37 : decode cIP_init 37 = .ok (.dup, 1) := by decide +kernel
theorem dIP_init_38 : decode cIP_init 38 = .ok (.aload_n 0, 1) := by decide +kernel
theorem dIP_init_39 : decode cIP_init 39 = .ok (.getfield 25, 3) := by decide +kernel
theorem dIP_init_42 : decode cIP_init 42 = .ok (.invokespecial 31, 3) := by decide +kernel
theorem dIP_init_45 : decode cIP_init 45 = .ok (.putfield 34, 3) := by decide +kernel
theorem dIP_init_48 : decode cIP_init 48 = .ok (.aload_n 0, 1) := by decide +kernel
theorem dIP_init_49 : decode cIP_init 49 = .ok (.new 38, 3) := by decide +kernel
theorem dIP_init_52 : decode cIP_init 52 = .ok (.dup, 1) := by decide +kernel
theorem dIP_init_53 : decode cIP_init 53 = .ok (.aload_n 0, 1) := by decide +kernel
theorem dIP_init_54 : decode cIP_init 54 = .ok (.getfield 25, 3) := by decide +kernel
theorem dIP_init_57 : decode cIP_init 57 = .ok (.invokespecial 40, 3) := by decide +kernel
theorem dIP_init_60 : decode cIP_init 60 = .ok (.putfield 41, 3) := by decide +kernel
theorem dIP_init_63 : decode cIP_init 63 = .ok (.aload_n 0, 1) := by decide +kernel
theorem dIP_init_64 : decode cIP_init 64 = .ok (.new 45, 3) := by decide +kernel
theorem dIP_init_67 : decode cIP_init 67 = .ok (.dup, 1) := by decide +kernel
theorem dIP_init_68 : decode cIP_init 68 = .ok (.invokespecial 47, 3) := by decide +kernel
theorem dIP_init_71 : decode cIP_init 71 = .ok (.putfield 48, 3) := by decide +kernel
theorem dIP_init_74 : decode cIP_init 74 = .ok (.aload_n 0, 1) := by decide +kernel
theorem dIP_init_75 : decode cIP_init 75 = .ok (.new 52, 3) := by decide +kernel
theorem dIP_init_78 : decode cIP_init 78 = .ok (.dup, 1) := by decide +kernel
theorem dIP_init_79 : decode cIP_init 79 = .ok (.aload_n 0, 1) := by decide +kernel
theorem dIP_init_80 : decode cIP_init 80 = .ok (.getfield 41, 3) := by decide +kernel
theorem dIP_init_83 : decode cIP_init 83 = .ok (.aload_n 0, 1) := by decide +kernel
theorem dIP_init_84 : decode cIP_init 84 = .ok (.getfield 34, 3) := by decide +kernel
theorem dIP_init_87 : decode cIP_init 87 = .ok (.getfield 54, 3) := by decide +kernel
theorem dIP_init_90 : decode cIP_init 90 = .ok (.aload_n 0, 1) := by decide +kernel
theorem dIP_init_91 : decode cIP_init 91 = .ok (.getfield 48, 3) := by decide +kernel
theorem dIP_init_94 : decode cIP_init 94 = .ok (.invokespecial 57, 3) := by decide +kernel
theorem dIP_init_97 : decode cIP_init 97 = .ok (.putfield 60, 3) := by decide +kernel
theorem dIP_init_100 : decode cIP_init 100 = .ok (.aload_n 0, 1) := by decide +kernel
theorem dIP_init_101 : decode cIP_init 101 = .ok (.iconst 0, 1) := by decide +kernel
theorem dIP_init_102 : decode cIP_init 102 = .ok (.putfield 64, 3) := by decide +kernel
theorem dIP_init_105 : decode cIP_init 105 = .ok (.return_, 1) := by decide +kernel
abbrev cMO_init : ByteArray := prog_14_method_1_code
def yMO_init : MethodName := ⟨kR_MO, "<init>", "()V"⟩
def wsMO_init : List Cond := .code yMO_init cMO_init 1 none :: ipW
theorem dMO_init_0 : decode cMO_init 0 = .ok (.aload_n 0, 1) := by decide +kernel
theorem dMO_init_1 : decode cMO_init 1 = .ok (.invokespecial 1, 3) := by decide +kernel
theorem dMO_init_4 : decode cMO_init 4 = .ok (.aload_n 0, 1) := by decide +kernel
theorem dMO_init_5 : decode cMO_init 5 = .ok (.sipush 240, 3) := by decide +kernel
theorem dMO_init_8 : decode cMO_init 8 = .ok (.newarray .int, 2) := by decide +kernel
theorem dMO_init_10 : decode cMO_init 10 = .ok (.putfield 7, 3) := by decide +kernel
theorem dMO_init_13 : decode cMO_init 13 = .ok (.aload_n 0, 1) := by decide +kernel
theorem dMO_init_14 : decode cMO_init 14 = .ok (.sipush 240, 3) := by decide +kernel
theorem dMO_init_17 : decode cMO_init 17 = .ok (.newarray .int, 2) := by decide +kernel
theorem dMO_init_19 : decode cMO_init 19 = .ok (.putfield 13, 3) := by decide +kernel
theorem dMO_init_22 : decode cMO_init 22 = .ok (.aload_n 0, 1) := by decide +kernel
theorem dMO_init_23 : decode cMO_init 23 = .ok (.bipush 10, 2) := by decide +kernel
theorem dMO_init_25 : decode cMO_init 25 = .ok (.newarray .int, 2) := by decide +kernel
theorem dMO_init_27 : decode cMO_init 27 = .ok (.putfield 16, 3) := by decide +kernel
theorem dMO_init_30 : decode cMO_init 30 = .ok (.aload_n 0, 1) := by decide +kernel
theorem dMO_init_31 : decode cMO_init 31 = .ok (.bipush 10, 2) := by decide +kernel
theorem dMO_init_33 : decode cMO_init 33 = .ok (.newarray .int, 2) := by decide +kernel
theorem dMO_init_35 : decode cMO_init 35 = .ok (.putfield 19, 3) := by decide +kernel
theorem dMO_init_38 : decode cMO_init 38 = .ok (.aload_n 0, 1) := by decide +kernel
theorem dMO_init_39 : decode cMO_init 39 = .ok (.bipush 14, 2) := by decide +kernel
theorem dMO_init_41 : decode cMO_init 41 = .ok (.newarray .int, 2) := by decide +kernel
theorem dMO_init_43 : decode cMO_init 43 = .ok (.putfield 22, 3) := by decide +kernel
theorem dMO_init_46 : decode cMO_init 46 = .ok (.aload_n 0, 1) := by decide +kernel
theorem dMO_init_47 : decode cMO_init 47 = .ok (.iconst 3, 1) := by decide +kernel
theorem dMO_init_48 : decode cMO_init 48 = .ok (.newarray .int, 2) := by decide +kernel
theorem dMO_init_50 : decode cMO_init 50 = .ok (.putfield 25, 3) := by decide +kernel
theorem dMO_init_53 : decode cMO_init 53 = .ok (.aload_n 0, 1) := by decide +kernel
theorem dMO_init_54 : decode cMO_init 54 = .ok (.bipush 16, 2) := by decide +kernel
theorem dMO_init_56 : decode cMO_init 56 = .ok (.newarray .int, 2) := by decide +kernel
theorem dMO_init_58 : decode cMO_init 58 = .ok (.putfield 28, 3) := by decide +kernel
theorem dMO_init_61 : decode cMO_init 61 = .ok (.aload_n 0, 1) := by decide +kernel
theorem dMO_init_62 : decode cMO_init 62 = .ok (.bipush 16, 2) := by decide +kernel
theorem dMO_init_64 : decode cMO_init 64 = .ok (.newarray .int, 2) := by decide +kernel
theorem dMO_init_66 : decode cMO_init 66 = .ok (.putfield 31, 3) := by decide +kernel
theorem dMO_init_69 : decode cMO_init 69 = .ok (.aload_n 0, 1) := by decide +kernel
theorem dMO_init_70 : decode cMO_init 70 = .ok (.bipush 16, 2) := by decide +kernel
theorem dMO_init_72 : decode cMO_init 72 = .ok (.newarray .int, 2) := by decide +kernel
theorem dMO_init_74 : decode cMO_init 74 = .ok (.putfield 34, 3) := by decide +kernel
theorem dMO_init_77 : decode cMO_init 77 = .ok (.aload_n 0, 1) := by decide +kernel
theorem dMO_init_78 : decode cMO_init 78 = .ok (.bipush 16, 2) := by decide +kernel
theorem dMO_init_80 : decode cMO_init 80 = .ok (.newarray .int, 2) := by decide +kernel
theorem dMO_init_82 : decode cMO_init 82 = .ok (.putfield 37, 3) := by decide +kernel
theorem dMO_init_85 : decode cMO_init 85 = .ok (.aload_n 0, 1) := by decide +kernel
theorem dMO_init_86 : decode cMO_init 86 = .ok (.bipush 16, 2) := by decide +kernel
theorem dMO_init_88 : decode cMO_init 88 = .ok (.newarray .boolean, 2) := by decide +kernel
theorem dMO_init_90 : decode cMO_init 90 = .ok (.putfield 40, 3) := by decide +kernel
theorem dMO_init_93 : decode cMO_init 93 = .ok (.aload_n 0, 1) := by decide +kernel
theorem dMO_init_94 : decode cMO_init 94 = .ok (.sipush 256, 3) := by decide +kernel
theorem dMO_init_97 : decode cMO_init 97 = .ok (.newarray .int, 2) := by decide +kernel
theorem dMO_init_99 : decode cMO_init 99 = .ok (.putfield 44, 3) := by decide +kernel
theorem dMO_init_102 : decode cMO_init 102 = .ok (.aload_n 0, 1) := by decide +kernel
theorem dMO_init_103 : decode cMO_init 103 = .ok (.sipush 256, 3) := by decide +kernel
theorem dMO_init_106 : decode cMO_init 106 = .ok (.newarray .int, 2) := by decide +kernel
theorem dMO_init_108 : decode cMO_init 108 = .ok (.putfield 47, 3) := by decide +kernel
theorem dMO_init_111 : decode cMO_init 111 = .ok (.aload_n 0, 1) := by decide +kernel
theorem dMO_init_112 : decode cMO_init 112 = .ok (.bipush 16, 2) := by decide +kernel
theorem dMO_init_114 : decode cMO_init 114 = .ok (.newarray .int, 2) := by decide +kernel
theorem dMO_init_116 : decode cMO_init 116 = .ok (.putfield 50, 3) := by decide +kernel
theorem dMO_init_119 : decode cMO_init 119 = .ok (.aload_n 0, 1) := by decide +kernel
theorem dMO_init_120 : decode cMO_init 120 = .ok (.sipush 256, 3) := by decide +kernel
theorem dMO_init_123 : decode cMO_init 123 = .ok (.newarray .int, 2) := by decide +kernel
theorem dMO_init_125 : decode cMO_init 125 = .ok (.putfield 53, 3) := by decide +kernel
theorem dMO_init_128 : decode cMO_init 128 = .ok (.aload_n 0, 1) := by decide +kernel
theorem dMO_init_129 : decode cMO_init 129 = .ok (.sipush 256, 3) := by decide +kernel
theorem dMO_init_132 : decode cMO_init 132 = .ok (.newarray .int, 2) := by decide +kernel
theorem dMO_init_134 : decode cMO_init 134 = .ok (.putfield 56, 3) := by decide +kernel
theorem dMO_init_137 : decode cMO_init 137 = .ok (.aload_n 0, 1) := by decide +kernel
theorem dMO_init_138 : decode cMO_init 138 = .ok (.sipush 256, 3) := by decide +kernel
theorem dMO_init_141 : decode cMO_init 141 = .ok (.newarray .int, 2) := by decide +kernel
theorem dMO_init_143 : decode cMO_init 143 = .ok (.putfield 59, 3) := by decide +kernel
theorem dMO_init_146 : decode cMO_init 146 = .ok (.aload_n 0, 1) := by decide +kernel
theorem dMO_init_147 : decode cMO_init 147 = .ok (.sipush 256, 3) := by decide +kernel
theorem dMO_init_150 : decode cMO_init 150 = .ok (.newarray .int, 2) := by decide +kernel
theorem dMO_init_152 : decode cMO_init 152 = .ok (.putfield 62, 3) := by decide +kernel
theorem dMO_init_155 : decode cMO_init 155 = .ok (.aload_n 0, 1) := by decide +kernel
theorem dMO_init_156 : decode cMO_init 156 = .ok (.bipush 33, 2) := by decide +kernel
theorem dMO_init_158 : decode cMO_init 158 = .ok (.newarray .int, 2) := by decide +kernel
theorem dMO_init_160 : decode cMO_init 160 = .ok (.putfield 65, 3) := by decide +kernel
theorem dMO_init_163 : decode cMO_init 163 = .ok (.aload_n 0, 1) := by decide +kernel
theorem dMO_init_164 : decode cMO_init 164 = .ok (.bipush 33, 2) := by decide +kernel
theorem dMO_init_166 : decode cMO_init 166 = .ok (.newarray .int, 2) := by decide +kernel
theorem dMO_init_168 : decode cMO_init 168 = .ok (.putfield 68, 3) := by decide +kernel
theorem dMO_init_171 : decode cMO_init 171 = .ok (.aload_n 0, 1) := by decide +kernel
theorem dMO_init_172 : decode cMO_init 172 = .ok (.bipush 16, 2) := by decide +kernel
theorem dMO_init_174 : decode cMO_init 174 = .ok (.newarray .int, 2) := by decide +kernel
theorem dMO_init_176 : decode cMO_init 176 = .ok (.dup, 1) := by decide +kernel
theorem dMO_init_177 : decode cMO_init 177 = .ok (.iconst 0, 1) := by decide +kernel
theorem dMO_init_178 : decode cMO_init 178 = .ok (.bipush 29, 2) := by decide +kernel
theorem dMO_init_180 : decode cMO_init 180 = .ok (.iastore, 1) := by decide +kernel
theorem dMO_init_181 : decode cMO_init 181 = .ok (.dup, 1) := by decide +kernel
theorem dMO_init_182 : decode cMO_init 182 = .ok (.iconst 1, 1) := by decide +kernel
theorem dMO_init_183 : decode cMO_init 183 = .ok (.bipush 55, 2) := by decide +kernel
theorem dMO_init_185 : decode cMO_init 185 = .ok (.iastore, 1) := by decide +kernel
theorem dMO_init_186 : decode cMO_init 186 = .ok (.dup, 1) := by decide +kernel
theorem dMO_init_187 : decode cMO_init 187 = .ok (.iconst 2, 1) := by decide +kernel
theorem dMO_init_188 : decode cMO_init 188 = .ok (.bipush 74, 2) := by decide +kernel
theorem dMO_init_190 : decode cMO_init 190 = .ok (.iastore, 1) := by decide +kernel
theorem dMO_init_191 : decode cMO_init 191 = .ok (.dup, 1) := by decide +kernel
theorem dMO_init_192 : decode cMO_init 192 = .ok (.iconst 3, 1) := by decide +kernel
theorem dMO_init_193 : decode cMO_init 193 = .ok (.bipush 84, 2) := by decide +kernel
theorem dMO_init_195 : decode cMO_init 195 = .ok (.iastore, 1) := by decide +kernel
theorem dMO_init_196 : decode cMO_init 196 = .ok (.dup, 1) := by decide +kernel
theorem dMO_init_197 : decode cMO_init 197 = .ok (.iconst 4, 1) := by decide +kernel
theorem dMO_init_198 : decode cMO_init 198 = .ok (.bipush 74, 2) := by decide +kernel
theorem dMO_init_200 : decode cMO_init 200 = .ok (.iastore, 1) := by decide +kernel
theorem dMO_init_201 : decode cMO_init 201 = .ok (.dup, 1) := by decide +kernel
theorem dMO_init_202 : decode cMO_init 202 = .ok (.iconst 5, 1) := by decide +kernel
theorem dMO_init_203 : decode cMO_init 203 = .ok (.bipush 74, 2) := by decide +kernel
theorem dMO_init_205 : decode cMO_init 205 = .ok (.iastore, 1) := by decide +kernel
theorem dMO_init_206 : decode cMO_init 206 = .ok (.dup, 1) := by decide +kernel
theorem dMO_init_207 : decode cMO_init 207 = .ok (.bipush 6, 2) := by decide +kernel
theorem dMO_init_209 : decode cMO_init 209 = .ok (.iconst 0, 1) := by decide +kernel
theorem dMO_init_210 : decode cMO_init 210 = .ok (.iastore, 1) := by decide +kernel
theorem dMO_init_211 : decode cMO_init 211 = .ok (.dup, 1) := by decide +kernel
theorem dMO_init_212 : decode cMO_init 212 = .ok (.bipush 7, 2) := by decide +kernel
theorem dMO_init_214 : decode cMO_init 214 = .ok (.bipush (-74), 2) := by decide +kernel
theorem dMO_init_216 : decode cMO_init 216 = .ok (.iastore, 1) := by decide +kernel
theorem dMO_init_217 : decode cMO_init 217 = .ok (.dup, 1) := by decide +kernel
theorem dMO_init_218 : decode cMO_init 218 = .ok (.bipush 8, 2) := by decide +kernel
theorem dMO_init_220 : decode cMO_init 220 = .ok (.bipush 84, 2) := by decide +kernel
theorem dMO_init_222 : decode cMO_init 222 = .ok (.iastore, 1) := by decide +kernel
theorem dMO_init_223 : decode cMO_init 223 = .ok (.dup, 1) := by decide +kernel
theorem dMO_init_224 : decode cMO_init 224 = .ok (.bipush 9, 2) := by decide +kernel
theorem dMO_init_226 : decode cMO_init 226 = .ok (.bipush (-29), 2) := by decide +kernel
theorem dMO_init_228 : decode cMO_init 228 = .ok (.iastore, 1) := by decide +kernel
theorem dMO_init_229 : decode cMO_init 229 = .ok (.dup, 1) := by decide +kernel
theorem dMO_init_230 : decode cMO_init 230 = .ok (.bipush 10, 2) := by decide +kernel
theorem dMO_init_232 : decode cMO_init 232 = .ok (.bipush (-74), 2) := by decide +kernel
theorem dMO_init_234 : decode cMO_init 234 = .ok (.iastore, 1) := by decide +kernel
theorem dMO_init_235 : decode cMO_init 235 = .ok (.dup, 1) := by decide +kernel
theorem dMO_init_236 : decode cMO_init 236 = .ok (.bipush 11, 2) := by decide +kernel
theorem dMO_init_238 : decode cMO_init 238 = .ok (.bipush 55, 2) := by decide +kernel
theorem dMO_init_240 : decode cMO_init 240 = .ok (.iastore, 1) := by decide +kernel
theorem dMO_init_241 : decode cMO_init 241 = .ok (.dup, 1) := by decide +kernel
theorem dMO_init_242 : decode cMO_init 242 = .ok (.bipush 12, 2) := by decide +kernel
theorem dMO_init_244 : decode cMO_init 244 = .ok (.bipush 55, 2) := by decide +kernel
theorem dMO_init_246 : decode cMO_init 246 = .ok (.iastore, 1) := by decide +kernel
theorem dMO_init_247 : decode cMO_init 247 = .ok (.dup, 1) := by decide +kernel
theorem dMO_init_248 : decode cMO_init 248 = .ok (.bipush 13, 2) := by decide +kernel
theorem dMO_init_250 : decode cMO_init 250 = .ok (.bipush (-84), 2) := by decide +kernel
theorem dMO_init_252 : decode cMO_init 252 = .ok (.iastore, 1) := by decide +kernel
theorem dMO_init_253 : decode cMO_init 253 = .ok (.dup, 1) := by decide +kernel
theorem dMO_init_254 : decode cMO_init 254 = .ok (.bipush 14, 2) := by decide +kernel
theorem dMO_init_256 : decode cMO_init 256 = .ok (.bipush 74, 2) := by decide +kernel
theorem dMO_init_258 : decode cMO_init 258 = .ok (.iastore, 1) := by decide +kernel
theorem dMO_init_259 : decode cMO_init 259 = .ok (.dup, 1) := by decide +kernel
theorem dMO_init_260 : decode cMO_init 260 = .ok (.bipush 15, 2) := by decide +kernel
theorem dMO_init_262 : decode cMO_init 262 = .ok (.bipush (-29), 2) := by decide +kernel
theorem dMO_init_264 : decode cMO_init 264 = .ok (.iastore, 1) := by decide +kernel
theorem dMO_init_265 : decode cMO_init 265 = .ok (.putfield 71, 3) := by decide +kernel
theorem dMO_init_268 : decode cMO_init 268 = .ok (.aload_n 0, 1) := by decide +kernel
theorem dMO_init_269 : decode cMO_init 269 = .ok (.bipush 9, 2) := by decide +kernel
theorem dMO_init_271 : decode cMO_init 271 = .ok (.newarray .int, 2) := by decide +kernel
theorem dMO_init_273 : decode cMO_init 273 = .ok (.dup, 1) := by decide +kernel
theorem dMO_init_274 : decode cMO_init 274 = .ok (.iconst 0, 1) := by decide +kernel
theorem dMO_init_275 : decode cMO_init 275 = .ok (.bipush 91, 2) := by decide +kernel
theorem dMO_init_277 : decode cMO_init 277 = .ok (.iastore, 1) := by decide +kernel
theorem dMO_init_278 : decode cMO_init 278 = .ok (.dup, 1) := by decide +kernel
theorem dMO_init_279 : decode cMO_init 279 = .ok (.iconst 1, 1) := by decide +kernel
theorem dMO_init_280 : decode cMO_init 280 = .ok (.bipush 89, 2) := by decide +kernel
theorem dMO_init_282 : decode cMO_init 282 = .ok (.iastore, 1) := by decide +kernel
theorem dMO_init_283 : decode cMO_init 283 = .ok (.dup, 1) := by decide +kernel
theorem dMO_init_284 : decode cMO_init 284 = .ok (.iconst 2, 1) := by decide +kernel
theorem dMO_init_285 : decode cMO_init 285 = .ok (.bipush 83, 2) := by decide +kernel
theorem dMO_init_287 : decode cMO_init 287 = .ok (.iastore, 1) := by decide +kernel
theorem dMO_init_288 : decode cMO_init 288 = .ok (.dup, 1) := by decide +kernel
theorem dMO_init_289 : decode cMO_init 289 = .ok (.iconst 3, 1) := by decide +kernel
theorem dMO_init_290 : decode cMO_init 290 = .ok (.bipush 75, 2) := by decide +kernel
theorem dMO_init_292 : decode cMO_init 292 = .ok (.iastore, 1) := by decide +kernel
theorem dMO_init_293 : decode cMO_init 293 = .ok (.dup, 1) := by decide +kernel
theorem dMO_init_294 : decode cMO_init 294 = .ok (.iconst 4, 1) := by decide +kernel
theorem dMO_init_295 : decode cMO_init 295 = .ok (.bipush 64, 2) := by decide +kernel
theorem dMO_init_297 : decode cMO_init 297 = .ok (.iastore, 1) := by decide +kernel
theorem dMO_init_298 : decode cMO_init 298 = .ok (.dup, 1) := by decide +kernel
theorem dMO_init_299 : decode cMO_init 299 = .ok (.iconst 5, 1) := by decide +kernel
theorem dMO_init_300 : decode cMO_init 300 = .ok (.bipush 50, 2) := by decide +kernel
theorem dMO_init_302 : decode cMO_init 302 = .ok (.iastore, 1) := by decide +kernel
theorem dMO_init_303 : decode cMO_init 303 = .ok (.dup, 1) := by decide +kernel
theorem dMO_init_304 : decode cMO_init 304 = .ok (.bipush 6, 2) := by decide +kernel
theorem dMO_init_306 : decode cMO_init 306 = .ok (.bipush 36, 2) := by decide +kernel
theorem dMO_init_308 : decode cMO_init 308 = .ok (.iastore, 1) := by decide +kernel
theorem dMO_init_309 : decode cMO_init 309 = .ok (.dup, 1) := by decide +kernel
theorem dMO_init_310 : decode cMO_init 310 = .ok (.bipush 7, 2) := by decide +kernel
theorem dMO_init_312 : decode cMO_init 312 = .ok (.bipush 18, 2) := by decide +kernel
theorem dMO_init_314 : decode cMO_init 314 = .ok (.iastore, 1) := by decide +kernel
theorem dMO_init_315 : decode cMO_init 315 = .ok (.dup, 1) := by decide +kernel
theorem dMO_init_316 : decode cMO_init 316 = .ok (.bipush 8, 2) := by decide +kernel
theorem dMO_init_318 : decode cMO_init 318 = .ok (.iconst 0, 1) := by decide +kernel
theorem dMO_init_319 : decode cMO_init 319 = .ok (.iastore, 1) := by decide +kernel
theorem dMO_init_320 : decode cMO_init 320 = .ok (.putfield 74, 3) := by decide +kernel
theorem dMO_init_323 : decode cMO_init 323 = .ok (.aload_n 0, 1) := by decide +kernel
theorem dMO_init_324 : decode cMO_init 324 = .ok (.bipush 6, 2) := by decide +kernel
theorem dMO_init_326 : decode cMO_init 326 = .ok (.newarray .int, 2) := by decide +kernel
theorem dMO_init_328 : decode cMO_init 328 = .ok (.dup, 1) := by decide +kernel
theorem dMO_init_329 : decode cMO_init 329 = .ok (.iconst 0, 1) := by decide +kernel
theorem dMO_init_330 : decode cMO_init 330 = .ok (.bipush 40, 2) := by decide +kernel
theorem dMO_init_332 : decode cMO_init 332 = .ok (.iastore, 1) := by decide +kernel
theorem dMO_init_333 : decode cMO_init 333 = .ok (.dup, 1) := by decide +kernel
theorem dMO_init_334 : decode cMO_init 334 = .ok (.iconst 1, 1) := by decide +kernel
theorem dMO_init_335 : decode cMO_init 335 = .ok (.bipush 45, 2) := by decide +kernel
theorem dMO_init_337 : decode cMO_init 337 = .ok (.iastore, 1) := by decide +kernel
theorem dMO_init_338 : decode cMO_init 338 = .ok (.dup, 1) := by decide +kernel
theorem dMO_init_339 : decode cMO_init 339 = .ok (.iconst 2, 1) := by decide +kernel
theorem dMO_init_340 : decode cMO_init 340 = .ok (.bipush 51, 2) := by decide +kernel
theorem dMO_init_342 : decode cMO_init 342 = .ok (.iastore, 1) := by decide +kernel
theorem dMO_init_343 : decode cMO_init 343 = .ok (.dup, 1) := by decide +kernel
theorem dMO_init_344 : decode cMO_init 344 = .ok (.iconst 3, 1) := by decide +kernel
theorem dMO_init_345 : decode cMO_init 345 = .ok (.bipush 57, 2) := by decide +kernel
theorem dMO_init_347 : decode cMO_init 347 = .ok (.iastore, 1) := by decide +kernel
theorem dMO_init_348 : decode cMO_init 348 = .ok (.dup, 1) := by decide +kernel
theorem dMO_init_349 : decode cMO_init 349 = .ok (.iconst 4, 1) := by decide +kernel
theorem dMO_init_350 : decode cMO_init 350 = .ok (.bipush 64, 2) := by decide +kernel
theorem dMO_init_352 : decode cMO_init 352 = .ok (.iastore, 1) := by decide +kernel
theorem dMO_init_353 : decode cMO_init 353 = .ok (.dup, 1) := by decide +kernel
theorem dMO_init_354 : decode cMO_init 354 = .ok (.iconst 5, 1) := by decide +kernel
theorem dMO_init_355 : decode cMO_init 355 = .ok (.bipush 72, 2) := by decide +kernel
theorem dMO_init_357 : decode cMO_init 357 = .ok (.iastore, 1) := by decide +kernel
theorem dMO_init_358 : decode cMO_init 358 = .ok (.putfield 77, 3) := by decide +kernel
theorem dMO_init_361 : decode cMO_init 361 = .ok (.return_, 1) := by decide +kernel

/-! constructors: the new cells' addresses are u 0, u 1, .. in the order in which they are made -/
abbrev ip_Mn (l : Launch) (y : MethodName) (ws : List Cond) (rm : Room) (D : va_G) (cl : List vw_C) (tys : List (ClassId × FieldType)) (ts : ip_TT) (av : List Value) (w : va_W) (w1 : (Nat → Nat) → va_W) (mc ms : Nat) : Prop := ∀ sz : Nat, Met l y ws rm (va_Pc av (ip_Pre D cl tys ts w sz)) (va_Qv (fun (_ : Nat → Nat) => True) (fun u t => ip_Post D cl tys (va_A w sz) (w1 u) t) (va_A w sz)) mc ms (va_A w sz)
section IPN
variable {p : Program} {l : Launch} {e : Env} {R : Room} {s : State} {m : MethodId} {args : Array Value} {below : List Frame} {meth : Method} {c : Code} {H : Heap} {locs : List Loc} {cells slots : Nat} {Q : State → Prop}
variable {cc : ByteArray} {pc : Nat} {ls : Array Slot} {rest : List Value} {D : va_G} {cl : List vw_C} {tys : List (ClassId × FieldType)} {ts : ip_TT} {A : Nat → Prop} {ws : va_W} {a : Nat}
theorem ip_newi (hexec : p.tables.exec = Jvm.exec) (hb : c.code = cc) (harr : (Cond.arrayClass .int).before args s = true) (hK : va_K D cl tys s) (hP : va_P D cl ws H) (hD : va_D A ws) (hS : va_S A s.heap H locs) (hA : ∀ q : Nat, s.heap.size ≤ q → A q) {cI : ClassId} (t0 : Nat) (ht : tys[t0]? = some (cI, .int)) {n : Int32} (N : Nat) (hn : ¬ n < 0) (hN : n.toNatClampNeg = N) (hbytes : N * componentBytes .int ≤ 536870912) (k1 k2 : Nat) (hc1 : cells + 1 = k1) (hs1 : slots + N = k2) (hcells : k1 ≤ R.cells) (hslots : k2 ≤ R.slots) (hdg : decode cc pc = .ok (.newarray .int, 2))
    (kk : ∀ (q : Nat) (H1 : Heap), va_P D cl (ws ++ [(q, .inl (cI, N, .inl (fun _ => 0)))]) H1 → va_D A (ws ++ [(q, .inl (cI, N, .inl (fun _ => 0)))]) → va_S A s.heap H1 locs → W p l e R s m args below meth c H1 locs k1 k2 Q (F0 m (pc + 2) ls (.ref q :: rest))) : W p l e R s m args below meth c H locs cells slots Q (F0 m pc ls (.int n :: rest)) := by
  subst hc1
  subst hs1
  refine va_newa (atype := .int) (ty := .int) (a0 := (N, .inl (fun _ => 0))) hexec hb harr rfl hK hP hD hS hA (fun cA => rfl) hn hN hbytes hcells hslots hdg (fun q cA H1 hK1 hP1 hD1 hS1 => ?_)
  have h1 := va_nm_int (hK1.2 tys.length (cA, .int) (by simp)).2
  have h2 := va_nm_int (hK.2 t0 _ ht).2
  have e1 : cA = cI := Option.some.inj (h1.symm.trans h2)
  subst e1
  exact kk q H1 hP1 hD1 hS1
theorem ip_newz (hexec : p.tables.exec = Jvm.exec) (hb : c.code = cc) (harr : (Cond.arrayClass .boolean).before args s = true) (hK : va_K D cl tys s) (hP : va_P D cl ws H) (hD : va_D A ws) (hS : va_S A s.heap H locs) (hA : ∀ q : Nat, s.heap.size ≤ q → A q) {cI : ClassId} (t0 : Nat) (ht : tys[t0]? = some (cI, .boolean)) {n : Int32} (N : Nat) (hn : ¬ n < 0) (hN : n.toNatClampNeg = N) (hbytes : N * componentBytes .boolean ≤ 536870912) (k1 k2 : Nat) (hc1 : cells + 1 = k1) (hs1 : slots + N = k2) (hcells : k1 ≤ R.cells) (hslots : k2 ≤ R.slots) (hdg : decode cc pc = .ok (.newarray .boolean, 2))
    (kk : ∀ (q : Nat) (H1 : Heap), va_P D cl (ws ++ [(q, .inl (cI, N, .inl (fun _ => 0)))]) H1 → va_D A (ws ++ [(q, .inl (cI, N, .inl (fun _ => 0)))]) → va_S A s.heap H1 locs → W p l e R s m args below meth c H1 locs k1 k2 Q (F0 m (pc + 2) ls (.ref q :: rest))) : W p l e R s m args below meth c H locs cells slots Q (F0 m pc ls (.int n :: rest)) := by
  subst hc1
  subst hs1
  refine va_newa (atype := .boolean) (ty := .boolean) (a0 := (N, .inl (fun _ => 0))) hexec hb harr rfl hK hP hD hS hA (fun cA => rfl) hn hN hbytes hcells hslots hdg (fun q cA H1 hK1 hP1 hD1 hS1 => ?_)
  have h1 := va_nm_boolean (hK1.2 tys.length (cA, .boolean) (by simp)).2
  have h2 := va_nm_boolean (hK.2 t0 _ ht).2
  have e1 : cA = cI := Option.some.inj (h1.symm.trans h2)
  subst e1
  exact kk q H1 hP1 hD1 hS1
theorem ip_calln {wc : va_W} {w1 : (Nat → Nat) → va_W} {mc ms : Nat} {st0 : List Value} {av : Array Value} (hrun : va_Run p l e R s m args below meth c H locs cells slots mc ms (F0 m pc ls st0) rest (va_Qv (fun (_ : Nat → Nat) => True) (fun u t => ip_Post D cl tys (va_A wc H.size) (w1 u) t) (va_A wc H.size) av) (va_A wc H.size)) (hP : va_P D cl ws H) (hD : va_D A ws) (hS : va_S A s.heap H locs) (hA : ∀ q : Nat, s.heap.size ≤ q → A q) (isC isR is2 : List Nat) (w2 : (Nat → Nat) → va_W) (k1 k2 : Nat) (hc1 : cells + mc = k1) (hs1 : slots + ms = k2) (hC : isC.map (fun i => ws[i]?) = wc.map some) (hR : isR.map (fun i => ws[i]?) = (isR.filterMap (fun i => ws[i]?)).map some) (hn : va_nd isR = true) (hdis : ∀ i ∈ isR, i ∉ isC) (h2 : ∀ u : Nat → Nat, is2.map (fun i => (isR.filterMap (fun i => ws[i]?) ++ w1 u)[i]?) = (w2 u).map some) (hn2 : va_nd is2 = true) (kk : ∀ (u : Nat → Nat) (H1 : Heap) (locs1 : List Loc), va_P D cl (w2 u) H1 → va_D A (w2 u) → va_S A s.heap H1 locs1 → W p l e R s m args below meth c H1 locs1 k1 k2 Q (F0 m (pc + 3) ls rest)) : W p l e R s m args below meth c H locs cells slots Q (F0 m pc ls st0) := by
  subst hc1
  subst hs1
  have hFc := va_free hD hS hA isC hC
  refine va_callv hrun hS (fun q _ h => hFc q h) hFc (fun u t H1 locs1 ht hvm hp hB hz1 hk1 hS1 => ?_)
  obtain ⟨hP1, hK1, hD1⟩ := hB
  rw [ht] at hP1
  obtain ⟨hP2, hD2⟩ := va_join hP hD isC isR hC hR hn hdis hk1 hFc hP1 hD1
  exact kk u H1 locs1 (hP2.sub is2 (ip_fm (h2 u))) (hD2.sub is2 hn2 (h2 u)) hS1
end IPN
theorem ip_startN {l : Launch} {y : MethodName} {ws ws1 : List Cond} {rm : Room} {D : va_G} {cl : List vw_C} {tys : List (ClassId × FieldType)} {ts : ip_TT} {av : List Value} {w : va_W} {w1 : (Nat → Nat) → va_W} {mc ms : Nat} {cc : ByteArray} {maxL : Nat} (hy : plainName y.cls = true) (hyn : y.name = "<init>") (hw : ws = Cond.code y cc maxL none :: ws1) (hlen : (lg_sl av).length ≤ maxL) (body : ∀ (p : Program) (e : Env) (s : State) (m : MethodId) (args : Array Value) (below : List Frame) (meth : Method) (c : Code) (Q : State → Prop) (A : Nat → Prop) (ls : Array Slot), p.tables.exec = Jvm.exec → c.code = cc → c.maxLocals = maxL → (∀ w ∈ ws, w.before args s = true) → s.vm.findClass y.cls = some m.cls → meth.name = "<init>" → va_K D cl tys s → va_P D cl w s.heap → va_D A w → va_S A s.heap s.heap [] → (∀ q : Nat, s.heap.size ≤ q → A q) → ip_Z ts A s s.heap → lv_has ls maxL (lv_args 0 av) → (∀ (u : Nat → Nat) (H : Heap) (locs : List Loc) (pc : Nat) (ls : Array Slot), decode cc pc = .ok (.return_, 1) → va_P D cl (w1 u) H → va_D A (w1 u) → va_S A s.heap H locs → W p l e rm s m args below meth c H locs mc ms Q (F0 m pc ls [])) → W p l e rm s m args below meth c s.heap [] 0 0 Q (F0 m 0 ls [])) : ip_Mn l y ws rm D cl tys ts av w w1 mc ms := by
  intro sz
  refine Met.ofW (cc := cc) (maxL := maxL) (ret := none) hy hw ?_
  intro p e s m args below meth c s₁ B hml hv
  obtain ⟨rfl, hsz, hP, hK, hD0, hZ⟩ := hv
  subst hsz
  have hD := hD0.self (sz := s.heap.size)
  generalize hAe : va_A w s.heap.size = A at hD hZ ⊢
  have hA : ∀ q : Nat, s.heap.size ≤ q → A q := fun q h => by rw [← hAe]; exact Or.inr h
  have hl := lv_entry av (n := maxL) hlen
  rw [lg_entry_eq]
  generalize (lg_sl av ++ List.replicate (maxL - (lg_sl av).length) Slot.unset).toArray = ls at hl ⊢
  exact body p e s m _ below meth c _ A ls B.exec B.bytes hml (atoms_spec (ws := ws) B.pre) (findClass_of_methodNamed B.named) ((name_of_methodNamed B.named B.method).1.trans hyn) hK hP hD va_S.rf hA hZ hl (fun u H locs pc ls hd hP hD hS => W.vret B.exec B.bytes B.returns (fun t ht hW => ⟨⟨u, rfl, trivial, by rw [ht]; exact hP, va_K.moved hW.alike hK, hD⟩, hS.F ht⟩) hS.2.2 hd B.notSynchronized)
