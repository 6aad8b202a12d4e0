theorem kw1_18 : (Jvm.Cond.classLink "IntraPictureLaw" (7 : Nat) "IntraPicture") ∈ ipW := ip_w1 18 rfl rfl
theorem kw1_19 : (Jvm.Cond.instantiable "IntraPicture" (7 : Nat)) ∈ ipW := ip_w1 19 rfl rfl
theorem kw1_20 : (Jvm.Cond.methodLink "IntraPictureLaw" (9 : Nat) ({ cls := "IntraPicture", name := "<init>", desc := "()V" } : Jvm.MethodName)) ∈ ipW := ip_w1 20 rfl rfl
theorem kw1_21 : (Jvm.Cond.instanceMethod ({ cls := "IntraPicture", name := "<init>", desc := "()V" } : Jvm.MethodName)) ∈ ipW := ip_w1 21 rfl rfl
theorem kw1_22 : (Jvm.Cond.code ({ cls := "IntraPicture", name := "<init>", desc := "()V" } : Jvm.MethodName) prog_1_method_1_code (1 : Nat) (Option.none : Option Jvm.ClassFile.FieldType)) ∈ ipW := ip_w1 22 rfl rfl
theorem kw2_79 : (Jvm.Cond.methodLink "IntraPictureLaw" (15 : Nat) ({ cls := "IntraPicture", name := "feed", desc := "(JI)Z" } : Jvm.MethodName)) ∈ ipW := ip_w2 79 rfl rfl
theorem kw2_80 : (Jvm.Cond.instanceMethod ({ cls := "IntraPicture", name := "feed", desc := "(JI)Z" } : Jvm.MethodName)) ∈ ipW := ip_w2 80 rfl rfl
theorem kw2_81 : (Jvm.Cond.selects "IntraPicture" ({ cls := "IntraPicture", name := "feed", desc := "(JI)Z" } : Jvm.MethodName) ({ cls := "IntraPicture", name := "feed", desc := "(JI)Z" } : Jvm.MethodName)) ∈ ipW := ip_w2 81 rfl rfl
theorem kw2_82 : (Jvm.Cond.code ({ cls := "IntraPicture", name := "feed", desc := "(JI)Z" } : Jvm.MethodName) prog_1_method_2_code (4 : Nat) (Option.some Jvm.ClassFile.FieldType.boolean)) ∈ ipW := ip_w2 82 rfl rfl
theorem kw2_87 : (Jvm.Cond.methodLink "IntraPictureLaw" (20 : Nat) ({ cls := "IntraPicture", name := "clear", desc := "()V" } : Jvm.MethodName)) ∈ ipW := ip_w2 87 rfl rfl
theorem kw2_88 : (Jvm.Cond.instanceMethod ({ cls := "IntraPicture", name := "clear", desc := "()V" } : Jvm.MethodName)) ∈ ipW := ip_w2 88 rfl rfl
theorem kw2_89 : (Jvm.Cond.selects "IntraPicture" ({ cls := "IntraPicture", name := "clear", desc := "()V" } : Jvm.MethodName) ({ cls := "IntraPicture", name := "clear", desc := "()V" } : Jvm.MethodName)) ∈ ipW := ip_w2 89 rfl rfl
theorem kw2_90 : (Jvm.Cond.code ({ cls := "IntraPicture", name := "clear", desc := "()V" } : Jvm.MethodName) prog_1_method_3_code (1 : Nat) (Option.none : Option Jvm.ClassFile.FieldType)) ∈ ipW := ip_w2 90 rfl rfl
theorem kw2_91 : (Jvm.Cond.methodLink "IntraPictureLaw" (24 : Nat) ({ cls := "IntraPicture", name := "units", desc := "()I" } : Jvm.MethodName)) ∈ ipW := ip_w2 91 rfl rfl
theorem kw2_92 : (Jvm.Cond.instanceMethod ({ cls := "IntraPicture", name := "units", desc := "()I" } : Jvm.MethodName)) ∈ ipW := ip_w2 92 rfl rfl
theorem kw2_93 : (Jvm.Cond.selects "IntraPicture" ({ cls := "IntraPicture", name := "units", desc := "()I" } : Jvm.MethodName) ({ cls := "IntraPicture", name := "units", desc := "()I" } : Jvm.MethodName)) ∈ ipW := ip_w2 93 rfl rfl
theorem kw2_94 : (Jvm.Cond.code ({ cls := "IntraPicture", name := "units", desc := "()I" } : Jvm.MethodName) prog_1_method_4_code (1 : Nat) (Option.some Jvm.ClassFile.FieldType.int)) ∈ ipW := ip_w2 94 rfl rfl
theorem kw2_103 : (Jvm.Cond.methodLink "IntraPictureLaw" (29 : Nat) ({ cls := "IntraPicture", name := "payload", desc := "(II)I" } : Jvm.MethodName)) ∈ ipW := ip_w2 103 rfl rfl
theorem kw2_104 : (Jvm.Cond.instanceMethod ({ cls := "IntraPicture", name := "payload", desc := "(II)I" } : Jvm.MethodName)) ∈ ipW := ip_w2 104 rfl rfl
theorem kw2_105 : (Jvm.Cond.selects "IntraPicture" ({ cls := "IntraPicture", name := "payload", desc := "(II)I" } : Jvm.MethodName) ({ cls := "IntraPicture", name := "payload", desc := "(II)I" } : Jvm.MethodName)) ∈ ipW := ip_w2 105 rfl rfl
theorem kw2_106 : (Jvm.Cond.code ({ cls := "IntraPicture", name := "payload", desc := "(II)I" } : Jvm.MethodName) prog_1_method_5_code (3 : Nat) (Option.some Jvm.ClassFile.FieldType.int)) ∈ ipW := ip_w2 106 rfl rfl
theorem kw2_115 : (Jvm.Cond.methodLink "IntraPictureLaw" (34 : Nat) ({ cls := "IntraPicture", name := "decode", desc := "()I" } : Jvm.MethodName)) ∈ ipW := ip_w2 115 rfl rfl
theorem kw2_116 : (Jvm.Cond.instanceMethod ({ cls := "IntraPicture", name := "decode", desc := "()I" } : Jvm.MethodName)) ∈ ipW := ip_w2 116 rfl rfl
theorem kw2_117 : (Jvm.Cond.selects "IntraPicture" ({ cls := "IntraPicture", name := "decode", desc := "()I" } : Jvm.MethodName) ({ cls := "IntraPicture", name := "decode", desc := "()I" } : Jvm.MethodName)) ∈ ipW := ip_w2 117 rfl rfl
theorem kw2_118 : (Jvm.Cond.code ({ cls := "IntraPicture", name := "decode", desc := "()I" } : Jvm.MethodName) prog_1_method_6_code (6 : Nat) (Option.some Jvm.ClassFile.FieldType.int)) ∈ ipW := ip_w2 118 rfl rfl
theorem kw3_139 : (Jvm.Cond.methodLink "IntraPictureLaw" (38 : Nat) ({ cls := "IntraPicture", name := "parameter", desc := "(I)I" } : Jvm.MethodName)) ∈ ipW := ip_w3 139 rfl rfl
theorem kw3_140 : (Jvm.Cond.instanceMethod ({ cls := "IntraPicture", name := "parameter", desc := "(I)I" } : Jvm.MethodName)) ∈ ipW := ip_w3 140 rfl rfl
theorem kw3_141 : (Jvm.Cond.selects "IntraPicture" ({ cls := "IntraPicture", name := "parameter", desc := "(I)I" } : Jvm.MethodName) ({ cls := "IntraPicture", name := "parameter", desc := "(I)I" } : Jvm.MethodName)) ∈ ipW := ip_w3 141 rfl rfl
theorem kw3_142 : (Jvm.Cond.code ({ cls := "IntraPicture", name := "parameter", desc := "(I)I" } : Jvm.MethodName) prog_1_method_7_code (2 : Nat) (Option.some Jvm.ClassFile.FieldType.int)) ∈ ipW := ip_w3 142 rfl rfl
theorem kw3_143 : (Jvm.Cond.methodLink "IntraPictureLaw" (43 : Nat) ({ cls := "IntraPicture", name := "sample", desc := "(II)I" } : Jvm.MethodName)) ∈ ipW := ip_w3 143 rfl rfl
theorem kw3_144 : (Jvm.Cond.instanceMethod ({ cls := "IntraPicture", name := "sample", desc := "(II)I" } : Jvm.MethodName)) ∈ ipW := ip_w3 144 rfl rfl
theorem kw3_145 : (Jvm.Cond.selects "IntraPicture" ({ cls := "IntraPicture", name := "sample", desc := "(II)I" } : Jvm.MethodName) ({ cls := "IntraPicture", name := "sample", desc := "(II)I" } : Jvm.MethodName)) ∈ ipW := ip_w3 145 rfl rfl
theorem kw3_146 : (Jvm.Cond.code ({ cls := "IntraPicture", name := "sample", desc := "(II)I" } : Jvm.MethodName) prog_1_method_8_code (3 : Nat) (Option.some Jvm.ClassFile.FieldType.int)) ∈ ipW := ip_w3 146 rfl rfl
theorem kw3_153 : (Jvm.Cond.methodLink "IntraPictureLaw" (47 : Nat) ({ cls := "IntraPicture", name := "plain", desc := "(II)I" } : Jvm.MethodName)) ∈ ipW := ip_w3 153 rfl rfl
theorem kw3_154 : (Jvm.Cond.instanceMethod ({ cls := "IntraPicture", name := "plain", desc := "(II)I" } : Jvm.MethodName)) ∈ ipW := ip_w3 154 rfl rfl
theorem kw3_155 : (Jvm.Cond.selects "IntraPicture" ({ cls := "IntraPicture", name := "plain", desc := "(II)I" } : Jvm.MethodName) ({ cls := "IntraPicture", name := "plain", desc := "(II)I" } : Jvm.MethodName)) ∈ ipW := ip_w3 155 rfl rfl
theorem kw3_156 : (Jvm.Cond.code ({ cls := "IntraPicture", name := "plain", desc := "(II)I" } : Jvm.MethodName) prog_1_method_9_code (3 : Nat) (Option.some Jvm.ClassFile.FieldType.int)) ∈ ipW := ip_w3 156 rfl rfl
theorem kw3_157 : (Jvm.Cond.methodLink "IntraPictureLaw" (51 : Nat) ({ cls := "IntraPicture", name := "predicted", desc := "(II)I" } : Jvm.MethodName)) ∈ ipW := ip_w3 157 rfl rfl
theorem kw3_158 : (Jvm.Cond.instanceMethod ({ cls := "IntraPicture", name := "predicted", desc := "(II)I" } : Jvm.MethodName)) ∈ ipW := ip_w3 158 rfl rfl
theorem kw3_159 : (Jvm.Cond.selects "IntraPicture" ({ cls := "IntraPicture", name := "predicted", desc := "(II)I" } : Jvm.MethodName) ({ cls := "IntraPicture", name := "predicted", desc := "(II)I" } : Jvm.MethodName)) ∈ ipW := ip_w3 159 rfl rfl
theorem kw3_160 : (Jvm.Cond.code ({ cls := "IntraPicture", name := "predicted", desc := "(II)I" } : Jvm.MethodName) prog_1_method_10_code (3 : Nat) (Option.some Jvm.ClassFile.FieldType.int)) ∈ ipW := ip_w3 160 rfl rfl
theorem kw3_161 : (Jvm.Cond.methodLink "IntraPictureLaw" (55 : Nat) ({ cls := "IntraPicture", name := "level", desc := "(II)I" } : Jvm.MethodName)) ∈ ipW := ip_w3 161 rfl rfl
theorem kw3_162 : (Jvm.Cond.instanceMethod ({ cls := "IntraPicture", name := "level", desc := "(II)I" } : Jvm.MethodName)) ∈ ipW := ip_w3 162 rfl rfl
theorem kw3_163 : (Jvm.Cond.selects "IntraPicture" ({ cls := "IntraPicture", name := "level", desc := "(II)I" } : Jvm.MethodName) ({ cls := "IntraPicture", name := "level", desc := "(II)I" } : Jvm.MethodName)) ∈ ipW := ip_w3 163 rfl rfl
theorem kw3_164 : (Jvm.Cond.code ({ cls := "IntraPicture", name := "level", desc := "(II)I" } : Jvm.MethodName) prog_1_method_11_code (3 : Nat) (Option.some Jvm.ClassFile.FieldType.int)) ∈ ipW := ip_w3 164 rfl rfl
theorem kw3_165 : (Jvm.Cond.methodLink "IntraPictureLaw" (59 : Nat) ({ cls := "IntraPicture", name := "mode", desc := "(II)I" } : Jvm.MethodName)) ∈ ipW := ip_w3 165 rfl rfl
theorem kw3_166 : (Jvm.Cond.instanceMethod ({ cls := "IntraPicture", name := "mode", desc := "(II)I" } : Jvm.MethodName)) ∈ ipW := ip_w3 166 rfl rfl
theorem kw3_167 : (Jvm.Cond.selects "IntraPicture" ({ cls := "IntraPicture", name := "mode", desc := "(II)I" } : Jvm.MethodName) ({ cls := "IntraPicture", name := "mode", desc := "(II)I" } : Jvm.MethodName)) ∈ ipW := ip_w3 167 rfl rfl
theorem kw3_168 : (Jvm.Cond.code ({ cls := "IntraPicture", name := "mode", desc := "(II)I" } : Jvm.MethodName) prog_1_method_12_code (3 : Nat) (Option.some Jvm.ClassFile.FieldType.int)) ∈ ipW := ip_w3 168 rfl rfl
theorem kw3_169 : (Jvm.Cond.methodLink "IntraPictureLaw" (63 : Nat) ({ cls := "IntraPicture", name := "side", desc := "(II)I" } : Jvm.MethodName)) ∈ ipW := ip_w3 169 rfl rfl
theorem kw3_170 : (Jvm.Cond.instanceMethod ({ cls := "IntraPicture", name := "side", desc := "(II)I" } : Jvm.MethodName)) ∈ ipW := ip_w3 170 rfl rfl
theorem kw3_171 : (Jvm.Cond.selects "IntraPicture" ({ cls := "IntraPicture", name := "side", desc := "(II)I" } : Jvm.MethodName) ({ cls := "IntraPicture", name := "side", desc := "(II)I" } : Jvm.MethodName)) ∈ ipW := ip_w3 171 rfl rfl
theorem kw3_172 : (Jvm.Cond.code ({ cls := "IntraPicture", name := "side", desc := "(II)I" } : Jvm.MethodName) prog_1_method_13_code (3 : Nat) (Option.some Jvm.ClassFile.FieldType.int)) ∈ ipW := ip_w3 172 rfl rfl
theorem kw3_173 : (Jvm.Cond.methodLink "IntraPictureLaw" (67 : Nat) ({ cls := "IntraPicture", name := "chance", desc := "(I)I" } : Jvm.MethodName)) ∈ ipW := ip_w3 173 rfl rfl
theorem kw3_174 : (Jvm.Cond.instanceMethod ({ cls := "IntraPicture", name := "chance", desc := "(I)I" } : Jvm.MethodName)) ∈ ipW := ip_w3 174 rfl rfl
theorem kw3_175 : (Jvm.Cond.selects "IntraPicture" ({ cls := "IntraPicture", name := "chance", desc := "(I)I" } : Jvm.MethodName) ({ cls := "IntraPicture", name := "chance", desc := "(I)I" } : Jvm.MethodName)) ∈ ipW := ip_w3 175 rfl rfl
theorem kw3_176 : (Jvm.Cond.code ({ cls := "IntraPicture", name := "chance", desc := "(I)I" } : Jvm.MethodName) prog_1_method_14_code (2 : Nat) (Option.some Jvm.ClassFile.FieldType.int)) ∈ ipW := ip_w3 176 rfl rfl
theorem kw3_177 : (Jvm.Cond.methodLink "IntraPictureLaw" (71 : Nat) ({ cls := "IntraPicture", name := "took", desc := "(I)I" } : Jvm.MethodName)) ∈ ipW := ip_w3 177 rfl rfl
theorem kw3_178 : (Jvm.Cond.instanceMethod ({ cls := "IntraPicture", name := "took", desc := "(I)I" } : Jvm.MethodName)) ∈ ipW := ip_w3 178 rfl rfl
theorem kw3_179 : (Jvm.Cond.selects "IntraPicture" ({ cls := "IntraPicture", name := "took", desc := "(I)I" } : Jvm.MethodName) ({ cls := "IntraPicture", name := "took", desc := "(I)I" } : Jvm.MethodName)) ∈ ipW := ip_w3 179 rfl rfl
theorem kw3_180 : (Jvm.Cond.code ({ cls := "IntraPicture", name := "took", desc := "(I)I" } : Jvm.MethodName) prog_1_method_15_code (2 : Nat) (Option.some Jvm.ClassFile.FieldType.int)) ∈ ipW := ip_w3 180 rfl rfl
theorem kw3_181 : (Jvm.Cond.classLink "IntraPictureLaw" (10 : Nat) "IntraPictureModel") ∈ ipW := ip_w3 181 rfl rfl
theorem kw3_182 : (Jvm.Cond.instantiable "IntraPictureModel" (32 : Nat)) ∈ ipW := ip_w3 182 rfl rfl
theorem kw3_183 : (Jvm.Cond.methodLink "IntraPictureLaw" (12 : Nat) ({ cls := "IntraPictureModel", name := "<init>", desc := "()V" } : Jvm.MethodName)) ∈ ipW := ip_w3 183 rfl rfl
theorem kw3_184 : (Jvm.Cond.instanceMethod ({ cls := "IntraPictureModel", name := "<init>", desc := "()V" } : Jvm.MethodName)) ∈ ipW := ip_w3 184 rfl rfl
theorem kw3_185 : (Jvm.Cond.code ({ cls := "IntraPictureModel", name := "<init>", desc := "()V" } : Jvm.MethodName) prog_14_method_1_code (1 : Nat) (Option.none : Option Jvm.ClassFile.FieldType)) ∈ ipW := ip_w3 185 rfl rfl
theorem kw4_45 : (Jvm.Cond.methodLink "IntraPictureLaw" (19 : Nat) ({ cls := "IntraPictureModel", name := "feed", desc := "(JI)Z" } : Jvm.MethodName)) ∈ ipW := ip_w4 45 rfl rfl
theorem kw4_46 : (Jvm.Cond.instanceMethod ({ cls := "IntraPictureModel", name := "feed", desc := "(JI)Z" } : Jvm.MethodName)) ∈ ipW := ip_w4 46 rfl rfl
theorem kw4_47 : (Jvm.Cond.selects "IntraPictureModel" ({ cls := "IntraPictureModel", name := "feed", desc := "(JI)Z" } : Jvm.MethodName) ({ cls := "IntraPictureModel", name := "feed", desc := "(JI)Z" } : Jvm.MethodName)) ∈ ipW := ip_w4 47 rfl rfl
theorem kw4_48 : (Jvm.Cond.code ({ cls := "IntraPictureModel", name := "feed", desc := "(JI)Z" } : Jvm.MethodName) prog_14_method_3_code (5 : Nat) (Option.some Jvm.ClassFile.FieldType.boolean)) ∈ ipW := ip_w4 48 rfl rfl
theorem kw4_50 : (Jvm.Cond.methodLink "IntraPictureLaw" (23 : Nat) ({ cls := "IntraPictureModel", name := "clear", desc := "()V" } : Jvm.MethodName)) ∈ ipW := ip_w4 50 rfl rfl
theorem kw4_51 : (Jvm.Cond.instanceMethod ({ cls := "IntraPictureModel", name := "clear", desc := "()V" } : Jvm.MethodName)) ∈ ipW := ip_w4 51 rfl rfl
theorem kw4_52 : (Jvm.Cond.selects "IntraPictureModel" ({ cls := "IntraPictureModel", name := "clear", desc := "()V" } : Jvm.MethodName) ({ cls := "IntraPictureModel", name := "clear", desc := "()V" } : Jvm.MethodName)) ∈ ipW := ip_w4 52 rfl rfl
theorem kw4_53 : (Jvm.Cond.code ({ cls := "IntraPictureModel", name := "clear", desc := "()V" } : Jvm.MethodName) prog_14_method_4_code (1 : Nat) (Option.none : Option Jvm.ClassFile.FieldType)) ∈ ipW := ip_w4 53 rfl rfl
theorem kw4_54 : (Jvm.Cond.methodLink "IntraPictureLaw" (28 : Nat) ({ cls := "IntraPictureModel", name := "units", desc := "()I" } : Jvm.MethodName)) ∈ ipW := ip_w4 54 rfl rfl
theorem kw4_62 : (Jvm.Cond.methodLink "IntraPictureLaw" (33 : Nat) ({ cls := "IntraPictureModel", name := "payload", desc := "(II)I" } : Jvm.MethodName)) ∈ ipW := ip_w4 62 rfl rfl
theorem kw4_63 : (Jvm.Cond.instanceMethod ({ cls := "IntraPictureModel", name := "payload", desc := "(II)I" } : Jvm.MethodName)) ∈ ipW := ip_w4 63 rfl rfl
theorem kw4_64 : (Jvm.Cond.selects "IntraPictureModel" ({ cls := "IntraPictureModel", name := "payload", desc := "(II)I" } : Jvm.MethodName) ({ cls := "IntraPictureModel", name := "payload", desc := "(II)I" } : Jvm.MethodName)) ∈ ipW := ip_w4 64 rfl rfl
theorem kw4_65 : (Jvm.Cond.code ({ cls := "IntraPictureModel", name := "payload", desc := "(II)I" } : Jvm.MethodName) prog_14_method_8_code (3 : Nat) (Option.some Jvm.ClassFile.FieldType.int)) ∈ ipW := ip_w4 65 rfl rfl
theorem kw4_71 : (Jvm.Cond.methodLink "IntraPictureLaw" (37 : Nat) ({ cls := "IntraPictureModel", name := "decode", desc := "()I" } : Jvm.MethodName)) ∈ ipW := ip_w4 71 rfl rfl
theorem kw4_72 : (Jvm.Cond.instanceMethod ({ cls := "IntraPictureModel", name := "decode", desc := "()I" } : Jvm.MethodName)) ∈ ipW := ip_w4 72 rfl rfl
theorem kw4_73 : (Jvm.Cond.selects "IntraPictureModel" ({ cls := "IntraPictureModel", name := "decode", desc := "()I" } : Jvm.MethodName) ({ cls := "IntraPictureModel", name := "decode", desc := "()I" } : Jvm.MethodName)) ∈ ipW := ip_w4 73 rfl rfl
theorem kw4_74 : (Jvm.Cond.code ({ cls := "IntraPictureModel", name := "decode", desc := "()I" } : Jvm.MethodName) prog_14_method_15_code (5 : Nat) (Option.some Jvm.ClassFile.FieldType.int)) ∈ ipW := ip_w4 74 rfl rfl
theorem kw4_195 : (Jvm.Cond.methodLink "IntraPictureLaw" (42 : Nat) ({ cls := "IntraPictureModel", name := "parameter", desc := "(I)I" } : Jvm.MethodName)) ∈ ipW := ip_w4 195 rfl rfl
theorem kw4_196 : (Jvm.Cond.instanceMethod ({ cls := "IntraPictureModel", name := "parameter", desc := "(I)I" } : Jvm.MethodName)) ∈ ipW := ip_w4 196 rfl rfl
theorem kw4_197 : (Jvm.Cond.selects "IntraPictureModel" ({ cls := "IntraPictureModel", name := "parameter", desc := "(I)I" } : Jvm.MethodName) ({ cls := "IntraPictureModel", name := "parameter", desc := "(I)I" } : Jvm.MethodName)) ∈ ipW := ip_w4 197 rfl rfl
theorem kw4_198 : (Jvm.Cond.code ({ cls := "IntraPictureModel", name := "parameter", desc := "(I)I" } : Jvm.MethodName) prog_14_method_40_code (2 : Nat) (Option.some Jvm.ClassFile.FieldType.int)) ∈ ipW := ip_w4 198 rfl rfl
theorem kw4_199 : (Jvm.Cond.methodLink "IntraPictureLaw" (46 : Nat) ({ cls := "IntraPictureModel", name := "sample", desc := "(II)I" } : Jvm.MethodName)) ∈ ipW := ip_w4 199 rfl rfl
theorem kw4_200 : (Jvm.Cond.instanceMethod ({ cls := "IntraPictureModel", name := "sample", desc := "(II)I" } : Jvm.MethodName)) ∈ ipW := ip_w4 200 rfl rfl
theorem kw4_201 : (Jvm.Cond.selects "IntraPictureModel" ({ cls := "IntraPictureModel", name := "sample", desc := "(II)I" } : Jvm.MethodName) ({ cls := "IntraPictureModel", name := "sample", desc := "(II)I" } : Jvm.MethodName)) ∈ ipW := ip_w4 201 rfl rfl
theorem kw4_202 : (Jvm.Cond.code ({ cls := "IntraPictureModel", name := "sample", desc := "(II)I" } : Jvm.MethodName) prog_14_method_42_code (3 : Nat) (Option.some Jvm.ClassFile.FieldType.int)) ∈ ipW := ip_w4 202 rfl rfl
theorem kw4_207 : (Jvm.Cond.methodLink "IntraPictureLaw" (50 : Nat) ({ cls := "IntraPictureModel", name := "plain", desc := "(II)I" } : Jvm.MethodName)) ∈ ipW := ip_w4 207 rfl rfl
theorem kw4_208 : (Jvm.Cond.instanceMethod ({ cls := "IntraPictureModel", name := "plain", desc := "(II)I" } : Jvm.MethodName)) ∈ ipW := ip_w4 208 rfl rfl
theorem kw4_209 : (Jvm.Cond.selects "IntraPictureModel" ({ cls := "IntraPictureModel", name := "plain", desc := "(II)I" } : Jvm.MethodName) ({ cls := "IntraPictureModel", name := "plain", desc := "(II)I" } : Jvm.MethodName)) ∈ ipW := ip_w4 209 rfl rfl
theorem kw4_210 : (Jvm.Cond.code ({ cls := "IntraPictureModel", name := "plain", desc := "(II)I" } : Jvm.MethodName) prog_14_method_43_code (3 : Nat) (Option.some Jvm.ClassFile.FieldType.int)) ∈ ipW := ip_w4 210 rfl rfl
theorem kw4_211 : (Jvm.Cond.methodLink "IntraPictureLaw" (54 : Nat) ({ cls := "IntraPictureModel", name := "predicted", desc := "(II)I" } : Jvm.MethodName)) ∈ ipW := ip_w4 211 rfl rfl
theorem kw4_212 : (Jvm.Cond.instanceMethod ({ cls := "IntraPictureModel", name := "predicted", desc := "(II)I" } : Jvm.MethodName)) ∈ ipW := ip_w4 212 rfl rfl
theorem kw4_213 : (Jvm.Cond.selects "IntraPictureModel" ({ cls := "IntraPictureModel", name := "predicted", desc := "(II)I" } : Jvm.MethodName) ({ cls := "IntraPictureModel", name := "predicted", desc := "(II)I" } : Jvm.MethodName)) ∈ ipW := ip_w4 213 rfl rfl
theorem kw4_214 : (Jvm.Cond.code ({ cls := "IntraPictureModel", name := "predicted", desc := "(II)I" } : Jvm.MethodName) prog_14_method_44_code (3 : Nat) (Option.some Jvm.ClassFile.FieldType.int)) ∈ ipW := ip_w4 214 rfl rfl
theorem kw4_215 : (Jvm.Cond.methodLink "IntraPictureLaw" (58 : Nat) ({ cls := "IntraPictureModel", name := "level", desc := "(II)I" } : Jvm.MethodName)) ∈ ipW := ip_w4 215 rfl rfl
theorem kw4_216 : (Jvm.Cond.instanceMethod ({ cls := "IntraPictureModel", name := "level", desc := "(II)I" } : Jvm.MethodName)) ∈ ipW := ip_w4 216 rfl rfl
theorem kw4_217 : (Jvm.Cond.selects "IntraPictureModel" ({ cls := "IntraPictureModel", name := "level", desc := "(II)I" } : Jvm.MethodName) ({ cls := "IntraPictureModel", name := "level", desc := "(II)I" } : Jvm.MethodName)) ∈ ipW := ip_w4 217 rfl rfl
theorem kw4_218 : (Jvm.Cond.code ({ cls := "IntraPictureModel", name := "level", desc := "(II)I" } : Jvm.MethodName) prog_14_method_45_code (3 : Nat) (Option.some Jvm.ClassFile.FieldType.int)) ∈ ipW := ip_w4 218 rfl rfl
theorem kw4_219 : (Jvm.Cond.methodLink "IntraPictureLaw" (62 : Nat) ({ cls := "IntraPictureModel", name := "mode", desc := "(II)I" } : Jvm.MethodName)) ∈ ipW := ip_w4 219 rfl rfl
theorem kw4_220 : (Jvm.Cond.instanceMethod ({ cls := "IntraPictureModel", name := "mode", desc := "(II)I" } : Jvm.MethodName)) ∈ ipW := ip_w4 220 rfl rfl
theorem kw4_221 : (Jvm.Cond.selects "IntraPictureModel" ({ cls := "IntraPictureModel", name := "mode", desc := "(II)I" } : Jvm.MethodName) ({ cls := "IntraPictureModel", name := "mode", desc := "(II)I" } : Jvm.MethodName)) ∈ ipW := ip_w4 221 rfl rfl
theorem kw4_222 : (Jvm.Cond.code ({ cls := "IntraPictureModel", name := "mode", desc := "(II)I" } : Jvm.MethodName) prog_14_method_46_code (3 : Nat) (Option.some Jvm.ClassFile.FieldType.int)) ∈ ipW := ip_w4 222 rfl rfl
theorem kw4_223 : (Jvm.Cond.methodLink "IntraPictureLaw" (66 : Nat) ({ cls := "IntraPictureModel", name := "side", desc := "(II)I" } : Jvm.MethodName)) ∈ ipW := ip_w4 223 rfl rfl
theorem kw4_224 : (Jvm.Cond.instanceMethod ({ cls := "IntraPictureModel", name := "side", desc := "(II)I" } : Jvm.MethodName)) ∈ ipW := ip_w4 224 rfl rfl
theorem kw4_225 : (Jvm.Cond.selects "IntraPictureModel" ({ cls := "IntraPictureModel", name := "side", desc := "(II)I" } : Jvm.MethodName) ({ cls := "IntraPictureModel", name := "side", desc := "(II)I" } : Jvm.MethodName)) ∈ ipW := ip_w4 225 rfl rfl
theorem kw4_226 : (Jvm.Cond.code ({ cls := "IntraPictureModel", name := "side", desc := "(II)I" } : Jvm.MethodName) prog_14_method_47_code (3 : Nat) (Option.some Jvm.ClassFile.FieldType.int)) ∈ ipW := ip_w4 226 rfl rfl
theorem kw4_227 : (Jvm.Cond.methodLink "IntraPictureLaw" (70 : Nat) ({ cls := "IntraPictureModel", name := "chance", desc := "(I)I" } : Jvm.MethodName)) ∈ ipW := ip_w4 227 rfl rfl
theorem kw4_228 : (Jvm.Cond.instanceMethod ({ cls := "IntraPictureModel", name := "chance", desc := "(I)I" } : Jvm.MethodName)) ∈ ipW := ip_w4 228 rfl rfl
theorem kw4_229 : (Jvm.Cond.selects "IntraPictureModel" ({ cls := "IntraPictureModel", name := "chance", desc := "(I)I" } : Jvm.MethodName) ({ cls := "IntraPictureModel", name := "chance", desc := "(I)I" } : Jvm.MethodName)) ∈ ipW := ip_w4 229 rfl rfl
theorem kw4_230 : (Jvm.Cond.code ({ cls := "IntraPictureModel", name := "chance", desc := "(I)I" } : Jvm.MethodName) prog_14_method_48_code (2 : Nat) (Option.some Jvm.ClassFile.FieldType.int)) ∈ ipW := ip_w4 230 rfl rfl
theorem kw4_231 : (Jvm.Cond.methodLink "IntraPictureLaw" (74 : Nat) ({ cls := "IntraPictureModel", name := "took", desc := "(I)I" } : Jvm.MethodName)) ∈ ipW := ip_w4 231 rfl rfl
theorem kw4_232 : (Jvm.Cond.instanceMethod ({ cls := "IntraPictureModel", name := "took", desc := "(I)I" } : Jvm.MethodName)) ∈ ipW := ip_w4 232 rfl rfl
theorem kw4_233 : (Jvm.Cond.selects "IntraPictureModel" ({ cls := "IntraPictureModel", name := "took", desc := "(I)I" } : Jvm.MethodName) ({ cls := "IntraPictureModel", name := "took", desc := "(I)I" } : Jvm.MethodName)) ∈ ipW := ip_w4 233 rfl rfl
theorem kw4_234 : (Jvm.Cond.code ({ cls := "IntraPictureModel", name := "took", desc := "(I)I" } : Jvm.MethodName) prog_14_method_49_code (2 : Nat) (Option.some Jvm.ClassFile.FieldType.int)) ∈ ipW := ip_w4 234 rfl rfl
theorem kw4_235 : (Jvm.Cond.constantLong "IntraPictureLaw" (13 : Nat) (4294967295 : Int64)) ∈ ipW := ip_w4 235 rfl rfl
/-! the law: its instructions, its state -/
theorem dLW_0 : decode code 0 = .ok (.new 7, 3) := by decide +kernel
theorem dLW_3 : decode code 3 = .ok (.dup, 1) := by decide +kernel
theorem dLW_4 : decode code 4 = .ok (.invokespecial 9, 3) := by decide +kernel
theorem dLW_7 : decode code 7 = .ok (.astore_n 1, 1) := by decide +kernel
theorem dLW_8 : decode code 8 = .ok (.new 10, 3) := by decide +kernel
theorem dLW_11 : decode code 11 = .ok (.dup, 1) := by decide +kernel
theorem dLW_12 : decode code 12 = .ok (.invokespecial 12, 3) := by decide +kernel
theorem dLW_15 : decode code 15 = .ok (.astore_n 2, 1) := by decide +kernel
theorem dLW_16 : decode code 16 = .ok (.iconst 0, 1) := by decide +kernel
theorem dLW_17 : decode code 17 = .ok (.istore_n 3, 1) := by decide +kernel
theorem dLW_18 : decode code 18 = .ok (.iload_n 3, 1) := by decide +kernel
theorem dLW_19 : decode code 19 = .ok (.aload_n 0, 1) := by decide +kernel
theorem dLW_20 : decode code 20 = .ok (.arraylength, 1) := by decide +kernel
theorem dLW_21 : decode code 21 = .ok (.iconst 4, 1) := by decide +kernel
theorem dLW_22 : decode code 22 = .ok (.isub, 1) := by decide +kernel
theorem dLW_23 : decode code 23 = .ok (.if_icmp .gt 487, 3) := by decide +kernel
theorem dLW_26 : decode code 26 = .ok (.aload_n 0, 1) := by decide +kernel
theorem dLW_27 : decode code 27 = .ok (.iload_n 3, 1) := by decide +kernel
theorem dLW_28 : decode code 28 = .ok (.iaload, 1) := by decide +kernel
theorem dLW_29 : decode code 29 = .ok (.bipush 15, 2) := by decide +kernel
theorem dLW_31 : decode code 31 = .ok (.iand, 1) := by decide +kernel
theorem dLW_32 : decode code 32 = .ok (.tableswitch 472 0 13 #[72, 135, 146, 159, 192, 205, 228, 261, 294, 327, 360, 393, 426, 449], 72) := by decide +kernel
theorem dLW_104 : decode code 104 = .ok (.aload_n 1, 1) := by decide +kernel
theorem dLW_105 : decode code 105 = .ok (.aload_n 0, 1) := by decide +kernel
theorem dLW_106 : decode code 106 = .ok (.iload_n 3, 1) := by decide +kernel
theorem dLW_107 : decode code 107 = .ok (.iconst 1, 1) := by decide +kernel
theorem dLW_108 : decode code 108 = .ok (.iadd, 1) := by decide +kernel
theorem dLW_109 : decode code 109 = .ok (.iaload, 1) := by decide +kernel
theorem dLW_110 : decode code 110 = .ok (.i2l, 1) := by decide +kernel
theorem dLW_111 : decode code 111 = .ok (.bipush 32, 2) := by decide +kernel
theorem dLW_113 : decode code 113 = .ok (.lshl, 1) := by decide +kernel
theorem dLW_114 : decode code 114 = .ok (.aload_n 0, 1) := by decide +kernel
theorem dLW_115 : decode code 115 = .ok (.iload_n 3, 1) := by decide +kernel
theorem dLW_116 : decode code 116 = .ok (.iconst 2, 1) := by decide +kernel
theorem dLW_117 : decode code 117 = .ok (.iadd, 1) := by decide +kernel
theorem dLW_118 : decode code 118 = .ok (.iaload, 1) := by decide +kernel
theorem dLW_119 : decode code 119 = .ok (.i2l, 1) := by decide +kernel
theorem dLW_120 : decode code 120 = .ok (.ldc2_w 13, 3) := by decide +kernel
theorem dLW_123 : decode code 123 = .ok (.land, 1) := by decide +kernel
theorem dLW_124 : decode code 124 = .ok (.lor, 1) := by decide +kernel
theorem dLW_125 : decode code 125 = .ok (.aload_n 0, 1) := by decide +kernel
theorem dLW_126 : decode code 126 = .ok (.iload_n 3, 1) := by decide +kernel
theorem dLW_127 : decode code 127 = .ok (.iconst 3, 1) := by decide +kernel
theorem dLW_128 : decode code 128 = .ok (.iadd, 1) := by decide +kernel
theorem dLW_129 : decode code 129 = .ok (.iaload, 1) := by decide +kernel
theorem dLW_130 : decode code 130 = .ok (.invokevirtual 15, 3) := by decide +kernel
theorem dLW_133 : decode code 133 = .ok (.aload_n 2, 1) := by decide +kernel
theorem dLW_134 : decode code 134 = .ok (.aload_n 0, 1) := by decide +kernel
theorem dLW_135 : decode code 135 = .ok (.iload_n 3, 1) := by decide +kernel
theorem dLW_136 : decode code 136 = .ok (.iconst 1, 1) := by decide +kernel
theorem dLW_137 : decode code 137 = .ok (.iadd, 1) := by decide +kernel
theorem dLW_138 : decode code 138 = .ok (.iaload, 1) := by decide +kernel
theorem dLW_139 : decode code 139 = .ok (.i2l, 1) := by decide +kernel
theorem dLW_140 : decode code 140 = .ok (.bipush 32, 2) := by decide +kernel
theorem dLW_142 : decode code 142 = .ok (.lshl, 1) := by decide +kernel
theorem dLW_143 : decode code 143 = .ok (.aload_n 0, 1) := by decide +kernel
theorem dLW_144 : decode code 144 = .ok (.iload_n 3, 1) := by decide +kernel
theorem dLW_145 : decode code 145 = .ok (.iconst 2, 1) := by decide +kernel
theorem dLW_146 : decode code 146 = .ok (.iadd, 1) := by decide +kernel
theorem dLW_147 : decode code 147 = .ok (.iaload, 1) := by decide +kernel
theorem dLW_148 : decode code 148 = .ok (.i2l, 1) := by decide +kernel
theorem dLW_149 : decode code 149 = .ok (.ldc2_w 13, 3) := by decide +kernel
theorem dLW_152 : decode code 152 = .ok (.land, 1) := by decide +kernel
theorem dLW_153 : decode code 153 = .ok (.lor, 1) := by decide +kernel
theorem dLW_154 : decode code 154 = .ok (.aload_n 0, 1) := by decide +kernel
theorem dLW_155 : decode code 155 = .ok (.iload_n 3, 1) := by decide +kernel
theorem dLW_156 : decode code 156 = .ok (.iconst 3, 1) := by decide +kernel
theorem dLW_157 : decode code 157 = .ok (.iadd, 1) := by decide +kernel
theorem dLW_158 : decode code 158 = .ok (.iaload, 1) := by decide +kernel
theorem dLW_159 : decode code 159 = .ok (.invokevirtual 19, 3) := by decide +kernel
theorem dLW_162 : decode code 162 = .ok (.if_icmp .eq 342, 3) := by decide +kernel
theorem dLW_165 : decode code 165 = .ok (.iconst 0, 1) := by decide +kernel
theorem dLW_166 : decode code 166 = .ok (.ireturn, 1) := by decide +kernel
theorem dLW_167 : decode code 167 = .ok (.aload_n 1, 1) := by decide +kernel
theorem dLW_168 : decode code 168 = .ok (.invokevirtual 20, 3) := by decide +kernel
theorem dLW_171 : decode code 171 = .ok (.aload_n 2, 1) := by decide +kernel
theorem dLW_172 : decode code 172 = .ok (.invokevirtual 23, 3) := by decide +kernel
theorem dLW_175 : decode code 175 = .ok (.goto 329, 3) := by decide +kernel
theorem dLW_178 : decode code 178 = .ok (.aload_n 1, 1) := by decide +kernel
theorem dLW_179 : decode code 179 = .ok (.invokevirtual 24, 3) := by decide +kernel
theorem dLW_182 : decode code 182 = .ok (.aload_n 2, 1) := by decide +kernel
theorem dLW_183 : decode code 183 = .ok (.invokevirtual 28, 3) := by decide +kernel
theorem dLW_186 : decode code 186 = .ok (.if_icmp .eq 318, 3) := by decide +kernel
theorem dLW_189 : decode code 189 = .ok (.iconst 0, 1) := by decide +kernel
theorem dLW_190 : decode code 190 = .ok (.ireturn, 1) := by decide +kernel
theorem dLW_191 : decode code 191 = .ok (.aload_n 1, 1) := by decide +kernel
theorem dLW_192 : decode code 192 = .ok (.aload_n 0, 1) := by decide +kernel
theorem dLW_193 : decode code 193 = .ok (.iload_n 3, 1) := by decide +kernel
theorem dLW_194 : decode code 194 = .ok (.iconst 1, 1) := by decide +kernel
theorem dLW_195 : decode code 195 = .ok (.iadd, 1) := by decide +kernel
theorem dLW_196 : decode code 196 = .ok (.iaload, 1) := by decide +kernel
theorem dLW_197 : decode code 197 = .ok (.aload_n 0, 1) := by decide +kernel
theorem dLW_198 : decode code 198 = .ok (.iload_n 3, 1) := by decide +kernel
theorem dLW_199 : decode code 199 = .ok (.iconst 2, 1) := by decide +kernel
theorem dLW_200 : decode code 200 = .ok (.iadd, 1) := by decide +kernel
theorem dLW_201 : decode code 201 = .ok (.iaload, 1) := by decide +kernel
theorem dLW_202 : decode code 202 = .ok (.invokevirtual 29, 3) := by decide +kernel
theorem dLW_205 : decode code 205 = .ok (.aload_n 2, 1) := by decide +kernel
theorem dLW_206 : decode code 206 = .ok (.aload_n 0, 1) := by decide +kernel
theorem dLW_207 : decode code 207 = .ok (.iload_n 3, 1) := by decide +kernel
theorem dLW_208 : decode code 208 = .ok (.iconst 1, 1) := by decide +kernel
theorem dLW_209 : decode code 209 = .ok (.iadd, 1) := by decide +kernel
theorem dLW_210 : decode code 210 = .ok (.iaload, 1) := by decide +kernel
theorem dLW_211 : decode code 211 = .ok (.aload_n 0, 1) := by decide +kernel
theorem dLW_212 : decode code 212 = .ok (.iload_n 3, 1) := by decide +kernel
theorem dLW_213 : decode code 213 = .ok (.iconst 2, 1) := by decide +kernel
theorem dLW_214 : decode code 214 = .ok (.iadd, 1) := by decide +kernel
theorem dLW_215 : decode code 215 = .ok (.iaload, 1) := by decide +kernel
theorem dLW_216 : decode code 216 = .ok (.invokevirtual 33, 3) := by decide +kernel
theorem dLW_219 : decode code 219 = .ok (.if_icmp .eq 285, 3) := by decide +kernel
theorem dLW_222 : decode code 222 = .ok (.iconst 0, 1) := by decide +kernel
theorem dLW_223 : decode code 223 = .ok (.ireturn, 1) := by decide +kernel
theorem dLW_224 : decode code 224 = .ok (.aload_n 1, 1) := by decide +kernel
theorem dLW_225 : decode code 225 = .ok (.invokevirtual 34, 3) := by decide +kernel
theorem dLW_228 : decode code 228 = .ok (.aload_n 2, 1) := by decide +kernel
theorem dLW_229 : decode code 229 = .ok (.invokevirtual 37, 3) := by decide +kernel
theorem dLW_232 : decode code 232 = .ok (.if_icmp .eq 272, 3) := by decide +kernel
theorem dLW_235 : decode code 235 = .ok (.iconst 0, 1) := by decide +kernel
theorem dLW_236 : decode code 236 = .ok (.ireturn, 1) := by decide +kernel
theorem dLW_237 : decode code 237 = .ok (.aload_n 1, 1) := by decide +kernel
theorem dLW_238 : decode code 238 = .ok (.aload_n 0, 1) := by decide +kernel
theorem dLW_239 : decode code 239 = .ok (.iload_n 3, 1) := by decide +kernel
theorem dLW_240 : decode code 240 = .ok (.iconst 1, 1) := by decide +kernel
theorem dLW_241 : decode code 241 = .ok (.iadd, 1) := by decide +kernel
theorem dLW_242 : decode code 242 = .ok (.iaload, 1) := by decide +kernel
theorem dLW_243 : decode code 243 = .ok (.invokevirtual 38, 3) := by decide +kernel
theorem dLW_246 : decode code 246 = .ok (.aload_n 2, 1) := by decide +kernel
theorem dLW_247 : decode code 247 = .ok (.aload_n 0, 1) := by decide +kernel
theorem dLW_248 : decode code 248 = .ok (.iload_n 3, 1) := by decide +kernel
theorem dLW_249 : decode code 249 = .ok (.iconst 1, 1) := by decide +kernel
theorem dLW_250 : decode code 250 = .ok (.iadd, 1) := by decide +kernel
theorem dLW_251 : decode code 251 = .ok (.iaload, 1) := by decide +kernel
theorem dLW_252 : decode code 252 = .ok (.invokevirtual 42, 3) := by decide +kernel
theorem dLW_255 : decode code 255 = .ok (.if_icmp .eq 249, 3) := by decide +kernel
theorem dLW_258 : decode code 258 = .ok (.iconst 0, 1) := by decide +kernel
theorem dLW_259 : decode code 259 = .ok (.ireturn, 1) := by decide +kernel
theorem dLW_260 : decode code 260 = .ok (.aload_n 1, 1) := by decide +kernel
theorem dLW_261 : decode code 261 = .ok (.aload_n 0, 1) := by decide +kernel
theorem dLW_262 : decode code 262 = .ok (.iload_n 3, 1) := by decide +kernel
theorem dLW_263 : decode code 263 = .ok (.iconst 1, 1) := by decide +kernel
theorem dLW_264 : decode code 264 = .ok (.iadd, 1) := by decide +kernel
theorem dLW_265 : decode code 265 = .ok (.iaload, 1) := by decide +kernel
theorem dLW_266 : decode code 266 = .ok (.aload_n 0, 1) := by decide +kernel
theorem dLW_267 : decode code 267 = .ok (.iload_n 3, 1) := by decide +kernel
theorem dLW_268 : decode code 268 = .ok (.iconst 2, 1) := by decide +kernel
theorem dLW_269 : decode code 269 = .ok (.iadd, 1) := by decide +kernel
theorem dLW_270 : decode code 270 = .ok (.iaload, 1) := by decide +kernel
theorem dLW_271 : decode code 271 = .ok (.invokevirtual 43, 3) := by decide +kernel
theorem dLW_274 : decode code 274 = .ok (.aload_n 2, 1) := by decide +kernel
theorem dLW_275 : decode code 275 = .ok (.aload_n 0, 1) := by decide +kernel
theorem dLW_276 : decode code 276 = .ok (.iload_n 3, 1) := by decide +kernel
theorem dLW_277 : decode code 277 = .ok (.iconst 1, 1) := by decide +kernel
theorem dLW_278 : decode code 278 = .ok (.iadd, 1) := by decide +kernel
theorem dLW_279 : decode code 279 = .ok (.iaload, 1) := by decide +kernel
theorem dLW_280 : decode code 280 = .ok (.aload_n 0, 1) := by decide +kernel
theorem dLW_281 : decode code 281 = .ok (.iload_n 3, 1) := by decide +kernel
theorem dLW_282 : decode code 282 = .ok (.iconst 2, 1) := by decide +kernel
theorem dLW_283 : decode code 283 = .ok (.iadd, 1) := by decide +kernel
theorem dLW_284 : decode code 284 = .ok (.iaload, 1) := by decide +kernel
theorem dLW_285 : decode code 285 = .ok (.invokevirtual 46, 3) := by decide +kernel
theorem dLW_288 : decode code 288 = .ok (.if_icmp .eq 216, 3) := by decide +kernel
theorem dLW_291 : decode code 291 = .ok (.iconst 0, 1) := by decide +kernel
theorem dLW_292 : decode code 292 = .ok (.ireturn, 1) := by decide +kernel
theorem dLW_293 : decode code 293 = .ok (.aload_n 1, 1) := by decide +kernel
theorem dLW_294 : decode code 294 = .ok (.aload_n 0, 1) := by decide +kernel
theorem dLW_295 : decode code 295 = .ok (.iload_n 3, 1) := by decide +kernel
theorem dLW_296 : decode code 296 = .ok (.iconst 1, 1) := by decide +kernel
theorem dLW_297 : decode code 297 = .ok (.iadd, 1) := by decide +kernel
theorem dLW_298 : decode code 298 = .ok (.iaload, 1) := by decide +kernel
theorem dLW_299 : decode code 299 = .ok (.aload_n 0, 1) := by decide +kernel
theorem dLW_300 : decode code 300 = .ok (.iload_n 3, 1) := by decide +kernel
theorem dLW_301 : decode code 301 = .ok (.iconst 2, 1) := by decide +kernel
theorem dLW_302 : decode code 302 = .ok (.iadd, 1) := by decide +kernel
theorem dLW_303 : decode code 303 = .ok (.iaload, 1) := by decide +kernel
theorem dLW_304 : decode code 304 = .ok (.invokevirtual 47, 3) := by decide +kernel
theorem dLW_307 : decode code 307 = .ok (.aload_n 2, 1) := by decide +kernel
theorem dLW_308 : decode code 308 = .ok (.aload_n 0, 1) := by decide +kernel
theorem dLW_309 : decode code 309 = .ok (.iload_n 3, 1) := by decide +kernel
theorem dLW_310 : decode code 310 = .ok (.iconst 1, 1) := by decide +kernel
theorem dLW_311 : decode code 311 = .ok (.iadd, 1) := by decide +kernel
theorem dLW_312 : decode code 312 = .ok (.iaload, 1) := by decide +kernel
theorem dLW_313 : decode code 313 = .ok (.aload_n 0, 1) := by decide +kernel
theorem dLW_314 : decode code 314 = .ok (.iload_n 3, 1) := by decide +kernel
theorem dLW_315 : decode code 315 = .ok (.iconst 2, 1) := by decide +kernel
theorem dLW_316 : decode code 316 = .ok (.iadd, 1) := by decide +kernel
theorem dLW_317 : decode code 317 = .ok (.iaload, 1) := by decide +kernel
theorem dLW_318 : decode code 318 = .ok (.invokevirtual 50, 3) := by decide +kernel
theorem dLW_321 : decode code 321 = .ok (.if_icmp .eq 183, 3) := by decide +kernel
theorem dLW_324 : decode code 324 = .ok (.iconst 0, 1) := by decide +kernel
theorem dLW_325 : decode code 325 = .ok (.ireturn, 1) := by decide +kernel
theorem dLW_326 : decode code 326 = .ok (.aload_n 1, 1) := by decide +kernel
theorem dLW_327 : decode code 327 = .ok (.aload_n 0, 1) := by decide +kernel
theorem dLW_328 : decode code 328 = .ok (.iload_n 3, 1) := by decide +kernel
theorem dLW_329 : decode code 329 = .ok (.iconst 1, 1) := by decide +kernel
theorem dLW_330 : decode code 330 = .ok (.iadd, 1) := by decide +kernel
theorem dLW_331 : decode code 331 = .ok (.iaload, 1) := by decide +kernel
theorem dLW_332 : decode code 332 = .ok (.aload_n 0, 1) := by decide +kernel
theorem dLW_333 : decode code 333 = .ok (.iload_n 3, 1) := by decide +kernel
theorem dLW_334 : decode code 334 = .ok (.iconst 2, 1) := by decide +kernel
theorem dLW_335 : decode code 335 = .ok (.iadd, 1) := by decide +kernel
theorem dLW_336 : decode code 336 = .ok (.iaload, 1) := by decide +kernel
theorem dLW_337 : decode code 337 = .ok (.invokevirtual 51, 3) := by decide +kernel
theorem dLW_340 : decode code 340 = .ok (.aload_n 2, 1) := by decide +kernel
theorem dLW_341 : decode code 341 = .ok (.aload_n 0, 1) := by decide +kernel
theorem dLW_342 : decode code 342 = .ok (.iload_n 3, 1) := by decide +kernel
theorem dLW_343 : decode code 343 = .ok (.iconst 1, 1) := by decide +kernel
theorem dLW_344 : decode code 344 = .ok (.iadd, 1) := by decide +kernel
theorem dLW_345 : decode code 345 = .ok (.iaload, 1) := by decide +kernel
theorem dLW_346 : decode code 346 = .ok (.aload_n 0, 1) := by decide +kernel
theorem dLW_347 : decode code 347 = .ok (.iload_n 3, 1) := by decide +kernel
theorem dLW_348 : decode code 348 = .ok (.iconst 2, 1) := by decide +kernel
theorem dLW_349 : decode code 349 = .ok (.iadd, 1) := by decide +kernel
theorem dLW_350 : decode code 350 = .ok (.iaload, 1) := by decide +kernel
theorem dLW_351 : decode code 351 = .ok (.invokevirtual 54, 3) := by decide +kernel
theorem dLW_354 : decode code 354 = .ok (.if_icmp .eq 150, 3) := by decide +kernel
theorem dLW_357 : decode code 357 = .ok (.iconst 0, 1) := by decide +kernel
theorem dLW_358 : decode code 358 = .ok (.ireturn, 1) := by decide +kernel
theorem dLW_359 : decode code 359 = .ok (.aload_n 1, 1) := by decide +kernel
theorem dLW_360 : decode code 360 = .ok (.aload_n 0, 1) := by decide +kernel
theorem dLW_361 : decode code 361 = .ok (.iload_n 3, 1) := by decide +kernel
theorem dLW_362 : decode code 362 = .ok (.iconst 1, 1) := by decide +kernel
theorem dLW_363 : decode code 363 = .ok (.iadd, 1) := by decide +kernel
theorem dLW_364 : decode code 364 = .ok (.iaload, 1) := by decide +kernel
theorem dLW_365 : decode code 365 = .ok (.aload_n 0, 1) := by decide +kernel
theorem dLW_366 : decode code 366 = .ok (.iload_n 3, 1) := by decide +kernel
theorem dLW_367 : decode code 367 = .ok (.iconst 2, 1) := by decide +kernel
theorem dLW_368 : decode code 368 = .ok (.iadd, 1) := by decide +kernel
theorem dLW_369 : decode code 369 = .ok (.iaload, 1) := by decide +kernel
theorem dLW_370 : decode code 370 = .ok (.invokevirtual 55, 3) := by decide +kernel
theorem dLW_373 : decode code 373 = .ok (.aload_n 2, 1) := by decide +kernel
theorem dLW_374 : decode code 374 = .ok (.aload_n 0, 1) := by decide +kernel
theorem dLW_375 : decode code 375 = .ok (.iload_n 3, 1) := by decide +kernel
theorem dLW_376 : decode code 376 = .ok (.iconst 1, 1) := by decide +kernel
theorem dLW_377 : decode code 377 = .ok (.iadd, 1) := by decide +kernel
theorem dLW_378 : decode code 378 = .ok (.iaload, 1) := by decide +kernel
theorem dLW_379 : decode code 379 = .ok (.aload_n 0, 1) := by decide +kernel
theorem dLW_380 : decode code 380 = .ok (.iload_n 3, 1) := by decide +kernel
theorem dLW_381 : decode code 381 = .ok (.iconst 2, 1) := by decide +kernel
theorem dLW_382 : decode code 382 = .ok (.iadd, 1) := by decide +kernel
theorem dLW_383 : decode code 383 = .ok (.iaload, 1) := by decide +kernel
theorem dLW_384 : decode code 384 = .ok (.invokevirtual 58, 3) := by decide +kernel
theorem dLW_387 : decode code 387 = .ok (.if_icmp .eq 117, 3) := by decide +kernel
theorem dLW_390 : decode code 390 = .ok (.iconst 0, 1) := by decide +kernel
theorem dLW_391 : decode code 391 = .ok (.ireturn, 1) := by decide +kernel
theorem dLW_392 : decode code 392 = .ok (.aload_n 1, 1) := by decide +kernel
theorem dLW_393 : decode code 393 = .ok (.aload_n 0, 1) := by decide +kernel
theorem dLW_394 : decode code 394 = .ok (.iload_n 3, 1) := by decide +kernel
theorem dLW_395 : decode code 395 = .ok (.iconst 1, 1) := by decide +kernel
theorem dLW_396 : decode code 396 = .ok (.iadd, 1) := by decide +kernel
theorem dLW_397 : decode code 397 = .ok (.iaload, 1) := by decide +kernel
theorem dLW_398 : decode code 398 = .ok (.aload_n 0, 1) := by decide +kernel
theorem dLW_399 : decode code 399 = .ok (.iload_n 3, 1) := by decide +kernel
theorem dLW_400 : decode code 400 = .ok (.iconst 2, 1) := by decide +kernel
theorem dLW_401 : decode code 401 = .ok (.iadd, 1) := by decide +kernel
theorem dLW_402 : decode code 402 = .ok (.iaload, 1) := by decide +kernel
theorem dLW_403 : decode code 403 = .ok (.invokevirtual 59, 3) := by decide +kernel
theorem dLW_406 : decode code 406 = .ok (.aload_n 2, 1) := by decide +kernel
theorem dLW_407 : decode code 407 = .ok (.aload_n 0, 1) := by decide +kernel
theorem dLW_408 : decode code 408 = .ok (.iload_n 3, 1) := by decide +kernel
theorem dLW_409 : decode code 409 = .ok (.iconst 1, 1) := by decide +kernel
theorem dLW_410 : decode code 410 = .ok (.iadd, 1) := by decide +kernel
theorem dLW_411 : decode code 411 = .ok (.iaload, 1) := by decide +kernel
theorem dLW_412 : decode code 412 = .ok (.aload_n 0, 1) := by decide +kernel
theorem dLW_413 : decode code 413 = .ok (.iload_n 3, 1) := by decide +kernel
theorem dLW_414 : decode code 414 = .ok (.iconst 2, 1) := by decide +kernel
theorem dLW_415 : decode code 415 = .ok (.iadd, 1) := by decide +kernel
theorem dLW_416 : decode code 416 = .ok (.iaload, 1) := by decide +kernel
theorem dLW_417 : decode code 417 = .ok (.invokevirtual 62, 3) := by decide +kernel
theorem dLW_420 : decode code 420 = .ok (.if_icmp .eq 84, 3) := by decide +kernel
theorem dLW_423 : decode code 423 = .ok (.iconst 0, 1) := by decide +kernel
theorem dLW_424 : decode code 424 = .ok (.ireturn, 1) := by decide +kernel
theorem dLW_425 : decode code 425 = .ok (.aload_n 1, 1) := by decide +kernel
theorem dLW_426 : decode code 426 = .ok (.aload_n 0, 1) := by decide +kernel
theorem dLW_427 : decode code 427 = .ok (.iload_n 3, 1) := by decide +kernel
theorem dLW_428 : decode code 428 = .ok (.iconst 1, 1) := by decide +kernel
theorem dLW_429 : decode code 429 = .ok (.iadd, 1) := by decide +kernel
theorem dLW_430 : decode code 430 = .ok (.iaload, 1) := by decide +kernel
theorem dLW_431 : decode code 431 = .ok (.aload_n 0, 1) := by decide +kernel
theorem dLW_432 : decode code 432 = .ok (.iload_n 3, 1) := by decide +kernel
theorem dLW_433 : decode code 433 = .ok (.iconst 2, 1) := by decide +kernel
theorem dLW_434 : decode code 434 = .ok (.iadd, 1) := by decide +kernel
theorem dLW_435 : decode code 435 = .ok (.iaload, 1) := by decide +kernel
theorem dLW_436 : decode code 436 = .ok (.invokevirtual 63, 3) := by decide +kernel
theorem dLW_439 : decode code 439 = .ok (.aload_n 2, 1) := by decide +kernel
theorem dLW_440 : decode code 440 = .ok (.aload_n 0, 1) := by decide +kernel
theorem dLW_441 : decode code 441 = .ok (.iload_n 3, 1) := by decide +kernel
theorem dLW_442 : decode code 442 = .ok (.iconst 1, 1) := by decide +kernel
theorem dLW_443 : decode code 443 = .ok (.iadd, 1) := by decide +kernel
theorem dLW_444 : decode code 444 = .ok (.iaload, 1) := by decide +kernel
theorem dLW_445 : decode code 445 = .ok (.aload_n 0, 1) := by decide +kernel
theorem dLW_446 : decode code 446 = .ok (.iload_n 3, 1) := by decide +kernel
theorem dLW_447 : decode code 447 = .ok (.iconst 2, 1) := by decide +kernel
theorem dLW_448 : decode code 448 = .ok (.iadd, 1) := by decide +kernel
theorem dLW_449 : decode code 449 = .ok (.iaload, 1) := by decide +kernel
theorem dLW_450 : decode code 450 = .ok (.invokevirtual 66, 3) := by decide +kernel
theorem dLW_453 : decode code 453 = .ok (.if_icmp .eq 51, 3) := by decide +kernel
theorem dLW_456 : decode code 456 = .ok (.iconst 0, 1) := by decide +kernel
theorem dLW_457 : decode code 457 = .ok (.ireturn, 1) := by decide +kernel
theorem dLW_458 : decode code 458 = .ok (.aload_n 1, 1) := by decide +kernel
theorem dLW_459 : decode code 459 = .ok (.aload_n 0, 1) := by decide +kernel
theorem dLW_460 : decode code 460 = .ok (.iload_n 3, 1) := by decide +kernel
theorem dLW_461 : decode code 461 = .ok (.iconst 1, 1) := by decide +kernel
theorem dLW_462 : decode code 462 = .ok (.iadd, 1) := by decide +kernel
theorem dLW_463 : decode code 463 = .ok (.iaload, 1) := by decide +kernel
theorem dLW_464 : decode code 464 = .ok (.invokevirtual 67, 3) := by decide +kernel
theorem dLW_467 : decode code 467 = .ok (.aload_n 2, 1) := by decide +kernel
theorem dLW_468 : decode code 468 = .ok (.aload_n 0, 1) := by decide +kernel
theorem dLW_469 : decode code 469 = .ok (.iload_n 3, 1) := by decide +kernel
theorem dLW_470 : decode code 470 = .ok (.iconst 1, 1) := by decide +kernel
theorem dLW_471 : decode code 471 = .ok (.iadd, 1) := by decide +kernel
theorem dLW_472 : decode code 472 = .ok (.iaload, 1) := by decide +kernel
theorem dLW_473 : decode code 473 = .ok (.invokevirtual 70, 3) := by decide +kernel
theorem dLW_476 : decode code 476 = .ok (.if_icmp .eq 28, 3) := by decide +kernel
theorem dLW_479 : decode code 479 = .ok (.iconst 0, 1) := by decide +kernel
theorem dLW_480 : decode code 480 = .ok (.ireturn, 1) := by decide +kernel
theorem dLW_481 : decode code 481 = .ok (.aload_n 1, 1) := by decide +kernel
theorem dLW_482 : decode code 482 = .ok (.aload_n 0, 1) := by decide +kernel
theorem dLW_483 : decode code 483 = .ok (.iload_n 3, 1) := by decide +kernel
theorem dLW_484 : decode code 484 = .ok (.iconst 1, 1) := by decide +kernel
theorem dLW_485 : decode code 485 = .ok (.iadd, 1) := by decide +kernel
theorem dLW_486 : decode code 486 = .ok (.iaload, 1) := by decide +kernel
theorem dLW_487 : decode code 487 = .ok (.invokevirtual 71, 3) := by decide +kernel
theorem dLW_490 : decode code 490 = .ok (.aload_n 2, 1) := by decide +kernel
theorem dLW_491 : decode code 491 = .ok (.aload_n 0, 1) := by decide +kernel
theorem dLW_492 : decode code 492 = .ok (.iload_n 3, 1) := by decide +kernel
theorem dLW_493 : decode code 493 = .ok (.iconst 1, 1) := by decide +kernel
theorem dLW_494 : decode code 494 = .ok (.iadd, 1) := by decide +kernel
theorem dLW_495 : decode code 495 = .ok (.iaload, 1) := by decide +kernel
theorem dLW_496 : decode code 496 = .ok (.invokevirtual 74, 3) := by decide +kernel
theorem dLW_499 : decode code 499 = .ok (.if_icmp .eq 5, 3) := by decide +kernel
theorem dLW_502 : decode code 502 = .ok (.iconst 0, 1) := by decide +kernel
theorem dLW_503 : decode code 503 = .ok (.ireturn, 1) := by decide +kernel
theorem dLW_504 : decode code 504 = .ok (.iinc 3 4, 3) := by decide +kernel
theorem dLW_507 : decode code 507 = .ok (.goto (-489), 3) := by decide +kernel
theorem dLW_510 : decode code 510 = .ok (.iconst 1, 1) := by decide +kernel
theorem dLW_511 : decode code 511 = .ok (.ireturn, 1) := by decide +kernel
abbrev lwT : List Cond := Cond.initialized "IntraPicture" :: ipW
def LWC (p : Program) (s : State) (m : MethodId) (c : Code) (b L : Nat) (sc : Nat → Int32) (dC : Nat → ClassId) (dI : Nat → Nat → Nat) (cI cZ : ClassId) (t0 t1 t2 t3 : Nat) (A : Nat → Prop) : Prop := p.tables.exec = Jvm.exec ∧ c.code = code ∧ c.maxLocals = 4 ∧ s.vm.findClass "IntraPictureLaw" = some m.cls ∧ (∀ w ∈ lwT, w.before #[Value.ref b] s = true) ∧ va_K (dC, dI) vwCl [(cI, .int), (cZ, .boolean)] s ∧ (∀ q : Nat, s.heap.size ≤ q → A q) ∧ ip_Z (ip_TS t0 t1 t2 t3) A s s.heap ∧ va_X b L sc s s.heap ∧ b < s.heap.size ∧ ¬ A b
def LWS (dC : Nat → ClassId) (dI : Nat → Nat → Nat) (cI cZ : ClassId) (ad am : Nat → Nat) (A : Nat → Prop) (H0 H : Heap) (locs : List Loc) : Prop := ∃ (n : Nat) (x : Nat → Int32) (g : Nat → Nat → Int32), va_P (dC, dI) vwCl (wIP_decode ad cI (x 0) (nI n) (x 1) (x 2) (x 3) (x 4) (x 5) (x 6) (x 7) (x 8) (x 9) (x 10) (x 11) (x 12) (x 13) (x 14) (x 15) (x 16) (x 17) (g 0) (g 4) (g 5) (g 6) (g 7) (g 8) (g 9) (g 10) (g 11) (g 12) (g 13) (g 14) (g 15) (g 16) (g 17) (g 18) (g 19) (g 20) (g 21) ++ wMO_decode am cI cZ (nI n) (x 18) (x 19) (x 20) (x 21) (x 22) (x 23) (x 24) (x 25) (g 0) (g 22) (g 23) (g 24) (g 25) (g 26) (g 27) (g 28) (g 29) (g 30) (g 31) (g 32) (g 33) (g 34) (g 35) (g 36) (g 37) (g 38) (g 39) (g 40) (g 1) (g 2) (g 3)) H ∧ va_D A (wIP_decode ad cI (x 0) (nI n) (x 1) (x 2) (x 3) (x 4) (x 5) (x 6) (x 7) (x 8) (x 9) (x 10) (x 11) (x 12) (x 13) (x 14) (x 15) (x 16) (x 17) (g 0) (g 4) (g 5) (g 6) (g 7) (g 8) (g 9) (g 10) (g 11) (g 12) (g 13) (g 14) (g 15) (g 16) (g 17) (g 18) (g 19) (g 20) (g 21) ++ wMO_decode am cI cZ (nI n) (x 18) (x 19) (x 20) (x 21) (x 22) (x 23) (x 24) (x 25) (g 0) (g 22) (g 23) (g 24) (g 25) (g 26) (g 27) (g 28) (g 29) (g 30) (g 31) (g 32) (g 33) (g 34) (g 35) (g 36) (g 37) (g 38) (g 39) (g 40) (g 1) (g 2) (g 3)) ∧ va_S A H0 H locs ∧ n ≤ 240 ∧ TabOK (g 1) (g 2) (g 3) ∧ ARel (x 0) (x 4) (x 13) (g 5) (g 7) (g 8) (g 9) (g 10) (g 11) (g 12) (g 13) (g 14) (x 21) (x 22) (x 25) (g 23) (g 25) (g 26) (g 29) (g 30) (g 32) (g 33) (g 35) (g 36) (g 37)
theorem lw_in {i k L : Nat} {K : Int32} (hK : K = nI k) (h : i + k < L) (hL : L ≤ 2048) : vp_in (nI i + K) L := by
  subst hK
  rw [nI_add]
  exact nI_in h (by omega)
theorem lw_in0 {i L : Nat} (h : i < L) (hL : L ≤ 2048) : vp_in (nI i) L := nI_in h (by omega)
theorem lw_hR {ws : va_W} {isR : List Nat} (h : ∀ i ∈ isR, i < ws.length) : isR.map (fun i => ws[i]?) = (isR.filterMap (fun i => ws[i]?)).map some := by
  induction isR with
  | nil => rfl
  | cons a t ih =>
    have h1 : ws[a]? = some (ws[a]'(h a List.mem_cons_self)) := List.getElem?_eq_getElem _
    rw [List.map_cons, List.filterMap_cons, h1]
    show _ = (_ :: _)
    rw [ih (fun i hi => h i (List.mem_cons_of_mem _ hi))]
theorem lw_h2 {ws w1 w2 : va_W} {isR is2 : List Nat} {nR : Nat} (hR : isR.map (fun i => ws[i]?) = (isR.filterMap (fun i => ws[i]?)).map some) (hn : isR.length = nR) (h2 : is2.map (fun i => if i < nR then (isR[i]?).bind (fun j => ws[j]?) else w1[i - nR]?) = w2.map some) : is2.map (fun i => (isR.filterMap (fun i => ws[i]?) ++ w1)[i]?) = w2.map some := by
  subst hn
  rw [← h2]
  refine List.map_congr_left (fun i _ => ?_)
  generalize isR.filterMap (fun i => ws[i]?) = F at hR ⊢
  have hl : isR.length = F.length := by
    have := congrArg List.length hR
    rw [List.length_map, List.length_map] at this
    exact this
  have hi := congrArg (fun t => t[i]?) hR
  simp only [List.getElem?_map] at hi
  by_cases c : i < isR.length
  · rw [if_pos c, List.getElem?_append_left (by omega)]
    rw [List.getElem?_eq_getElem c, List.getElem?_eq_getElem (show i < F.length by omega)] at hi
    rw [List.getElem?_eq_getElem c, List.getElem?_eq_getElem (show i < F.length by omega)]
    exact (Option.some.inj hi).symm
  · rw [if_neg c, List.getElem?_append_right (by omega), hl]
section LWK
variable {p : Program} {l : Launch} {e : Env} {R : Room} {s : State} {m : MethodId} {args : Array Value} {below : List Frame} {meth : Method} {c : Code} {H : Heap} {locs : List Loc} {cells slots : Nat} {Q : State → Prop}
variable {pc : Nat} {ls : Array Slot} {rest : List Value} {D : va_G} {cl : List vw_C} {tys : List (ClassId × FieldType)} {A : Nat → Prop} {ws : va_W}
theorem lw_calli {wc w1 : va_W} {st0 : List Value} {av : Array Value} {r : Int32} (hrun : va_Run p l e R s m args below meth c H locs cells slots 0 0 (F0 m pc ls st0) rest (va_Qi (fun (r1 : Int32) (_ : Unit) => r1 = r) (fun _ t => ip_Post D cl tys (va_A wc H.size) w1 t) (va_A wc H.size) av) (va_A wc H.size)) (hP : va_P D cl ws H) (hD : va_D A ws) (hS : va_S A s.heap H locs) (hA : ∀ q : Nat, s.heap.size ≤ q → A q) (isC isR is2 : List Nat) (w2 : va_W) (hC : isC.map (fun i => ws[i]?) = wc.map some) (N nR : Nat) (hN : ws.length = N) (hnR : isR.length = nR) (hR : ∀ i ∈ isR, i < N) (hn : va_nd isR = true) (hdis : ∀ i ∈ isR, i ∉ isC) (h2 : is2.map (fun i => if i < nR then (isR[i]?).bind (fun j => ws[j]?) else w1[i - nR]?) = w2.map some) (hn2 : va_nd is2 = true) (kk : ∀ (H1 : Heap) (locs1 : List Loc), va_P D cl w2 H1 → va_D A w2 → va_S A s.heap H1 locs1 → W p l e R s m args below meth c H1 locs1 cells slots Q (F0 m (pc + 3) ls (.int r :: rest))) : W p l e R s m args below meth c H locs cells slots Q (F0 m pc ls st0) := by
  have hR := lw_hR (fun i hi => by rw [hN]; exact hR i hi)
  have h2 := lw_h2 hR hnR h2
  have hFc := va_free hD hS hA isC hC
  refine va_calli hrun hS (fun q _ h => hFc q h) hFc (fun r1 u t H1 locs1 ht hvm hp hB hz1 hk1 hS1 => ?_)
  have hp : r1 = r := hp
  subst hp
  obtain ⟨hP1, hK1, hD1⟩ := hB
  rw [ht] at hP1
  obtain ⟨hP2, hD2⟩ := va_join hP hD isC isR hC hR hn hdis hk1 hFc hP1 hD1
  exact kk H1 locs1 (hP2.sub is2 (ip_fm h2)) (hD2.sub is2 hn2 h2) hS1
theorem lw_callv {wc w1 : va_W} {st0 : List Value} {av : Array Value} (hrun : va_Run p l e R s m args below meth c H locs cells slots 0 0 (F0 m pc ls st0) rest (va_Qv (fun (_ : Unit) => True) (fun _ t => ip_Post D cl tys (va_A wc H.size) w1 t) (va_A wc H.size) av) (va_A wc H.size)) (hP : va_P D cl ws H) (hD : va_D A ws) (hS : va_S A s.heap H locs) (hA : ∀ q : Nat, s.heap.size ≤ q → A q) (isC isR is2 : List Nat) (w2 : va_W) (hC : isC.map (fun i => ws[i]?) = wc.map some) (N nR : Nat) (hN : ws.length = N) (hnR : isR.length = nR) (hR : ∀ i ∈ isR, i < N) (hn : va_nd isR = true) (hdis : ∀ i ∈ isR, i ∉ isC) (h2 : is2.map (fun i => if i < nR then (isR[i]?).bind (fun j => ws[j]?) else w1[i - nR]?) = w2.map some) (hn2 : va_nd is2 = true) (kk : ∀ (H1 : Heap) (locs1 : List Loc), va_P D cl w2 H1 → va_D A w2 → va_S A s.heap H1 locs1 → W p l e R s m args below meth c H1 locs1 cells slots Q (F0 m (pc + 3) ls rest)) : W p l e R s m args below meth c H locs cells slots Q (F0 m pc ls st0) := by
  have hR := lw_hR (fun i hi => by rw [hN]; exact hR i hi)
  have h2 := lw_h2 hR hnR h2
  have hFc := va_free hD hS hA isC hC
  refine va_callv hrun hS (fun q _ h => hFc q h) hFc (fun u t H1 locs1 ht hvm hp hB hz1 hk1 hS1 => ?_)
  obtain ⟨hP1, hK1, hD1⟩ := hB
  rw [ht] at hP1
  obtain ⟨hP2, hD2⟩ := va_join hP hD isC isR hC hR hn hdis hk1 hFc hP1 hD1
  exact kk H1 locs1 (hP2.sub is2 (ip_fm h2)) (hD2.sub is2 hn2 h2) hS1
end LWK
