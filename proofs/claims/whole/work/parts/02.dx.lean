abbrev cAR_fill : ByteArray := prog_18_method_103_code
def yAR_fill : MethodName := ⟨kR_AR, "fill", "([II)V"⟩
def wsAR_fill : List Cond := .code yAR_fill cAR_fill 4 none :: ipW
theorem dAR_fill_0 : decode cAR_fill 0 = .ok (.iconst 0, 1) := by decide +kernel
theorem dAR_fill_1 : decode cAR_fill 1 = .ok (.istore_n 2, 1) := by decide +kernel
theorem dAR_fill_2 : decode cAR_fill 2 = .ok (.aload_n 0, 1) := by decide +kernel
theorem dAR_fill_3 : decode cAR_fill 3 = .ok (.arraylength, 1) := by decide +kernel
theorem dAR_fill_4 : decode cAR_fill 4 = .ok (.istore_n 3, 1) := by decide +kernel
theorem dAR_fill_5 : decode cAR_fill 5 = .ok (.iload_n 2, 1) := by decide +kernel
theorem dAR_fill_6 : decode cAR_fill 6 = .ok (.iload_n 3, 1) := by decide +kernel
theorem dAR_fill_7 : decode cAR_fill 7 = .ok (.if_icmp .ge 13, 3) := by decide +kernel
theorem dAR_fill_10 : decode cAR_fill 10 = .ok (.aload_n 0, 1) := by decide +kernel
theorem dAR_fill_11 : decode cAR_fill 11 = .ok (.iload_n 2, 1) := by decide +kernel
theorem dAR_fill_12 : decode cAR_fill 12 = .ok (.iload_n 1, 1) := by decide +kernel
theorem dAR_fill_13 : decode cAR_fill 13 = .ok (.iastore, 1) := by decide +kernel
theorem dAR_fill_14 : decode cAR_fill 14 = .ok (.iinc 2 1, 3) := by decide +kernel
theorem dAR_fill_17 : decode cAR_fill 17 = .ok (.goto (-12), 3) := by decide +kernel
theorem dAR_fill_20 : decode cAR_fill 20 = .ok (.return_, 1) := by decide +kernel
abbrev cJI_compare : ByteArray := prog_15_method_40_code
def yJI_compare : MethodName := ⟨kR_JI, "compare", "(II)I"⟩
def wsJI_compare : List Cond := .code yJI_compare cJI_compare 2 (some .int) :: ipW
theorem dJI_compare_0 : decode cJI_compare 0 = .ok (.iload_n 0, 1) := by decide +kernel
theorem dJI_compare_1 : decode cJI_compare 1 = .ok (.iload_n 1, 1) := by decide +kernel
theorem dJI_compare_2 : decode cJI_compare 2 = .ok (.if_icmp .ge 7, 3) := by decide +kernel
theorem dJI_compare_5 : decode cJI_compare 5 = .ok (.iconst (-1), 1) := by decide +kernel
theorem dJI_compare_6 : decode cJI_compare 6 = .ok (.goto 13, 3) := by decide +kernel
theorem dJI_compare_9 : decode cJI_compare 9 = .ok (.iload_n 0, 1) := by decide +kernel
theorem dJI_compare_10 : decode cJI_compare 10 = .ok (.iload_n 1, 1) := by decide +kernel
theorem dJI_compare_11 : decode cJI_compare 11 = .ok (.if_icmp .ne 7, 3) := by decide +kernel
theorem dJI_compare_14 : decode cJI_compare 14 = .ok (.iconst 0, 1) := by decide +kernel
theorem dJI_compare_15 : decode cJI_compare 15 = .ok (.goto 4, 3) := by decide +kernel
theorem dJI_compare_18 : decode cJI_compare 18 = .ok (.iconst 1, 1) := by decide +kernel
theorem dJI_compare_19 : decode cJI_compare 19 = .ok (.ireturn, 1) := by decide +kernel
abbrev cIP_feed : ByteArray := prog_1_method_2_code
def yIP_feed : MethodName := ⟨kR_IP, "feed", "(JI)Z"⟩
def wsIP_feed : List Cond := .code yIP_feed cIP_feed 4 (some .boolean) :: ipW
theorem dIP_feed_0 : decode cIP_feed 0 = .ok (.aload_n 0, 1) := by decide +kernel
theorem dIP_feed_1 : decode cIP_feed 1 = .ok (.getfield 12, 3) := by decide +kernel
theorem dIP_feed_4 : decode cIP_feed 4 = .ok (.lload_n 1, 1) := by decide +kernel
theorem dIP_feed_5 : decode cIP_feed 5 = .ok (.iload_n 3, 1) := by decide +kernel
theorem dIP_feed_6 : decode cIP_feed 6 = .ok (.invokevirtual 68, 3) := by decide +kernel
theorem dIP_feed_9 : decode cIP_feed 9 = .ok (.ireturn, 1) := by decide +kernel
abbrev cIP_clear : ByteArray := prog_1_method_3_code
def yIP_clear : MethodName := ⟨kR_IP, "clear", "()V"⟩
def wsIP_clear : List Cond := .code yIP_clear cIP_clear 1 none :: ipW
theorem dIP_clear_0 : decode cIP_clear 0 = .ok (.aload_n 0, 1) := by decide +kernel
theorem dIP_clear_1 : decode cIP_clear 1 = .ok (.getfield 12, 3) := by decide +kernel
theorem dIP_clear_4 : decode cIP_clear 4 = .ok (.iconst 0, 1) := by decide +kernel
theorem dIP_clear_5 : decode cIP_clear 5 = .ok (.putfield 72, 3) := by decide +kernel
theorem dIP_clear_8 : decode cIP_clear 8 = .ok (.aload_n 0, 1) := by decide +kernel
theorem dIP_clear_9 : decode cIP_clear 9 = .ok (.getfield 34, 3) := by decide +kernel
theorem dIP_clear_12 : decode cIP_clear 12 = .ok (.iconst 0, 1) := by decide +kernel
theorem dIP_clear_13 : decode cIP_clear 13 = .ok (.putfield 76, 3) := by decide +kernel
theorem dIP_clear_16 : decode cIP_clear 16 = .ok (.aload_n 0, 1) := by decide +kernel
theorem dIP_clear_17 : decode cIP_clear 17 = .ok (.iconst 0, 1) := by decide +kernel
theorem dIP_clear_18 : decode cIP_clear 18 = .ok (.putfield 64, 3) := by decide +kernel
theorem dIP_clear_21 : decode cIP_clear 21 = .ok (.return_, 1) := by decide +kernel
abbrev cIP_units : ByteArray := prog_1_method_4_code
def yIP_units : MethodName := ⟨kR_IP, "units", "()I"⟩
def wsIP_units : List Cond := .code yIP_units cIP_units 1 (some .int) :: ipW
theorem dIP_units_0 : decode cIP_units 0 = .ok (.aload_n 0, 1) := by decide +kernel
theorem dIP_units_1 : decode cIP_units 1 = .ok (.getfield 12, 3) := by decide +kernel
theorem dIP_units_4 : decode cIP_units 4 = .ok (.invokevirtual 79, 3) := by decide +kernel
theorem dIP_units_7 : decode cIP_units 7 = .ok (.ireturn, 1) := by decide +kernel
abbrev cIP_payload : ByteArray := prog_1_method_5_code
def yIP_payload : MethodName := ⟨kR_IP, "payload", "(II)I"⟩
def wsIP_payload : List Cond := .code yIP_payload cIP_payload 3 (some .int) :: ipW
theorem dIP_payload_0 : decode cIP_payload 0 = .ok (.aload_n 0, 1) := by decide +kernel
theorem dIP_payload_1 : decode cIP_payload 1 = .ok (.getfield 12, 3) := by decide +kernel
theorem dIP_payload_4 : decode cIP_payload 4 = .ok (.iload_n 1, 1) := by decide +kernel
theorem dIP_payload_5 : decode cIP_payload 5 = .ok (.invokevirtual 83, 3) := by decide +kernel
theorem dIP_payload_8 : decode cIP_payload 8 = .ok (.ifCond .ne 5, 3) := by decide +kernel
theorem dIP_payload_11 : decode cIP_payload 11 = .ok (.iconst (-1), 1) := by decide +kernel
theorem dIP_payload_12 : decode cIP_payload 12 = .ok (.ireturn, 1) := by decide +kernel
theorem dIP_payload_13 : decode cIP_payload 13 = .ok (.iload_n 2, 1) := by decide +kernel
theorem dIP_payload_14 : decode cIP_payload 14 = .ok (.iconst (-1), 1) := by decide +kernel
theorem dIP_payload_15 : decode cIP_payload 15 = .ok (.if_icmp .ne 11, 3) := by decide +kernel
theorem dIP_payload_18 : decode cIP_payload 18 = .ok (.aload_n 0, 1) := by decide +kernel
theorem dIP_payload_19 : decode cIP_payload 19 = .ok (.getfield 12, 3) := by decide +kernel
theorem dIP_payload_22 : decode cIP_payload 22 = .ok (.getfield 87, 3) := by decide +kernel
theorem dIP_payload_25 : decode cIP_payload 25 = .ok (.ireturn, 1) := by decide +kernel
theorem dIP_payload_26 : decode cIP_payload 26 = .ok (.iload_n 2, 1) := by decide +kernel
theorem dIP_payload_27 : decode cIP_payload 27 = .ok (.ifCond .lt 26, 3) := by decide +kernel
theorem dIP_payload_30 : decode cIP_payload 30 = .ok (.iload_n 2, 1) := by decide +kernel
theorem dIP_payload_31 : decode cIP_payload 31 = .ok (.aload_n 0, 1) := by decide +kernel
theorem dIP_payload_32 : decode cIP_payload 32 = .ok (.getfield 12, 3) := by decide +kernel
theorem dIP_payload_35 : decode cIP_payload 35 = .ok (.getfield 87, 3) := by decide +kernel
theorem dIP_payload_38 : decode cIP_payload 38 = .ok (.if_icmp .ge 15, 3) := by decide +kernel
theorem dIP_payload_41 : decode cIP_payload 41 = .ok (.aload_n 0, 1) := by decide +kernel
theorem dIP_payload_42 : decode cIP_payload 42 = .ok (.getfield 12, 3) := by decide +kernel
theorem dIP_payload_45 : decode cIP_payload 45 = .ok (.getfield 18, 3) := by decide +kernel
theorem dIP_payload_48 : decode cIP_payload 48 = .ok (.iload_n 2, 1) := by decide +kernel
theorem dIP_payload_49 : decode cIP_payload 49 = .ok (.iaload, 1) := by decide +kernel
theorem dIP_payload_50 : decode cIP_payload 50 = .ok (.goto 4, 3) := by decide +kernel
theorem dIP_payload_53 : decode cIP_payload 53 = .ok (.iconst (-1), 1) := by decide +kernel
theorem dIP_payload_54 : decode cIP_payload 54 = .ok (.ireturn, 1) := by decide +kernel
abbrev cIP_decode : ByteArray := prog_1_method_6_code
def yIP_decode : MethodName := ⟨kR_IP, "decode", "()I"⟩
def wsIP_decode : List Cond := .code yIP_decode cIP_decode 6 (some .int) :: ipW
theorem dIP_decode_0 : decode cIP_decode 0 = .ok (.aload_n 0, 1) := by decide +kernel
theorem dIP_decode_1 : decode cIP_decode 1 = .ok (.getfield 34, 3) := by decide +kernel
theorem dIP_decode_4 : decode cIP_decode 4 = .ok (.iconst 0, 1) := by decide +kernel
theorem dIP_decode_5 : decode cIP_decode 5 = .ok (.putfield 76, 3) := by decide +kernel
theorem dIP_decode_8 : decode cIP_decode 8 = .ok (.aload_n 0, 1) := by decide +kernel
theorem dIP_decode_9 : decode cIP_decode 9 = .ok (.iconst 0, 1) := by decide +kernel
theorem dIP_decode_10 : decode cIP_decode 10 = .ok (.putfield 64, 3) := by decide +kernel
theorem dIP_decode_13 : decode cIP_decode 13 = .ok (.iconst 0, 1) := by decide +kernel
theorem dIP_decode_14 : decode cIP_decode 14 = .ok (.istore_n 1, 1) := by decide +kernel
theorem dIP_decode_15 : decode cIP_decode 15 = .ok (.iconst 0, 1) := by decide +kernel
theorem dIP_decode_16 : decode cIP_decode 16 = .ok (.istore_n 2, 1) := by decide +kernel
theorem dIP_decode_17 : decode cIP_decode 17 = .ok (.aload_n 0, 1) := by decide +kernel
theorem dIP_decode_18 : decode cIP_decode 18 = .ok (.getfield 12, 3) := by decide +kernel
theorem dIP_decode_21 : decode cIP_decode 21 = .ok (.invokevirtual 79, 3) := by decide +kernel
theorem dIP_decode_24 : decode cIP_decode 24 = .ok (.istore_n 3, 1) := by decide +kernel
theorem dIP_decode_25 : decode cIP_decode 25 = .ok (.iconst 0, 1) := by decide +kernel
theorem dIP_decode_26 : decode cIP_decode 26 = .ok (.istore 4, 2) := by decide +kernel
theorem dIP_decode_28 : decode cIP_decode 28 = .ok (.iload 4, 2) := by decide +kernel
theorem dIP_decode_30 : decode cIP_decode 30 = .ok (.iload_n 3, 1) := by decide +kernel
theorem dIP_decode_31 : decode cIP_decode 31 = .ok (.if_icmp .ge 100, 3) := by decide +kernel
theorem dIP_decode_34 : decode cIP_decode 34 = .ok (.iload_n 2, 1) := by decide +kernel
theorem dIP_decode_35 : decode cIP_decode 35 = .ok (.ifCond .ne 96, 3) := by decide +kernel
theorem dIP_decode_38 : decode cIP_decode 38 = .ok (.aload_n 0, 1) := by decide +kernel
theorem dIP_decode_39 : decode cIP_decode 39 = .ok (.getfield 12, 3) := by decide +kernel
theorem dIP_decode_42 : decode cIP_decode 42 = .ok (.iload 4, 2) := by decide +kernel
theorem dIP_decode_44 : decode cIP_decode 44 = .ok (.invokevirtual 83, 3) := by decide +kernel
theorem dIP_decode_47 : decode cIP_decode 47 = .ok (.pop, 1) := by decide +kernel
theorem dIP_decode_48 : decode cIP_decode 48 = .ok (.aload_n 0, 1) := by decide +kernel
theorem dIP_decode_49 : decode cIP_decode 49 = .ok (.getfield 25, 3) := by decide +kernel
theorem dIP_decode_52 : decode cIP_decode 52 = .ok (.aload_n 0, 1) := by decide +kernel
theorem dIP_decode_53 : decode cIP_decode 53 = .ok (.getfield 12, 3) := by decide +kernel
theorem dIP_decode_56 : decode cIP_decode 56 = .ok (.getfield 87, 3) := by decide +kernel
theorem dIP_decode_59 : decode cIP_decode 59 = .ok (.invokevirtual 90, 3) := by decide +kernel
theorem dIP_decode_62 : decode cIP_decode 62 = .ok (.aload_n 0, 1) := by decide +kernel
theorem dIP_decode_63 : decode cIP_decode 63 = .ok (.getfield 12, 3) := by decide +kernel
theorem dIP_decode_66 : decode cIP_decode 66 = .ok (.invokevirtual 94, 3) := by decide +kernel
theorem dIP_decode_69 : decode cIP_decode 69 = .ok (.istore 5, 2) := by decide +kernel
theorem dIP_decode_71 : decode cIP_decode 71 = .ok (.iload 5, 2) := by decide +kernel
theorem dIP_decode_73 : decode cIP_decode 73 = .ok (.iconst 1, 1) := by decide +kernel
theorem dIP_decode_74 : decode cIP_decode 74 = .ok (.if_icmp .ne 14, 3) := by decide +kernel
theorem dIP_decode_77 : decode cIP_decode 77 = .ok (.aload_n 0, 1) := by decide +kernel
theorem dIP_decode_78 : decode cIP_decode 78 = .ok (.getfield 34, 3) := by decide +kernel
theorem dIP_decode_81 : decode cIP_decode 81 = .ok (.invokevirtual 97, 3) := by decide +kernel
theorem dIP_decode_84 : decode cIP_decode 84 = .ok (.istore_n 2, 1) := by decide +kernel
theorem dIP_decode_85 : decode cIP_decode 85 = .ok (.goto 40, 3) := by decide +kernel
theorem dIP_decode_88 : decode cIP_decode 88 = .ok (.iload 5, 2) := by decide +kernel
theorem dIP_decode_90 : decode cIP_decode 90 = .ok (.iconst 2, 1) := by decide +kernel
theorem dIP_decode_91 : decode cIP_decode 91 = .ok (.if_icmp .ne 19, 3) := by decide +kernel
theorem dIP_decode_94 : decode cIP_decode 94 = .ok (.aload_n 0, 1) := by decide +kernel
theorem dIP_decode_95 : decode cIP_decode 95 = .ok (.getfield 34, 3) := by decide +kernel
theorem dIP_decode_98 : decode cIP_decode 98 = .ok (.getfield 76, 3) := by decide +kernel
theorem dIP_decode_101 : decode cIP_decode 101 = .ok (.ifCond .ne 9, 3) := by decide +kernel
theorem dIP_decode_104 : decode cIP_decode 104 = .ok (.bipush (-2), 2) := by decide +kernel
theorem dIP_decode_106 : decode cIP_decode 106 = .ok (.istore_n 2, 1) := by decide +kernel
theorem dIP_decode_107 : decode cIP_decode 107 = .ok (.goto 18, 3) := by decide +kernel
theorem dIP_decode_110 : decode cIP_decode 110 = .ok (.iload 5, 2) := by decide +kernel
theorem dIP_decode_112 : decode cIP_decode 112 = .ok (.iconst 2, 1) := by decide +kernel
theorem dIP_decode_113 : decode cIP_decode 113 = .ok (.if_icmp .ne 12, 3) := by decide +kernel
theorem dIP_decode_116 : decode cIP_decode 116 = .ok (.aload_n 0, 1) := by decide +kernel
theorem dIP_decode_117 : decode cIP_decode 117 = .ok (.getfield 60, 3) := by decide +kernel
theorem dIP_decode_120 : decode cIP_decode 120 = .ok (.invokevirtual 100, 3) := by decide +kernel
theorem dIP_decode_123 : decode cIP_decode 123 = .ok (.iconst 1, 1) := by decide +kernel
theorem dIP_decode_124 : decode cIP_decode 124 = .ok (.istore_n 1, 1) := by decide +kernel
theorem dIP_decode_125 : decode cIP_decode 125 = .ok (.iinc 4 1, 3) := by decide +kernel
theorem dIP_decode_128 : decode cIP_decode 128 = .ok (.goto (-100), 3) := by decide +kernel
theorem dIP_decode_131 : decode cIP_decode 131 = .ok (.iload_n 2, 1) := by decide +kernel
theorem dIP_decode_132 : decode cIP_decode 132 = .ok (.ifCond .eq 5, 3) := by decide +kernel
theorem dIP_decode_135 : decode cIP_decode 135 = .ok (.iload_n 2, 1) := by decide +kernel
theorem dIP_decode_136 : decode cIP_decode 136 = .ok (.ireturn, 1) := by decide +kernel
theorem dIP_decode_137 : decode cIP_decode 137 = .ok (.aload_n 0, 1) := by decide +kernel
theorem dIP_decode_138 : decode cIP_decode 138 = .ok (.iload_n 1, 1) := by decide +kernel
theorem dIP_decode_139 : decode cIP_decode 139 = .ok (.putfield 64, 3) := by decide +kernel
theorem dIP_decode_142 : decode cIP_decode 142 = .ok (.iload_n 1, 1) := by decide +kernel
theorem dIP_decode_143 : decode cIP_decode 143 = .ok (.ifCond .eq 13, 3) := by decide +kernel
theorem dIP_decode_146 : decode cIP_decode 146 = .ok (.aload_n 0, 1) := by decide +kernel
theorem dIP_decode_147 : decode cIP_decode 147 = .ok (.getfield 60, 3) := by decide +kernel
theorem dIP_decode_150 : decode cIP_decode 150 = .ok (.getfield 102, 3) := by decide +kernel
theorem dIP_decode_153 : decode cIP_decode 153 = .ok (.goto 4, 3) := by decide +kernel
theorem dIP_decode_156 : decode cIP_decode 156 = .ok (.iconst (-1), 1) := by decide +kernel
theorem dIP_decode_157 : decode cIP_decode 157 = .ok (.ireturn, 1) := by decide +kernel
abbrev cIP_parameter : ByteArray := prog_1_method_7_code
def yIP_parameter : MethodName := ⟨kR_IP, "parameter", "(I)I"⟩
def wsIP_parameter : List Cond := .code yIP_parameter cIP_parameter 2 (some .int) :: ipW
theorem dIP_parameter_0 : decode cIP_parameter 0 = .ok (.aload_n 0, 1) := by decide +kernel
theorem dIP_parameter_1 : decode cIP_parameter 1 = .ok (.getfield 34, 3) := by decide +kernel
theorem dIP_parameter_4 : decode cIP_parameter 4 = .ok (.getfield 76, 3) := by decide +kernel
theorem dIP_parameter_7 : decode cIP_parameter 7 = .ok (.ifCond .eq 25, 3) := by decide +kernel
theorem dIP_parameter_10 : decode cIP_parameter 10 = .ok (.iload_n 1, 1) := by decide +kernel
theorem dIP_parameter_11 : decode cIP_parameter 11 = .ok (.ifCond .lt 21, 3) := by decide +kernel
theorem dIP_parameter_14 : decode cIP_parameter 14 = .ok (.iload_n 1, 1) := by decide +kernel
theorem dIP_parameter_15 : decode cIP_parameter 15 = .ok (.bipush 10, 2) := by decide +kernel
theorem dIP_parameter_17 : decode cIP_parameter 17 = .ok (.if_icmp .ge 15, 3) := by decide +kernel
theorem dIP_parameter_20 : decode cIP_parameter 20 = .ok (.aload_n 0, 1) := by decide +kernel
theorem dIP_parameter_21 : decode cIP_parameter 21 = .ok (.getfield 34, 3) := by decide +kernel
theorem dIP_parameter_24 : decode cIP_parameter 24 = .ok (.getfield 54, 3) := by decide +kernel
theorem dIP_parameter_27 : decode cIP_parameter 27 = .ok (.iload_n 1, 1) := by decide +kernel
theorem dIP_parameter_28 : decode cIP_parameter 28 = .ok (.iaload, 1) := by decide +kernel
theorem dIP_parameter_29 : decode cIP_parameter 29 = .ok (.goto 5, 3) := by decide +kernel
theorem dIP_parameter_32 : decode cIP_parameter 32 = .ok (.bipush (-100), 2) := by decide +kernel
theorem dIP_parameter_34 : decode cIP_parameter 34 = .ok (.ireturn, 1) := by decide +kernel
abbrev cIP_sample : ByteArray := prog_1_method_8_code
def yIP_sample : MethodName := ⟨kR_IP, "sample", "(II)I"⟩
def wsIP_sample : List Cond := .code yIP_sample cIP_sample 3 (some .int) :: ipW
theorem dIP_sample_0 : decode cIP_sample 0 = .ok (.aload_n 0, 1) := by decide +kernel
theorem dIP_sample_1 : decode cIP_sample 1 = .ok (.aload_n 0, 1) := by decide +kernel
theorem dIP_sample_2 : decode cIP_sample 2 = .ok (.getfield 48, 3) := by decide +kernel
theorem dIP_sample_5 : decode cIP_sample 5 = .ok (.getfield 105, 3) := by decide +kernel
theorem dIP_sample_8 : decode cIP_sample 8 = .ok (.iload_n 1, 1) := by decide +kernel
theorem dIP_sample_9 : decode cIP_sample 9 = .ok (.iload_n 2, 1) := by decide +kernel
theorem dIP_sample_10 : decode cIP_sample 10 = .ok (.iconst (-1), 1) := by decide +kernel
theorem dIP_sample_11 : decode cIP_sample 11 = .ok (.invokevirtual 108, 3) := by decide +kernel
theorem dIP_sample_14 : decode cIP_sample 14 = .ok (.ireturn, 1) := by decide +kernel
abbrev cIP_plain : ByteArray := prog_1_method_9_code
def yIP_plain : MethodName := ⟨kR_IP, "plain", "(II)I"⟩
def wsIP_plain : List Cond := .code yIP_plain cIP_plain 3 (some .int) :: ipW
theorem dIP_plain_0 : decode cIP_plain 0 = .ok (.aload_n 0, 1) := by decide +kernel
theorem dIP_plain_1 : decode cIP_plain 1 = .ok (.aload_n 0, 1) := by decide +kernel
theorem dIP_plain_2 : decode cIP_plain 2 = .ok (.getfield 48, 3) := by decide +kernel
theorem dIP_plain_5 : decode cIP_plain 5 = .ok (.getfield 112, 3) := by decide +kernel
theorem dIP_plain_8 : decode cIP_plain 8 = .ok (.iload_n 1, 1) := by decide +kernel
theorem dIP_plain_9 : decode cIP_plain 9 = .ok (.iload_n 2, 1) := by decide +kernel
theorem dIP_plain_10 : decode cIP_plain 10 = .ok (.iconst (-1), 1) := by decide +kernel
theorem dIP_plain_11 : decode cIP_plain 11 = .ok (.invokevirtual 108, 3) := by decide +kernel
theorem dIP_plain_14 : decode cIP_plain 14 = .ok (.ireturn, 1) := by decide +kernel
abbrev cIP_predicted : ByteArray := prog_1_method_10_code
def yIP_predicted : MethodName := ⟨kR_IP, "predicted", "(II)I"⟩
def wsIP_predicted : List Cond := .code yIP_predicted cIP_predicted 3 (some .int) :: ipW
theorem dIP_predicted_0 : decode cIP_predicted 0 = .ok (.aload_n 0, 1) := by decide +kernel
theorem dIP_predicted_1 : decode cIP_predicted 1 = .ok (.aload_n 0, 1) := by decide +kernel
theorem dIP_predicted_2 : decode cIP_predicted 2 = .ok (.getfield 48, 3) := by decide +kernel
theorem dIP_predicted_5 : decode cIP_predicted 5 = .ok (.getfield 115, 3) := by decide +kernel
theorem dIP_predicted_8 : decode cIP_predicted 8 = .ok (.iload_n 1, 1) := by decide +kernel
theorem dIP_predicted_9 : decode cIP_predicted 9 = .ok (.iload_n 2, 1) := by decide +kernel
theorem dIP_predicted_10 : decode cIP_predicted 10 = .ok (.iconst (-1), 1) := by decide +kernel
theorem dIP_predicted_11 : decode cIP_predicted 11 = .ok (.invokevirtual 108, 3) := by decide +kernel
theorem dIP_predicted_14 : decode cIP_predicted 14 = .ok (.ireturn, 1) := by decide +kernel
abbrev cIP_level : ByteArray := prog_1_method_11_code
def yIP_level : MethodName := ⟨kR_IP, "level", "(II)I"⟩
def wsIP_level : List Cond := .code yIP_level cIP_level 3 (some .int) :: ipW
theorem dIP_level_0 : decode cIP_level 0 = .ok (.aload_n 0, 1) := by decide +kernel
theorem dIP_level_1 : decode cIP_level 1 = .ok (.aload_n 0, 1) := by decide +kernel
theorem dIP_level_2 : decode cIP_level 2 = .ok (.getfield 48, 3) := by decide +kernel
theorem dIP_level_5 : decode cIP_level 5 = .ok (.getfield 118, 3) := by decide +kernel
theorem dIP_level_8 : decode cIP_level 8 = .ok (.iload_n 1, 1) := by decide +kernel
theorem dIP_level_9 : decode cIP_level 9 = .ok (.iload_n 2, 1) := by decide +kernel
theorem dIP_level_10 : decode cIP_level 10 = .ok (.sipush (-1000), 3) := by decide +kernel
theorem dIP_level_13 : decode cIP_level 13 = .ok (.invokevirtual 108, 3) := by decide +kernel
theorem dIP_level_16 : decode cIP_level 16 = .ok (.ireturn, 1) := by decide +kernel
abbrev cIP_mode : ByteArray := prog_1_method_12_code
def yIP_mode : MethodName := ⟨kR_IP, "mode", "(II)I"⟩
def wsIP_mode : List Cond := .code yIP_mode cIP_mode 3 (some .int) :: ipW
theorem dIP_mode_0 : decode cIP_mode 0 = .ok (.aload_n 0, 1) := by decide +kernel
theorem dIP_mode_1 : decode cIP_mode 1 = .ok (.aload_n 0, 1) := by decide +kernel
theorem dIP_mode_2 : decode cIP_mode 2 = .ok (.getfield 48, 3) := by decide +kernel
theorem dIP_mode_5 : decode cIP_mode 5 = .ok (.getfield 121, 3) := by decide +kernel
theorem dIP_mode_8 : decode cIP_mode 8 = .ok (.iload_n 1, 1) := by decide +kernel
theorem dIP_mode_9 : decode cIP_mode 9 = .ok (.iload_n 2, 1) := by decide +kernel
theorem dIP_mode_10 : decode cIP_mode 10 = .ok (.iconst (-1), 1) := by decide +kernel
theorem dIP_mode_11 : decode cIP_mode 11 = .ok (.invokevirtual 108, 3) := by decide +kernel
theorem dIP_mode_14 : decode cIP_mode 14 = .ok (.ireturn, 1) := by decide +kernel
abbrev cIP_side : ByteArray := prog_1_method_13_code
def yIP_side : MethodName := ⟨kR_IP, "side", "(II)I"⟩
def wsIP_side : List Cond := .code yIP_side cIP_side 3 (some .int) :: ipW
theorem dIP_side_0 : decode cIP_side 0 = .ok (.aload_n 0, 1) := by decide +kernel
theorem dIP_side_1 : decode cIP_side 1 = .ok (.aload_n 0, 1) := by decide +kernel
theorem dIP_side_2 : decode cIP_side 2 = .ok (.getfield 48, 3) := by decide +kernel
theorem dIP_side_5 : decode cIP_side 5 = .ok (.getfield 124, 3) := by decide +kernel
theorem dIP_side_8 : decode cIP_side 8 = .ok (.iload_n 1, 1) := by decide +kernel
theorem dIP_side_9 : decode cIP_side 9 = .ok (.iload_n 2, 1) := by decide +kernel
theorem dIP_side_10 : decode cIP_side 10 = .ok (.iconst (-1), 1) := by decide +kernel
theorem dIP_side_11 : decode cIP_side 11 = .ok (.invokevirtual 108, 3) := by decide +kernel
theorem dIP_side_14 : decode cIP_side 14 = .ok (.ireturn, 1) := by decide +kernel
abbrev cIP_chance : ByteArray := prog_1_method_14_code
def yIP_chance : MethodName := ⟨kR_IP, "chance", "(I)I"⟩
def wsIP_chance : List Cond := .code yIP_chance cIP_chance 2 (some .int) :: ipW
theorem dIP_chance_0 : decode cIP_chance 0 = .ok (.aload_n 0, 1) := by decide +kernel
theorem dIP_chance_1 : decode cIP_chance 1 = .ok (.getfield 64, 3) := by decide +kernel
theorem dIP_chance_4 : decode cIP_chance 4 = .ok (.ifCond .eq 25, 3) := by decide +kernel
theorem dIP_chance_7 : decode cIP_chance 7 = .ok (.iload_n 1, 1) := by decide +kernel
theorem dIP_chance_8 : decode cIP_chance 8 = .ok (.ifCond .lt 21, 3) := by decide +kernel
theorem dIP_chance_11 : decode cIP_chance 11 = .ok (.iload_n 1, 1) := by decide +kernel
theorem dIP_chance_12 : decode cIP_chance 12 = .ok (.bipush 14, 2) := by decide +kernel
theorem dIP_chance_14 : decode cIP_chance 14 = .ok (.if_icmp .ge 15, 3) := by decide +kernel
theorem dIP_chance_17 : decode cIP_chance 17 = .ok (.aload_n 0, 1) := by decide +kernel
theorem dIP_chance_18 : decode cIP_chance 18 = .ok (.getfield 41, 3) := by decide +kernel
theorem dIP_chance_21 : decode cIP_chance 21 = .ok (.getfield 127, 3) := by decide +kernel
theorem dIP_chance_24 : decode cIP_chance 24 = .ok (.iload_n 1, 1) := by decide +kernel
theorem dIP_chance_25 : decode cIP_chance 25 = .ok (.iaload, 1) := by decide +kernel
theorem dIP_chance_26 : decode cIP_chance 26 = .ok (.goto 4, 3) := by decide +kernel
theorem dIP_chance_29 : decode cIP_chance 29 = .ok (.iconst (-1), 1) := by decide +kernel
theorem dIP_chance_30 : decode cIP_chance 30 = .ok (.ireturn, 1) := by decide +kernel
abbrev cIP_took : ByteArray := prog_1_method_15_code
def yIP_took : MethodName := ⟨kR_IP, "took", "(I)I"⟩
def wsIP_took : List Cond := .code yIP_took cIP_took 2 (some .int) :: ipW
theorem dIP_took_0 : decode cIP_took 0 = .ok (.aload_n 0, 1) := by decide +kernel
theorem dIP_took_1 : decode cIP_took 1 = .ok (.getfield 64, 3) := by decide +kernel
theorem dIP_took_4 : decode cIP_took 4 = .ok (.ifCond .eq 24, 3) := by decide +kernel
theorem dIP_took_7 : decode cIP_took 7 = .ok (.iload_n 1, 1) := by decide +kernel
theorem dIP_took_8 : decode cIP_took 8 = .ok (.ifCond .lt 20, 3) := by decide +kernel
theorem dIP_took_11 : decode cIP_took 11 = .ok (.iload_n 1, 1) := by decide +kernel
theorem dIP_took_12 : decode cIP_took 12 = .ok (.iconst 3, 1) := by decide +kernel
theorem dIP_took_13 : decode cIP_took 13 = .ok (.if_icmp .ge 15, 3) := by decide +kernel
theorem dIP_took_16 : decode cIP_took 16 = .ok (.aload_n 0, 1) := by decide +kernel
theorem dIP_took_17 : decode cIP_took 17 = .ok (.getfield 41, 3) := by decide +kernel
theorem dIP_took_20 : decode cIP_took 20 = .ok (.getfield 130, 3) := by decide +kernel
theorem dIP_took_23 : decode cIP_took 23 = .ok (.iload_n 1, 1) := by decide +kernel
theorem dIP_took_24 : decode cIP_took 24 = .ok (.iaload, 1) := by decide +kernel
theorem dIP_took_25 : decode cIP_took 25 = .ok (.goto 4, 3) := by decide +kernel
theorem dIP_took_28 : decode cIP_took 28 = .ok (.iconst (-1), 1) := by decide +kernel
theorem dIP_took_29 : decode cIP_took 29 = .ok (.ireturn, 1) := by decide +kernel
abbrev cIP_answerAt : ByteArray := prog_1_method_16_code
def yIP_answerAt : MethodName := ⟨kR_IP, "answerAt", "([IIII)I"⟩
def wsIP_answerAt : List Cond := .code yIP_answerAt cIP_answerAt 5 (some .int) :: ipW
theorem dIP_answerAt_0 : decode cIP_answerAt 0 = .ok (.aload_n 0, 1) := by decide +kernel
theorem dIP_answerAt_1 : decode cIP_answerAt 1 = .ok (.getfield 64, 3) := by decide +kernel
theorem dIP_answerAt_4 : decode cIP_answerAt 4 = .ok (.ifCond .eq 21, 3) := by decide +kernel
theorem dIP_answerAt_7 : decode cIP_answerAt 7 = .ok (.iload_n 2, 1) := by decide +kernel
theorem dIP_answerAt_8 : decode cIP_answerAt 8 = .ok (.iload_n 3, 1) := by decide +kernel
theorem dIP_answerAt_9 : decode cIP_answerAt 9 = .ok (.invokestatic 133, 3) := by decide +kernel
theorem dIP_answerAt_12 : decode cIP_answerAt 12 = .ok (.ifCond .eq 13, 3) := by decide +kernel
theorem dIP_answerAt_15 : decode cIP_answerAt 15 = .ok (.aload_n 1, 1) := by decide +kernel
theorem dIP_answerAt_16 : decode cIP_answerAt 16 = .ok (.iload_n 2, 1) := by decide +kernel
theorem dIP_answerAt_17 : decode cIP_answerAt 17 = .ok (.iload_n 3, 1) := by decide +kernel
theorem dIP_answerAt_18 : decode cIP_answerAt 18 = .ok (.invokestatic 137, 3) := by decide +kernel
theorem dIP_answerAt_21 : decode cIP_answerAt 21 = .ok (.iaload, 1) := by decide +kernel
theorem dIP_answerAt_22 : decode cIP_answerAt 22 = .ok (.goto 5, 3) := by decide +kernel
theorem dIP_answerAt_25 : decode cIP_answerAt 25 = .ok (.iload 4, 2) := by decide +kernel
theorem dIP_answerAt_27 : decode cIP_answerAt 27 = .ok (.ireturn, 1) := by decide +kernel
abbrev cIP_inPicture : ByteArray := prog_1_method_17_code
def yIP_inPicture : MethodName := ⟨kR_IP, "inPicture", "(II)Z"⟩
def wsIP_inPicture : List Cond := .code yIP_inPicture cIP_inPicture 2 (some .boolean) :: ipW
theorem dIP_inPicture_0 : decode cIP_inPicture 0 = .ok (.iload_n 0, 1) := by decide +kernel
theorem dIP_inPicture_1 : decode cIP_inPicture 1 = .ok (.ifCond .lt 23, 3) := by decide +kernel
theorem dIP_inPicture_4 : decode cIP_inPicture 4 = .ok (.iload_n 0, 1) := by decide +kernel
theorem dIP_inPicture_5 : decode cIP_inPicture 5 = .ok (.bipush 16, 2) := by decide +kernel
theorem dIP_inPicture_7 : decode cIP_inPicture 7 = .ok (.if_icmp .ge 17, 3) := by decide +kernel
theorem dIP_inPicture_10 : decode cIP_inPicture 10 = .ok (.iload_n 1, 1) := by decide +kernel
theorem dIP_inPicture_11 : decode cIP_inPicture 11 = .ok (.ifCond .lt 13, 3) := by decide +kernel
theorem dIP_inPicture_14 : decode cIP_inPicture 14 = .ok (.iload_n 1, 1) := by decide +kernel
theorem dIP_inPicture_15 : decode cIP_inPicture 15 = .ok (.bipush 16, 2) := by decide +kernel
theorem dIP_inPicture_17 : decode cIP_inPicture 17 = .ok (.if_icmp .ge 7, 3) := by decide +kernel
theorem dIP_inPicture_20 : decode cIP_inPicture 20 = .ok (.iconst 1, 1) := by decide +kernel
theorem dIP_inPicture_21 : decode cIP_inPicture 21 = .ok (.goto 4, 3) := by decide +kernel
theorem dIP_inPicture_24 : decode cIP_inPicture 24 = .ok (.iconst 0, 1) := by decide +kernel
theorem dIP_inPicture_25 : decode cIP_inPicture 25 = .ok (.ireturn, 1) := by decide +kernel
abbrev cIP_placeOf : ByteArray := prog_1_method_18_code
def yIP_placeOf : MethodName := ⟨kR_IP, "placeOf", "(II)I"⟩
def wsIP_placeOf : List Cond := .code yIP_placeOf cIP_placeOf 2 (some .int) :: ipW
theorem dIP_placeOf_0 : decode cIP_placeOf 0 = .ok (.iload_n 1, 1) := by decide +kernel
theorem dIP_placeOf_1 : decode cIP_placeOf 1 = .ok (.bipush 16, 2) := by decide +kernel
theorem dIP_placeOf_3 : decode cIP_placeOf 3 = .ok (.imul, 1) := by decide +kernel
theorem dIP_placeOf_4 : decode cIP_placeOf 4 = .ok (.iload_n 0, 1) := by decide +kernel
theorem dIP_placeOf_5 : decode cIP_placeOf 5 = .ok (.iadd, 1) := by decide +kernel
theorem dIP_placeOf_6 : decode cIP_placeOf 6 = .ok (.ireturn, 1) := by decide +kernel
abbrev cIP_bring : ByteArray := prog_1_method_19_code
def yIP_bring : MethodName := ⟨kR_IP, "bring", "(III)I"⟩
def wsIP_bring : List Cond := .code yIP_bring cIP_bring 3 (some .int) :: ipW
theorem dIP_bring_0 : decode cIP_bring 0 = .ok (.iload_n 1, 1) := by decide +kernel
theorem dIP_bring_1 : decode cIP_bring 1 = .ok (.iload_n 2, 1) := by decide +kernel
theorem dIP_bring_2 : decode cIP_bring 2 = .ok (.iload_n 0, 1) := by decide +kernel
theorem dIP_bring_3 : decode cIP_bring 3 = .ok (.invokestatic 141, 3) := by decide +kernel
theorem dIP_bring_6 : decode cIP_bring 6 = .ok (.invokestatic 146, 3) := by decide +kernel
theorem dIP_bring_9 : decode cIP_bring 9 = .ok (.ireturn, 1) := by decide +kernel
abbrev cFB_append : ByteArray := prog_3_method_2_code
def yFB_append : MethodName := ⟨kR_FB, "append", "(JI)Z"⟩
def wsFB_append : List Cond := .code yFB_append cFB_append 5 (some .boolean) :: ipW
theorem dFB_append_0 : decode cFB_append 0 = .ok (.iload_n 3, 1) := by decide +kernel
theorem dFB_append_1 : decode cFB_append 1 = .ok (.iconst 1, 1) := by decide +kernel
theorem dFB_append_2 : decode cFB_append 2 = .ok (.if_icmp .lt 21, 3) := by decide +kernel
theorem dFB_append_5 : decode cFB_append 5 = .ok (.iload_n 3, 1) := by decide +kernel
theorem dFB_append_6 : decode cFB_append 6 = .ok (.bipush 8, 2) := by decide +kernel
theorem dFB_append_8 : decode cFB_append 8 = .ok (.if_icmp .gt 15, 3) := by decide +kernel
theorem dFB_append_11 : decode cFB_append 11 = .ok (.aload_n 0, 1) := by decide +kernel
theorem dFB_append_12 : decode cFB_append 12 = .ok (.getfield 18, 3) := by decide +kernel
theorem dFB_append_15 : decode cFB_append 15 = .ok (.iload_n 3, 1) := by decide +kernel
theorem dFB_append_16 : decode cFB_append 16 = .ok (.iadd, 1) := by decide +kernel
theorem dFB_append_17 : decode cFB_append 17 = .ok (.sipush 240, 3) := by decide +kernel
theorem dFB_append_20 : decode cFB_append 20 = .ok (.if_icmp .le 5, 3) := by decide +kernel
theorem dFB_append_23 : decode cFB_append 23 = .ok (.iconst 0, 1) := by decide +kernel
theorem dFB_append_24 : decode cFB_append 24 = .ok (.ireturn, 1) := by decide +kernel
theorem dFB_append_25 : decode cFB_append 25 = .ok (.iconst 0, 1) := by decide +kernel
theorem dFB_append_26 : decode cFB_append 26 = .ok (.istore 4, 2) := by decide +kernel
theorem dFB_append_28 : decode cFB_append 28 = .ok (.iload 4, 2) := by decide +kernel
theorem dFB_append_30 : decode cFB_append 30 = .ok (.iload_n 3, 1) := by decide +kernel
theorem dFB_append_31 : decode cFB_append 31 = .ok (.if_icmp .ge 33, 3) := by decide +kernel
theorem dFB_append_34 : decode cFB_append 34 = .ok (.aload_n 0, 1) := by decide +kernel
theorem dFB_append_35 : decode cFB_append 35 = .ok (.getfield 11, 3) := by decide +kernel
theorem dFB_append_38 : decode cFB_append 38 = .ok (.aload_n 0, 1) := by decide +kernel
theorem dFB_append_39 : decode cFB_append 39 = .ok (.getfield 18, 3) := by decide +kernel
theorem dFB_append_42 : decode cFB_append 42 = .ok (.iload 4, 2) := by decide +kernel
theorem dFB_append_44 : decode cFB_append 44 = .ok (.iadd, 1) := by decide +kernel
theorem dFB_append_45 : decode cFB_append 45 = .ok (.lload_n 1, 1) := by decide +kernel
theorem dFB_append_46 : decode cFB_append 46 = .ok (.bipush 8, 2) := by decide +kernel
theorem dFB_append_48 : decode cFB_append 48 = .ok (.iload 4, 2) := by decide +kernel
theorem dFB_append_50 : decode cFB_append 50 = .ok (.imul, 1) := by decide +kernel
theorem dFB_append_51 : decode cFB_append 51 = .ok (.lushr, 1) := by decide +kernel
theorem dFB_append_52 : decode cFB_append 52 = .ok (.l2i, 1) := by decide +kernel
theorem dFB_append_53 : decode cFB_append 53 = .ok (.sipush 255, 3) := by decide +kernel
theorem dFB_append_56 : decode cFB_append 56 = .ok (.iand, 1) := by decide +kernel
theorem dFB_append_57 : decode cFB_append 57 = .ok (.iastore, 1) := by decide +kernel
theorem dFB_append_58 : decode cFB_append 58 = .ok (.iinc 4 1, 3) := by decide +kernel
theorem dFB_append_61 : decode cFB_append 61 = .ok (.goto (-33), 3) := by decide +kernel
theorem dFB_append_64 : decode cFB_append 64 = .ok (.aload_n 0, 1) := by decide +kernel
theorem dFB_append_65 : decode cFB_append 65 = .ok (.dup, 1) := by decide +kernel
theorem dFB_append_66 : decode cFB_append 66 = .ok (.getfield 18, 3) := by decide +kernel
theorem dFB_append_69 : decode cFB_append 69 = .ok (.iload_n 3, 1) := by decide +kernel
theorem dFB_append_70 : decode cFB_append 70 = .ok (.iadd, 1) := by decide +kernel
theorem dFB_append_71 : decode cFB_append 71 = .ok (.putfield 18, 3) := by decide +kernel
theorem dFB_append_74 : decode cFB_append 74 = .ok (.iconst 1, 1) := by decide +kernel
theorem dFB_append_75 : decode cFB_append 75 = .ok (.ireturn, 1) := by decide +kernel
abbrev cFB_startsAt : ByteArray := prog_3_method_3_code
def yFB_startsAt : MethodName := ⟨kR_FB, "startsAt", "(I)Z"⟩
def wsFB_startsAt : List Cond := .code yFB_startsAt cFB_startsAt 2 (some .boolean) :: ipW
theorem dFB_startsAt_0 : decode cFB_startsAt 0 = .ok (.iload_n 1, 1) := by decide +kernel
theorem dFB_startsAt_1 : decode cFB_startsAt 1 = .ok (.iconst 3, 1) := by decide +kernel
theorem dFB_startsAt_2 : decode cFB_startsAt 2 = .ok (.iadd, 1) := by decide +kernel
theorem dFB_startsAt_3 : decode cFB_startsAt 3 = .ok (.aload_n 0, 1) := by decide +kernel
theorem dFB_startsAt_4 : decode cFB_startsAt 4 = .ok (.getfield 18, 3) := by decide +kernel
theorem dFB_startsAt_7 : decode cFB_startsAt 7 = .ok (.if_icmp .gt 39, 3) := by decide +kernel
theorem dFB_startsAt_10 : decode cFB_startsAt 10 = .ok (.aload_n 0, 1) := by decide +kernel
theorem dFB_startsAt_11 : decode cFB_startsAt 11 = .ok (.getfield 11, 3) := by decide +kernel
theorem dFB_startsAt_14 : decode cFB_startsAt 14 = .ok (.iload_n 1, 1) := by decide +kernel
theorem dFB_startsAt_15 : decode cFB_startsAt 15 = .ok (.iaload, 1) := by decide +kernel
theorem dFB_startsAt_16 : decode cFB_startsAt 16 = .ok (.ifCond .ne 30, 3) := by decide +kernel
theorem dFB_startsAt_19 : decode cFB_startsAt 19 = .ok (.aload_n 0, 1) := by decide +kernel
theorem dFB_startsAt_20 : decode cFB_startsAt 20 = .ok (.getfield 11, 3) := by decide +kernel
theorem dFB_startsAt_23 : decode cFB_startsAt 23 = .ok (.iload_n 1, 1) := by decide +kernel
theorem dFB_startsAt_24 : decode cFB_startsAt 24 = .ok (.iconst 1, 1) := by decide +kernel
theorem dFB_startsAt_25 : decode cFB_startsAt 25 = .ok (.iadd, 1) := by decide +kernel
theorem dFB_startsAt_26 : decode cFB_startsAt 26 = .ok (.iaload, 1) := by decide +kernel
theorem dFB_startsAt_27 : decode cFB_startsAt 27 = .ok (.ifCond .ne 19, 3) := by decide +kernel
theorem dFB_startsAt_30 : decode cFB_startsAt 30 = .ok (.aload_n 0, 1) := by decide +kernel
theorem dFB_startsAt_31 : decode cFB_startsAt 31 = .ok (.getfield 11, 3) := by decide +kernel
theorem dFB_startsAt_34 : decode cFB_startsAt 34 = .ok (.iload_n 1, 1) := by decide +kernel
theorem dFB_startsAt_35 : decode cFB_startsAt 35 = .ok (.iconst 2, 1) := by decide +kernel
theorem dFB_startsAt_36 : decode cFB_startsAt 36 = .ok (.iadd, 1) := by decide +kernel
theorem dFB_startsAt_37 : decode cFB_startsAt 37 = .ok (.iaload, 1) := by decide +kernel
theorem dFB_startsAt_38 : decode cFB_startsAt 38 = .ok (.iconst 1, 1) := by decide +kernel
theorem dFB_startsAt_39 : decode cFB_startsAt 39 = .ok (.if_icmp .ne 7, 3) := by decide +kernel
theorem dFB_startsAt_42 : decode cFB_startsAt 42 = .ok (.iconst 1, 1) := by decide +kernel
theorem dFB_startsAt_43 : decode cFB_startsAt 43 = .ok (.goto 4, 3) := by decide +kernel
theorem dFB_startsAt_46 : decode cFB_startsAt 46 = .ok (.iconst 0, 1) := by decide +kernel
theorem dFB_startsAt_47 : decode cFB_startsAt 47 = .ok (.ireturn, 1) := by decide +kernel
abbrev cFB_countStarts : ByteArray := prog_3_method_4_code
def yFB_countStarts : MethodName := ⟨kR_FB, "countStarts", "()I"⟩
def wsFB_countStarts : List Cond := .code yFB_countStarts cFB_countStarts 3 (some .int) :: ipW
theorem dFB_countStarts_0 : decode cFB_countStarts 0 = .ok (.iconst 0, 1) := by decide +kernel
theorem dFB_countStarts_1 : decode cFB_countStarts 1 = .ok (.istore_n 1, 1) := by decide +kernel
theorem dFB_countStarts_2 : decode cFB_countStarts 2 = .ok (.iconst 0, 1) := by decide +kernel
theorem dFB_countStarts_3 : decode cFB_countStarts 3 = .ok (.istore_n 2, 1) := by decide +kernel
theorem dFB_countStarts_4 : decode cFB_countStarts 4 = .ok (.iload_n 2, 1) := by decide +kernel
theorem dFB_countStarts_5 : decode cFB_countStarts 5 = .ok (.aload_n 0, 1) := by decide +kernel
theorem dFB_countStarts_6 : decode cFB_countStarts 6 = .ok (.getfield 18, 3) := by decide +kernel
theorem dFB_countStarts_9 : decode cFB_countStarts 9 = .ok (.if_icmp .ge 20, 3) := by decide +kernel
theorem dFB_countStarts_12 : decode cFB_countStarts 12 = .ok (.aload_n 0, 1) := by decide +kernel
theorem dFB_countStarts_13 : decode cFB_countStarts 13 = .ok (.iload_n 2, 1) := by decide +kernel
theorem dFB_countStarts_14 : decode cFB_countStarts 14 = .ok (.invokevirtual 22, 3) := by decide +kernel
theorem dFB_countStarts_17 : decode cFB_countStarts 17 = .ok (.ifCond .eq 6, 3) := by decide +kernel
theorem dFB_countStarts_20 : decode cFB_countStarts 20 = .ok (.iinc 1 1, 3) := by decide +kernel
theorem dFB_countStarts_23 : decode cFB_countStarts 23 = .ok (.iinc 2 1, 3) := by decide +kernel
theorem dFB_countStarts_26 : decode cFB_countStarts 26 = .ok (.goto (-22), 3) := by decide +kernel
theorem dFB_countStarts_29 : decode cFB_countStarts 29 = .ok (.iload_n 1, 1) := by decide +kernel
theorem dFB_countStarts_30 : decode cFB_countStarts 30 = .ok (.ireturn, 1) := by decide +kernel
abbrev cFB_firstByteOf : ByteArray := prog_3_method_5_code
def yFB_firstByteOf : MethodName := ⟨kR_FB, "firstByteOf", "(I)I"⟩
def wsFB_firstByteOf : List Cond := .code yFB_firstByteOf cFB_firstByteOf 4 (some .int) :: ipW
theorem dFB_firstByteOf_0 : decode cFB_firstByteOf 0 = .ok (.iconst 0, 1) := by decide +kernel
theorem dFB_firstByteOf_1 : decode cFB_firstByteOf 1 = .ok (.istore_n 2, 1) := by decide +kernel
theorem dFB_firstByteOf_2 : decode cFB_firstByteOf 2 = .ok (.iconst 0, 1) := by decide +kernel
theorem dFB_firstByteOf_3 : decode cFB_firstByteOf 3 = .ok (.istore_n 3, 1) := by decide +kernel
theorem dFB_firstByteOf_4 : decode cFB_firstByteOf 4 = .ok (.iload_n 3, 1) := by decide +kernel
theorem dFB_firstByteOf_5 : decode cFB_firstByteOf 5 = .ok (.aload_n 0, 1) := by decide +kernel
theorem dFB_firstByteOf_6 : decode cFB_firstByteOf 6 = .ok (.getfield 18, 3) := by decide +kernel
theorem dFB_firstByteOf_9 : decode cFB_firstByteOf 9 = .ok (.if_icmp .ge 29, 3) := by decide +kernel
theorem dFB_firstByteOf_12 : decode cFB_firstByteOf 12 = .ok (.aload_n 0, 1) := by decide +kernel
theorem dFB_firstByteOf_13 : decode cFB_firstByteOf 13 = .ok (.iload_n 3, 1) := by decide +kernel
theorem dFB_firstByteOf_14 : decode cFB_firstByteOf 14 = .ok (.invokevirtual 22, 3) := by decide +kernel
theorem dFB_firstByteOf_17 : decode cFB_firstByteOf 17 = .ok (.ifCond .eq 15, 3) := by decide +kernel
theorem dFB_firstByteOf_20 : decode cFB_firstByteOf 20 = .ok (.iload_n 2, 1) := by decide +kernel
theorem dFB_firstByteOf_21 : decode cFB_firstByteOf 21 = .ok (.iload_n 1, 1) := by decide +kernel
theorem dFB_firstByteOf_22 : decode cFB_firstByteOf 22 = .ok (.if_icmp .ne 7, 3) := by decide +kernel
theorem dFB_firstByteOf_25 : decode cFB_firstByteOf 25 = .ok (.iload_n 3, 1) := by decide +kernel
theorem dFB_firstByteOf_26 : decode cFB_firstByteOf 26 = .ok (.iconst 3, 1) := by decide +kernel
theorem dFB_firstByteOf_27 : decode cFB_firstByteOf 27 = .ok (.iadd, 1) := by decide +kernel
theorem dFB_firstByteOf_28 : decode cFB_firstByteOf 28 = .ok (.ireturn, 1) := by decide +kernel
theorem dFB_firstByteOf_29 : decode cFB_firstByteOf 29 = .ok (.iinc 2 1, 3) := by decide +kernel
theorem dFB_firstByteOf_32 : decode cFB_firstByteOf 32 = .ok (.iinc 3 1, 3) := by decide +kernel
theorem dFB_firstByteOf_35 : decode cFB_firstByteOf 35 = .ok (.goto (-31), 3) := by decide +kernel
theorem dFB_firstByteOf_38 : decode cFB_firstByteOf 38 = .ok (.iconst (-1), 1) := by decide +kernel
theorem dFB_firstByteOf_39 : decode cFB_firstByteOf 39 = .ok (.ireturn, 1) := by decide +kernel
abbrev cFB_choose : ByteArray := prog_3_method_6_code
def yFB_choose : MethodName := ⟨kR_FB, "choose", "(I)Z"⟩
def wsFB_choose : List Cond := .code yFB_choose cFB_choose 5 (some .boolean) :: ipW
theorem dFB_choose_0 : decode cFB_choose 0 = .ok (.aload_n 0, 1) := by decide +kernel
theorem dFB_choose_1 : decode cFB_choose 1 = .ok (.iload_n 1, 1) := by decide +kernel
theorem dFB_choose_2 : decode cFB_choose 2 = .ok (.invokevirtual 26, 3) := by decide +kernel
theorem dFB_choose_5 : decode cFB_choose 5 = .ok (.istore_n 2, 1) := by decide +kernel
theorem dFB_choose_6 : decode cFB_choose 6 = .ok (.aload_n 0, 1) := by decide +kernel
theorem dFB_choose_7 : decode cFB_choose 7 = .ok (.iconst 0, 1) := by decide +kernel
theorem dFB_choose_8 : decode cFB_choose 8 = .ok (.putfield 30, 3) := by decide +kernel
theorem dFB_choose_11 : decode cFB_choose 11 = .ok (.iload_n 2, 1) := by decide +kernel
theorem dFB_choose_12 : decode cFB_choose 12 = .ok (.ifCond .ge 5, 3) := by decide +kernel
theorem dFB_choose_15 : decode cFB_choose 15 = .ok (.iconst 0, 1) := by decide +kernel
theorem dFB_choose_16 : decode cFB_choose 16 = .ok (.ireturn, 1) := by decide +kernel
theorem dFB_choose_17 : decode cFB_choose 17 = .ok (.iconst 0, 1) := by decide +kernel
theorem dFB_choose_18 : decode cFB_choose 18 = .ok (.istore_n 3, 1) := by decide +kernel
theorem dFB_choose_19 : decode cFB_choose 19 = .ok (.iload_n 2, 1) := by decide +kernel
theorem dFB_choose_20 : decode cFB_choose 20 = .ok (.istore 4, 2) := by decide +kernel
theorem dFB_choose_22 : decode cFB_choose 22 = .ok (.iload 4, 2) := by decide +kernel
theorem dFB_choose_24 : decode cFB_choose 24 = .ok (.aload_n 0, 1) := by decide +kernel
theorem dFB_choose_25 : decode cFB_choose 25 = .ok (.getfield 18, 3) := by decide +kernel
theorem dFB_choose_28 : decode cFB_choose 28 = .ok (.if_icmp .ge 83, 3) := by decide +kernel
theorem dFB_choose_31 : decode cFB_choose 31 = .ok (.aload_n 0, 1) := by decide +kernel
theorem dFB_choose_32 : decode cFB_choose 32 = .ok (.iload 4, 2) := by decide +kernel
theorem dFB_choose_34 : decode cFB_choose 34 = .ok (.invokevirtual 22, 3) := by decide +kernel
theorem dFB_choose_37 : decode cFB_choose 37 = .ok (.ifCond .ne 74, 3) := by decide +kernel
theorem dFB_choose_40 : decode cFB_choose 40 = .ok (.iload_n 3, 1) := by decide +kernel
theorem dFB_choose_41 : decode cFB_choose 41 = .ok (.iconst 2, 1) := by decide +kernel
theorem dFB_choose_42 : decode cFB_choose 42 = .ok (.if_icmp .lt 19, 3) := by decide +kernel
theorem dFB_choose_45 : decode cFB_choose 45 = .ok (.aload_n 0, 1) := by decide +kernel
theorem dFB_choose_46 : decode cFB_choose 46 = .ok (.getfield 11, 3) := by decide +kernel
theorem dFB_choose_49 : decode cFB_choose 49 = .ok (.iload 4, 2) := by decide +kernel
theorem dFB_choose_51 : decode cFB_choose 51 = .ok (.iaload, 1) := by decide +kernel
theorem dFB_choose_52 : decode cFB_choose 52 = .ok (.iconst 3, 1) := by decide +kernel
theorem dFB_choose_53 : decode cFB_choose 53 = .ok (.if_icmp .ne 8, 3) := by decide +kernel
theorem dFB_choose_56 : decode cFB_choose 56 = .ok (.iconst 0, 1) := by decide +kernel
theorem dFB_choose_57 : decode cFB_choose 57 = .ok (.istore_n 3, 1) := by decide +kernel
theorem dFB_choose_58 : decode cFB_choose 58 = .ok (.goto 47, 3) := by decide +kernel
theorem dFB_choose_61 : decode cFB_choose 61 = .ok (.aload_n 0, 1) := by decide +kernel
theorem dFB_choose_62 : decode cFB_choose 62 = .ok (.getfield 15, 3) := by decide +kernel
theorem dFB_choose_65 : decode cFB_choose 65 = .ok (.aload_n 0, 1) := by decide +kernel
theorem dFB_choose_66 : decode cFB_choose 66 = .ok (.getfield 30, 3) := by decide +kernel
theorem dFB_choose_69 : decode cFB_choose 69 = .ok (.aload_n 0, 1) := by decide +kernel
theorem dFB_choose_70 : decode cFB_choose 70 = .ok (.getfield 11, 3) := by decide +kernel
theorem dFB_choose_73 : decode cFB_choose 73 = .ok (.iload 4, 2) := by decide +kernel
theorem dFB_choose_75 : decode cFB_choose 75 = .ok (.iaload, 1) := by decide +kernel
theorem dFB_choose_76 : decode cFB_choose 76 = .ok (.iastore, 1) := by decide +kernel
theorem dFB_choose_77 : decode cFB_choose 77 = .ok (.aload_n 0, 1) := by decide +kernel
theorem dFB_choose_78 : decode cFB_choose 78 = .ok (.dup, 1) := by decide +kernel
theorem dFB_choose_79 : decode cFB_choose 79 = .ok (.getfield 30, 3) := by decide +kernel
theorem dFB_choose_82 : decode cFB_choose 82 = .ok (.iconst 1, 1) := by decide +kernel
theorem dFB_choose_83 : decode cFB_choose 83 = .ok (.iadd, 1) := by decide +kernel
theorem dFB_choose_84 : decode cFB_choose 84 = .ok (.putfield 30, 3) := by decide +kernel
theorem dFB_choose_87 : decode cFB_choose 87 = .ok (.aload_n 0, 1) := by decide +kernel
theorem dFB_choose_88 : decode cFB_choose 88 = .ok (.getfield 11, 3) := by decide +kernel
theorem dFB_choose_91 : decode cFB_choose 91 = .ok (.iload 4, 2) := by decide +kernel
theorem dFB_choose_93 : decode cFB_choose 93 = .ok (.iaload, 1) := by decide +kernel
theorem dFB_choose_94 : decode cFB_choose 94 = .ok (.ifCond .ne 9, 3) := by decide +kernel
theorem dFB_choose_97 : decode cFB_choose 97 = .ok (.iload_n 3, 1) := by decide +kernel
theorem dFB_choose_98 : decode cFB_choose 98 = .ok (.iconst 1, 1) := by decide +kernel
theorem dFB_choose_99 : decode cFB_choose 99 = .ok (.iadd, 1) := by decide +kernel
theorem dFB_choose_100 : decode cFB_choose 100 = .ok (.goto 4, 3) := by decide +kernel
theorem dFB_choose_103 : decode cFB_choose 103 = .ok (.iconst 0, 1) := by decide +kernel
theorem dFB_choose_104 : decode cFB_choose 104 = .ok (.istore_n 3, 1) := by decide +kernel
theorem dFB_choose_105 : decode cFB_choose 105 = .ok (.iinc 4 1, 3) := by decide +kernel
theorem dFB_choose_108 : decode cFB_choose 108 = .ok (.goto (-86), 3) := by decide +kernel
theorem dFB_choose_111 : decode cFB_choose 111 = .ok (.iconst 1, 1) := by decide +kernel
theorem dFB_choose_112 : decode cFB_choose 112 = .ok (.ireturn, 1) := by decide +kernel
abbrev cFB_chosenKind : ByteArray := prog_3_method_7_code
def yFB_chosenKind : MethodName := ⟨kR_FB, "chosenKind", "()I"⟩
def wsFB_chosenKind : List Cond := .code yFB_chosenKind cFB_chosenKind 1 (some .int) :: ipW
theorem dFB_chosenKind_0 : decode cFB_chosenKind 0 = .ok (.aload_n 0, 1) := by decide +kernel
theorem dFB_chosenKind_1 : decode cFB_chosenKind 1 = .ok (.getfield 30, 3) := by decide +kernel
theorem dFB_chosenKind_4 : decode cFB_chosenKind 4 = .ok (.ifCond .le 12, 3) := by decide +kernel
theorem dFB_chosenKind_7 : decode cFB_chosenKind 7 = .ok (.aload_n 0, 1) := by decide +kernel
theorem dFB_chosenKind_8 : decode cFB_chosenKind 8 = .ok (.getfield 15, 3) := by decide +kernel
theorem dFB_chosenKind_11 : decode cFB_chosenKind 11 = .ok (.iconst 0, 1) := by decide +kernel
theorem dFB_chosenKind_12 : decode cFB_chosenKind 12 = .ok (.iaload, 1) := by decide +kernel
theorem dFB_chosenKind_13 : decode cFB_chosenKind 13 = .ok (.goto 4, 3) := by decide +kernel
theorem dFB_chosenKind_16 : decode cFB_chosenKind 16 = .ok (.iconst (-1), 1) := by decide +kernel
theorem dFB_chosenKind_17 : decode cFB_chosenKind 17 = .ok (.ireturn, 1) := by decide +kernel
abbrev cRB_rewind : ByteArray := prog_11_method_2_code
def yRB_rewind : MethodName := ⟨kR_RB, "rewind", "(I)V"⟩
def wsRB_rewind : List Cond := .code yRB_rewind cRB_rewind 2 none :: ipW
theorem dRB_rewind_0 : decode cRB_rewind 0 = .ok (.aload_n 0, 1) := by decide +kernel
theorem dRB_rewind_1 : decode cRB_rewind 1 = .ok (.bipush 8, 2) := by decide +kernel
theorem dRB_rewind_3 : decode cRB_rewind 3 = .ok (.putfield 13, 3) := by decide +kernel
theorem dRB_rewind_6 : decode cRB_rewind 6 = .ok (.aload_n 0, 1) := by decide +kernel
theorem dRB_rewind_7 : decode cRB_rewind 7 = .ok (.bipush 8, 2) := by decide +kernel
theorem dRB_rewind_9 : decode cRB_rewind 9 = .ok (.iload_n 1, 1) := by decide +kernel
theorem dRB_rewind_10 : decode cRB_rewind 10 = .ok (.imul, 1) := by decide +kernel
theorem dRB_rewind_11 : decode cRB_rewind 11 = .ok (.putfield 17, 3) := by decide +kernel
theorem dRB_rewind_14 : decode cRB_rewind 14 = .ok (.return_, 1) := by decide +kernel
abbrev cRB_taken : ByteArray := prog_11_method_3_code
def yRB_taken : MethodName := ⟨kR_RB, "taken", "()I"⟩
def wsRB_taken : List Cond := .code yRB_taken cRB_taken 1 (some .int) :: ipW
theorem dRB_taken_0 : decode cRB_taken 0 = .ok (.aload_n 0, 1) := by decide +kernel
theorem dRB_taken_1 : decode cRB_taken 1 = .ok (.getfield 13, 3) := by decide +kernel
theorem dRB_taken_4 : decode cRB_taken 4 = .ok (.bipush 8, 2) := by decide +kernel
theorem dRB_taken_6 : decode cRB_taken 6 = .ok (.isub, 1) := by decide +kernel
theorem dRB_taken_7 : decode cRB_taken 7 = .ok (.ireturn, 1) := by decide +kernel
abbrev cRB_atEnd : ByteArray := prog_11_method_4_code
def yRB_atEnd : MethodName := ⟨kR_RB, "atEnd", "()Z"⟩
def wsRB_atEnd : List Cond := .code yRB_atEnd cRB_atEnd 1 (some .boolean) :: ipW
theorem dRB_atEnd_0 : decode cRB_atEnd 0 = .ok (.aload_n 0, 1) := by decide +kernel
theorem dRB_atEnd_1 : decode cRB_atEnd 1 = .ok (.getfield 13, 3) := by decide +kernel
theorem dRB_atEnd_4 : decode cRB_atEnd 4 = .ok (.aload_n 0, 1) := by decide +kernel
theorem dRB_atEnd_5 : decode cRB_atEnd 5 = .ok (.getfield 17, 3) := by decide +kernel
theorem dRB_atEnd_8 : decode cRB_atEnd 8 = .ok (.if_icmp .lt 7, 3) := by decide +kernel
theorem dRB_atEnd_11 : decode cRB_atEnd 11 = .ok (.iconst 1, 1) := by decide +kernel
theorem dRB_atEnd_12 : decode cRB_atEnd 12 = .ok (.goto 4, 3) := by decide +kernel
theorem dRB_atEnd_15 : decode cRB_atEnd 15 = .ok (.iconst 0, 1) := by decide +kernel
theorem dRB_atEnd_16 : decode cRB_atEnd 16 = .ok (.ireturn, 1) := by decide +kernel
abbrev cRB_next : ByteArray := prog_11_method_5_code
def yRB_next : MethodName := ⟨kR_RB, "next", "()I"⟩
def wsRB_next : List Cond := .code yRB_next cRB_next 2 (some .int) :: ipW
theorem dRB_next_0 : decode cRB_next 0 = .ok (.aload_n 0, 1) := by decide +kernel
theorem dRB_next_1 : decode cRB_next 1 = .ok (.getfield 13, 3) := by decide +kernel
theorem dRB_next_4 : decode cRB_next 4 = .ok (.aload_n 0, 1) := by decide +kernel
theorem dRB_next_5 : decode cRB_next 5 = .ok (.getfield 17, 3) := by decide +kernel
theorem dRB_next_8 : decode cRB_next 8 = .ok (.if_icmp .ge 30, 3) := by decide +kernel
theorem dRB_next_11 : decode cRB_next 11 = .ok (.aload_n 0, 1) := by decide +kernel
theorem dRB_next_12 : decode cRB_next 12 = .ok (.getfield 7, 3) := by decide +kernel
theorem dRB_next_15 : decode cRB_next 15 = .ok (.aload_n 0, 1) := by decide +kernel
theorem dRB_next_16 : decode cRB_next 16 = .ok (.getfield 13, 3) := by decide +kernel
theorem dRB_next_19 : decode cRB_next 19 = .ok (.iconst 3, 1) := by decide +kernel
theorem dRB_next_20 : decode cRB_next 20 = .ok (.ishr, 1) := by decide +kernel
theorem dRB_next_21 : decode cRB_next 21 = .ok (.iaload, 1) := by decide +kernel
theorem dRB_next_22 : decode cRB_next 22 = .ok (.bipush 7, 2) := by decide +kernel
theorem dRB_next_24 : decode cRB_next 24 = .ok (.aload_n 0, 1) := by decide +kernel
theorem dRB_next_25 : decode cRB_next 25 = .ok (.getfield 13, 3) := by decide +kernel
theorem dRB_next_28 : decode cRB_next 28 = .ok (.bipush 7, 2) := by decide +kernel
theorem dRB_next_30 : decode cRB_next 30 = .ok (.iand, 1) := by decide +kernel
theorem dRB_next_31 : decode cRB_next 31 = .ok (.isub, 1) := by decide +kernel
theorem dRB_next_32 : decode cRB_next 32 = .ok (.ishr, 1) := by decide +kernel
theorem dRB_next_33 : decode cRB_next 33 = .ok (.iconst 1, 1) := by decide +kernel
theorem dRB_next_34 : decode cRB_next 34 = .ok (.iand, 1) := by decide +kernel
theorem dRB_next_35 : decode cRB_next 35 = .ok (.goto 4, 3) := by decide +kernel
theorem dRB_next_38 : decode cRB_next 38 = .ok (.iconst 0, 1) := by decide +kernel
theorem dRB_next_39 : decode cRB_next 39 = .ok (.istore_n 1, 1) := by decide +kernel
theorem dRB_next_40 : decode cRB_next 40 = .ok (.aload_n 0, 1) := by decide +kernel
theorem dRB_next_41 : decode cRB_next 41 = .ok (.dup, 1) := by decide +kernel
theorem dRB_next_42 : decode cRB_next 42 = .ok (.getfield 13, 3) := by decide +kernel
theorem dRB_next_45 : decode cRB_next 45 = .ok (.iconst 1, 1) := by decide +kernel
theorem dRB_next_46 : decode cRB_next 46 = .ok (.iadd, 1) := by decide +kernel
theorem dRB_next_47 : decode cRB_next 47 = .ok (.putfield 13, 3) := by decide +kernel
theorem dRB_next_50 : decode cRB_next 50 = .ok (.iload_n 1, 1) := by decide +kernel
theorem dRB_next_51 : decode cRB_next 51 = .ok (.ireturn, 1) := by decide +kernel
abbrev cPA_readUnit : ByteArray := prog_7_method_2_code
def yPA_readUnit : MethodName := ⟨kR_PA, "readUnit", "()I"⟩
def wsPA_readUnit : List Cond := .code yPA_readUnit cPA_readUnit 2 (some .int) :: ipW
theorem dPA_readUnit_0 : decode cPA_readUnit 0 = .ok (.aload_n 0, 1) := by decide +kernel
theorem dPA_readUnit_1 : decode cPA_readUnit 1 = .ok (.iconst 0, 1) := by decide +kernel
theorem dPA_readUnit_2 : decode cPA_readUnit 2 = .ok (.putfield 22, 3) := by decide +kernel
theorem dPA_readUnit_5 : decode cPA_readUnit 5 = .ok (.aload_n 0, 1) := by decide +kernel
theorem dPA_readUnit_6 : decode cPA_readUnit 6 = .ok (.getfield 15, 3) := by decide +kernel
theorem dPA_readUnit_9 : decode cPA_readUnit 9 = .ok (.iconst 0, 1) := by decide +kernel
theorem dPA_readUnit_10 : decode cPA_readUnit 10 = .ok (.invokestatic 26, 3) := by decide +kernel
theorem dPA_readUnit_13 : decode cPA_readUnit 13 = .ok (.aload_n 0, 1) := by decide +kernel
theorem dPA_readUnit_14 : decode cPA_readUnit 14 = .ok (.getfield 15, 3) := by decide +kernel
theorem dPA_readUnit_17 : decode cPA_readUnit 17 = .ok (.iconst 0, 1) := by decide +kernel
theorem dPA_readUnit_18 : decode cPA_readUnit 18 = .ok (.aload_n 0, 1) := by decide +kernel
theorem dPA_readUnit_19 : decode cPA_readUnit 19 = .ok (.aload_n 0, 1) := by decide +kernel
theorem dPA_readUnit_20 : decode cPA_readUnit 20 = .ok (.invokevirtual 32, 3) := by decide +kernel
theorem dPA_readUnit_23 : decode cPA_readUnit 23 = .ok (.iconst 0, 1) := by decide +kernel
theorem dPA_readUnit_24 : decode cPA_readUnit 24 = .ok (.bipush 51, 2) := by decide +kernel
theorem dPA_readUnit_26 : decode cPA_readUnit 26 = .ok (.invokevirtual 36, 3) := by decide +kernel
theorem dPA_readUnit_29 : decode cPA_readUnit 29 = .ok (.iastore, 1) := by decide +kernel
theorem dPA_readUnit_30 : decode cPA_readUnit 30 = .ok (.aload_n 0, 1) := by decide +kernel
theorem dPA_readUnit_31 : decode cPA_readUnit 31 = .ok (.getfield 15, 3) := by decide +kernel
theorem dPA_readUnit_34 : decode cPA_readUnit 34 = .ok (.iconst 1, 1) := by decide +kernel
theorem dPA_readUnit_35 : decode cPA_readUnit 35 = .ok (.aload_n 0, 1) := by decide +kernel
theorem dPA_readUnit_36 : decode cPA_readUnit 36 = .ok (.iconst 1, 1) := by decide +kernel
theorem dPA_readUnit_37 : decode cPA_readUnit 37 = .ok (.invokevirtual 40, 3) := by decide +kernel
theorem dPA_readUnit_40 : decode cPA_readUnit 40 = .ok (.iastore, 1) := by decide +kernel
theorem dPA_readUnit_41 : decode cPA_readUnit 41 = .ok (.aload_n 0, 1) := by decide +kernel
theorem dPA_readUnit_42 : decode cPA_readUnit 42 = .ok (.getfield 15, 3) := by decide +kernel
theorem dPA_readUnit_45 : decode cPA_readUnit 45 = .ok (.iconst 2, 1) := by decide +kernel
theorem dPA_readUnit_46 : decode cPA_readUnit 46 = .ok (.aload_n 0, 1) := by decide +kernel
theorem dPA_readUnit_47 : decode cPA_readUnit 47 = .ok (.iconst 1, 1) := by decide +kernel
theorem dPA_readUnit_48 : decode cPA_readUnit 48 = .ok (.invokevirtual 40, 3) := by decide +kernel
theorem dPA_readUnit_51 : decode cPA_readUnit 51 = .ok (.iastore, 1) := by decide +kernel
theorem dPA_readUnit_52 : decode cPA_readUnit 52 = .ok (.aload_n 0, 1) := by decide +kernel
theorem dPA_readUnit_53 : decode cPA_readUnit 53 = .ok (.getfield 15, 3) := by decide +kernel
theorem dPA_readUnit_56 : decode cPA_readUnit 56 = .ok (.iconst 3, 1) := by decide +kernel
theorem dPA_readUnit_57 : decode cPA_readUnit 57 = .ok (.aload_n 0, 1) := by decide +kernel
theorem dPA_readUnit_58 : decode cPA_readUnit 58 = .ok (.iconst 1, 1) := by decide +kernel
theorem dPA_readUnit_59 : decode cPA_readUnit 59 = .ok (.invokevirtual 40, 3) := by decide +kernel
theorem dPA_readUnit_62 : decode cPA_readUnit 62 = .ok (.iastore, 1) := by decide +kernel
theorem dPA_readUnit_63 : decode cPA_readUnit 63 = .ok (.aload_n 0, 1) := by decide +kernel
theorem dPA_readUnit_64 : decode cPA_readUnit 64 = .ok (.getfield 15, 3) := by decide +kernel
theorem dPA_readUnit_67 : decode cPA_readUnit 67 = .ok (.iconst 4, 1) := by decide +kernel
theorem dPA_readUnit_68 : decode cPA_readUnit 68 = .ok (.aload_n 0, 1) := by decide +kernel
theorem dPA_readUnit_69 : decode cPA_readUnit 69 = .ok (.iconst 2, 1) := by decide +kernel
theorem dPA_readUnit_70 : decode cPA_readUnit 70 = .ok (.invokevirtual 40, 3) := by decide +kernel
theorem dPA_readUnit_73 : decode cPA_readUnit 73 = .ok (.iastore, 1) := by decide +kernel
theorem dPA_readUnit_74 : decode cPA_readUnit 74 = .ok (.aload_n 0, 1) := by decide +kernel
theorem dPA_readUnit_75 : decode cPA_readUnit 75 = .ok (.getfield 15, 3) := by decide +kernel
theorem dPA_readUnit_78 : decode cPA_readUnit 78 = .ok (.iconst 4, 1) := by decide +kernel
theorem dPA_readUnit_79 : decode cPA_readUnit 79 = .ok (.iaload, 1) := by decide +kernel
theorem dPA_readUnit_80 : decode cPA_readUnit 80 = .ok (.ifCond .eq 36, 3) := by decide +kernel
theorem dPA_readUnit_83 : decode cPA_readUnit 83 = .ok (.iconst 0, 1) := by decide +kernel
theorem dPA_readUnit_84 : decode cPA_readUnit 84 = .ok (.istore_n 1, 1) := by decide +kernel
theorem dPA_readUnit_85 : decode cPA_readUnit 85 = .ok (.iload_n 1, 1) := by decide +kernel
theorem dPA_readUnit_86 : decode cPA_readUnit 86 = .ok (.iconst 4, 1) := by decide +kernel
theorem dPA_readUnit_87 : decode cPA_readUnit 87 = .ok (.if_icmp .ge 29, 3) := by decide +kernel
theorem dPA_readUnit_90 : decode cPA_readUnit 90 = .ok (.aload_n 0, 1) := by decide +kernel
theorem dPA_readUnit_91 : decode cPA_readUnit 91 = .ok (.getfield 15, 3) := by decide +kernel
theorem dPA_readUnit_94 : decode cPA_readUnit 94 = .ok (.iconst 5, 1) := by decide +kernel
theorem dPA_readUnit_95 : decode cPA_readUnit 95 = .ok (.iload_n 1, 1) := by decide +kernel
theorem dPA_readUnit_96 : decode cPA_readUnit 96 = .ok (.iadd, 1) := by decide +kernel
theorem dPA_readUnit_97 : decode cPA_readUnit 97 = .ok (.aload_n 0, 1) := by decide +kernel
theorem dPA_readUnit_98 : decode cPA_readUnit 98 = .ok (.aload_n 0, 1) := by decide +kernel
theorem dPA_readUnit_99 : decode cPA_readUnit 99 = .ok (.invokevirtual 44, 3) := by decide +kernel
theorem dPA_readUnit_102 : decode cPA_readUnit 102 = .ok (.bipush (-7), 2) := by decide +kernel
theorem dPA_readUnit_104 : decode cPA_readUnit 104 = .ok (.bipush 7, 2) := by decide +kernel
theorem dPA_readUnit_106 : decode cPA_readUnit 106 = .ok (.invokevirtual 36, 3) := by decide +kernel
theorem dPA_readUnit_109 : decode cPA_readUnit 109 = .ok (.iastore, 1) := by decide +kernel
theorem dPA_readUnit_110 : decode cPA_readUnit 110 = .ok (.iinc 1 1, 3) := by decide +kernel
theorem dPA_readUnit_113 : decode cPA_readUnit 113 = .ok (.goto (-28), 3) := by decide +kernel
theorem dPA_readUnit_116 : decode cPA_readUnit 116 = .ok (.aload_n 0, 1) := by decide +kernel
theorem dPA_readUnit_117 : decode cPA_readUnit 117 = .ok (.getfield 15, 3) := by decide +kernel
theorem dPA_readUnit_120 : decode cPA_readUnit 120 = .ok (.iconst 4, 1) := by decide +kernel
theorem dPA_readUnit_121 : decode cPA_readUnit 121 = .ok (.iaload, 1) := by decide +kernel
theorem dPA_readUnit_122 : decode cPA_readUnit 122 = .ok (.iconst 3, 1) := by decide +kernel
theorem dPA_readUnit_123 : decode cPA_readUnit 123 = .ok (.if_icmp .ne 15, 3) := by decide +kernel
theorem dPA_readUnit_126 : decode cPA_readUnit 126 = .ok (.aload_n 0, 1) := by decide +kernel
theorem dPA_readUnit_127 : decode cPA_readUnit 127 = .ok (.getfield 15, 3) := by decide +kernel
theorem dPA_readUnit_130 : decode cPA_readUnit 130 = .ok (.bipush 9, 2) := by decide +kernel
theorem dPA_readUnit_132 : decode cPA_readUnit 132 = .ok (.aload_n 0, 1) := by decide +kernel
theorem dPA_readUnit_133 : decode cPA_readUnit 133 = .ok (.iconst 3, 1) := by decide +kernel
theorem dPA_readUnit_134 : decode cPA_readUnit 134 = .ok (.invokevirtual 40, 3) := by decide +kernel
theorem dPA_readUnit_137 : decode cPA_readUnit 137 = .ok (.iastore, 1) := by decide +kernel
theorem dPA_readUnit_138 : decode cPA_readUnit 138 = .ok (.aload_n 0, 1) := by decide +kernel
theorem dPA_readUnit_139 : decode cPA_readUnit 139 = .ok (.getfield 22, 3) := by decide +kernel
theorem dPA_readUnit_142 : decode cPA_readUnit 142 = .ok (.ifCond .ne 23, 3) := by decide +kernel
theorem dPA_readUnit_145 : decode cPA_readUnit 145 = .ok (.aload_n 0, 1) := by decide +kernel
theorem dPA_readUnit_146 : decode cPA_readUnit 146 = .ok (.getfield 15, 3) := by decide +kernel
theorem dPA_readUnit_149 : decode cPA_readUnit 149 = .ok (.iconst 0, 1) := by decide +kernel
theorem dPA_readUnit_150 : decode cPA_readUnit 150 = .ok (.aload_n 0, 1) := by decide +kernel
theorem dPA_readUnit_151 : decode cPA_readUnit 151 = .ok (.getfield 9, 3) := by decide +kernel
theorem dPA_readUnit_154 : decode cPA_readUnit 154 = .ok (.iconst 0, 1) := by decide +kernel
theorem dPA_readUnit_155 : decode cPA_readUnit 155 = .ok (.bipush 10, 2) := by decide +kernel
theorem dPA_readUnit_157 : decode cPA_readUnit 157 = .ok (.invokestatic 47, 3) := by decide +kernel
theorem dPA_readUnit_160 : decode cPA_readUnit 160 = .ok (.aload_n 0, 1) := by decide +kernel
theorem dPA_readUnit_161 : decode cPA_readUnit 161 = .ok (.iconst 1, 1) := by decide +kernel
theorem dPA_readUnit_162 : decode cPA_readUnit 162 = .ok (.putfield 53, 3) := by decide +kernel
theorem dPA_readUnit_165 : decode cPA_readUnit 165 = .ok (.aload_n 0, 1) := by decide +kernel
theorem dPA_readUnit_166 : decode cPA_readUnit 166 = .ok (.getfield 22, 3) := by decide +kernel
theorem dPA_readUnit_169 : decode cPA_readUnit 169 = .ok (.ireturn, 1) := by decide +kernel
abbrev cPA_blame : ByteArray := prog_7_method_3_code
def yPA_blame : MethodName := ⟨kR_PA, "blame", "(I)V"⟩
def wsPA_blame : List Cond := .code yPA_blame cPA_blame 2 none :: ipW
theorem dPA_blame_0 : decode cPA_blame 0 = .ok (.aload_n 0, 1) := by decide +kernel
theorem dPA_blame_1 : decode cPA_blame 1 = .ok (.getfield 22, 3) := by decide +kernel
theorem dPA_blame_4 : decode cPA_blame 4 = .ok (.ifCond .ne 8, 3) := by decide +kernel
theorem dPA_blame_7 : decode cPA_blame 7 = .ok (.aload_n 0, 1) := by decide +kernel
theorem dPA_blame_8 : decode cPA_blame 8 = .ok (.iload_n 1, 1) := by decide +kernel
theorem dPA_blame_9 : decode cPA_blame 9 = .ok (.putfield 22, 3) := by decide +kernel
theorem dPA_blame_12 : decode cPA_blame 12 = .ok (.return_, 1) := by decide +kernel
abbrev cPA_checked : ByteArray := prog_7_method_4_code
def yPA_checked : MethodName := ⟨kR_PA, "checked", "(III)I"⟩
def wsPA_checked : List Cond := .code yPA_checked cPA_checked 4 (some .int) :: ipW
theorem dPA_checked_0 : decode cPA_checked 0 = .ok (.iload_n 1, 1) := by decide +kernel
theorem dPA_checked_1 : decode cPA_checked 1 = .ok (.iload_n 2, 1) := by decide +kernel
theorem dPA_checked_2 : decode cPA_checked 2 = .ok (.if_icmp .lt 8, 3) := by decide +kernel
theorem dPA_checked_5 : decode cPA_checked 5 = .ok (.iload_n 1, 1) := by decide +kernel
theorem dPA_checked_6 : decode cPA_checked 6 = .ok (.iload_n 3, 1) := by decide +kernel
theorem dPA_checked_7 : decode cPA_checked 7 = .ok (.if_icmp .le 9, 3) := by decide +kernel
theorem dPA_checked_10 : decode cPA_checked 10 = .ok (.aload_n 0, 1) := by decide +kernel
theorem dPA_checked_11 : decode cPA_checked 11 = .ok (.bipush (-3), 2) := by decide +kernel
theorem dPA_checked_13 : decode cPA_checked 13 = .ok (.invokevirtual 57, 3) := by decide +kernel
theorem dPA_checked_16 : decode cPA_checked 16 = .ok (.iload_n 1, 1) := by decide +kernel
theorem dPA_checked_17 : decode cPA_checked 17 = .ok (.ireturn, 1) := by decide +kernel
abbrev cPA_number : ByteArray := prog_7_method_5_code
def yPA_number : MethodName := ⟨kR_PA, "number", "(I)I"⟩
def wsPA_number : List Cond := .code yPA_number cPA_number 4 (some .int) :: ipW
theorem dPA_number_0 : decode cPA_number 0 = .ok (.iconst 0, 1) := by decide +kernel
theorem dPA_number_1 : decode cPA_number 1 = .ok (.istore_n 2, 1) := by decide +kernel
theorem dPA_number_2 : decode cPA_number 2 = .ok (.iconst 0, 1) := by decide +kernel
theorem dPA_number_3 : decode cPA_number 3 = .ok (.istore_n 3, 1) := by decide +kernel
theorem dPA_number_4 : decode cPA_number 4 = .ok (.iload_n 3, 1) := by decide +kernel
theorem dPA_number_5 : decode cPA_number 5 = .ok (.iload_n 1, 1) := by decide +kernel
theorem dPA_number_6 : decode cPA_number 6 = .ok (.if_icmp .ge 37, 3) := by decide +kernel
theorem dPA_number_9 : decode cPA_number 9 = .ok (.aload_n 0, 1) := by decide +kernel
theorem dPA_number_10 : decode cPA_number 10 = .ok (.getfield 18, 3) := by decide +kernel
theorem dPA_number_13 : decode cPA_number 13 = .ok (.invokevirtual 61, 3) := by decide +kernel
theorem dPA_number_16 : decode cPA_number 16 = .ok (.ifCond .eq 9, 3) := by decide +kernel
theorem dPA_number_19 : decode cPA_number 19 = .ok (.aload_n 0, 1) := by decide +kernel
theorem dPA_number_20 : decode cPA_number 20 = .ok (.bipush (-4), 2) := by decide +kernel
theorem dPA_number_22 : decode cPA_number 22 = .ok (.invokevirtual 57, 3) := by decide +kernel
theorem dPA_number_25 : decode cPA_number 25 = .ok (.iconst 2, 1) := by decide +kernel
theorem dPA_number_26 : decode cPA_number 26 = .ok (.iload_n 2, 1) := by decide +kernel
theorem dPA_number_27 : decode cPA_number 27 = .ok (.imul, 1) := by decide +kernel
theorem dPA_number_28 : decode cPA_number 28 = .ok (.aload_n 0, 1) := by decide +kernel
theorem dPA_number_29 : decode cPA_number 29 = .ok (.getfield 18, 3) := by decide +kernel
theorem dPA_number_32 : decode cPA_number 32 = .ok (.invokevirtual 67, 3) := by decide +kernel
theorem dPA_number_35 : decode cPA_number 35 = .ok (.iadd, 1) := by decide +kernel
theorem dPA_number_36 : decode cPA_number 36 = .ok (.istore_n 2, 1) := by decide +kernel
theorem dPA_number_37 : decode cPA_number 37 = .ok (.iinc 3 1, 3) := by decide +kernel
theorem dPA_number_40 : decode cPA_number 40 = .ok (.goto (-36), 3) := by decide +kernel
theorem dPA_number_43 : decode cPA_number 43 = .ok (.iload_n 2, 1) := by decide +kernel
theorem dPA_number_44 : decode cPA_number 44 = .ok (.ireturn, 1) := by decide +kernel
abbrev cPA_code : ByteArray := prog_7_method_6_code
def yPA_code : MethodName := ⟨kR_PA, "code", "()I"⟩
def wsPA_code : List Cond := .code yPA_code cPA_code 2 (some .int) :: ipW
theorem dPA_code_0 : decode cPA_code 0 = .ok (.iconst 0, 1) := by decide +kernel
theorem dPA_code_1 : decode cPA_code 1 = .ok (.istore_n 1, 1) := by decide +kernel
theorem dPA_code_2 : decode cPA_code 2 = .ok (.iload_n 1, 1) := by decide +kernel
theorem dPA_code_3 : decode cPA_code 3 = .ok (.bipush 7, 2) := by decide +kernel
theorem dPA_code_5 : decode cPA_code 5 = .ok (.if_icmp .ge 17, 3) := by decide +kernel
theorem dPA_code_8 : decode cPA_code 8 = .ok (.aload_n 0, 1) := by decide +kernel
theorem dPA_code_9 : decode cPA_code 9 = .ok (.iconst 1, 1) := by decide +kernel
theorem dPA_code_10 : decode cPA_code 10 = .ok (.invokevirtual 40, 3) := by decide +kernel
theorem dPA_code_13 : decode cPA_code 13 = .ok (.ifCond .ne 9, 3) := by decide +kernel
theorem dPA_code_16 : decode cPA_code 16 = .ok (.iinc 1 1, 3) := by decide +kernel
theorem dPA_code_19 : decode cPA_code 19 = .ok (.goto (-17), 3) := by decide +kernel
theorem dPA_code_22 : decode cPA_code 22 = .ok (.iload_n 1, 1) := by decide +kernel
theorem dPA_code_23 : decode cPA_code 23 = .ok (.bipush 7, 2) := by decide +kernel
theorem dPA_code_25 : decode cPA_code 25 = .ok (.if_icmp .ne 11, 3) := by decide +kernel
theorem dPA_code_28 : decode cPA_code 28 = .ok (.aload_n 0, 1) := by decide +kernel
theorem dPA_code_29 : decode cPA_code 29 = .ok (.bipush (-3), 2) := by decide +kernel
theorem dPA_code_31 : decode cPA_code 31 = .ok (.invokevirtual 57, 3) := by decide +kernel
theorem dPA_code_34 : decode cPA_code 34 = .ok (.iconst 0, 1) := by decide +kernel
theorem dPA_code_35 : decode cPA_code 35 = .ok (.ireturn, 1) := by decide +kernel
theorem dPA_code_36 : decode cPA_code 36 = .ok (.iconst 1, 1) := by decide +kernel
theorem dPA_code_37 : decode cPA_code 37 = .ok (.iload_n 1, 1) := by decide +kernel
theorem dPA_code_38 : decode cPA_code 38 = .ok (.ishl, 1) := by decide +kernel
theorem dPA_code_39 : decode cPA_code 39 = .ok (.iconst 1, 1) := by decide +kernel
theorem dPA_code_40 : decode cPA_code 40 = .ok (.isub, 1) := by decide +kernel
theorem dPA_code_41 : decode cPA_code 41 = .ok (.aload_n 0, 1) := by decide +kernel
theorem dPA_code_42 : decode cPA_code 42 = .ok (.iload_n 1, 1) := by decide +kernel
theorem dPA_code_43 : decode cPA_code 43 = .ok (.invokevirtual 40, 3) := by decide +kernel
theorem dPA_code_46 : decode cPA_code 46 = .ok (.iadd, 1) := by decide +kernel
theorem dPA_code_47 : decode cPA_code 47 = .ok (.ireturn, 1) := by decide +kernel
abbrev cPA_signedCode : ByteArray := prog_7_method_7_code
def yPA_signedCode : MethodName := ⟨kR_PA, "signedCode", "()I"⟩
def wsPA_signedCode : List Cond := .code yPA_signedCode cPA_signedCode 2 (some .int) :: ipW
theorem dPA_signedCode_0 : decode cPA_signedCode 0 = .ok (.aload_n 0, 1) := by decide +kernel
theorem dPA_signedCode_1 : decode cPA_signedCode 1 = .ok (.invokevirtual 32, 3) := by decide +kernel
theorem dPA_signedCode_4 : decode cPA_signedCode 4 = .ok (.istore_n 1, 1) := by decide +kernel
theorem dPA_signedCode_5 : decode cPA_signedCode 5 = .ok (.iload_n 1, 1) := by decide +kernel
theorem dPA_signedCode_6 : decode cPA_signedCode 6 = .ok (.iconst 1, 1) := by decide +kernel
theorem dPA_signedCode_7 : decode cPA_signedCode 7 = .ok (.iand, 1) := by decide +kernel
theorem dPA_signedCode_8 : decode cPA_signedCode 8 = .ok (.iconst 1, 1) := by decide +kernel
theorem dPA_signedCode_9 : decode cPA_signedCode 9 = .ok (.if_icmp .ne 11, 3) := by decide +kernel
theorem dPA_signedCode_12 : decode cPA_signedCode 12 = .ok (.iload_n 1, 1) := by decide +kernel
theorem dPA_signedCode_13 : decode cPA_signedCode 13 = .ok (.iconst 1, 1) := by decide +kernel
theorem dPA_signedCode_14 : decode cPA_signedCode 14 = .ok (.iadd, 1) := by decide +kernel
theorem dPA_signedCode_15 : decode cPA_signedCode 15 = .ok (.iconst 2, 1) := by decide +kernel
theorem dPA_signedCode_16 : decode cPA_signedCode 16 = .ok (.idiv, 1) := by decide +kernel
theorem dPA_signedCode_17 : decode cPA_signedCode 17 = .ok (.goto 7, 3) := by decide +kernel
theorem dPA_signedCode_20 : decode cPA_signedCode 20 = .ok (.iload_n 1, 1) := by decide +kernel
theorem dPA_signedCode_21 : decode cPA_signedCode 21 = .ok (.ineg, 1) := by decide +kernel
theorem dPA_signedCode_22 : decode cPA_signedCode 22 = .ok (.iconst 2, 1) := by decide +kernel
theorem dPA_signedCode_23 : decode cPA_signedCode 23 = .ok (.idiv, 1) := by decide +kernel
theorem dPA_signedCode_24 : decode cPA_signedCode 24 = .ok (.ireturn, 1) := by decide +kernel
abbrev cBD_begin : ByteArray := prog_2_method_2_code
def yBD_begin : MethodName := ⟨kR_BD, "begin", "()V"⟩
def wsBD_begin : List Cond := .code yBD_begin cBD_begin 2 none :: ipW
theorem dBD_begin_0 : decode cBD_begin 0 = .ok (.aload_n 0, 1) := by decide +kernel
theorem dBD_begin_1 : decode cBD_begin 1 = .ok (.getfield 9, 3) := by decide +kernel
theorem dBD_begin_4 : decode cBD_begin 4 = .ok (.sipush 512, 3) := by decide +kernel
theorem dBD_begin_7 : decode cBD_begin 7 = .ok (.invokestatic 20, 3) := by decide +kernel
theorem dBD_begin_10 : decode cBD_begin 10 = .ok (.aload_n 0, 1) := by decide +kernel
theorem dBD_begin_11 : decode cBD_begin 11 = .ok (.getfield 13, 3) := by decide +kernel
theorem dBD_begin_14 : decode cBD_begin 14 = .ok (.iconst 0, 1) := by decide +kernel
theorem dBD_begin_15 : decode cBD_begin 15 = .ok (.invokestatic 20, 3) := by decide +kernel
theorem dBD_begin_18 : decode cBD_begin 18 = .ok (.aload_n 0, 1) := by decide +kernel
theorem dBD_begin_19 : decode cBD_begin 19 = .ok (.sipush 510, 3) := by decide +kernel
theorem dBD_begin_22 : decode cBD_begin 22 = .ok (.putfield 26, 3) := by decide +kernel
theorem dBD_begin_25 : decode cBD_begin 25 = .ok (.aload_n 0, 1) := by decide +kernel
theorem dBD_begin_26 : decode cBD_begin 26 = .ok (.iconst 0, 1) := by decide +kernel
theorem dBD_begin_27 : decode cBD_begin 27 = .ok (.putfield 30, 3) := by decide +kernel
theorem dBD_begin_30 : decode cBD_begin 30 = .ok (.iconst 0, 1) := by decide +kernel
theorem dBD_begin_31 : decode cBD_begin 31 = .ok (.istore_n 1, 1) := by decide +kernel
theorem dBD_begin_32 : decode cBD_begin 32 = .ok (.iload_n 1, 1) := by decide +kernel
theorem dBD_begin_33 : decode cBD_begin 33 = .ok (.bipush 8, 2) := by decide +kernel
theorem dBD_begin_35 : decode cBD_begin 35 = .ok (.if_icmp .ge 27, 3) := by decide +kernel
theorem dBD_begin_38 : decode cBD_begin 38 = .ok (.aload_n 0, 1) := by decide +kernel
theorem dBD_begin_39 : decode cBD_begin 39 = .ok (.iconst 2, 1) := by decide +kernel
theorem dBD_begin_40 : decode cBD_begin 40 = .ok (.aload_n 0, 1) := by decide +kernel
theorem dBD_begin_41 : decode cBD_begin 41 = .ok (.getfield 30, 3) := by decide +kernel
theorem dBD_begin_44 : decode cBD_begin 44 = .ok (.imul, 1) := by decide +kernel
theorem dBD_begin_45 : decode cBD_begin 45 = .ok (.aload_n 0, 1) := by decide +kernel
theorem dBD_begin_46 : decode cBD_begin 46 = .ok (.getfield 16, 3) := by decide +kernel
theorem dBD_begin_49 : decode cBD_begin 49 = .ok (.invokevirtual 33, 3) := by decide +kernel
theorem dBD_begin_52 : decode cBD_begin 52 = .ok (.iadd, 1) := by decide +kernel
theorem dBD_begin_53 : decode cBD_begin 53 = .ok (.putfield 30, 3) := by decide +kernel
theorem dBD_begin_56 : decode cBD_begin 56 = .ok (.iinc 1 1, 3) := by decide +kernel
theorem dBD_begin_59 : decode cBD_begin 59 = .ok (.goto (-27), 3) := by decide +kernel
theorem dBD_begin_62 : decode cBD_begin 62 = .ok (.return_, 1) := by decide +kernel
abbrev cBD_end : ByteArray := prog_2_method_3_code
def yBD_end : MethodName := ⟨kR_BD, "end", "()V"⟩
def wsBD_end : List Cond := .code yBD_end cBD_end 1 none :: ipW
theorem dBD_end_0 : decode cBD_end 0 = .ok (.aload_n 0, 1) := by decide +kernel
theorem dBD_end_1 : decode cBD_end 1 = .ok (.getfield 13, 3) := by decide +kernel
theorem dBD_end_4 : decode cBD_end 4 = .ok (.iconst 2, 1) := by decide +kernel
theorem dBD_end_5 : decode cBD_end 5 = .ok (.aload_n 0, 1) := by decide +kernel
theorem dBD_end_6 : decode cBD_end 6 = .ok (.getfield 16, 3) := by decide +kernel
theorem dBD_end_9 : decode cBD_end 9 = .ok (.invokevirtual 39, 3) := by decide +kernel
theorem dBD_end_12 : decode cBD_end 12 = .ok (.iastore, 1) := by decide +kernel
theorem dBD_end_13 : decode cBD_end 13 = .ok (.return_, 1) := by decide +kernel
abbrev cBD_bin : ByteArray := prog_2_method_4_code
def yBD_bin : MethodName := ⟨kR_BD, "bin", "(I)I"⟩
def wsBD_bin : List Cond := .code yBD_bin cBD_bin 8 (some .int) :: ipW
theorem dBD_bin_0 : decode cBD_bin 0 = .ok (.aload_n 0, 1) := by decide +kernel
theorem dBD_bin_1 : decode cBD_bin 1 = .ok (.getfield 9, 3) := by decide +kernel
theorem dBD_bin_4 : decode cBD_bin 4 = .ok (.iload_n 1, 1) := by decide +kernel
theorem dBD_bin_5 : decode cBD_bin 5 = .ok (.iaload, 1) := by decide +kernel
theorem dBD_bin_6 : decode cBD_bin 6 = .ok (.istore_n 2, 1) := by decide +kernel
theorem dBD_bin_7 : decode cBD_bin 7 = .ok (.iload_n 2, 1) := by decide +kernel
theorem dBD_bin_8 : decode cBD_bin 8 = .ok (.sipush 512, 3) := by decide +kernel
theorem dBD_bin_11 : decode cBD_bin 11 = .ok (.if_icmp .lt 7, 3) := by decide +kernel
theorem dBD_bin_14 : decode cBD_bin 14 = .ok (.iconst 1, 1) := by decide +kernel
theorem dBD_bin_15 : decode cBD_bin 15 = .ok (.goto 4, 3) := by decide +kernel
theorem dBD_bin_18 : decode cBD_bin 18 = .ok (.iconst 0, 1) := by decide +kernel
theorem dBD_bin_19 : decode cBD_bin 19 = .ok (.istore_n 3, 1) := by decide +kernel
theorem dBD_bin_20 : decode cBD_bin 20 = .ok (.iload_n 3, 1) := by decide +kernel
theorem dBD_bin_21 : decode cBD_bin 21 = .ok (.iconst 1, 1) := by decide +kernel
theorem dBD_bin_22 : decode cBD_bin 22 = .ok (.if_icmp .ne 11, 3) := by decide +kernel
theorem dBD_bin_25 : decode cBD_bin 25 = .ok (.sipush 1023, 3) := by decide +kernel
theorem dBD_bin_28 : decode cBD_bin 28 = .ok (.iload_n 2, 1) := by decide +kernel
theorem dBD_bin_29 : decode cBD_bin 29 = .ok (.isub, 1) := by decide +kernel
theorem dBD_bin_30 : decode cBD_bin 30 = .ok (.goto 4, 3) := by decide +kernel
theorem dBD_bin_33 : decode cBD_bin 33 = .ok (.iload_n 2, 1) := by decide +kernel
theorem dBD_bin_34 : decode cBD_bin 34 = .ok (.iconst 5, 1) := by decide +kernel
theorem dBD_bin_35 : decode cBD_bin 35 = .ok (.ishr, 1) := by decide +kernel
theorem dBD_bin_36 : decode cBD_bin 36 = .ok (.istore 4, 2) := by decide +kernel
theorem dBD_bin_38 : decode cBD_bin 38 = .ok (.aload_n 0, 1) := by decide +kernel
theorem dBD_bin_39 : decode cBD_bin 39 = .ok (.getfield 26, 3) := by decide +kernel
theorem dBD_bin_42 : decode cBD_bin 42 = .ok (.iconst 5, 1) := by decide +kernel
theorem dBD_bin_43 : decode cBD_bin 43 = .ok (.ishr, 1) := by decide +kernel
theorem dBD_bin_44 : decode cBD_bin 44 = .ok (.iload 4, 2) := by decide +kernel
theorem dBD_bin_46 : decode cBD_bin 46 = .ok (.imul, 1) := by decide +kernel
theorem dBD_bin_47 : decode cBD_bin 47 = .ok (.iconst 1, 1) := by decide +kernel
theorem dBD_bin_48 : decode cBD_bin 48 = .ok (.ishr, 1) := by decide +kernel
theorem dBD_bin_49 : decode cBD_bin 49 = .ok (.iconst 4, 1) := by decide +kernel
theorem dBD_bin_50 : decode cBD_bin 50 = .ok (.iadd, 1) := by decide +kernel
theorem dBD_bin_51 : decode cBD_bin 51 = .ok (.istore 5, 2) := by decide +kernel
theorem dBD_bin_53 : decode cBD_bin 53 = .ok (.iload_n 3, 1) := by decide +kernel
theorem dBD_bin_54 : decode cBD_bin 54 = .ok (.istore 6, 2) := by decide +kernel
theorem dBD_bin_56 : decode cBD_bin 56 = .ok (.aload_n 0, 1) := by decide +kernel
theorem dBD_bin_57 : decode cBD_bin 57 = .ok (.dup, 1) := by decide +kernel
theorem dBD_bin_58 : decode cBD_bin 58 = .ok (.getfield 26, 3) := by decide +kernel
theorem dBD_bin_61 : decode cBD_bin 61 = .ok (.iload 5, 2) := by decide +kernel
theorem dBD_bin_63 : decode cBD_bin 63 = .ok (.isub, 1) := by decide +kernel
theorem dBD_bin_64 : decode cBD_bin 64 = .ok (.putfield 26, 3) := by decide +kernel
theorem dBD_bin_67 : decode cBD_bin 67 = .ok (.aload_n 0, 1) := by decide +kernel
theorem dBD_bin_68 : decode cBD_bin 68 = .ok (.getfield 30, 3) := by decide +kernel
theorem dBD_bin_71 : decode cBD_bin 71 = .ok (.aload_n 0, 1) := by decide +kernel
theorem dBD_bin_72 : decode cBD_bin 72 = .ok (.getfield 26, 3) := by decide +kernel
theorem dBD_bin_75 : decode cBD_bin 75 = .ok (.if_icmp .lt 27, 3) := by decide +kernel
theorem dBD_bin_78 : decode cBD_bin 78 = .ok (.aload_n 0, 1) := by decide +kernel
theorem dBD_bin_79 : decode cBD_bin 79 = .ok (.dup, 1) := by decide +kernel
theorem dBD_bin_80 : decode cBD_bin 80 = .ok (.getfield 30, 3) := by decide +kernel
theorem dBD_bin_83 : decode cBD_bin 83 = .ok (.aload_n 0, 1) := by decide +kernel
theorem dBD_bin_84 : decode cBD_bin 84 = .ok (.getfield 26, 3) := by decide +kernel
theorem dBD_bin_87 : decode cBD_bin 87 = .ok (.isub, 1) := by decide +kernel
theorem dBD_bin_88 : decode cBD_bin 88 = .ok (.putfield 30, 3) := by decide +kernel
theorem dBD_bin_91 : decode cBD_bin 91 = .ok (.aload_n 0, 1) := by decide +kernel
theorem dBD_bin_92 : decode cBD_bin 92 = .ok (.iload 5, 2) := by decide +kernel
theorem dBD_bin_94 : decode cBD_bin 94 = .ok (.putfield 26, 3) := by decide +kernel
theorem dBD_bin_97 : decode cBD_bin 97 = .ok (.iconst 1, 1) := by decide +kernel
theorem dBD_bin_98 : decode cBD_bin 98 = .ok (.iload_n 3, 1) := by decide +kernel
theorem dBD_bin_99 : decode cBD_bin 99 = .ok (.isub, 1) := by decide +kernel
theorem dBD_bin_100 : decode cBD_bin 100 = .ok (.istore 6, 2) := by decide +kernel
theorem dBD_bin_102 : decode cBD_bin 102 = .ok (.aload_n 0, 1) := by decide +kernel
theorem dBD_bin_103 : decode cBD_bin 103 = .ok (.getfield 9, 3) := by decide +kernel
theorem dBD_bin_106 : decode cBD_bin 106 = .ok (.iload_n 1, 1) := by decide +kernel
theorem dBD_bin_107 : decode cBD_bin 107 = .ok (.iload 6, 2) := by decide +kernel
theorem dBD_bin_109 : decode cBD_bin 109 = .ok (.iconst 1, 1) := by decide +kernel
theorem dBD_bin_110 : decode cBD_bin 110 = .ok (.if_icmp .ne 15, 3) := by decide +kernel
theorem dBD_bin_113 : decode cBD_bin 113 = .ok (.iload_n 2, 1) := by decide +kernel
theorem dBD_bin_114 : decode cBD_bin 114 = .ok (.sipush 1023, 3) := by decide +kernel
theorem dBD_bin_117 : decode cBD_bin 117 = .ok (.iload_n 2, 1) := by decide +kernel
theorem dBD_bin_118 : decode cBD_bin 118 = .ok (.isub, 1) := by decide +kernel
theorem dBD_bin_119 : decode cBD_bin 119 = .ok (.iconst 4, 1) := by decide +kernel
theorem dBD_bin_120 : decode cBD_bin 120 = .ok (.ishr, 1) := by decide +kernel
theorem dBD_bin_121 : decode cBD_bin 121 = .ok (.iadd, 1) := by decide +kernel
theorem dBD_bin_122 : decode cBD_bin 122 = .ok (.goto 8, 3) := by decide +kernel
theorem dBD_bin_125 : decode cBD_bin 125 = .ok (.iload_n 2, 1) := by decide +kernel
theorem dBD_bin_126 : decode cBD_bin 126 = .ok (.iload_n 2, 1) := by decide +kernel
theorem dBD_bin_127 : decode cBD_bin 127 = .ok (.iconst 4, 1) := by decide +kernel
theorem dBD_bin_128 : decode cBD_bin 128 = .ok (.ishr, 1) := by decide +kernel
theorem dBD_bin_129 : decode cBD_bin 129 = .ok (.isub, 1) := by decide +kernel
theorem dBD_bin_130 : decode cBD_bin 130 = .ok (.iastore, 1) := by decide +kernel
theorem dBD_bin_131 : decode cBD_bin 131 = .ok (.iconst 0, 1) := by decide +kernel
theorem dBD_bin_132 : decode cBD_bin 132 = .ok (.istore 7, 2) := by decide +kernel
theorem dBD_bin_134 : decode cBD_bin 134 = .ok (.iload 7, 2) := by decide +kernel
theorem dBD_bin_136 : decode cBD_bin 136 = .ok (.bipush 6, 2) := by decide +kernel
theorem dBD_bin_138 : decode cBD_bin 138 = .ok (.if_icmp .ge 47, 3) := by decide +kernel
theorem dBD_bin_141 : decode cBD_bin 141 = .ok (.aload_n 0, 1) := by decide +kernel
theorem dBD_bin_142 : decode cBD_bin 142 = .ok (.getfield 26, 3) := by decide +kernel
theorem dBD_bin_145 : decode cBD_bin 145 = .ok (.sipush 256, 3) := by decide +kernel
theorem dBD_bin_148 : decode cBD_bin 148 = .ok (.if_icmp .ge 37, 3) := by decide +kernel
theorem dBD_bin_151 : decode cBD_bin 151 = .ok (.aload_n 0, 1) := by decide +kernel
theorem dBD_bin_152 : decode cBD_bin 152 = .ok (.dup, 1) := by decide +kernel
theorem dBD_bin_153 : decode cBD_bin 153 = .ok (.getfield 26, 3) := by decide +kernel
theorem dBD_bin_156 : decode cBD_bin 156 = .ok (.iconst 2, 1) := by decide +kernel
theorem dBD_bin_157 : decode cBD_bin 157 = .ok (.imul, 1) := by decide +kernel
theorem dBD_bin_158 : decode cBD_bin 158 = .ok (.putfield 26, 3) := by decide +kernel
theorem dBD_bin_161 : decode cBD_bin 161 = .ok (.aload_n 0, 1) := by decide +kernel
theorem dBD_bin_162 : decode cBD_bin 162 = .ok (.iconst 2, 1) := by decide +kernel
theorem dBD_bin_163 : decode cBD_bin 163 = .ok (.aload_n 0, 1) := by decide +kernel
theorem dBD_bin_164 : decode cBD_bin 164 = .ok (.getfield 30, 3) := by decide +kernel
theorem dBD_bin_167 : decode cBD_bin 167 = .ok (.imul, 1) := by decide +kernel
theorem dBD_bin_168 : decode cBD_bin 168 = .ok (.aload_n 0, 1) := by decide +kernel
theorem dBD_bin_169 : decode cBD_bin 169 = .ok (.getfield 16, 3) := by decide +kernel
theorem dBD_bin_172 : decode cBD_bin 172 = .ok (.invokevirtual 33, 3) := by decide +kernel
theorem dBD_bin_175 : decode cBD_bin 175 = .ok (.iadd, 1) := by decide +kernel
theorem dBD_bin_176 : decode cBD_bin 176 = .ok (.putfield 30, 3) := by decide +kernel
theorem dBD_bin_179 : decode cBD_bin 179 = .ok (.iinc 7 1, 3) := by decide +kernel
theorem dBD_bin_182 : decode cBD_bin 182 = .ok (.goto (-48), 3) := by decide +kernel
theorem dBD_bin_185 : decode cBD_bin 185 = .ok (.aload_n 0, 1) := by decide +kernel
theorem dBD_bin_186 : decode cBD_bin 186 = .ok (.getfield 13, 3) := by decide +kernel
theorem dBD_bin_189 : decode cBD_bin 189 = .ok (.iconst 0, 1) := by decide +kernel
theorem dBD_bin_190 : decode cBD_bin 190 = .ok (.dup2, 1) := by decide +kernel
theorem dBD_bin_191 : decode cBD_bin 191 = .ok (.iaload, 1) := by decide +kernel
theorem dBD_bin_192 : decode cBD_bin 192 = .ok (.iconst 1, 1) := by decide +kernel
theorem dBD_bin_193 : decode cBD_bin 193 = .ok (.iadd, 1) := by decide +kernel
theorem dBD_bin_194 : decode cBD_bin 194 = .ok (.iastore, 1) := by decide +kernel
theorem dBD_bin_195 : decode cBD_bin 195 = .ok (.iload 6, 2) := by decide +kernel
theorem dBD_bin_197 : decode cBD_bin 197 = .ok (.ireturn, 1) := by decide +kernel
abbrev cBD_freeBits : ByteArray := prog_2_method_5_code
def yBD_freeBits : MethodName := ⟨kR_BD, "freeBits", "(I)I"⟩
def wsBD_freeBits : List Cond := .code yBD_freeBits cBD_freeBits 5 (some .int) :: ipW
theorem dBD_freeBits_0 : decode cBD_freeBits 0 = .ok (.iconst 0, 1) := by decide +kernel
theorem dBD_freeBits_1 : decode cBD_freeBits 1 = .ok (.istore_n 2, 1) := by decide +kernel
theorem dBD_freeBits_2 : decode cBD_freeBits 2 = .ok (.iconst 0, 1) := by decide +kernel
theorem dBD_freeBits_3 : decode cBD_freeBits 3 = .ok (.istore_n 3, 1) := by decide +kernel
theorem dBD_freeBits_4 : decode cBD_freeBits 4 = .ok (.iload_n 3, 1) := by decide +kernel
theorem dBD_freeBits_5 : decode cBD_freeBits 5 = .ok (.iload_n 1, 1) := by decide +kernel
theorem dBD_freeBits_6 : decode cBD_freeBits 6 = .ok (.if_icmp .ge 68, 3) := by decide +kernel
theorem dBD_freeBits_9 : decode cBD_freeBits 9 = .ok (.aload_n 0, 1) := by decide +kernel
theorem dBD_freeBits_10 : decode cBD_freeBits 10 = .ok (.iconst 2, 1) := by decide +kernel
theorem dBD_freeBits_11 : decode cBD_freeBits 11 = .ok (.aload_n 0, 1) := by decide +kernel
theorem dBD_freeBits_12 : decode cBD_freeBits 12 = .ok (.getfield 30, 3) := by decide +kernel
theorem dBD_freeBits_15 : decode cBD_freeBits 15 = .ok (.imul, 1) := by decide +kernel
theorem dBD_freeBits_16 : decode cBD_freeBits 16 = .ok (.aload_n 0, 1) := by decide +kernel
theorem dBD_freeBits_17 : decode cBD_freeBits 17 = .ok (.getfield 16, 3) := by decide +kernel
theorem dBD_freeBits_20 : decode cBD_freeBits 20 = .ok (.invokevirtual 33, 3) := by decide +kernel
theorem dBD_freeBits_23 : decode cBD_freeBits 23 = .ok (.iadd, 1) := by decide +kernel
theorem dBD_freeBits_24 : decode cBD_freeBits 24 = .ok (.putfield 30, 3) := by decide +kernel
theorem dBD_freeBits_27 : decode cBD_freeBits 27 = .ok (.aload_n 0, 1) := by decide +kernel
theorem dBD_freeBits_28 : decode cBD_freeBits 28 = .ok (.getfield 30, 3) := by decide +kernel
theorem dBD_freeBits_31 : decode cBD_freeBits 31 = .ok (.aload_n 0, 1) := by decide +kernel
theorem dBD_freeBits_32 : decode cBD_freeBits 32 = .ok (.getfield 26, 3) := by decide +kernel
theorem dBD_freeBits_35 : decode cBD_freeBits 35 = .ok (.if_icmp .lt 7, 3) := by decide +kernel
theorem dBD_freeBits_38 : decode cBD_freeBits 38 = .ok (.iconst 1, 1) := by decide +kernel
theorem dBD_freeBits_39 : decode cBD_freeBits 39 = .ok (.goto 4, 3) := by decide +kernel
theorem dBD_freeBits_42 : decode cBD_freeBits 42 = .ok (.iconst 0, 1) := by decide +kernel
theorem dBD_freeBits_43 : decode cBD_freeBits 43 = .ok (.istore 4, 2) := by decide +kernel
theorem dBD_freeBits_45 : decode cBD_freeBits 45 = .ok (.aload_n 0, 1) := by decide +kernel
theorem dBD_freeBits_46 : decode cBD_freeBits 46 = .ok (.dup, 1) := by decide +kernel
theorem dBD_freeBits_47 : decode cBD_freeBits 47 = .ok (.getfield 30, 3) := by decide +kernel
theorem dBD_freeBits_50 : decode cBD_freeBits 50 = .ok (.iload 4, 2) := by decide +kernel
theorem dBD_freeBits_52 : decode cBD_freeBits 52 = .ok (.aload_n 0, 1) := by decide +kernel
theorem dBD_freeBits_53 : decode cBD_freeBits 53 = .ok (.getfield 26, 3) := by decide +kernel
theorem dBD_freeBits_56 : decode cBD_freeBits 56 = .ok (.imul, 1) := by decide +kernel
theorem dBD_freeBits_57 : decode cBD_freeBits 57 = .ok (.isub, 1) := by decide +kernel
theorem dBD_freeBits_58 : decode cBD_freeBits 58 = .ok (.putfield 30, 3) := by decide +kernel
theorem dBD_freeBits_61 : decode cBD_freeBits 61 = .ok (.iconst 2, 1) := by decide +kernel
theorem dBD_freeBits_62 : decode cBD_freeBits 62 = .ok (.iload_n 2, 1) := by decide +kernel
theorem dBD_freeBits_63 : decode cBD_freeBits 63 = .ok (.imul, 1) := by decide +kernel
theorem dBD_freeBits_64 : decode cBD_freeBits 64 = .ok (.iload 4, 2) := by decide +kernel
theorem dBD_freeBits_66 : decode cBD_freeBits 66 = .ok (.iadd, 1) := by decide +kernel
theorem dBD_freeBits_67 : decode cBD_freeBits 67 = .ok (.istore_n 2, 1) := by decide +kernel
theorem dBD_freeBits_68 : decode cBD_freeBits 68 = .ok (.iinc 3 1, 3) := by decide +kernel
theorem dBD_freeBits_71 : decode cBD_freeBits 71 = .ok (.goto (-67), 3) := by decide +kernel
theorem dBD_freeBits_74 : decode cBD_freeBits 74 = .ok (.aload_n 0, 1) := by decide +kernel
theorem dBD_freeBits_75 : decode cBD_freeBits 75 = .ok (.getfield 13, 3) := by decide +kernel
theorem dBD_freeBits_78 : decode cBD_freeBits 78 = .ok (.iconst 1, 1) := by decide +kernel
theorem dBD_freeBits_79 : decode cBD_freeBits 79 = .ok (.dup2, 1) := by decide +kernel
theorem dBD_freeBits_80 : decode cBD_freeBits 80 = .ok (.iaload, 1) := by decide +kernel
theorem dBD_freeBits_81 : decode cBD_freeBits 81 = .ok (.iload_n 1, 1) := by decide +kernel
theorem dBD_freeBits_82 : decode cBD_freeBits 82 = .ok (.iadd, 1) := by decide +kernel
theorem dBD_freeBits_83 : decode cBD_freeBits 83 = .ok (.iastore, 1) := by decide +kernel
theorem dBD_freeBits_84 : decode cBD_freeBits 84 = .ok (.iload_n 2, 1) := by decide +kernel
theorem dBD_freeBits_85 : decode cBD_freeBits 85 = .ok (.ireturn, 1) := by decide +kernel
abbrev cLF_moveTo : ByteArray := prog_5_method_2_code
def yLF_moveTo : MethodName := ⟨kR_LF, "moveTo", "(III)V"⟩
def wsLF_moveTo : List Cond := .code yLF_moveTo cLF_moveTo 4 none :: ipW
theorem dLF_moveTo_0 : decode cLF_moveTo 0 = .ok (.aload_n 0, 1) := by decide +kernel
theorem dLF_moveTo_1 : decode cLF_moveTo 1 = .ok (.iload_n 1, 1) := by decide +kernel
theorem dLF_moveTo_2 : decode cLF_moveTo 2 = .ok (.putfield 7, 3) := by decide +kernel
theorem dLF_moveTo_5 : decode cLF_moveTo 5 = .ok (.aload_n 0, 1) := by decide +kernel
theorem dLF_moveTo_6 : decode cLF_moveTo 6 = .ok (.iload_n 2, 1) := by decide +kernel
theorem dLF_moveTo_7 : decode cLF_moveTo 7 = .ok (.putfield 13, 3) := by decide +kernel
theorem dLF_moveTo_10 : decode cLF_moveTo 10 = .ok (.aload_n 0, 1) := by decide +kernel
theorem dLF_moveTo_11 : decode cLF_moveTo 11 = .ok (.iload_n 3, 1) := by decide +kernel
theorem dLF_moveTo_12 : decode cLF_moveTo 12 = .ok (.putfield 16, 3) := by decide +kernel
theorem dLF_moveTo_15 : decode cLF_moveTo 15 = .ok (.aload_n 0, 1) := by decide +kernel
theorem dLF_moveTo_16 : decode cLF_moveTo 16 = .ok (.iconst 0, 1) := by decide +kernel
theorem dLF_moveTo_17 : decode cLF_moveTo 17 = .ok (.putfield 19, 3) := by decide +kernel
theorem dLF_moveTo_20 : decode cLF_moveTo 20 = .ok (.return_, 1) := by decide +kernel
abbrev cLF_placeInPicture : ByteArray := prog_5_method_3_code
def yLF_placeInPicture : MethodName := ⟨kR_LF, "placeInPicture", "(II)I"⟩
def wsLF_placeInPicture : List Cond := .code yLF_placeInPicture cLF_placeInPicture 3 (some .int) :: ipW
theorem dLF_placeInPicture_0 : decode cLF_placeInPicture 0 = .ok (.aload_n 0, 1) := by decide +kernel
theorem dLF_placeInPicture_1 : decode cLF_placeInPicture 1 = .ok (.getfield 7, 3) := by decide +kernel
theorem dLF_placeInPicture_4 : decode cLF_placeInPicture 4 = .ok (.iload_n 1, 1) := by decide +kernel
theorem dLF_placeInPicture_5 : decode cLF_placeInPicture 5 = .ok (.iadd, 1) := by decide +kernel
theorem dLF_placeInPicture_6 : decode cLF_placeInPicture 6 = .ok (.aload_n 0, 1) := by decide +kernel
theorem dLF_placeInPicture_7 : decode cLF_placeInPicture 7 = .ok (.getfield 13, 3) := by decide +kernel
theorem dLF_placeInPicture_10 : decode cLF_placeInPicture 10 = .ok (.iload_n 2, 1) := by decide +kernel
theorem dLF_placeInPicture_11 : decode cLF_placeInPicture 11 = .ok (.iadd, 1) := by decide +kernel
theorem dLF_placeInPicture_12 : decode cLF_placeInPicture 12 = .ok (.invokestatic 23, 3) := by decide +kernel
theorem dLF_placeInPicture_15 : decode cLF_placeInPicture 15 = .ok (.ireturn, 1) := by decide +kernel
abbrev cPI_readUnit : ByteArray := prog_8_method_2_code
def yPI_readUnit : MethodName := ⟨kR_PI, "readUnit", "()V"⟩
def wsPI_readUnit : List Cond := .code yPI_readUnit cPI_readUnit 7 none :: ipW
theorem dPI_readUnit_0 : decode cPI_readUnit 0 = .ok (.aload_n 0, 1) := by decide +kernel
theorem dPI_readUnit_1 : decode cPI_readUnit 1 = .ok (.iconst 0, 1) := by decide +kernel
theorem dPI_readUnit_2 : decode cPI_readUnit 2 = .ok (.putfield 72, 3) := by decide +kernel
theorem dPI_readUnit_5 : decode cPI_readUnit 5 = .ok (.aload_n 0, 1) := by decide +kernel
theorem dPI_readUnit_6 : decode cPI_readUnit 6 = .ok (.getfield 26, 3) := by decide +kernel
theorem dPI_readUnit_9 : decode cPI_readUnit 9 = .ok (.getfield 76, 3) := by decide +kernel
theorem dPI_readUnit_12 : decode cPI_readUnit 12 = .ok (.iconst 0, 1) := by decide +kernel
theorem dPI_readUnit_13 : decode cPI_readUnit 13 = .ok (.invokestatic 79, 3) := by decide +kernel
theorem dPI_readUnit_16 : decode cPI_readUnit 16 = .ok (.aload_n 0, 1) := by decide +kernel
theorem dPI_readUnit_17 : decode cPI_readUnit 17 = .ok (.getfield 18, 3) := by decide +kernel
theorem dPI_readUnit_20 : decode cPI_readUnit 20 = .ok (.invokevirtual 85, 3) := by decide +kernel
theorem dPI_readUnit_23 : decode cPI_readUnit 23 = .ok (.iconst 0, 1) := by decide +kernel
theorem dPI_readUnit_24 : decode cPI_readUnit 24 = .ok (.istore_n 1, 1) := by decide +kernel
theorem dPI_readUnit_25 : decode cPI_readUnit 25 = .ok (.iload_n 1, 1) := by decide +kernel
theorem dPI_readUnit_26 : decode cPI_readUnit 26 = .ok (.iconst 4, 1) := by decide +kernel
theorem dPI_readUnit_27 : decode cPI_readUnit 27 = .ok (.if_icmp .ge 184, 3) := by decide +kernel
theorem dPI_readUnit_30 : decode cPI_readUnit 30 = .ok (.bipush 8, 2) := by decide +kernel
theorem dPI_readUnit_32 : decode cPI_readUnit 32 = .ok (.iload_n 1, 1) := by decide +kernel
theorem dPI_readUnit_33 : decode cPI_readUnit 33 = .ok (.iconst 1, 1) := by decide +kernel
theorem dPI_readUnit_34 : decode cPI_readUnit 34 = .ok (.iand, 1) := by decide +kernel
theorem dPI_readUnit_35 : decode cPI_readUnit 35 = .ok (.imul, 1) := by decide +kernel
theorem dPI_readUnit_36 : decode cPI_readUnit 36 = .ok (.istore_n 2, 1) := by decide +kernel
theorem dPI_readUnit_37 : decode cPI_readUnit 37 = .ok (.bipush 8, 2) := by decide +kernel
theorem dPI_readUnit_39 : decode cPI_readUnit 39 = .ok (.iload_n 1, 1) := by decide +kernel
theorem dPI_readUnit_40 : decode cPI_readUnit 40 = .ok (.iconst 1, 1) := by decide +kernel
theorem dPI_readUnit_41 : decode cPI_readUnit 41 = .ok (.ishr, 1) := by decide +kernel
theorem dPI_readUnit_42 : decode cPI_readUnit 42 = .ok (.imul, 1) := by decide +kernel
theorem dPI_readUnit_43 : decode cPI_readUnit 43 = .ok (.istore_n 3, 1) := by decide +kernel
theorem dPI_readUnit_44 : decode cPI_readUnit 44 = .ok (.aload_n 0, 1) := by decide +kernel
theorem dPI_readUnit_45 : decode cPI_readUnit 45 = .ok (.getfield 18, 3) := by decide +kernel
theorem dPI_readUnit_48 : decode cPI_readUnit 48 = .ok (.aload_n 0, 1) := by decide +kernel
theorem dPI_readUnit_49 : decode cPI_readUnit 49 = .ok (.iload_n 2, 1) := by decide +kernel
theorem dPI_readUnit_50 : decode cPI_readUnit 50 = .ok (.iconst 1, 1) := by decide +kernel
theorem dPI_readUnit_51 : decode cPI_readUnit 51 = .ok (.isub, 1) := by decide +kernel
theorem dPI_readUnit_52 : decode cPI_readUnit 52 = .ok (.iload_n 3, 1) := by decide +kernel
theorem dPI_readUnit_53 : decode cPI_readUnit 53 = .ok (.invokevirtual 90, 3) := by decide +kernel
theorem dPI_readUnit_56 : decode cPI_readUnit 56 = .ok (.aload_n 0, 1) := by decide +kernel
theorem dPI_readUnit_57 : decode cPI_readUnit 57 = .ok (.iload_n 2, 1) := by decide +kernel
theorem dPI_readUnit_58 : decode cPI_readUnit 58 = .ok (.iload_n 3, 1) := by decide +kernel
theorem dPI_readUnit_59 : decode cPI_readUnit 59 = .ok (.iconst 1, 1) := by decide +kernel
theorem dPI_readUnit_60 : decode cPI_readUnit 60 = .ok (.isub, 1) := by decide +kernel
theorem dPI_readUnit_61 : decode cPI_readUnit 61 = .ok (.invokevirtual 90, 3) := by decide +kernel
theorem dPI_readUnit_64 : decode cPI_readUnit 64 = .ok (.iadd, 1) := by decide +kernel
theorem dPI_readUnit_65 : decode cPI_readUnit 65 = .ok (.invokevirtual 94, 3) := by decide +kernel
theorem dPI_readUnit_68 : decode cPI_readUnit 68 = .ok (.iconst 1, 1) := by decide +kernel
theorem dPI_readUnit_69 : decode cPI_readUnit 69 = .ok (.if_icmp .ne 7, 3) := by decide +kernel
theorem dPI_readUnit_72 : decode cPI_readUnit 72 = .ok (.iconst 1, 1) := by decide +kernel
theorem dPI_readUnit_73 : decode cPI_readUnit 73 = .ok (.goto 4, 3) := by decide +kernel
theorem dPI_readUnit_76 : decode cPI_readUnit 76 = .ok (.iconst 0, 1) := by decide +kernel
theorem dPI_readUnit_77 : decode cPI_readUnit 77 = .ok (.istore 4, 2) := by decide +kernel
theorem dPI_readUnit_79 : decode cPI_readUnit 79 = .ok (.iload 4, 2) := by decide +kernel
theorem dPI_readUnit_81 : decode cPI_readUnit 81 = .ok (.ifCond .eq 7, 3) := by decide +kernel
theorem dPI_readUnit_84 : decode cPI_readUnit 84 = .ok (.iconst 4, 1) := by decide +kernel
theorem dPI_readUnit_85 : decode cPI_readUnit 85 = .ok (.goto 4, 3) := by decide +kernel
theorem dPI_readUnit_88 : decode cPI_readUnit 88 = .ok (.iconst 1, 1) := by decide +kernel
theorem dPI_readUnit_89 : decode cPI_readUnit 89 = .ok (.istore 5, 2) := by decide +kernel
theorem dPI_readUnit_91 : decode cPI_readUnit 91 = .ok (.iconst 0, 1) := by decide +kernel
theorem dPI_readUnit_92 : decode cPI_readUnit 92 = .ok (.istore 6, 2) := by decide +kernel
theorem dPI_readUnit_94 : decode cPI_readUnit 94 = .ok (.iload 6, 2) := by decide +kernel
theorem dPI_readUnit_96 : decode cPI_readUnit 96 = .ok (.iload 5, 2) := by decide +kernel
theorem dPI_readUnit_98 : decode cPI_readUnit 98 = .ok (.if_icmp .ge 96, 3) := by decide +kernel
theorem dPI_readUnit_101 : decode cPI_readUnit 101 = .ok (.aload_n 0, 1) := by decide +kernel
theorem dPI_readUnit_102 : decode cPI_readUnit 102 = .ok (.getfield 12, 3) := by decide +kernel
theorem dPI_readUnit_105 : decode cPI_readUnit 105 = .ok (.iload_n 2, 1) := by decide +kernel
theorem dPI_readUnit_106 : decode cPI_readUnit 106 = .ok (.iconst 4, 1) := by decide +kernel
theorem dPI_readUnit_107 : decode cPI_readUnit 107 = .ok (.iload 6, 2) := by decide +kernel
theorem dPI_readUnit_109 : decode cPI_readUnit 109 = .ok (.iconst 1, 1) := by decide +kernel
theorem dPI_readUnit_110 : decode cPI_readUnit 110 = .ok (.iand, 1) := by decide +kernel
theorem dPI_readUnit_111 : decode cPI_readUnit 111 = .ok (.imul, 1) := by decide +kernel
theorem dPI_readUnit_112 : decode cPI_readUnit 112 = .ok (.iadd, 1) := by decide +kernel
theorem dPI_readUnit_113 : decode cPI_readUnit 113 = .ok (.iload_n 3, 1) := by decide +kernel
theorem dPI_readUnit_114 : decode cPI_readUnit 114 = .ok (.iconst 4, 1) := by decide +kernel
theorem dPI_readUnit_115 : decode cPI_readUnit 115 = .ok (.iload 6, 2) := by decide +kernel
theorem dPI_readUnit_117 : decode cPI_readUnit 117 = .ok (.iconst 1, 1) := by decide +kernel
theorem dPI_readUnit_118 : decode cPI_readUnit 118 = .ok (.ishr, 1) := by decide +kernel
theorem dPI_readUnit_119 : decode cPI_readUnit 119 = .ok (.imul, 1) := by decide +kernel
theorem dPI_readUnit_120 : decode cPI_readUnit 120 = .ok (.iadd, 1) := by decide +kernel
theorem dPI_readUnit_121 : decode cPI_readUnit 121 = .ok (.iload 4, 2) := by decide +kernel
theorem dPI_readUnit_123 : decode cPI_readUnit 123 = .ok (.ifCond .eq 7, 3) := by decide +kernel
theorem dPI_readUnit_126 : decode cPI_readUnit 126 = .ok (.iconst 4, 1) := by decide +kernel
theorem dPI_readUnit_127 : decode cPI_readUnit 127 = .ok (.goto 5, 3) := by decide +kernel
theorem dPI_readUnit_130 : decode cPI_readUnit 130 = .ok (.bipush 8, 2) := by decide +kernel
theorem dPI_readUnit_132 : decode cPI_readUnit 132 = .ok (.invokevirtual 98, 3) := by decide +kernel
theorem dPI_readUnit_135 : decode cPI_readUnit 135 = .ok (.aload_n 0, 1) := by decide +kernel
theorem dPI_readUnit_136 : decode cPI_readUnit 136 = .ok (.getfield 12, 3) := by decide +kernel
theorem dPI_readUnit_139 : decode cPI_readUnit 139 = .ok (.aload_n 0, 1) := by decide +kernel
theorem dPI_readUnit_140 : decode cPI_readUnit 140 = .ok (.getfield 18, 3) := by decide +kernel
theorem dPI_readUnit_143 : decode cPI_readUnit 143 = .ok (.iconst 3, 1) := by decide +kernel
theorem dPI_readUnit_144 : decode cPI_readUnit 144 = .ok (.invokevirtual 94, 3) := by decide +kernel
theorem dPI_readUnit_147 : decode cPI_readUnit 147 = .ok (.iconst 1, 1) := by decide +kernel
theorem dPI_readUnit_148 : decode cPI_readUnit 148 = .ok (.if_icmp .ne 10, 3) := by decide +kernel
theorem dPI_readUnit_151 : decode cPI_readUnit 151 = .ok (.aload_n 0, 1) := by decide +kernel
theorem dPI_readUnit_152 : decode cPI_readUnit 152 = .ok (.invokevirtual 102, 3) := by decide +kernel
theorem dPI_readUnit_155 : decode cPI_readUnit 155 = .ok (.goto 11, 3) := by decide +kernel
theorem dPI_readUnit_158 : decode cPI_readUnit 158 = .ok (.aload_n 0, 1) := by decide +kernel
theorem dPI_readUnit_159 : decode cPI_readUnit 159 = .ok (.getfield 18, 3) := by decide +kernel
theorem dPI_readUnit_162 : decode cPI_readUnit 162 = .ok (.iconst 3, 1) := by decide +kernel
theorem dPI_readUnit_163 : decode cPI_readUnit 163 = .ok (.invokevirtual 106, 3) := by decide +kernel
theorem dPI_readUnit_166 : decode cPI_readUnit 166 = .ok (.putfield 109, 3) := by decide +kernel
theorem dPI_readUnit_169 : decode cPI_readUnit 169 = .ok (.aload_n 0, 1) := by decide +kernel
theorem dPI_readUnit_170 : decode cPI_readUnit 170 = .ok (.getfield 40, 3) := by decide +kernel
theorem dPI_readUnit_173 : decode cPI_readUnit 173 = .ok (.aload_n 0, 1) := by decide +kernel
theorem dPI_readUnit_174 : decode cPI_readUnit 174 = .ok (.getfield 12, 3) := by decide +kernel
theorem dPI_readUnit_177 : decode cPI_readUnit 177 = .ok (.aload_n 0, 1) := by decide +kernel
theorem dPI_readUnit_178 : decode cPI_readUnit 178 = .ok (.getfield 22, 3) := by decide +kernel
theorem dPI_readUnit_181 : decode cPI_readUnit 181 = .ok (.invokevirtual 112, 3) := by decide +kernel
theorem dPI_readUnit_184 : decode cPI_readUnit 184 = .ok (.aload_n 0, 1) := by decide +kernel
theorem dPI_readUnit_185 : decode cPI_readUnit 185 = .ok (.invokevirtual 116, 3) := by decide +kernel
theorem dPI_readUnit_188 : decode cPI_readUnit 188 = .ok (.iinc 6 1, 3) := by decide +kernel
theorem dPI_readUnit_191 : decode cPI_readUnit 191 = .ok (.goto (-97), 3) := by decide +kernel
theorem dPI_readUnit_194 : decode cPI_readUnit 194 = .ok (.aload_n 0, 1) := by decide +kernel
theorem dPI_readUnit_195 : decode cPI_readUnit 195 = .ok (.dup, 1) := by decide +kernel
theorem dPI_readUnit_196 : decode cPI_readUnit 196 = .ok (.getfield 72, 3) := by decide +kernel
theorem dPI_readUnit_199 : decode cPI_readUnit 199 = .ok (.iload 5, 2) := by decide +kernel
theorem dPI_readUnit_201 : decode cPI_readUnit 201 = .ok (.iadd, 1) := by decide +kernel
theorem dPI_readUnit_202 : decode cPI_readUnit 202 = .ok (.putfield 72, 3) := by decide +kernel
theorem dPI_readUnit_205 : decode cPI_readUnit 205 = .ok (.iinc 1 1, 3) := by decide +kernel
theorem dPI_readUnit_208 : decode cPI_readUnit 208 = .ok (.goto (-183), 3) := by decide +kernel
theorem dPI_readUnit_211 : decode cPI_readUnit 211 = .ok (.aload_n 0, 1) := by decide +kernel
theorem dPI_readUnit_212 : decode cPI_readUnit 212 = .ok (.getfield 18, 3) := by decide +kernel
theorem dPI_readUnit_215 : decode cPI_readUnit 215 = .ok (.invokevirtual 119, 3) := by decide +kernel
theorem dPI_readUnit_218 : decode cPI_readUnit 218 = .ok (.aload_n 0, 1) := by decide +kernel
theorem dPI_readUnit_219 : decode cPI_readUnit 219 = .ok (.getfield 26, 3) := by decide +kernel
theorem dPI_readUnit_222 : decode cPI_readUnit 222 = .ok (.getfield 122, 3) := by decide +kernel
theorem dPI_readUnit_225 : decode cPI_readUnit 225 = .ok (.iconst 0, 1) := by decide +kernel
theorem dPI_readUnit_226 : decode cPI_readUnit 226 = .ok (.aload_n 0, 1) := by decide +kernel
theorem dPI_readUnit_227 : decode cPI_readUnit 227 = .ok (.getfield 26, 3) := by decide +kernel
theorem dPI_readUnit_230 : decode cPI_readUnit 230 = .ok (.getfield 64, 3) := by decide +kernel
theorem dPI_readUnit_233 : decode cPI_readUnit 233 = .ok (.iconst 0, 1) := by decide +kernel
theorem dPI_readUnit_234 : decode cPI_readUnit 234 = .ok (.sipush 256, 3) := by decide +kernel
theorem dPI_readUnit_237 : decode cPI_readUnit 237 = .ok (.invokestatic 125, 3) := by decide +kernel
theorem dPI_readUnit_240 : decode cPI_readUnit 240 = .ok (.aload_n 0, 1) := by decide +kernel
theorem dPI_readUnit_241 : decode cPI_readUnit 241 = .ok (.getfield 68, 3) := by decide +kernel
theorem dPI_readUnit_244 : decode cPI_readUnit 244 = .ok (.aload_n 0, 1) := by decide +kernel
theorem dPI_readUnit_245 : decode cPI_readUnit 245 = .ok (.getfield 22, 3) := by decide +kernel
theorem dPI_readUnit_248 : decode cPI_readUnit 248 = .ok (.invokevirtual 131, 3) := by decide +kernel
theorem dPI_readUnit_251 : decode cPI_readUnit 251 = .ok (.return_, 1) := by decide +kernel
abbrev cPI_splitAt : ByteArray := prog_8_method_3_code
def yPI_splitAt : MethodName := ⟨kR_PI, "splitAt", "(II)I"⟩
def wsPI_splitAt : List Cond := .code yPI_splitAt cPI_splitAt 3 (some .int) :: ipW
theorem dPI_splitAt_0 : decode cPI_splitAt 0 = .ok (.iload_n 1, 1) := by decide +kernel
theorem dPI_splitAt_1 : decode cPI_splitAt 1 = .ok (.iload_n 2, 1) := by decide +kernel
theorem dPI_splitAt_2 : decode cPI_splitAt 2 = .ok (.invokestatic 134, 3) := by decide +kernel
theorem dPI_splitAt_5 : decode cPI_splitAt 5 = .ok (.ifCond .eq 24, 3) := by decide +kernel
theorem dPI_splitAt_8 : decode cPI_splitAt 8 = .ok (.aload_n 0, 1) := by decide +kernel
theorem dPI_splitAt_9 : decode cPI_splitAt 9 = .ok (.getfield 26, 3) := by decide +kernel
theorem dPI_splitAt_12 : decode cPI_splitAt 12 = .ok (.getfield 76, 3) := by decide +kernel
theorem dPI_splitAt_15 : decode cPI_splitAt 15 = .ok (.iload_n 1, 1) := by decide +kernel
theorem dPI_splitAt_16 : decode cPI_splitAt 16 = .ok (.iload_n 2, 1) := by decide +kernel
theorem dPI_splitAt_17 : decode cPI_splitAt 17 = .ok (.invokestatic 138, 3) := by decide +kernel
theorem dPI_splitAt_20 : decode cPI_splitAt 20 = .ok (.iaload, 1) := by decide +kernel
theorem dPI_splitAt_21 : decode cPI_splitAt 21 = .ok (.iconst 4, 1) := by decide +kernel
theorem dPI_splitAt_22 : decode cPI_splitAt 22 = .ok (.if_icmp .ne 7, 3) := by decide +kernel
theorem dPI_splitAt_25 : decode cPI_splitAt 25 = .ok (.iconst 1, 1) := by decide +kernel
theorem dPI_splitAt_26 : decode cPI_splitAt 26 = .ok (.goto 4, 3) := by decide +kernel
theorem dPI_splitAt_29 : decode cPI_splitAt 29 = .ok (.iconst 0, 1) := by decide +kernel
theorem dPI_splitAt_30 : decode cPI_splitAt 30 = .ok (.ireturn, 1) := by decide +kernel
abbrev cPI_buildLeaf : ByteArray := prog_8_method_4_code
def yPI_buildLeaf : MethodName := ⟨kR_PI, "buildLeaf", "()V"⟩
def wsPI_buildLeaf : List Cond := .code yPI_buildLeaf cPI_buildLeaf 5 none :: ipW
theorem dPI_buildLeaf_0 : decode cPI_buildLeaf 0 = .ok (.aload_n 0, 1) := by decide +kernel
theorem dPI_buildLeaf_1 : decode cPI_buildLeaf 1 = .ok (.getfield 49, 3) := by decide +kernel
theorem dPI_buildLeaf_4 : decode cPI_buildLeaf 4 = .ok (.aload_n 0, 1) := by decide +kernel
theorem dPI_buildLeaf_5 : decode cPI_buildLeaf 5 = .ok (.getfield 12, 3) := by decide +kernel
theorem dPI_buildLeaf_8 : decode cPI_buildLeaf 8 = .ok (.aload_n 0, 1) := by decide +kernel
theorem dPI_buildLeaf_9 : decode cPI_buildLeaf 9 = .ok (.getfield 22, 3) := by decide +kernel
theorem dPI_buildLeaf_12 : decode cPI_buildLeaf 12 = .ok (.iconst 0, 1) := by decide +kernel
theorem dPI_buildLeaf_13 : decode cPI_buildLeaf 13 = .ok (.iaload, 1) := by decide +kernel
theorem dPI_buildLeaf_14 : decode cPI_buildLeaf 14 = .ok (.invokevirtual 141, 3) := by decide +kernel
theorem dPI_buildLeaf_17 : decode cPI_buildLeaf 17 = .ok (.aload_n 0, 1) := by decide +kernel
theorem dPI_buildLeaf_18 : decode cPI_buildLeaf 18 = .ok (.getfield 58, 3) := by decide +kernel
theorem dPI_buildLeaf_21 : decode cPI_buildLeaf 21 = .ok (.aload_n 0, 1) := by decide +kernel
theorem dPI_buildLeaf_22 : decode cPI_buildLeaf 22 = .ok (.getfield 12, 3) := by decide +kernel
theorem dPI_buildLeaf_25 : decode cPI_buildLeaf 25 = .ok (.invokevirtual 145, 3) := by decide +kernel
theorem dPI_buildLeaf_28 : decode cPI_buildLeaf 28 = .ok (.iconst 0, 1) := by decide +kernel
theorem dPI_buildLeaf_29 : decode cPI_buildLeaf 29 = .ok (.istore_n 1, 1) := by decide +kernel
theorem dPI_buildLeaf_30 : decode cPI_buildLeaf 30 = .ok (.iload_n 1, 1) := by decide +kernel
theorem dPI_buildLeaf_31 : decode cPI_buildLeaf 31 = .ok (.aload_n 0, 1) := by decide +kernel
theorem dPI_buildLeaf_32 : decode cPI_buildLeaf 32 = .ok (.getfield 12, 3) := by decide +kernel
theorem dPI_buildLeaf_35 : decode cPI_buildLeaf 35 = .ok (.getfield 149, 3) := by decide +kernel
theorem dPI_buildLeaf_38 : decode cPI_buildLeaf 38 = .ok (.if_icmp .ge 119, 3) := by decide +kernel
theorem dPI_buildLeaf_41 : decode cPI_buildLeaf 41 = .ok (.iconst 0, 1) := by decide +kernel
theorem dPI_buildLeaf_42 : decode cPI_buildLeaf 42 = .ok (.istore_n 2, 1) := by decide +kernel
theorem dPI_buildLeaf_43 : decode cPI_buildLeaf 43 = .ok (.iload_n 2, 1) := by decide +kernel
theorem dPI_buildLeaf_44 : decode cPI_buildLeaf 44 = .ok (.aload_n 0, 1) := by decide +kernel
theorem dPI_buildLeaf_45 : decode cPI_buildLeaf 45 = .ok (.getfield 12, 3) := by decide +kernel
theorem dPI_buildLeaf_48 : decode cPI_buildLeaf 48 = .ok (.getfield 149, 3) := by decide +kernel
theorem dPI_buildLeaf_51 : decode cPI_buildLeaf 51 = .ok (.if_icmp .ge 100, 3) := by decide +kernel
theorem dPI_buildLeaf_54 : decode cPI_buildLeaf 54 = .ok (.aload_n 0, 1) := by decide +kernel
theorem dPI_buildLeaf_55 : decode cPI_buildLeaf 55 = .ok (.getfield 12, 3) := by decide +kernel
theorem dPI_buildLeaf_58 : decode cPI_buildLeaf 58 = .ok (.iload_n 2, 1) := by decide +kernel
theorem dPI_buildLeaf_59 : decode cPI_buildLeaf 59 = .ok (.iload_n 1, 1) := by decide +kernel
theorem dPI_buildLeaf_60 : decode cPI_buildLeaf 60 = .ok (.invokevirtual 152, 3) := by decide +kernel
theorem dPI_buildLeaf_63 : decode cPI_buildLeaf 63 = .ok (.istore_n 3, 1) := by decide +kernel
theorem dPI_buildLeaf_64 : decode cPI_buildLeaf 64 = .ok (.aload_n 0, 1) := by decide +kernel
theorem dPI_buildLeaf_65 : decode cPI_buildLeaf 65 = .ok (.getfield 49, 3) := by decide +kernel
theorem dPI_buildLeaf_68 : decode cPI_buildLeaf 68 = .ok (.getfield 155, 3) := by decide +kernel
theorem dPI_buildLeaf_71 : decode cPI_buildLeaf 71 = .ok (.iload_n 1, 1) := by decide +kernel
theorem dPI_buildLeaf_72 : decode cPI_buildLeaf 72 = .ok (.aload_n 0, 1) := by decide +kernel
theorem dPI_buildLeaf_73 : decode cPI_buildLeaf 73 = .ok (.getfield 12, 3) := by decide +kernel
theorem dPI_buildLeaf_76 : decode cPI_buildLeaf 76 = .ok (.getfield 149, 3) := by decide +kernel
theorem dPI_buildLeaf_79 : decode cPI_buildLeaf 79 = .ok (.imul, 1) := by decide +kernel
theorem dPI_buildLeaf_80 : decode cPI_buildLeaf 80 = .ok (.iload_n 2, 1) := by decide +kernel
theorem dPI_buildLeaf_81 : decode cPI_buildLeaf 81 = .ok (.iadd, 1) := by decide +kernel
theorem dPI_buildLeaf_82 : decode cPI_buildLeaf 82 = .ok (.iaload, 1) := by decide +kernel
theorem dPI_buildLeaf_83 : decode cPI_buildLeaf 83 = .ok (.istore 4, 2) := by decide +kernel
theorem dPI_buildLeaf_85 : decode cPI_buildLeaf 85 = .ok (.aload_n 0, 1) := by decide +kernel
theorem dPI_buildLeaf_86 : decode cPI_buildLeaf 86 = .ok (.getfield 26, 3) := by decide +kernel
theorem dPI_buildLeaf_89 : decode cPI_buildLeaf 89 = .ok (.getfield 122, 3) := by decide +kernel
theorem dPI_buildLeaf_92 : decode cPI_buildLeaf 92 = .ok (.iload_n 3, 1) := by decide +kernel
theorem dPI_buildLeaf_93 : decode cPI_buildLeaf 93 = .ok (.aload_n 0, 1) := by decide +kernel
theorem dPI_buildLeaf_94 : decode cPI_buildLeaf 94 = .ok (.getfield 26, 3) := by decide +kernel
theorem dPI_buildLeaf_97 : decode cPI_buildLeaf 97 = .ok (.getfield 158, 3) := by decide +kernel
theorem dPI_buildLeaf_100 : decode cPI_buildLeaf 100 = .ok (.iload_n 3, 1) := by decide +kernel
theorem dPI_buildLeaf_101 : decode cPI_buildLeaf 101 = .ok (.iaload, 1) := by decide +kernel
theorem dPI_buildLeaf_102 : decode cPI_buildLeaf 102 = .ok (.iload 4, 2) := by decide +kernel
theorem dPI_buildLeaf_104 : decode cPI_buildLeaf 104 = .ok (.iadd, 1) := by decide +kernel
theorem dPI_buildLeaf_105 : decode cPI_buildLeaf 105 = .ok (.iconst 0, 1) := by decide +kernel
theorem dPI_buildLeaf_106 : decode cPI_buildLeaf 106 = .ok (.sipush 255, 3) := by decide +kernel
theorem dPI_buildLeaf_109 : decode cPI_buildLeaf 109 = .ok (.invokestatic 161, 3) := by decide +kernel
theorem dPI_buildLeaf_112 : decode cPI_buildLeaf 112 = .ok (.iastore, 1) := by decide +kernel
theorem dPI_buildLeaf_113 : decode cPI_buildLeaf 113 = .ok (.aload_n 0, 1) := by decide +kernel
theorem dPI_buildLeaf_114 : decode cPI_buildLeaf 114 = .ok (.getfield 26, 3) := by decide +kernel
theorem dPI_buildLeaf_117 : decode cPI_buildLeaf 117 = .ok (.getfield 165, 3) := by decide +kernel
theorem dPI_buildLeaf_120 : decode cPI_buildLeaf 120 = .ok (.iload_n 3, 1) := by decide +kernel
theorem dPI_buildLeaf_121 : decode cPI_buildLeaf 121 = .ok (.aload_n 0, 1) := by decide +kernel
theorem dPI_buildLeaf_122 : decode cPI_buildLeaf 122 = .ok (.getfield 12, 3) := by decide +kernel
theorem dPI_buildLeaf_125 : decode cPI_buildLeaf 125 = .ok (.getfield 109, 3) := by decide +kernel
theorem dPI_buildLeaf_128 : decode cPI_buildLeaf 128 = .ok (.iastore, 1) := by decide +kernel
theorem dPI_buildLeaf_129 : decode cPI_buildLeaf 129 = .ok (.aload_n 0, 1) := by decide +kernel
theorem dPI_buildLeaf_130 : decode cPI_buildLeaf 130 = .ok (.getfield 26, 3) := by decide +kernel
theorem dPI_buildLeaf_133 : decode cPI_buildLeaf 133 = .ok (.getfield 76, 3) := by decide +kernel
theorem dPI_buildLeaf_136 : decode cPI_buildLeaf 136 = .ok (.iload_n 3, 1) := by decide +kernel
theorem dPI_buildLeaf_137 : decode cPI_buildLeaf 137 = .ok (.aload_n 0, 1) := by decide +kernel
theorem dPI_buildLeaf_138 : decode cPI_buildLeaf 138 = .ok (.getfield 12, 3) := by decide +kernel
theorem dPI_buildLeaf_141 : decode cPI_buildLeaf 141 = .ok (.getfield 149, 3) := by decide +kernel
theorem dPI_buildLeaf_144 : decode cPI_buildLeaf 144 = .ok (.iastore, 1) := by decide +kernel
theorem dPI_buildLeaf_145 : decode cPI_buildLeaf 145 = .ok (.iinc 2 1, 3) := by decide +kernel
theorem dPI_buildLeaf_148 : decode cPI_buildLeaf 148 = .ok (.goto (-105), 3) := by decide +kernel
theorem dPI_buildLeaf_151 : decode cPI_buildLeaf 151 = .ok (.iinc 1 1, 3) := by decide +kernel
theorem dPI_buildLeaf_154 : decode cPI_buildLeaf 154 = .ok (.goto (-124), 3) := by decide +kernel
theorem dPI_buildLeaf_157 : decode cPI_buildLeaf 157 = .ok (.return_, 1) := by decide +kernel
abbrev cPI_modeToTheLeft : ByteArray := prog_8_method_5_code
def yPI_modeToTheLeft : MethodName := ⟨kR_PI, "modeToTheLeft", "()I"⟩
def wsPI_modeToTheLeft : List Cond := .code yPI_modeToTheLeft cPI_modeToTheLeft 1 (some .int) :: ipW
theorem dPI_modeToTheLeft_0 : decode cPI_modeToTheLeft 0 = .ok (.aload_n 0, 1) := by decide +kernel
theorem dPI_modeToTheLeft_1 : decode cPI_modeToTheLeft 1 = .ok (.getfield 12, 3) := by decide +kernel
theorem dPI_modeToTheLeft_4 : decode cPI_modeToTheLeft 4 = .ok (.getfield 168, 3) := by decide +kernel
theorem dPI_modeToTheLeft_7 : decode cPI_modeToTheLeft 7 = .ok (.ifCond .ne 7, 3) := by decide +kernel
theorem dPI_modeToTheLeft_10 : decode cPI_modeToTheLeft 10 = .ok (.iconst 1, 1) := by decide +kernel
theorem dPI_modeToTheLeft_11 : decode cPI_modeToTheLeft 11 = .ok (.goto 20, 3) := by decide +kernel
theorem dPI_modeToTheLeft_14 : decode cPI_modeToTheLeft 14 = .ok (.aload_n 0, 1) := by decide +kernel
theorem dPI_modeToTheLeft_15 : decode cPI_modeToTheLeft 15 = .ok (.getfield 26, 3) := by decide +kernel
theorem dPI_modeToTheLeft_18 : decode cPI_modeToTheLeft 18 = .ok (.getfield 165, 3) := by decide +kernel
theorem dPI_modeToTheLeft_21 : decode cPI_modeToTheLeft 21 = .ok (.aload_n 0, 1) := by decide +kernel
theorem dPI_modeToTheLeft_22 : decode cPI_modeToTheLeft 22 = .ok (.getfield 12, 3) := by decide +kernel
theorem dPI_modeToTheLeft_25 : decode cPI_modeToTheLeft 25 = .ok (.iconst (-1), 1) := by decide +kernel
theorem dPI_modeToTheLeft_26 : decode cPI_modeToTheLeft 26 = .ok (.iconst 0, 1) := by decide +kernel
theorem dPI_modeToTheLeft_27 : decode cPI_modeToTheLeft 27 = .ok (.invokevirtual 152, 3) := by decide +kernel
theorem dPI_modeToTheLeft_30 : decode cPI_modeToTheLeft 30 = .ok (.iaload, 1) := by decide +kernel
theorem dPI_modeToTheLeft_31 : decode cPI_modeToTheLeft 31 = .ok (.ireturn, 1) := by decide +kernel
abbrev cLR_readLeaf : ByteArray := prog_6_method_2_code
def yLR_readLeaf : MethodName := ⟨kR_LR, "readLeaf", "(LIntraPicture$Leaf;[I)V"⟩
def wsLR_readLeaf : List Cond := .code yLR_readLeaf cLR_readLeaf 8 none :: ipW
theorem dLR_readLeaf_0 : decode cLR_readLeaf 0 = .ok (.aload_n 1, 1) := by decide +kernel
theorem dLR_readLeaf_1 : decode cLR_readLeaf 1 = .ok (.getfield 22, 3) := by decide +kernel
theorem dLR_readLeaf_4 : decode cLR_readLeaf 4 = .ok (.bipush 8, 2) := by decide +kernel
theorem dLR_readLeaf_6 : decode cLR_readLeaf 6 = .ok (.if_icmp .ne 7, 3) := by decide +kernel
theorem dLR_readLeaf_9 : decode cLR_readLeaf 9 = .ok (.iconst 1, 1) := by decide +kernel
theorem dLR_readLeaf_10 : decode cLR_readLeaf 10 = .ok (.goto 4, 3) := by decide +kernel
theorem dLR_readLeaf_13 : decode cLR_readLeaf 13 = .ok (.iconst 0, 1) := by decide +kernel
theorem dLR_readLeaf_14 : decode cLR_readLeaf 14 = .ok (.istore_n 3, 1) := by decide +kernel
theorem dLR_readLeaf_15 : decode cLR_readLeaf 15 = .ok (.aload_n 0, 1) := by decide +kernel
theorem dLR_readLeaf_16 : decode cLR_readLeaf 16 = .ok (.getfield 15, 3) := by decide +kernel
theorem dLR_readLeaf_19 : decode cLR_readLeaf 19 = .ok (.iload_n 3, 1) := by decide +kernel
theorem dLR_readLeaf_20 : decode cLR_readLeaf 20 = .ok (.ifCond .eq 7, 3) := by decide +kernel
theorem dLR_readLeaf_23 : decode cLR_readLeaf 23 = .ok (.iconst 5, 1) := by decide +kernel
theorem dLR_readLeaf_24 : decode cLR_readLeaf 24 = .ok (.goto 4, 3) := by decide +kernel
theorem dLR_readLeaf_27 : decode cLR_readLeaf 27 = .ok (.iconst 4, 1) := by decide +kernel
theorem dLR_readLeaf_28 : decode cLR_readLeaf 28 = .ok (.invokevirtual 28, 3) := by decide +kernel
theorem dLR_readLeaf_31 : decode cLR_readLeaf 31 = .ok (.iconst 1, 1) := by decide +kernel
theorem dLR_readLeaf_32 : decode cLR_readLeaf 32 = .ok (.if_icmp .ne 7, 3) := by decide +kernel
theorem dLR_readLeaf_35 : decode cLR_readLeaf 35 = .ok (.iconst 1, 1) := by decide +kernel
theorem dLR_readLeaf_36 : decode cLR_readLeaf 36 = .ok (.goto 4, 3) := by decide +kernel
theorem dLR_readLeaf_39 : decode cLR_readLeaf 39 = .ok (.iconst 0, 1) := by decide +kernel
theorem dLR_readLeaf_40 : decode cLR_readLeaf 40 = .ok (.istore 4, 2) := by decide +kernel
theorem dLR_readLeaf_42 : decode cLR_readLeaf 42 = .ok (.iload 4, 2) := by decide +kernel
theorem dLR_readLeaf_44 : decode cLR_readLeaf 44 = .ok (.ifCond .eq 36, 3) := by decide +kernel
theorem dLR_readLeaf_47 : decode cLR_readLeaf 47 = .ok (.iload_n 3, 1) := by decide +kernel
theorem dLR_readLeaf_48 : decode cLR_readLeaf 48 = .ok (.ifCond .ne 32, 3) := by decide +kernel
theorem dLR_readLeaf_51 : decode cLR_readLeaf 51 = .ok (.aload_n 2, 1) := by decide +kernel
theorem dLR_readLeaf_52 : decode cLR_readLeaf 52 = .ok (.iconst 2, 1) := by decide +kernel
theorem dLR_readLeaf_53 : decode cLR_readLeaf 53 = .ok (.iaload, 1) := by decide +kernel
theorem dLR_readLeaf_54 : decode cLR_readLeaf 54 = .ok (.iconst 1, 1) := by decide +kernel
theorem dLR_readLeaf_55 : decode cLR_readLeaf 55 = .ok (.if_icmp .ne 25, 3) := by decide +kernel
theorem dLR_readLeaf_58 : decode cLR_readLeaf 58 = .ok (.aload_n 1, 1) := by decide +kernel
theorem dLR_readLeaf_59 : decode cLR_readLeaf 59 = .ok (.aload_n 0, 1) := by decide +kernel
theorem dLR_readLeaf_60 : decode cLR_readLeaf 60 = .ok (.getfield 15, 3) := by decide +kernel
theorem dLR_readLeaf_63 : decode cLR_readLeaf 63 = .ok (.bipush 6, 2) := by decide +kernel
theorem dLR_readLeaf_65 : decode cLR_readLeaf 65 = .ok (.invokevirtual 28, 3) := by decide +kernel
theorem dLR_readLeaf_68 : decode cLR_readLeaf 68 = .ok (.iconst 1, 1) := by decide +kernel
theorem dLR_readLeaf_69 : decode cLR_readLeaf 69 = .ok (.if_icmp .ne 7, 3) := by decide +kernel
theorem dLR_readLeaf_72 : decode cLR_readLeaf 72 = .ok (.iconst 1, 1) := by decide +kernel
theorem dLR_readLeaf_73 : decode cLR_readLeaf 73 = .ok (.goto 4, 3) := by decide +kernel
theorem dLR_readLeaf_76 : decode cLR_readLeaf 76 = .ok (.iconst 0, 1) := by decide +kernel
theorem dLR_readLeaf_77 : decode cLR_readLeaf 77 = .ok (.putfield 34, 3) := by decide +kernel
theorem dLR_readLeaf_80 : decode cLR_readLeaf 80 = .ok (.iload_n 3, 1) := by decide +kernel
theorem dLR_readLeaf_81 : decode cLR_readLeaf 81 = .ok (.ifCond .eq 7, 3) := by decide +kernel
theorem dLR_readLeaf_84 : decode cLR_readLeaf 84 = .ok (.iconst 4, 1) := by decide +kernel
theorem dLR_readLeaf_85 : decode cLR_readLeaf 85 = .ok (.goto 4, 3) := by decide +kernel
theorem dLR_readLeaf_88 : decode cLR_readLeaf 88 = .ok (.iconst 1, 1) := by decide +kernel
theorem dLR_readLeaf_89 : decode cLR_readLeaf 89 = .ok (.istore 5, 2) := by decide +kernel
theorem dLR_readLeaf_91 : decode cLR_readLeaf 91 = .ok (.iconst 0, 1) := by decide +kernel
theorem dLR_readLeaf_92 : decode cLR_readLeaf 92 = .ok (.istore 6, 2) := by decide +kernel
theorem dLR_readLeaf_94 : decode cLR_readLeaf 94 = .ok (.iload 6, 2) := by decide +kernel
theorem dLR_readLeaf_96 : decode cLR_readLeaf 96 = .ok (.iload 5, 2) := by decide +kernel
theorem dLR_readLeaf_98 : decode cLR_readLeaf 98 = .ok (.if_icmp .ge 109, 3) := by decide +kernel
theorem dLR_readLeaf_101 : decode cLR_readLeaf 101 = .ok (.iload 6, 2) := by decide +kernel
theorem dLR_readLeaf_103 : decode cLR_readLeaf 103 = .ok (.ifCond .ne 8, 3) := by decide +kernel
theorem dLR_readLeaf_106 : decode cLR_readLeaf 106 = .ok (.bipush 7, 2) := by decide +kernel
theorem dLR_readLeaf_108 : decode cLR_readLeaf 108 = .ok (.goto 5, 3) := by decide +kernel
theorem dLR_readLeaf_111 : decode cLR_readLeaf 111 = .ok (.bipush 8, 2) := by decide +kernel
theorem dLR_readLeaf_113 : decode cLR_readLeaf 113 = .ok (.istore 7, 2) := by decide +kernel
theorem dLR_readLeaf_115 : decode cLR_readLeaf 115 = .ok (.iload 4, 2) := by decide +kernel
theorem dLR_readLeaf_117 : decode cLR_readLeaf 117 = .ok (.ifCond .eq 56, 3) := by decide +kernel
theorem dLR_readLeaf_120 : decode cLR_readLeaf 120 = .ok (.iload_n 3, 1) := by decide +kernel
theorem dLR_readLeaf_121 : decode cLR_readLeaf 121 = .ok (.ifCond .eq 16, 3) := by decide +kernel
theorem dLR_readLeaf_124 : decode cLR_readLeaf 124 = .ok (.aload_n 0, 1) := by decide +kernel
theorem dLR_readLeaf_125 : decode cLR_readLeaf 125 = .ok (.getfield 15, 3) := by decide +kernel
theorem dLR_readLeaf_128 : decode cLR_readLeaf 128 = .ok (.iload 7, 2) := by decide +kernel
theorem dLR_readLeaf_130 : decode cLR_readLeaf 130 = .ok (.invokevirtual 28, 3) := by decide +kernel
theorem dLR_readLeaf_133 : decode cLR_readLeaf 133 = .ok (.iconst 1, 1) := by decide +kernel
theorem dLR_readLeaf_134 : decode cLR_readLeaf 134 = .ok (.if_icmp .ne 39, 3) := by decide +kernel
theorem dLR_readLeaf_137 : decode cLR_readLeaf 137 = .ok (.aload_n 0, 1) := by decide +kernel
theorem dLR_readLeaf_138 : decode cLR_readLeaf 138 = .ok (.invokevirtual 38, 3) := by decide +kernel
theorem dLR_readLeaf_141 : decode cLR_readLeaf 141 = .ok (.aload_n 0, 1) := by decide +kernel
theorem dLR_readLeaf_142 : decode cLR_readLeaf 142 = .ok (.aload_n 2, 1) := by decide +kernel
theorem dLR_readLeaf_143 : decode cLR_readLeaf 143 = .ok (.iconst 1, 1) := by decide +kernel
theorem dLR_readLeaf_144 : decode cLR_readLeaf 144 = .ok (.iaload, 1) := by decide +kernel
theorem dLR_readLeaf_145 : decode cLR_readLeaf 145 = .ok (.iconst 1, 1) := by decide +kernel
theorem dLR_readLeaf_146 : decode cLR_readLeaf 146 = .ok (.if_icmp .ne 20, 3) := by decide +kernel
theorem dLR_readLeaf_149 : decode cLR_readLeaf 149 = .ok (.aload_n 0, 1) := by decide +kernel
theorem dLR_readLeaf_150 : decode cLR_readLeaf 150 = .ok (.getfield 41, 3) := by decide +kernel
theorem dLR_readLeaf_153 : decode cLR_readLeaf 153 = .ok (.aload_n 0, 1) := by decide +kernel
theorem dLR_readLeaf_154 : decode cLR_readLeaf 154 = .ok (.getfield 44, 3) := by decide +kernel
theorem dLR_readLeaf_157 : decode cLR_readLeaf 157 = .ok (.isub, 1) := by decide +kernel
theorem dLR_readLeaf_158 : decode cLR_readLeaf 158 = .ok (.iconst 4, 1) := by decide +kernel
theorem dLR_readLeaf_159 : decode cLR_readLeaf 159 = .ok (.if_icmp .lt 7, 3) := by decide +kernel
theorem dLR_readLeaf_162 : decode cLR_readLeaf 162 = .ok (.iconst 1, 1) := by decide +kernel
theorem dLR_readLeaf_163 : decode cLR_readLeaf 163 = .ok (.goto 4, 3) := by decide +kernel
theorem dLR_readLeaf_166 : decode cLR_readLeaf 166 = .ok (.iconst 0, 1) := by decide +kernel
theorem dLR_readLeaf_167 : decode cLR_readLeaf 167 = .ok (.invokevirtual 47, 3) := by decide +kernel
theorem dLR_readLeaf_170 : decode cLR_readLeaf 170 = .ok (.goto 11, 3) := by decide +kernel
theorem dLR_readLeaf_173 : decode cLR_readLeaf 173 = .ok (.aload_n 0, 1) := by decide +kernel
theorem dLR_readLeaf_174 : decode cLR_readLeaf 174 = .ok (.getfield 11, 3) := by decide +kernel
theorem dLR_readLeaf_177 : decode cLR_readLeaf 177 = .ok (.iconst 0, 1) := by decide +kernel
theorem dLR_readLeaf_178 : decode cLR_readLeaf 178 = .ok (.invokestatic 51, 3) := by decide +kernel
theorem dLR_readLeaf_181 : decode cLR_readLeaf 181 = .ok (.aload_n 0, 1) := by decide +kernel
theorem dLR_readLeaf_182 : decode cLR_readLeaf 182 = .ok (.aload_n 1, 1) := by decide +kernel
theorem dLR_readLeaf_183 : decode cLR_readLeaf 183 = .ok (.iconst 4, 1) := by decide +kernel
theorem dLR_readLeaf_184 : decode cLR_readLeaf 184 = .ok (.iload 6, 2) := by decide +kernel
theorem dLR_readLeaf_186 : decode cLR_readLeaf 186 = .ok (.iconst 1, 1) := by decide +kernel
theorem dLR_readLeaf_187 : decode cLR_readLeaf 187 = .ok (.iand, 1) := by decide +kernel
theorem dLR_readLeaf_188 : decode cLR_readLeaf 188 = .ok (.imul, 1) := by decide +kernel
theorem dLR_readLeaf_189 : decode cLR_readLeaf 189 = .ok (.iconst 4, 1) := by decide +kernel
theorem dLR_readLeaf_190 : decode cLR_readLeaf 190 = .ok (.iload 6, 2) := by decide +kernel
theorem dLR_readLeaf_192 : decode cLR_readLeaf 192 = .ok (.iconst 1, 1) := by decide +kernel
theorem dLR_readLeaf_193 : decode cLR_readLeaf 193 = .ok (.ishr, 1) := by decide +kernel
theorem dLR_readLeaf_194 : decode cLR_readLeaf 194 = .ok (.imul, 1) := by decide +kernel
theorem dLR_readLeaf_195 : decode cLR_readLeaf 195 = .ok (.invokevirtual 57, 3) := by decide +kernel
theorem dLR_readLeaf_198 : decode cLR_readLeaf 198 = .ok (.invokevirtual 61, 3) := by decide +kernel
theorem dLR_readLeaf_201 : decode cLR_readLeaf 201 = .ok (.iinc 6 1, 3) := by decide +kernel
theorem dLR_readLeaf_204 : decode cLR_readLeaf 204 = .ok (.goto (-110), 3) := by decide +kernel
theorem dLR_readLeaf_207 : decode cLR_readLeaf 207 = .ok (.return_, 1) := by decide +kernel
abbrev cLR_readSizes : ByteArray := prog_6_method_3_code
def yLR_readSizes : MethodName := ⟨kR_LR, "readSizes", "()V"⟩
def wsLR_readSizes : List Cond := .code yLR_readSizes cLR_readSizes 3 none :: ipW
theorem dLR_readSizes_0 : decode cLR_readSizes 0 = .ok (.aload_n 0, 1) := by decide +kernel
theorem dLR_readSizes_1 : decode cLR_readSizes 1 = .ok (.iconst (-1), 1) := by decide +kernel
theorem dLR_readSizes_2 : decode cLR_readSizes 2 = .ok (.putfield 44, 3) := by decide +kernel
theorem dLR_readSizes_5 : decode cLR_readSizes 5 = .ok (.aload_n 0, 1) := by decide +kernel
theorem dLR_readSizes_6 : decode cLR_readSizes 6 = .ok (.iconst (-1), 1) := by decide +kernel
theorem dLR_readSizes_7 : decode cLR_readSizes 7 = .ok (.putfield 41, 3) := by decide +kernel
theorem dLR_readSizes_10 : decode cLR_readSizes 10 = .ok (.aload_n 0, 1) := by decide +kernel
theorem dLR_readSizes_11 : decode cLR_readSizes 11 = .ok (.iconst 0, 1) := by decide +kernel
theorem dLR_readSizes_12 : decode cLR_readSizes 12 = .ok (.putfield 65, 3) := by decide +kernel
theorem dLR_readSizes_15 : decode cLR_readSizes 15 = .ok (.iconst 0, 1) := by decide +kernel
theorem dLR_readSizes_16 : decode cLR_readSizes 16 = .ok (.istore_n 1, 1) := by decide +kernel
theorem dLR_readSizes_17 : decode cLR_readSizes 17 = .ok (.iload_n 1, 1) := by decide +kernel
theorem dLR_readSizes_18 : decode cLR_readSizes 18 = .ok (.bipush 16, 2) := by decide +kernel
theorem dLR_readSizes_20 : decode cLR_readSizes 20 = .ok (.if_icmp .ge 90, 3) := by decide +kernel
theorem dLR_readSizes_23 : decode cLR_readSizes 23 = .ok (.getstatic 68, 3) := by decide +kernel
theorem dLR_readSizes_26 : decode cLR_readSizes 26 = .ok (.iload_n 1, 1) := by decide +kernel
theorem dLR_readSizes_27 : decode cLR_readSizes 27 = .ok (.iaload, 1) := by decide +kernel
theorem dLR_readSizes_28 : decode cLR_readSizes 28 = .ok (.istore_n 2, 1) := by decide +kernel
theorem dLR_readSizes_29 : decode cLR_readSizes 29 = .ok (.aload_n 0, 1) := by decide +kernel
theorem dLR_readSizes_30 : decode cLR_readSizes 30 = .ok (.getfield 11, 3) := by decide +kernel
theorem dLR_readSizes_33 : decode cLR_readSizes 33 = .ok (.iload_n 2, 1) := by decide +kernel
theorem dLR_readSizes_34 : decode cLR_readSizes 34 = .ok (.iconst 0, 1) := by decide +kernel
theorem dLR_readSizes_35 : decode cLR_readSizes 35 = .ok (.iastore, 1) := by decide +kernel
theorem dLR_readSizes_36 : decode cLR_readSizes 36 = .ok (.aload_n 0, 1) := by decide +kernel
theorem dLR_readSizes_37 : decode cLR_readSizes 37 = .ok (.getfield 15, 3) := by decide +kernel
theorem dLR_readSizes_40 : decode cLR_readSizes 40 = .ok (.bipush 9, 2) := by decide +kernel
theorem dLR_readSizes_42 : decode cLR_readSizes 42 = .ok (.aload_n 0, 1) := by decide +kernel
theorem dLR_readSizes_43 : decode cLR_readSizes 43 = .ok (.iload_n 2, 1) := by decide +kernel
theorem dLR_readSizes_44 : decode cLR_readSizes 44 = .ok (.invokevirtual 71, 3) := by decide +kernel
theorem dLR_readSizes_47 : decode cLR_readSizes 47 = .ok (.iadd, 1) := by decide +kernel
theorem dLR_readSizes_48 : decode cLR_readSizes 48 = .ok (.invokevirtual 28, 3) := by decide +kernel
theorem dLR_readSizes_51 : decode cLR_readSizes 51 = .ok (.iconst 1, 1) := by decide +kernel
theorem dLR_readSizes_52 : decode cLR_readSizes 52 = .ok (.if_icmp .ne 52, 3) := by decide +kernel
theorem dLR_readSizes_55 : decode cLR_readSizes 55 = .ok (.aload_n 0, 1) := by decide +kernel
theorem dLR_readSizes_56 : decode cLR_readSizes 56 = .ok (.getfield 11, 3) := by decide +kernel
theorem dLR_readSizes_59 : decode cLR_readSizes 59 = .ok (.iload_n 2, 1) := by decide +kernel
theorem dLR_readSizes_60 : decode cLR_readSizes 60 = .ok (.aload_n 0, 1) := by decide +kernel
theorem dLR_readSizes_61 : decode cLR_readSizes 61 = .ok (.invokevirtual 74, 3) := by decide +kernel
theorem dLR_readSizes_64 : decode cLR_readSizes 64 = .ok (.iastore, 1) := by decide +kernel
theorem dLR_readSizes_65 : decode cLR_readSizes 65 = .ok (.aload_n 0, 1) := by decide +kernel
theorem dLR_readSizes_66 : decode cLR_readSizes 66 = .ok (.dup, 1) := by decide +kernel
theorem dLR_readSizes_67 : decode cLR_readSizes 67 = .ok (.getfield 65, 3) := by decide +kernel
theorem dLR_readSizes_70 : decode cLR_readSizes 70 = .ok (.aload_n 0, 1) := by decide +kernel
theorem dLR_readSizes_71 : decode cLR_readSizes 71 = .ok (.getfield 11, 3) := by decide +kernel
theorem dLR_readSizes_74 : decode cLR_readSizes 74 = .ok (.iload_n 2, 1) := by decide +kernel
theorem dLR_readSizes_75 : decode cLR_readSizes 75 = .ok (.iaload, 1) := by decide +kernel
theorem dLR_readSizes_76 : decode cLR_readSizes 76 = .ok (.iadd, 1) := by decide +kernel
theorem dLR_readSizes_77 : decode cLR_readSizes 77 = .ok (.putfield 65, 3) := by decide +kernel
theorem dLR_readSizes_80 : decode cLR_readSizes 80 = .ok (.aload_n 0, 1) := by decide +kernel
theorem dLR_readSizes_81 : decode cLR_readSizes 81 = .ok (.aload_n 0, 1) := by decide +kernel
theorem dLR_readSizes_82 : decode cLR_readSizes 82 = .ok (.getfield 44, 3) := by decide +kernel
theorem dLR_readSizes_85 : decode cLR_readSizes 85 = .ok (.ifCond .ge 7, 3) := by decide +kernel
theorem dLR_readSizes_88 : decode cLR_readSizes 88 = .ok (.iload_n 1, 1) := by decide +kernel
theorem dLR_readSizes_89 : decode cLR_readSizes 89 = .ok (.goto 7, 3) := by decide +kernel
theorem dLR_readSizes_92 : decode cLR_readSizes 92 = .ok (.aload_n 0, 1) := by decide +kernel
theorem dLR_readSizes_93 : decode cLR_readSizes 93 = .ok (.getfield 44, 3) := by decide +kernel
theorem dLR_readSizes_96 : decode cLR_readSizes 96 = .ok (.putfield 44, 3) := by decide +kernel
theorem dLR_readSizes_99 : decode cLR_readSizes 99 = .ok (.aload_n 0, 1) := by decide +kernel
theorem dLR_readSizes_100 : decode cLR_readSizes 100 = .ok (.iload_n 1, 1) := by decide +kernel
theorem dLR_readSizes_101 : decode cLR_readSizes 101 = .ok (.putfield 41, 3) := by decide +kernel
theorem dLR_readSizes_104 : decode cLR_readSizes 104 = .ok (.iinc 1 1, 3) := by decide +kernel
theorem dLR_readSizes_107 : decode cLR_readSizes 107 = .ok (.goto (-90), 3) := by decide +kernel
theorem dLR_readSizes_110 : decode cLR_readSizes 110 = .ok (.return_, 1) := by decide +kernel
abbrev cLR_notZeroBefore : ByteArray := prog_6_method_4_code
def yLR_notZeroBefore : MethodName := ⟨kR_LR, "notZeroBefore", "(I)I"⟩
def wsLR_notZeroBefore : List Cond := .code yLR_notZeroBefore cLR_notZeroBefore 4 (some .int) :: ipW
theorem dLR_notZeroBefore_0 : decode cLR_notZeroBefore 0 = .ok (.iload_n 1, 1) := by decide +kernel
theorem dLR_notZeroBefore_1 : decode cLR_notZeroBefore 1 = .ok (.iconst 3, 1) := by decide +kernel
theorem dLR_notZeroBefore_2 : decode cLR_notZeroBefore 2 = .ok (.iand, 1) := by decide +kernel
theorem dLR_notZeroBefore_3 : decode cLR_notZeroBefore 3 = .ok (.ifCond .le 18, 3) := by decide +kernel
theorem dLR_notZeroBefore_6 : decode cLR_notZeroBefore 6 = .ok (.aload_n 0, 1) := by decide +kernel
theorem dLR_notZeroBefore_7 : decode cLR_notZeroBefore 7 = .ok (.getfield 11, 3) := by decide +kernel
theorem dLR_notZeroBefore_10 : decode cLR_notZeroBefore 10 = .ok (.iload_n 1, 1) := by decide +kernel
theorem dLR_notZeroBefore_11 : decode cLR_notZeroBefore 11 = .ok (.iconst 1, 1) := by decide +kernel
theorem dLR_notZeroBefore_12 : decode cLR_notZeroBefore 12 = .ok (.isub, 1) := by decide +kernel
theorem dLR_notZeroBefore_13 : decode cLR_notZeroBefore 13 = .ok (.iaload, 1) := by decide +kernel
theorem dLR_notZeroBefore_14 : decode cLR_notZeroBefore 14 = .ok (.ifCond .eq 7, 3) := by decide +kernel
theorem dLR_notZeroBefore_17 : decode cLR_notZeroBefore 17 = .ok (.iconst 1, 1) := by decide +kernel
theorem dLR_notZeroBefore_18 : decode cLR_notZeroBefore 18 = .ok (.goto 4, 3) := by decide +kernel
theorem dLR_notZeroBefore_21 : decode cLR_notZeroBefore 21 = .ok (.iconst 0, 1) := by decide +kernel
theorem dLR_notZeroBefore_22 : decode cLR_notZeroBefore 22 = .ok (.istore_n 2, 1) := by decide +kernel
theorem dLR_notZeroBefore_23 : decode cLR_notZeroBefore 23 = .ok (.iload_n 1, 1) := by decide +kernel
theorem dLR_notZeroBefore_24 : decode cLR_notZeroBefore 24 = .ok (.iconst 4, 1) := by decide +kernel
theorem dLR_notZeroBefore_25 : decode cLR_notZeroBefore 25 = .ok (.if_icmp .lt 18, 3) := by decide +kernel
theorem dLR_notZeroBefore_28 : decode cLR_notZeroBefore 28 = .ok (.aload_n 0, 1) := by decide +kernel
theorem dLR_notZeroBefore_29 : decode cLR_notZeroBefore 29 = .ok (.getfield 11, 3) := by decide +kernel
theorem dLR_notZeroBefore_32 : decode cLR_notZeroBefore 32 = .ok (.iload_n 1, 1) := by decide +kernel
theorem dLR_notZeroBefore_33 : decode cLR_notZeroBefore 33 = .ok (.iconst 4, 1) := by decide +kernel
theorem dLR_notZeroBefore_34 : decode cLR_notZeroBefore 34 = .ok (.isub, 1) := by decide +kernel
theorem dLR_notZeroBefore_35 : decode cLR_notZeroBefore 35 = .ok (.iaload, 1) := by decide +kernel
theorem dLR_notZeroBefore_36 : decode cLR_notZeroBefore 36 = .ok (.ifCond .eq 7, 3) := by decide +kernel
theorem dLR_notZeroBefore_39 : decode cLR_notZeroBefore 39 = .ok (.iconst 1, 1) := by decide +kernel
theorem dLR_notZeroBefore_40 : decode cLR_notZeroBefore 40 = .ok (.goto 4, 3) := by decide +kernel
theorem dLR_notZeroBefore_43 : decode cLR_notZeroBefore 43 = .ok (.iconst 0, 1) := by decide +kernel
theorem dLR_notZeroBefore_44 : decode cLR_notZeroBefore 44 = .ok (.istore_n 3, 1) := by decide +kernel
theorem dLR_notZeroBefore_45 : decode cLR_notZeroBefore 45 = .ok (.iload_n 2, 1) := by decide +kernel
theorem dLR_notZeroBefore_46 : decode cLR_notZeroBefore 46 = .ok (.iload_n 3, 1) := by decide +kernel
theorem dLR_notZeroBefore_47 : decode cLR_notZeroBefore 47 = .ok (.iadd, 1) := by decide +kernel
theorem dLR_notZeroBefore_48 : decode cLR_notZeroBefore 48 = .ok (.ireturn, 1) := by decide +kernel
abbrev cLR_readSize : ByteArray := prog_6_method_5_code
def yLR_readSize : MethodName := ⟨kR_LR, "readSize", "()I"⟩
def wsLR_readSize : List Cond := .code yLR_readSize cLR_readSize 2 (some .int) :: ipW
theorem dLR_readSize_0 : decode cLR_readSize 0 = .ok (.aload_n 0, 1) := by decide +kernel
theorem dLR_readSize_1 : decode cLR_readSize 1 = .ok (.getfield 15, 3) := by decide +kernel
theorem dLR_readSize_4 : decode cLR_readSize 4 = .ok (.bipush 12, 2) := by decide +kernel
theorem dLR_readSize_6 : decode cLR_readSize 6 = .ok (.invokevirtual 28, 3) := by decide +kernel
theorem dLR_readSize_9 : decode cLR_readSize 9 = .ok (.ifCond .ne 5, 3) := by decide +kernel
theorem dLR_readSize_12 : decode cLR_readSize 12 = .ok (.iconst 1, 1) := by decide +kernel
theorem dLR_readSize_13 : decode cLR_readSize 13 = .ok (.ireturn, 1) := by decide +kernel
theorem dLR_readSize_14 : decode cLR_readSize 14 = .ok (.aload_n 0, 1) := by decide +kernel
theorem dLR_readSize_15 : decode cLR_readSize 15 = .ok (.getfield 15, 3) := by decide +kernel
theorem dLR_readSize_18 : decode cLR_readSize 18 = .ok (.bipush 13, 2) := by decide +kernel
theorem dLR_readSize_20 : decode cLR_readSize 20 = .ok (.invokevirtual 28, 3) := by decide +kernel
theorem dLR_readSize_23 : decode cLR_readSize 23 = .ok (.ifCond .ne 5, 3) := by decide +kernel
theorem dLR_readSize_26 : decode cLR_readSize 26 = .ok (.iconst 2, 1) := by decide +kernel
theorem dLR_readSize_27 : decode cLR_readSize 27 = .ok (.ireturn, 1) := by decide +kernel
theorem dLR_readSize_28 : decode cLR_readSize 28 = .ok (.iconst 0, 1) := by decide +kernel
theorem dLR_readSize_29 : decode cLR_readSize 29 = .ok (.istore_n 1, 1) := by decide +kernel
theorem dLR_readSize_30 : decode cLR_readSize 30 = .ok (.iload_n 1, 1) := by decide +kernel
theorem dLR_readSize_31 : decode cLR_readSize 31 = .ok (.bipush 6, 2) := by decide +kernel
theorem dLR_readSize_33 : decode cLR_readSize 33 = .ok (.if_icmp .ge 21, 3) := by decide +kernel
theorem dLR_readSize_36 : decode cLR_readSize 36 = .ok (.aload_n 0, 1) := by decide +kernel
theorem dLR_readSize_37 : decode cLR_readSize 37 = .ok (.getfield 15, 3) := by decide +kernel
theorem dLR_readSize_40 : decode cLR_readSize 40 = .ok (.iconst 1, 1) := by decide +kernel
theorem dLR_readSize_41 : decode cLR_readSize 41 = .ok (.invokevirtual 78, 3) := by decide +kernel
theorem dLR_readSize_44 : decode cLR_readSize 44 = .ok (.iconst 1, 1) := by decide +kernel
theorem dLR_readSize_45 : decode cLR_readSize 45 = .ok (.if_icmp .ne 9, 3) := by decide +kernel
theorem dLR_readSize_48 : decode cLR_readSize 48 = .ok (.iinc 1 1, 3) := by decide +kernel
theorem dLR_readSize_51 : decode cLR_readSize 51 = .ok (.goto (-21), 3) := by decide +kernel
theorem dLR_readSize_54 : decode cLR_readSize 54 = .ok (.iconst 2, 1) := by decide +kernel
theorem dLR_readSize_55 : decode cLR_readSize 55 = .ok (.iconst 1, 1) := by decide +kernel
theorem dLR_readSize_56 : decode cLR_readSize 56 = .ok (.iload_n 1, 1) := by decide +kernel
theorem dLR_readSize_57 : decode cLR_readSize 57 = .ok (.ishl, 1) := by decide +kernel
theorem dLR_readSize_58 : decode cLR_readSize 58 = .ok (.iadd, 1) := by decide +kernel
theorem dLR_readSize_59 : decode cLR_readSize 59 = .ok (.aload_n 0, 1) := by decide +kernel
theorem dLR_readSize_60 : decode cLR_readSize 60 = .ok (.getfield 15, 3) := by decide +kernel
theorem dLR_readSize_63 : decode cLR_readSize 63 = .ok (.iload_n 1, 1) := by decide +kernel
theorem dLR_readSize_64 : decode cLR_readSize 64 = .ok (.invokevirtual 78, 3) := by decide +kernel
theorem dLR_readSize_67 : decode cLR_readSize 67 = .ok (.iadd, 1) := by decide +kernel
theorem dLR_readSize_68 : decode cLR_readSize 68 = .ok (.ireturn, 1) := by decide +kernel
abbrev cLR_readSigns : ByteArray := prog_6_method_6_code
def yLR_readSigns : MethodName := ⟨kR_LR, "readSigns", "(Z)V"⟩
def wsLR_readSigns : List Cond := .code yLR_readSigns cLR_readSigns 5 none :: ipW
theorem dLR_readSigns_0 : decode cLR_readSigns 0 = .ok (.iconst 0, 1) := by decide +kernel
theorem dLR_readSigns_1 : decode cLR_readSigns 1 = .ok (.istore_n 2, 1) := by decide +kernel
theorem dLR_readSigns_2 : decode cLR_readSigns 2 = .ok (.iload_n 2, 1) := by decide +kernel
theorem dLR_readSigns_3 : decode cLR_readSigns 3 = .ok (.bipush 16, 2) := by decide +kernel
theorem dLR_readSigns_5 : decode cLR_readSigns 5 = .ok (.if_icmp .ge 83, 3) := by decide +kernel
theorem dLR_readSigns_8 : decode cLR_readSigns 8 = .ok (.getstatic 68, 3) := by decide +kernel
theorem dLR_readSigns_11 : decode cLR_readSigns 11 = .ok (.iload_n 2, 1) := by decide +kernel
theorem dLR_readSigns_12 : decode cLR_readSigns 12 = .ok (.iaload, 1) := by decide +kernel
theorem dLR_readSigns_13 : decode cLR_readSigns 13 = .ok (.istore_n 3, 1) := by decide +kernel
theorem dLR_readSigns_14 : decode cLR_readSigns 14 = .ok (.aload_n 0, 1) := by decide +kernel
theorem dLR_readSigns_15 : decode cLR_readSigns 15 = .ok (.getfield 11, 3) := by decide +kernel
theorem dLR_readSigns_18 : decode cLR_readSigns 18 = .ok (.iload_n 3, 1) := by decide +kernel
theorem dLR_readSigns_19 : decode cLR_readSigns 19 = .ok (.iaload, 1) := by decide +kernel
theorem dLR_readSigns_20 : decode cLR_readSigns 20 = .ok (.ifCond .eq 62, 3) := by decide +kernel
theorem dLR_readSigns_23 : decode cLR_readSigns 23 = .ok (.iload_n 1, 1) := by decide +kernel
theorem dLR_readSigns_24 : decode cLR_readSigns 24 = .ok (.ifCond .eq 20, 3) := by decide +kernel
theorem dLR_readSigns_27 : decode cLR_readSigns 27 = .ok (.iload_n 2, 1) := by decide +kernel
theorem dLR_readSigns_28 : decode cLR_readSigns 28 = .ok (.aload_n 0, 1) := by decide +kernel
theorem dLR_readSigns_29 : decode cLR_readSigns 29 = .ok (.getfield 44, 3) := by decide +kernel
theorem dLR_readSigns_32 : decode cLR_readSigns 32 = .ok (.if_icmp .ne 12, 3) := by decide +kernel
theorem dLR_readSigns_35 : decode cLR_readSigns 35 = .ok (.aload_n 0, 1) := by decide +kernel
theorem dLR_readSigns_36 : decode cLR_readSigns 36 = .ok (.getfield 65, 3) := by decide +kernel
theorem dLR_readSigns_39 : decode cLR_readSigns 39 = .ok (.iconst 1, 1) := by decide +kernel
theorem dLR_readSigns_40 : decode cLR_readSigns 40 = .ok (.iand, 1) := by decide +kernel
theorem dLR_readSigns_41 : decode cLR_readSigns 41 = .ok (.goto 11, 3) := by decide +kernel
theorem dLR_readSigns_44 : decode cLR_readSigns 44 = .ok (.aload_n 0, 1) := by decide +kernel
theorem dLR_readSigns_45 : decode cLR_readSigns 45 = .ok (.getfield 15, 3) := by decide +kernel
theorem dLR_readSigns_48 : decode cLR_readSigns 48 = .ok (.iconst 1, 1) := by decide +kernel
theorem dLR_readSigns_49 : decode cLR_readSigns 49 = .ok (.invokevirtual 78, 3) := by decide +kernel
theorem dLR_readSigns_52 : decode cLR_readSigns 52 = .ok (.istore 4, 2) := by decide +kernel
theorem dLR_readSigns_54 : decode cLR_readSigns 54 = .ok (.aload_n 0, 1) := by decide +kernel
theorem dLR_readSigns_55 : decode cLR_readSigns 55 = .ok (.getfield 11, 3) := by decide +kernel
theorem dLR_readSigns_58 : decode cLR_readSigns 58 = .ok (.iload_n 3, 1) := by decide +kernel
theorem dLR_readSigns_59 : decode cLR_readSigns 59 = .ok (.iload 4, 2) := by decide +kernel
theorem dLR_readSigns_61 : decode cLR_readSigns 61 = .ok (.iconst 1, 1) := by decide +kernel
theorem dLR_readSigns_62 : decode cLR_readSigns 62 = .ok (.if_icmp .ne 13, 3) := by decide +kernel
theorem dLR_readSigns_65 : decode cLR_readSigns 65 = .ok (.aload_n 0, 1) := by decide +kernel
theorem dLR_readSigns_66 : decode cLR_readSigns 66 = .ok (.getfield 11, 3) := by decide +kernel
theorem dLR_readSigns_69 : decode cLR_readSigns 69 = .ok (.iload_n 3, 1) := by decide +kernel
theorem dLR_readSigns_70 : decode cLR_readSigns 70 = .ok (.iaload, 1) := by decide +kernel
theorem dLR_readSigns_71 : decode cLR_readSigns 71 = .ok (.ineg, 1) := by decide +kernel
theorem dLR_readSigns_72 : decode cLR_readSigns 72 = .ok (.goto 9, 3) := by decide +kernel
theorem dLR_readSigns_75 : decode cLR_readSigns 75 = .ok (.aload_n 0, 1) := by decide +kernel
theorem dLR_readSigns_76 : decode cLR_readSigns 76 = .ok (.getfield 11, 3) := by decide +kernel
theorem dLR_readSigns_79 : decode cLR_readSigns 79 = .ok (.iload_n 3, 1) := by decide +kernel
theorem dLR_readSigns_80 : decode cLR_readSigns 80 = .ok (.iaload, 1) := by decide +kernel
theorem dLR_readSigns_81 : decode cLR_readSigns 81 = .ok (.iastore, 1) := by decide +kernel
theorem dLR_readSigns_82 : decode cLR_readSigns 82 = .ok (.iinc 2 1, 3) := by decide +kernel
theorem dLR_readSigns_85 : decode cLR_readSigns 85 = .ok (.goto (-83), 3) := by decide +kernel
theorem dLR_readSigns_88 : decode cLR_readSigns 88 = .ok (.return_, 1) := by decide +kernel
abbrev cLR_keepGroup : ByteArray := prog_6_method_7_code
def yLR_keepGroup : MethodName := ⟨kR_LR, "keepGroup", "(I)V"⟩
def wsLR_keepGroup : List Cond := .code yLR_keepGroup cLR_keepGroup 3 none :: ipW
theorem dLR_keepGroup_0 : decode cLR_keepGroup 0 = .ok (.iconst 0, 1) := by decide +kernel
theorem dLR_keepGroup_1 : decode cLR_keepGroup 1 = .ok (.istore_n 2, 1) := by decide +kernel
theorem dLR_keepGroup_2 : decode cLR_keepGroup 2 = .ok (.iload_n 2, 1) := by decide +kernel
theorem dLR_keepGroup_3 : decode cLR_keepGroup 3 = .ok (.bipush 16, 2) := by decide +kernel
theorem dLR_keepGroup_5 : decode cLR_keepGroup 5 = .ok (.if_icmp .ge 32, 3) := by decide +kernel
theorem dLR_keepGroup_8 : decode cLR_keepGroup 8 = .ok (.aload_n 0, 1) := by decide +kernel
theorem dLR_keepGroup_9 : decode cLR_keepGroup 9 = .ok (.getfield 19, 3) := by decide +kernel
theorem dLR_keepGroup_12 : decode cLR_keepGroup 12 = .ok (.iload_n 1, 1) := by decide +kernel
theorem dLR_keepGroup_13 : decode cLR_keepGroup 13 = .ok (.iload_n 2, 1) := by decide +kernel
theorem dLR_keepGroup_14 : decode cLR_keepGroup 14 = .ok (.iconst 2, 1) := by decide +kernel
theorem dLR_keepGroup_15 : decode cLR_keepGroup 15 = .ok (.ishr, 1) := by decide +kernel
theorem dLR_keepGroup_16 : decode cLR_keepGroup 16 = .ok (.bipush 16, 2) := by decide +kernel
theorem dLR_keepGroup_18 : decode cLR_keepGroup 18 = .ok (.imul, 1) := by decide +kernel
theorem dLR_keepGroup_19 : decode cLR_keepGroup 19 = .ok (.iadd, 1) := by decide +kernel
theorem dLR_keepGroup_20 : decode cLR_keepGroup 20 = .ok (.iload_n 2, 1) := by decide +kernel
theorem dLR_keepGroup_21 : decode cLR_keepGroup 21 = .ok (.iconst 3, 1) := by decide +kernel
theorem dLR_keepGroup_22 : decode cLR_keepGroup 22 = .ok (.iand, 1) := by decide +kernel
theorem dLR_keepGroup_23 : decode cLR_keepGroup 23 = .ok (.iadd, 1) := by decide +kernel
theorem dLR_keepGroup_24 : decode cLR_keepGroup 24 = .ok (.aload_n 0, 1) := by decide +kernel
theorem dLR_keepGroup_25 : decode cLR_keepGroup 25 = .ok (.getfield 11, 3) := by decide +kernel
theorem dLR_keepGroup_28 : decode cLR_keepGroup 28 = .ok (.iload_n 2, 1) := by decide +kernel
theorem dLR_keepGroup_29 : decode cLR_keepGroup 29 = .ok (.iaload, 1) := by decide +kernel
theorem dLR_keepGroup_30 : decode cLR_keepGroup 30 = .ok (.iastore, 1) := by decide +kernel
theorem dLR_keepGroup_31 : decode cLR_keepGroup 31 = .ok (.iinc 2 1, 3) := by decide +kernel
theorem dLR_keepGroup_34 : decode cLR_keepGroup 34 = .ok (.goto (-32), 3) := by decide +kernel
theorem dLR_keepGroup_37 : decode cLR_keepGroup 37 = .ok (.return_, 1) := by decide +kernel
abbrev cRS_compute : ByteArray := prog_10_method_2_code
def yRS_compute : MethodName := ⟨kR_RS, "compute", "(LIntraPicture$Leaf;I)V"⟩
def wsRS_compute : List Cond := .code yRS_compute cRS_compute 3 none :: ipW
theorem dRS_compute_0 : decode cRS_compute 0 = .ok (.aload_n 0, 1) := by decide +kernel
theorem dRS_compute_1 : decode cRS_compute 1 = .ok (.aload_n 1, 1) := by decide +kernel
theorem dRS_compute_2 : decode cRS_compute 2 = .ok (.iload_n 2, 1) := by decide +kernel
theorem dRS_compute_3 : decode cRS_compute 3 = .ok (.invokevirtual 22, 3) := by decide +kernel
theorem dRS_compute_6 : decode cRS_compute 6 = .ok (.aload_n 1, 1) := by decide +kernel
theorem dRS_compute_7 : decode cRS_compute 7 = .ok (.getfield 26, 3) := by decide +kernel
theorem dRS_compute_10 : decode cRS_compute 10 = .ok (.ifCond .eq 14, 3) := by decide +kernel
theorem dRS_compute_13 : decode cRS_compute 13 = .ok (.aload_n 0, 1) := by decide +kernel
theorem dRS_compute_14 : decode cRS_compute 14 = .ok (.aload_n 1, 1) := by decide +kernel
theorem dRS_compute_15 : decode cRS_compute 15 = .ok (.getfield 32, 3) := by decide +kernel
theorem dRS_compute_18 : decode cRS_compute 18 = .ok (.invokevirtual 36, 3) := by decide +kernel
theorem dRS_compute_21 : decode cRS_compute 21 = .ok (.goto 19, 3) := by decide +kernel
theorem dRS_compute_24 : decode cRS_compute 24 = .ok (.aload_n 0, 1) := by decide +kernel
theorem dRS_compute_25 : decode cRS_compute 25 = .ok (.aload_n 1, 1) := by decide +kernel
theorem dRS_compute_26 : decode cRS_compute 26 = .ok (.getfield 32, 3) := by decide +kernel
theorem dRS_compute_29 : decode cRS_compute 29 = .ok (.invokevirtual 40, 3) := by decide +kernel
theorem dRS_compute_32 : decode cRS_compute 32 = .ok (.aload_n 0, 1) := by decide +kernel
theorem dRS_compute_33 : decode cRS_compute 33 = .ok (.aload_n 1, 1) := by decide +kernel
theorem dRS_compute_34 : decode cRS_compute 34 = .ok (.getfield 32, 3) := by decide +kernel
theorem dRS_compute_37 : decode cRS_compute 37 = .ok (.invokevirtual 43, 3) := by decide +kernel
theorem dRS_compute_40 : decode cRS_compute 40 = .ok (.return_, 1) := by decide +kernel
abbrev cRS_scaleLevels : ByteArray := prog_10_method_3_code
def yRS_scaleLevels : MethodName := ⟨kR_RS, "scaleLevels", "(LIntraPicture$Leaf;I)V"⟩
def wsRS_scaleLevels : List Cond := .code yRS_scaleLevels cRS_scaleLevels 8 none :: ipW
theorem dRS_scaleLevels_0 : decode cRS_scaleLevels 0 = .ok (.aload_n 1, 1) := by decide +kernel
theorem dRS_scaleLevels_1 : decode cRS_scaleLevels 1 = .ok (.getfield 32, 3) := by decide +kernel
theorem dRS_scaleLevels_4 : decode cRS_scaleLevels 4 = .ok (.iconst 4, 1) := by decide +kernel
theorem dRS_scaleLevels_5 : decode cRS_scaleLevels 5 = .ok (.if_icmp .ne 7, 3) := by decide +kernel
theorem dRS_scaleLevels_8 : decode cRS_scaleLevels 8 = .ok (.iconst 1, 1) := by decide +kernel
theorem dRS_scaleLevels_9 : decode cRS_scaleLevels 9 = .ok (.goto 4, 3) := by decide +kernel
theorem dRS_scaleLevels_12 : decode cRS_scaleLevels 12 = .ok (.iconst 2, 1) := by decide +kernel
theorem dRS_scaleLevels_13 : decode cRS_scaleLevels 13 = .ok (.istore_n 3, 1) := by decide +kernel
theorem dRS_scaleLevels_14 : decode cRS_scaleLevels 14 = .ok (.iconst 1, 1) := by decide +kernel
theorem dRS_scaleLevels_15 : decode cRS_scaleLevels 15 = .ok (.iload_n 3, 1) := by decide +kernel
theorem dRS_scaleLevels_16 : decode cRS_scaleLevels 16 = .ok (.iconst 1, 1) := by decide +kernel
theorem dRS_scaleLevels_17 : decode cRS_scaleLevels 17 = .ok (.isub, 1) := by decide +kernel
theorem dRS_scaleLevels_18 : decode cRS_scaleLevels 18 = .ok (.ishl, 1) := by decide +kernel
theorem dRS_scaleLevels_19 : decode cRS_scaleLevels 19 = .ok (.istore 4, 2) := by decide +kernel
theorem dRS_scaleLevels_21 : decode cRS_scaleLevels 21 = .ok (.iconst 0, 1) := by decide +kernel
theorem dRS_scaleLevels_22 : decode cRS_scaleLevels 22 = .ok (.istore 5, 2) := by decide +kernel
theorem dRS_scaleLevels_24 : decode cRS_scaleLevels 24 = .ok (.iload 5, 2) := by decide +kernel
theorem dRS_scaleLevels_26 : decode cRS_scaleLevels 26 = .ok (.aload_n 1, 1) := by decide +kernel
theorem dRS_scaleLevels_27 : decode cRS_scaleLevels 27 = .ok (.getfield 32, 3) := by decide +kernel
theorem dRS_scaleLevels_30 : decode cRS_scaleLevels 30 = .ok (.if_icmp .ge 87, 3) := by decide +kernel
theorem dRS_scaleLevels_33 : decode cRS_scaleLevels 33 = .ok (.iconst 0, 1) := by decide +kernel
theorem dRS_scaleLevels_34 : decode cRS_scaleLevels 34 = .ok (.istore 6, 2) := by decide +kernel
theorem dRS_scaleLevels_36 : decode cRS_scaleLevels 36 = .ok (.iload 6, 2) := by decide +kernel
theorem dRS_scaleLevels_38 : decode cRS_scaleLevels 38 = .ok (.aload_n 1, 1) := by decide +kernel
theorem dRS_scaleLevels_39 : decode cRS_scaleLevels 39 = .ok (.getfield 32, 3) := by decide +kernel
theorem dRS_scaleLevels_42 : decode cRS_scaleLevels 42 = .ok (.if_icmp .ge 69, 3) := by decide +kernel
theorem dRS_scaleLevels_45 : decode cRS_scaleLevels 45 = .ok (.aload_n 0, 1) := by decide +kernel
theorem dRS_scaleLevels_46 : decode cRS_scaleLevels 46 = .ok (.getfield 19, 3) := by decide +kernel
theorem dRS_scaleLevels_49 : decode cRS_scaleLevels 49 = .ok (.aload_n 1, 1) := by decide +kernel
theorem dRS_scaleLevels_50 : decode cRS_scaleLevels 50 = .ok (.iload 6, 2) := by decide +kernel
theorem dRS_scaleLevels_52 : decode cRS_scaleLevels 52 = .ok (.iload 5, 2) := by decide +kernel
theorem dRS_scaleLevels_54 : decode cRS_scaleLevels 54 = .ok (.invokevirtual 46, 3) := by decide +kernel
theorem dRS_scaleLevels_57 : decode cRS_scaleLevels 57 = .ok (.iaload, 1) := by decide +kernel
theorem dRS_scaleLevels_58 : decode cRS_scaleLevels 58 = .ok (.getstatic 50, 3) := by decide +kernel
theorem dRS_scaleLevels_61 : decode cRS_scaleLevels 61 = .ok (.iload_n 2, 1) := by decide +kernel
theorem dRS_scaleLevels_62 : decode cRS_scaleLevels 62 = .ok (.bipush 6, 2) := by decide +kernel
theorem dRS_scaleLevels_64 : decode cRS_scaleLevels 64 = .ok (.irem, 1) := by decide +kernel
theorem dRS_scaleLevels_65 : decode cRS_scaleLevels 65 = .ok (.iaload, 1) := by decide +kernel
theorem dRS_scaleLevels_66 : decode cRS_scaleLevels 66 = .ok (.imul, 1) := by decide +kernel
theorem dRS_scaleLevels_67 : decode cRS_scaleLevels 67 = .ok (.iload_n 2, 1) := by decide +kernel
theorem dRS_scaleLevels_68 : decode cRS_scaleLevels 68 = .ok (.bipush 6, 2) := by decide +kernel
theorem dRS_scaleLevels_70 : decode cRS_scaleLevels 70 = .ok (.idiv, 1) := by decide +kernel
theorem dRS_scaleLevels_71 : decode cRS_scaleLevels 71 = .ok (.ishl, 1) := by decide +kernel
theorem dRS_scaleLevels_72 : decode cRS_scaleLevels 72 = .ok (.istore 7, 2) := by decide +kernel
theorem dRS_scaleLevels_74 : decode cRS_scaleLevels 74 = .ok (.aload_n 0, 1) := by decide +kernel
theorem dRS_scaleLevels_75 : decode cRS_scaleLevels 75 = .ok (.getfield 7, 3) := by decide +kernel
theorem dRS_scaleLevels_78 : decode cRS_scaleLevels 78 = .ok (.iload 5, 2) := by decide +kernel
theorem dRS_scaleLevels_80 : decode cRS_scaleLevels 80 = .ok (.aload_n 1, 1) := by decide +kernel
theorem dRS_scaleLevels_81 : decode cRS_scaleLevels 81 = .ok (.getfield 32, 3) := by decide +kernel
theorem dRS_scaleLevels_84 : decode cRS_scaleLevels 84 = .ok (.imul, 1) := by decide +kernel
theorem dRS_scaleLevels_85 : decode cRS_scaleLevels 85 = .ok (.iload 6, 2) := by decide +kernel
theorem dRS_scaleLevels_87 : decode cRS_scaleLevels 87 = .ok (.iadd, 1) := by decide +kernel
theorem dRS_scaleLevels_88 : decode cRS_scaleLevels 88 = .ok (.iload 7, 2) := by decide +kernel
theorem dRS_scaleLevels_90 : decode cRS_scaleLevels 90 = .ok (.iload 4, 2) := by decide +kernel
theorem dRS_scaleLevels_92 : decode cRS_scaleLevels 92 = .ok (.iadd, 1) := by decide +kernel
theorem dRS_scaleLevels_93 : decode cRS_scaleLevels 93 = .ok (.iload_n 3, 1) := by decide +kernel
theorem dRS_scaleLevels_94 : decode cRS_scaleLevels 94 = .ok (.ishr, 1) := by decide +kernel
theorem dRS_scaleLevels_95 : decode cRS_scaleLevels 95 = .ok (.sipush (-32768), 3) := by decide +kernel
theorem dRS_scaleLevels_98 : decode cRS_scaleLevels 98 = .ok (.sipush 32767, 3) := by decide +kernel
theorem dRS_scaleLevels_101 : decode cRS_scaleLevels 101 = .ok (.invokestatic 53, 3) := by decide +kernel
theorem dRS_scaleLevels_104 : decode cRS_scaleLevels 104 = .ok (.iastore, 1) := by decide +kernel
theorem dRS_scaleLevels_105 : decode cRS_scaleLevels 105 = .ok (.iinc 6 1, 3) := by decide +kernel
theorem dRS_scaleLevels_108 : decode cRS_scaleLevels 108 = .ok (.goto (-72), 3) := by decide +kernel
theorem dRS_scaleLevels_111 : decode cRS_scaleLevels 111 = .ok (.iinc 5 1, 3) := by decide +kernel
theorem dRS_scaleLevels_114 : decode cRS_scaleLevels 114 = .ok (.goto (-90), 3) := by decide +kernel
theorem dRS_scaleLevels_117 : decode cRS_scaleLevels 117 = .ok (.return_, 1) := by decide +kernel
abbrev cRS_scaleWithoutMatrix : ByteArray := prog_10_method_4_code
def yRS_scaleWithoutMatrix : MethodName := ⟨kR_RS, "scaleWithoutMatrix", "(I)V"⟩
def wsRS_scaleWithoutMatrix : List Cond := .code yRS_scaleWithoutMatrix cRS_scaleWithoutMatrix 3 none :: ipW
theorem dRS_scaleWithoutMatrix_0 : decode cRS_scaleWithoutMatrix 0 = .ok (.iconst 0, 1) := by decide +kernel
theorem dRS_scaleWithoutMatrix_1 : decode cRS_scaleWithoutMatrix 1 = .ok (.istore_n 2, 1) := by decide +kernel
theorem dRS_scaleWithoutMatrix_2 : decode cRS_scaleWithoutMatrix 2 = .ok (.iload_n 2, 1) := by decide +kernel
theorem dRS_scaleWithoutMatrix_3 : decode cRS_scaleWithoutMatrix 3 = .ok (.iload_n 1, 1) := by decide +kernel
theorem dRS_scaleWithoutMatrix_4 : decode cRS_scaleWithoutMatrix 4 = .ok (.iload_n 1, 1) := by decide +kernel
theorem dRS_scaleWithoutMatrix_5 : decode cRS_scaleWithoutMatrix 5 = .ok (.imul, 1) := by decide +kernel
theorem dRS_scaleWithoutMatrix_6 : decode cRS_scaleWithoutMatrix 6 = .ok (.if_icmp .ge 32, 3) := by decide +kernel
theorem dRS_scaleWithoutMatrix_9 : decode cRS_scaleWithoutMatrix 9 = .ok (.aload_n 0, 1) := by decide +kernel
theorem dRS_scaleWithoutMatrix_10 : decode cRS_scaleWithoutMatrix 10 = .ok (.getfield 16, 3) := by decide +kernel
theorem dRS_scaleWithoutMatrix_13 : decode cRS_scaleWithoutMatrix 13 = .ok (.iload_n 2, 1) := by decide +kernel
theorem dRS_scaleWithoutMatrix_14 : decode cRS_scaleWithoutMatrix 14 = .ok (.aload_n 0, 1) := by decide +kernel
theorem dRS_scaleWithoutMatrix_15 : decode cRS_scaleWithoutMatrix 15 = .ok (.getfield 7, 3) := by decide +kernel
theorem dRS_scaleWithoutMatrix_18 : decode cRS_scaleWithoutMatrix 18 = .ok (.iload_n 2, 1) := by decide +kernel
theorem dRS_scaleWithoutMatrix_19 : decode cRS_scaleWithoutMatrix 19 = .ok (.iaload, 1) := by decide +kernel
theorem dRS_scaleWithoutMatrix_20 : decode cRS_scaleWithoutMatrix 20 = .ok (.sipush 128, 3) := by decide +kernel
theorem dRS_scaleWithoutMatrix_23 : decode cRS_scaleWithoutMatrix 23 = .ok (.imul, 1) := by decide +kernel
theorem dRS_scaleWithoutMatrix_24 : decode cRS_scaleWithoutMatrix 24 = .ok (.sipush 2048, 3) := by decide +kernel
theorem dRS_scaleWithoutMatrix_27 : decode cRS_scaleWithoutMatrix 27 = .ok (.iadd, 1) := by decide +kernel
theorem dRS_scaleWithoutMatrix_28 : decode cRS_scaleWithoutMatrix 28 = .ok (.bipush 12, 2) := by decide +kernel
theorem dRS_scaleWithoutMatrix_30 : decode cRS_scaleWithoutMatrix 30 = .ok (.ishr, 1) := by decide +kernel
theorem dRS_scaleWithoutMatrix_31 : decode cRS_scaleWithoutMatrix 31 = .ok (.iastore, 1) := by decide +kernel
theorem dRS_scaleWithoutMatrix_32 : decode cRS_scaleWithoutMatrix 32 = .ok (.iinc 2 1, 3) := by decide +kernel
theorem dRS_scaleWithoutMatrix_35 : decode cRS_scaleWithoutMatrix 35 = .ok (.goto (-33), 3) := by decide +kernel
theorem dRS_scaleWithoutMatrix_38 : decode cRS_scaleWithoutMatrix 38 = .ok (.return_, 1) := by decide +kernel
abbrev cRS_matrix : ByteArray := prog_10_method_5_code
def yRS_matrix : MethodName := ⟨kR_RS, "matrix", "(III)I"⟩
def wsRS_matrix : List Cond := .code yRS_matrix cRS_matrix 3 (some .int) :: ipW
theorem dRS_matrix_0 : decode cRS_matrix 0 = .ok (.iload_n 0, 1) := by decide +kernel
theorem dRS_matrix_1 : decode cRS_matrix 1 = .ok (.iconst 4, 1) := by decide +kernel
theorem dRS_matrix_2 : decode cRS_matrix 2 = .ok (.if_icmp .ne 13, 3) := by decide +kernel
theorem dRS_matrix_5 : decode cRS_matrix 5 = .ok (.getstatic 59, 3) := by decide +kernel
theorem dRS_matrix_8 : decode cRS_matrix 8 = .ok (.iconst 4, 1) := by decide +kernel
theorem dRS_matrix_9 : decode cRS_matrix 9 = .ok (.iload_n 1, 1) := by decide +kernel
theorem dRS_matrix_10 : decode cRS_matrix 10 = .ok (.imul, 1) := by decide +kernel
theorem dRS_matrix_11 : decode cRS_matrix 11 = .ok (.iload_n 2, 1) := by decide +kernel
theorem dRS_matrix_12 : decode cRS_matrix 12 = .ok (.iadd, 1) := by decide +kernel
theorem dRS_matrix_13 : decode cRS_matrix 13 = .ok (.iaload, 1) := by decide +kernel
theorem dRS_matrix_14 : decode cRS_matrix 14 = .ok (.ireturn, 1) := by decide +kernel
theorem dRS_matrix_15 : decode cRS_matrix 15 = .ok (.iload_n 1, 1) := by decide +kernel
theorem dRS_matrix_16 : decode cRS_matrix 16 = .ok (.ifCond .ne 8, 3) := by decide +kernel
theorem dRS_matrix_19 : decode cRS_matrix 19 = .ok (.bipush 64, 2) := by decide +kernel
theorem dRS_matrix_21 : decode cRS_matrix 21 = .ok (.goto 17, 3) := by decide +kernel
theorem dRS_matrix_24 : decode cRS_matrix 24 = .ok (.getstatic 62, 3) := by decide +kernel
theorem dRS_matrix_27 : decode cRS_matrix 27 = .ok (.iconst 2, 1) := by decide +kernel
theorem dRS_matrix_28 : decode cRS_matrix 28 = .ok (.iload_n 2, 1) := by decide +kernel
theorem dRS_matrix_29 : decode cRS_matrix 29 = .ok (.imul, 1) := by decide +kernel
theorem dRS_matrix_30 : decode cRS_matrix 30 = .ok (.iconst 1, 1) := by decide +kernel
theorem dRS_matrix_31 : decode cRS_matrix 31 = .ok (.iadd, 1) := by decide +kernel
theorem dRS_matrix_32 : decode cRS_matrix 32 = .ok (.iload_n 1, 1) := by decide +kernel
theorem dRS_matrix_33 : decode cRS_matrix 33 = .ok (.imul, 1) := by decide +kernel
theorem dRS_matrix_34 : decode cRS_matrix 34 = .ok (.bipush 32, 2) := by decide +kernel
theorem dRS_matrix_36 : decode cRS_matrix 36 = .ok (.irem, 1) := by decide +kernel
theorem dRS_matrix_37 : decode cRS_matrix 37 = .ok (.iaload, 1) := by decide +kernel
theorem dRS_matrix_38 : decode cRS_matrix 38 = .ok (.ireturn, 1) := by decide +kernel
abbrev cRS_goThroughColumns : ByteArray := prog_10_method_6_code
def yRS_goThroughColumns : MethodName := ⟨kR_RS, "goThroughColumns", "(I)V"⟩
def wsRS_goThroughColumns : List Cond := .code yRS_goThroughColumns cRS_goThroughColumns 6 none :: ipW
theorem dRS_goThroughColumns_0 : decode cRS_goThroughColumns 0 = .ok (.iconst 0, 1) := by decide +kernel
theorem dRS_goThroughColumns_1 : decode cRS_goThroughColumns 1 = .ok (.istore_n 2, 1) := by decide +kernel
theorem dRS_goThroughColumns_2 : decode cRS_goThroughColumns 2 = .ok (.iload_n 2, 1) := by decide +kernel
theorem dRS_goThroughColumns_3 : decode cRS_goThroughColumns 3 = .ok (.iload_n 1, 1) := by decide +kernel
theorem dRS_goThroughColumns_4 : decode cRS_goThroughColumns 4 = .ok (.if_icmp .ge 89, 3) := by decide +kernel
theorem dRS_goThroughColumns_7 : decode cRS_goThroughColumns 7 = .ok (.iconst 0, 1) := by decide +kernel
theorem dRS_goThroughColumns_8 : decode cRS_goThroughColumns 8 = .ok (.istore_n 3, 1) := by decide +kernel
theorem dRS_goThroughColumns_9 : decode cRS_goThroughColumns 9 = .ok (.iload_n 3, 1) := by decide +kernel
theorem dRS_goThroughColumns_10 : decode cRS_goThroughColumns 10 = .ok (.iload_n 1, 1) := by decide +kernel
theorem dRS_goThroughColumns_11 : decode cRS_goThroughColumns 11 = .ok (.if_icmp .ge 76, 3) := by decide +kernel
theorem dRS_goThroughColumns_14 : decode cRS_goThroughColumns 14 = .ok (.bipush 64, 2) := by decide +kernel
theorem dRS_goThroughColumns_16 : decode cRS_goThroughColumns 16 = .ok (.istore 4, 2) := by decide +kernel
theorem dRS_goThroughColumns_18 : decode cRS_goThroughColumns 18 = .ok (.iconst 0, 1) := by decide +kernel
theorem dRS_goThroughColumns_19 : decode cRS_goThroughColumns 19 = .ok (.istore 5, 2) := by decide +kernel
theorem dRS_goThroughColumns_21 : decode cRS_goThroughColumns 21 = .ok (.iload 5, 2) := by decide +kernel
theorem dRS_goThroughColumns_23 : decode cRS_goThroughColumns 23 = .ok (.iload_n 1, 1) := by decide +kernel
theorem dRS_goThroughColumns_24 : decode cRS_goThroughColumns 24 = .ok (.if_icmp .ge 33, 3) := by decide +kernel
theorem dRS_goThroughColumns_27 : decode cRS_goThroughColumns 27 = .ok (.iload 4, 2) := by decide +kernel
theorem dRS_goThroughColumns_29 : decode cRS_goThroughColumns 29 = .ok (.iload_n 1, 1) := by decide +kernel
theorem dRS_goThroughColumns_30 : decode cRS_goThroughColumns 30 = .ok (.iload 5, 2) := by decide +kernel
theorem dRS_goThroughColumns_32 : decode cRS_goThroughColumns 32 = .ok (.iload_n 2, 1) := by decide +kernel
theorem dRS_goThroughColumns_33 : decode cRS_goThroughColumns 33 = .ok (.invokestatic 65, 3) := by decide +kernel
theorem dRS_goThroughColumns_36 : decode cRS_goThroughColumns 36 = .ok (.aload_n 0, 1) := by decide +kernel
theorem dRS_goThroughColumns_37 : decode cRS_goThroughColumns 37 = .ok (.getfield 7, 3) := by decide +kernel
theorem dRS_goThroughColumns_40 : decode cRS_goThroughColumns 40 = .ok (.iload 5, 2) := by decide +kernel
theorem dRS_goThroughColumns_42 : decode cRS_goThroughColumns 42 = .ok (.iload_n 1, 1) := by decide +kernel
theorem dRS_goThroughColumns_43 : decode cRS_goThroughColumns 43 = .ok (.imul, 1) := by decide +kernel
theorem dRS_goThroughColumns_44 : decode cRS_goThroughColumns 44 = .ok (.iload_n 3, 1) := by decide +kernel
theorem dRS_goThroughColumns_45 : decode cRS_goThroughColumns 45 = .ok (.iadd, 1) := by decide +kernel
theorem dRS_goThroughColumns_46 : decode cRS_goThroughColumns 46 = .ok (.iaload, 1) := by decide +kernel
theorem dRS_goThroughColumns_47 : decode cRS_goThroughColumns 47 = .ok (.imul, 1) := by decide +kernel
theorem dRS_goThroughColumns_48 : decode cRS_goThroughColumns 48 = .ok (.iadd, 1) := by decide +kernel
theorem dRS_goThroughColumns_49 : decode cRS_goThroughColumns 49 = .ok (.istore 4, 2) := by decide +kernel
theorem dRS_goThroughColumns_51 : decode cRS_goThroughColumns 51 = .ok (.iinc 5 1, 3) := by decide +kernel
theorem dRS_goThroughColumns_54 : decode cRS_goThroughColumns 54 = .ok (.goto (-33), 3) := by decide +kernel
theorem dRS_goThroughColumns_57 : decode cRS_goThroughColumns 57 = .ok (.aload_n 0, 1) := by decide +kernel
theorem dRS_goThroughColumns_58 : decode cRS_goThroughColumns 58 = .ok (.getfield 13, 3) := by decide +kernel
theorem dRS_goThroughColumns_61 : decode cRS_goThroughColumns 61 = .ok (.iload_n 2, 1) := by decide +kernel
theorem dRS_goThroughColumns_62 : decode cRS_goThroughColumns 62 = .ok (.iload_n 1, 1) := by decide +kernel
theorem dRS_goThroughColumns_63 : decode cRS_goThroughColumns 63 = .ok (.imul, 1) := by decide +kernel
theorem dRS_goThroughColumns_64 : decode cRS_goThroughColumns 64 = .ok (.iload_n 3, 1) := by decide +kernel
theorem dRS_goThroughColumns_65 : decode cRS_goThroughColumns 65 = .ok (.iadd, 1) := by decide +kernel
theorem dRS_goThroughColumns_66 : decode cRS_goThroughColumns 66 = .ok (.iload 4, 2) := by decide +kernel
theorem dRS_goThroughColumns_68 : decode cRS_goThroughColumns 68 = .ok (.bipush 7, 2) := by decide +kernel
theorem dRS_goThroughColumns_70 : decode cRS_goThroughColumns 70 = .ok (.ishr, 1) := by decide +kernel
theorem dRS_goThroughColumns_71 : decode cRS_goThroughColumns 71 = .ok (.sipush (-32768), 3) := by decide +kernel
theorem dRS_goThroughColumns_74 : decode cRS_goThroughColumns 74 = .ok (.sipush 32767, 3) := by decide +kernel
theorem dRS_goThroughColumns_77 : decode cRS_goThroughColumns 77 = .ok (.invokestatic 53, 3) := by decide +kernel
theorem dRS_goThroughColumns_80 : decode cRS_goThroughColumns 80 = .ok (.iastore, 1) := by decide +kernel
theorem dRS_goThroughColumns_81 : decode cRS_goThroughColumns 81 = .ok (.iinc 3 1, 3) := by decide +kernel
theorem dRS_goThroughColumns_84 : decode cRS_goThroughColumns 84 = .ok (.goto (-75), 3) := by decide +kernel
theorem dRS_goThroughColumns_87 : decode cRS_goThroughColumns 87 = .ok (.iinc 2 1, 3) := by decide +kernel
theorem dRS_goThroughColumns_90 : decode cRS_goThroughColumns 90 = .ok (.goto (-88), 3) := by decide +kernel
theorem dRS_goThroughColumns_93 : decode cRS_goThroughColumns 93 = .ok (.return_, 1) := by decide +kernel
abbrev cRS_goThroughRows : ByteArray := prog_10_method_7_code
def yRS_goThroughRows : MethodName := ⟨kR_RS, "goThroughRows", "(I)V"⟩
def wsRS_goThroughRows : List Cond := .code yRS_goThroughRows cRS_goThroughRows 6 none :: ipW
theorem dRS_goThroughRows_0 : decode cRS_goThroughRows 0 = .ok (.iconst 0, 1) := by decide +kernel
theorem dRS_goThroughRows_1 : decode cRS_goThroughRows 1 = .ok (.istore_n 2, 1) := by decide +kernel
theorem dRS_goThroughRows_2 : decode cRS_goThroughRows 2 = .ok (.iload_n 2, 1) := by decide +kernel
theorem dRS_goThroughRows_3 : decode cRS_goThroughRows 3 = .ok (.iload_n 1, 1) := by decide +kernel
theorem dRS_goThroughRows_4 : decode cRS_goThroughRows 4 = .ok (.if_icmp .ge 81, 3) := by decide +kernel
theorem dRS_goThroughRows_7 : decode cRS_goThroughRows 7 = .ok (.iconst 0, 1) := by decide +kernel
theorem dRS_goThroughRows_8 : decode cRS_goThroughRows 8 = .ok (.istore_n 3, 1) := by decide +kernel
theorem dRS_goThroughRows_9 : decode cRS_goThroughRows 9 = .ok (.iload_n 3, 1) := by decide +kernel
theorem dRS_goThroughRows_10 : decode cRS_goThroughRows 10 = .ok (.iload_n 1, 1) := by decide +kernel
theorem dRS_goThroughRows_11 : decode cRS_goThroughRows 11 = .ok (.if_icmp .ge 68, 3) := by decide +kernel
theorem dRS_goThroughRows_14 : decode cRS_goThroughRows 14 = .ok (.sipush 2048, 3) := by decide +kernel
theorem dRS_goThroughRows_17 : decode cRS_goThroughRows 17 = .ok (.istore 4, 2) := by decide +kernel
theorem dRS_goThroughRows_19 : decode cRS_goThroughRows 19 = .ok (.iconst 0, 1) := by decide +kernel
theorem dRS_goThroughRows_20 : decode cRS_goThroughRows 20 = .ok (.istore 5, 2) := by decide +kernel
theorem dRS_goThroughRows_22 : decode cRS_goThroughRows 22 = .ok (.iload 5, 2) := by decide +kernel
theorem dRS_goThroughRows_24 : decode cRS_goThroughRows 24 = .ok (.iload_n 1, 1) := by decide +kernel
theorem dRS_goThroughRows_25 : decode cRS_goThroughRows 25 = .ok (.if_icmp .ge 33, 3) := by decide +kernel
theorem dRS_goThroughRows_28 : decode cRS_goThroughRows 28 = .ok (.iload 4, 2) := by decide +kernel
theorem dRS_goThroughRows_30 : decode cRS_goThroughRows 30 = .ok (.iload_n 1, 1) := by decide +kernel
theorem dRS_goThroughRows_31 : decode cRS_goThroughRows 31 = .ok (.iload 5, 2) := by decide +kernel
theorem dRS_goThroughRows_33 : decode cRS_goThroughRows 33 = .ok (.iload_n 3, 1) := by decide +kernel
theorem dRS_goThroughRows_34 : decode cRS_goThroughRows 34 = .ok (.invokestatic 65, 3) := by decide +kernel
theorem dRS_goThroughRows_37 : decode cRS_goThroughRows 37 = .ok (.aload_n 0, 1) := by decide +kernel
theorem dRS_goThroughRows_38 : decode cRS_goThroughRows 38 = .ok (.getfield 13, 3) := by decide +kernel
theorem dRS_goThroughRows_41 : decode cRS_goThroughRows 41 = .ok (.iload_n 2, 1) := by decide +kernel
theorem dRS_goThroughRows_42 : decode cRS_goThroughRows 42 = .ok (.iload_n 1, 1) := by decide +kernel
theorem dRS_goThroughRows_43 : decode cRS_goThroughRows 43 = .ok (.imul, 1) := by decide +kernel
theorem dRS_goThroughRows_44 : decode cRS_goThroughRows 44 = .ok (.iload 5, 2) := by decide +kernel
theorem dRS_goThroughRows_46 : decode cRS_goThroughRows 46 = .ok (.iadd, 1) := by decide +kernel
theorem dRS_goThroughRows_47 : decode cRS_goThroughRows 47 = .ok (.iaload, 1) := by decide +kernel
theorem dRS_goThroughRows_48 : decode cRS_goThroughRows 48 = .ok (.imul, 1) := by decide +kernel
theorem dRS_goThroughRows_49 : decode cRS_goThroughRows 49 = .ok (.iadd, 1) := by decide +kernel
theorem dRS_goThroughRows_50 : decode cRS_goThroughRows 50 = .ok (.istore 4, 2) := by decide +kernel
theorem dRS_goThroughRows_52 : decode cRS_goThroughRows 52 = .ok (.iinc 5 1, 3) := by decide +kernel
theorem dRS_goThroughRows_55 : decode cRS_goThroughRows 55 = .ok (.goto (-33), 3) := by decide +kernel
theorem dRS_goThroughRows_58 : decode cRS_goThroughRows 58 = .ok (.aload_n 0, 1) := by decide +kernel
theorem dRS_goThroughRows_59 : decode cRS_goThroughRows 59 = .ok (.getfield 16, 3) := by decide +kernel
theorem dRS_goThroughRows_62 : decode cRS_goThroughRows 62 = .ok (.iload_n 2, 1) := by decide +kernel
theorem dRS_goThroughRows_63 : decode cRS_goThroughRows 63 = .ok (.iload_n 1, 1) := by decide +kernel
theorem dRS_goThroughRows_64 : decode cRS_goThroughRows 64 = .ok (.imul, 1) := by decide +kernel
theorem dRS_goThroughRows_65 : decode cRS_goThroughRows 65 = .ok (.iload_n 3, 1) := by decide +kernel
theorem dRS_goThroughRows_66 : decode cRS_goThroughRows 66 = .ok (.iadd, 1) := by decide +kernel
theorem dRS_goThroughRows_67 : decode cRS_goThroughRows 67 = .ok (.iload 4, 2) := by decide +kernel
theorem dRS_goThroughRows_69 : decode cRS_goThroughRows 69 = .ok (.bipush 12, 2) := by decide +kernel
theorem dRS_goThroughRows_71 : decode cRS_goThroughRows 71 = .ok (.ishr, 1) := by decide +kernel
theorem dRS_goThroughRows_72 : decode cRS_goThroughRows 72 = .ok (.iastore, 1) := by decide +kernel
theorem dRS_goThroughRows_73 : decode cRS_goThroughRows 73 = .ok (.iinc 3 1, 3) := by decide +kernel
theorem dRS_goThroughRows_76 : decode cRS_goThroughRows 76 = .ok (.goto (-67), 3) := by decide +kernel
theorem dRS_goThroughRows_79 : decode cRS_goThroughRows 79 = .ok (.iinc 2 1, 3) := by decide +kernel
theorem dRS_goThroughRows_82 : decode cRS_goThroughRows 82 = .ok (.goto (-80), 3) := by decide +kernel
theorem dRS_goThroughRows_85 : decode cRS_goThroughRows 85 = .ok (.return_, 1) := by decide +kernel
abbrev cPR_predict : ByteArray := prog_9_method_2_code
def yPR_predict : MethodName := ⟨kR_PR, "predict", "(LIntraPicture$Leaf;)V"⟩
def wsPR_predict : List Cond := .code yPR_predict cPR_predict 6 none :: ipW
theorem dPR_predict_0 : decode cPR_predict 0 = .ok (.aload_n 0, 1) := by decide +kernel
theorem dPR_predict_1 : decode cPR_predict 1 = .ok (.aload_n 1, 1) := by decide +kernel
theorem dPR_predict_2 : decode cPR_predict 2 = .ok (.getfield 22, 3) := by decide +kernel
theorem dPR_predict_5 : decode cPR_predict 5 = .ok (.putfield 28, 3) := by decide +kernel
theorem dPR_predict_8 : decode cPR_predict 8 = .ok (.aload_n 0, 1) := by decide +kernel
theorem dPR_predict_9 : decode cPR_predict 9 = .ok (.aload_n 1, 1) := by decide +kernel
theorem dPR_predict_10 : decode cPR_predict 10 = .ok (.invokevirtual 29, 3) := by decide +kernel
theorem dPR_predict_13 : decode cPR_predict 13 = .ok (.aload_n 0, 1) := by decide +kernel
theorem dPR_predict_14 : decode cPR_predict 14 = .ok (.invokevirtual 33, 3) := by decide +kernel
theorem dPR_predict_17 : decode cPR_predict 17 = .ok (.aload_n 0, 1) := by decide +kernel
theorem dPR_predict_18 : decode cPR_predict 18 = .ok (.getfield 28, 3) := by decide +kernel
theorem dPR_predict_21 : decode cPR_predict 21 = .ok (.bipush 8, 2) := by decide +kernel
theorem dPR_predict_23 : decode cPR_predict 23 = .ok (.if_icmp .ne 31, 3) := by decide +kernel
theorem dPR_predict_26 : decode cPR_predict 26 = .ok (.aload_n 1, 1) := by decide +kernel
theorem dPR_predict_27 : decode cPR_predict 27 = .ok (.getfield 36, 3) := by decide +kernel
theorem dPR_predict_30 : decode cPR_predict 30 = .ok (.ifCond .eq 20, 3) := by decide +kernel
theorem dPR_predict_33 : decode cPR_predict 33 = .ok (.aload_n 1, 1) := by decide +kernel
theorem dPR_predict_34 : decode cPR_predict 34 = .ok (.getfield 36, 3) := by decide +kernel
theorem dPR_predict_37 : decode cPR_predict 37 = .ok (.iconst 5, 1) := by decide +kernel
theorem dPR_predict_38 : decode cPR_predict 38 = .ok (.if_icmp .eq 12, 3) := by decide +kernel
theorem dPR_predict_41 : decode cPR_predict 41 = .ok (.aload_n 1, 1) := by decide +kernel
theorem dPR_predict_42 : decode cPR_predict 42 = .ok (.getfield 36, 3) := by decide +kernel
theorem dPR_predict_45 : decode cPR_predict 45 = .ok (.bipush 7, 2) := by decide +kernel
theorem dPR_predict_47 : decode cPR_predict 47 = .ok (.if_icmp .ne 7, 3) := by decide +kernel
theorem dPR_predict_50 : decode cPR_predict 50 = .ok (.aload_n 0, 1) := by decide +kernel
theorem dPR_predict_51 : decode cPR_predict 51 = .ok (.invokevirtual 39, 3) := by decide +kernel
theorem dPR_predict_54 : decode cPR_predict 54 = .ok (.aload_n 1, 1) := by decide +kernel
theorem dPR_predict_55 : decode cPR_predict 55 = .ok (.getfield 36, 3) := by decide +kernel
theorem dPR_predict_58 : decode cPR_predict 58 = .ok (.iconst 1, 1) := by decide +kernel
theorem dPR_predict_59 : decode cPR_predict 59 = .ok (.if_icmp .ne 10, 3) := by decide +kernel
theorem dPR_predict_62 : decode cPR_predict 62 = .ok (.aload_n 0, 1) := by decide +kernel
theorem dPR_predict_63 : decode cPR_predict 63 = .ok (.invokevirtual 42, 3) := by decide +kernel
theorem dPR_predict_66 : decode cPR_predict 66 = .ok (.goto 4, 3) := by decide +kernel
theorem dPR_predict_69 : decode cPR_predict 69 = .ok (.iconst 0, 1) := by decide +kernel
theorem dPR_predict_70 : decode cPR_predict 70 = .ok (.istore_n 2, 1) := by decide +kernel
theorem dPR_predict_71 : decode cPR_predict 71 = .ok (.iconst 0, 1) := by decide +kernel
theorem dPR_predict_72 : decode cPR_predict 72 = .ok (.istore_n 3, 1) := by decide +kernel
theorem dPR_predict_73 : decode cPR_predict 73 = .ok (.iload_n 3, 1) := by decide +kernel
theorem dPR_predict_74 : decode cPR_predict 74 = .ok (.aload_n 0, 1) := by decide +kernel
theorem dPR_predict_75 : decode cPR_predict 75 = .ok (.getfield 28, 3) := by decide +kernel
theorem dPR_predict_78 : decode cPR_predict 78 = .ok (.if_icmp .ge 69, 3) := by decide +kernel
theorem dPR_predict_81 : decode cPR_predict 81 = .ok (.iconst 0, 1) := by decide +kernel
theorem dPR_predict_82 : decode cPR_predict 82 = .ok (.istore 4, 2) := by decide +kernel
theorem dPR_predict_84 : decode cPR_predict 84 = .ok (.iload 4, 2) := by decide +kernel
theorem dPR_predict_86 : decode cPR_predict 86 = .ok (.aload_n 0, 1) := by decide +kernel
theorem dPR_predict_87 : decode cPR_predict 87 = .ok (.getfield 28, 3) := by decide +kernel
theorem dPR_predict_90 : decode cPR_predict 90 = .ok (.if_icmp .ge 51, 3) := by decide +kernel
theorem dPR_predict_93 : decode cPR_predict 93 = .ok (.aload_n 1, 1) := by decide +kernel
theorem dPR_predict_94 : decode cPR_predict 94 = .ok (.getfield 36, 3) := by decide +kernel
theorem dPR_predict_97 : decode cPR_predict 97 = .ok (.iconst 1, 1) := by decide +kernel
theorem dPR_predict_98 : decode cPR_predict 98 = .ok (.if_icmp .ne 7, 3) := by decide +kernel
theorem dPR_predict_101 : decode cPR_predict 101 = .ok (.iload_n 2, 1) := by decide +kernel
theorem dPR_predict_102 : decode cPR_predict 102 = .ok (.goto 14, 3) := by decide +kernel
theorem dPR_predict_105 : decode cPR_predict 105 = .ok (.aload_n 0, 1) := by decide +kernel
theorem dPR_predict_106 : decode cPR_predict 106 = .ok (.aload_n 1, 1) := by decide +kernel
theorem dPR_predict_107 : decode cPR_predict 107 = .ok (.getfield 36, 3) := by decide +kernel
theorem dPR_predict_110 : decode cPR_predict 110 = .ok (.iload 4, 2) := by decide +kernel
theorem dPR_predict_112 : decode cPR_predict 112 = .ok (.iload_n 3, 1) := by decide +kernel
theorem dPR_predict_113 : decode cPR_predict 113 = .ok (.invokevirtual 46, 3) := by decide +kernel
theorem dPR_predict_116 : decode cPR_predict 116 = .ok (.istore 5, 2) := by decide +kernel
theorem dPR_predict_118 : decode cPR_predict 118 = .ok (.aload_n 0, 1) := by decide +kernel
theorem dPR_predict_119 : decode cPR_predict 119 = .ok (.getfield 18, 3) := by decide +kernel
theorem dPR_predict_122 : decode cPR_predict 122 = .ok (.getfield 50, 3) := by decide +kernel
theorem dPR_predict_125 : decode cPR_predict 125 = .ok (.aload_n 1, 1) := by decide +kernel
theorem dPR_predict_126 : decode cPR_predict 126 = .ok (.iload 4, 2) := by decide +kernel
theorem dPR_predict_128 : decode cPR_predict 128 = .ok (.iload_n 3, 1) := by decide +kernel
theorem dPR_predict_129 : decode cPR_predict 129 = .ok (.invokevirtual 55, 3) := by decide +kernel
theorem dPR_predict_132 : decode cPR_predict 132 = .ok (.iload 5, 2) := by decide +kernel
theorem dPR_predict_134 : decode cPR_predict 134 = .ok (.iastore, 1) := by decide +kernel
theorem dPR_predict_135 : decode cPR_predict 135 = .ok (.iinc 4 1, 3) := by decide +kernel
theorem dPR_predict_138 : decode cPR_predict 138 = .ok (.goto (-54), 3) := by decide +kernel
theorem dPR_predict_141 : decode cPR_predict 141 = .ok (.iinc 3 1, 3) := by decide +kernel
theorem dPR_predict_144 : decode cPR_predict 144 = .ok (.goto (-71), 3) := by decide +kernel
theorem dPR_predict_147 : decode cPR_predict 147 = .ok (.return_, 1) := by decide +kernel
abbrev cPR_left : ByteArray := prog_9_method_3_code
def yPR_left : MethodName := ⟨kR_PR, "left", "(I)I"⟩
def wsPR_left : List Cond := .code yPR_left cPR_left 2 (some .int) :: ipW
theorem dPR_left_0 : decode cPR_left 0 = .ok (.aload_n 0, 1) := by decide +kernel
theorem dPR_left_1 : decode cPR_left 1 = .ok (.getfield 11, 3) := by decide +kernel
theorem dPR_left_4 : decode cPR_left 4 = .ok (.iconst 2, 1) := by decide +kernel
theorem dPR_left_5 : decode cPR_left 5 = .ok (.aload_n 0, 1) := by decide +kernel
theorem dPR_left_6 : decode cPR_left 6 = .ok (.getfield 28, 3) := by decide +kernel
theorem dPR_left_9 : decode cPR_left 9 = .ok (.imul, 1) := by decide +kernel
theorem dPR_left_10 : decode cPR_left 10 = .ok (.iconst 1, 1) := by decide +kernel
theorem dPR_left_11 : decode cPR_left 11 = .ok (.isub, 1) := by decide +kernel
theorem dPR_left_12 : decode cPR_left 12 = .ok (.iload_n 1, 1) := by decide +kernel
theorem dPR_left_13 : decode cPR_left 13 = .ok (.isub, 1) := by decide +kernel
theorem dPR_left_14 : decode cPR_left 14 = .ok (.iaload, 1) := by decide +kernel
theorem dPR_left_15 : decode cPR_left 15 = .ok (.ireturn, 1) := by decide +kernel
abbrev cPR_above : ByteArray := prog_9_method_4_code
def yPR_above : MethodName := ⟨kR_PR, "above", "(I)I"⟩
def wsPR_above : List Cond := .code yPR_above cPR_above 2 (some .int) :: ipW
theorem dPR_above_0 : decode cPR_above 0 = .ok (.aload_n 0, 1) := by decide +kernel
theorem dPR_above_1 : decode cPR_above 1 = .ok (.getfield 11, 3) := by decide +kernel
theorem dPR_above_4 : decode cPR_above 4 = .ok (.iconst 2, 1) := by decide +kernel
theorem dPR_above_5 : decode cPR_above 5 = .ok (.aload_n 0, 1) := by decide +kernel
theorem dPR_above_6 : decode cPR_above 6 = .ok (.getfield 28, 3) := by decide +kernel
theorem dPR_above_9 : decode cPR_above 9 = .ok (.imul, 1) := by decide +kernel
theorem dPR_above_10 : decode cPR_above 10 = .ok (.iconst 1, 1) := by decide +kernel
theorem dPR_above_11 : decode cPR_above 11 = .ok (.iadd, 1) := by decide +kernel
theorem dPR_above_12 : decode cPR_above 12 = .ok (.iload_n 1, 1) := by decide +kernel
theorem dPR_above_13 : decode cPR_above 13 = .ok (.iadd, 1) := by decide +kernel
theorem dPR_above_14 : decode cPR_above 14 = .ok (.iaload, 1) := by decide +kernel
theorem dPR_above_15 : decode cPR_above 15 = .ok (.ireturn, 1) := by decide +kernel
abbrev cPR_corner : ByteArray := prog_9_method_5_code
def yPR_corner : MethodName := ⟨kR_PR, "corner", "()I"⟩
def wsPR_corner : List Cond := .code yPR_corner cPR_corner 1 (some .int) :: ipW
theorem dPR_corner_0 : decode cPR_corner 0 = .ok (.aload_n 0, 1) := by decide +kernel
theorem dPR_corner_1 : decode cPR_corner 1 = .ok (.getfield 11, 3) := by decide +kernel
theorem dPR_corner_4 : decode cPR_corner 4 = .ok (.iconst 2, 1) := by decide +kernel
theorem dPR_corner_5 : decode cPR_corner 5 = .ok (.aload_n 0, 1) := by decide +kernel
theorem dPR_corner_6 : decode cPR_corner 6 = .ok (.getfield 28, 3) := by decide +kernel
theorem dPR_corner_9 : decode cPR_corner 9 = .ok (.imul, 1) := by decide +kernel
theorem dPR_corner_10 : decode cPR_corner 10 = .ok (.iaload, 1) := by decide +kernel
theorem dPR_corner_11 : decode cPR_corner 11 = .ok (.ireturn, 1) := by decide +kernel
abbrev cPR_collect : ByteArray := prog_9_method_6_code
def yPR_collect : MethodName := ⟨kR_PR, "collect", "(LIntraPicture$Leaf;)V"⟩
def wsPR_collect : List Cond := .code yPR_collect cPR_collect 6 none :: ipW
theorem dPR_collect_0 : decode cPR_collect 0 = .ok (.iconst 0, 1) := by decide +kernel
theorem dPR_collect_1 : decode cPR_collect 1 = .ok (.istore_n 2, 1) := by decide +kernel
theorem dPR_collect_2 : decode cPR_collect 2 = .ok (.iload_n 2, 1) := by decide +kernel
theorem dPR_collect_3 : decode cPR_collect 3 = .ok (.iconst 4, 1) := by decide +kernel
theorem dPR_collect_4 : decode cPR_collect 4 = .ok (.aload_n 0, 1) := by decide +kernel
theorem dPR_collect_5 : decode cPR_collect 5 = .ok (.getfield 28, 3) := by decide +kernel
theorem dPR_collect_8 : decode cPR_collect 8 = .ok (.imul, 1) := by decide +kernel
theorem dPR_collect_9 : decode cPR_collect 9 = .ok (.if_icmp .gt 112, 3) := by decide +kernel
theorem dPR_collect_12 : decode cPR_collect 12 = .ok (.aload_n 1, 1) := by decide +kernel
theorem dPR_collect_13 : decode cPR_collect 13 = .ok (.getfield 59, 3) := by decide +kernel
theorem dPR_collect_16 : decode cPR_collect 16 = .ok (.iconst (-1), 1) := by decide +kernel
theorem dPR_collect_17 : decode cPR_collect 17 = .ok (.iload_n 2, 1) := by decide +kernel
theorem dPR_collect_18 : decode cPR_collect 18 = .ok (.iconst 2, 1) := by decide +kernel
theorem dPR_collect_19 : decode cPR_collect 19 = .ok (.aload_n 0, 1) := by decide +kernel
theorem dPR_collect_20 : decode cPR_collect 20 = .ok (.getfield 28, 3) := by decide +kernel
theorem dPR_collect_23 : decode cPR_collect 23 = .ok (.imul, 1) := by decide +kernel
theorem dPR_collect_24 : decode cPR_collect 24 = .ok (.isub, 1) := by decide +kernel
theorem dPR_collect_25 : decode cPR_collect 25 = .ok (.iconst 1, 1) := by decide +kernel
theorem dPR_collect_26 : decode cPR_collect 26 = .ok (.isub, 1) := by decide +kernel
theorem dPR_collect_27 : decode cPR_collect 27 = .ok (.invokestatic 62, 3) := by decide +kernel
theorem dPR_collect_30 : decode cPR_collect 30 = .ok (.iadd, 1) := by decide +kernel
theorem dPR_collect_31 : decode cPR_collect 31 = .ok (.istore_n 3, 1) := by decide +kernel
theorem dPR_collect_32 : decode cPR_collect 32 = .ok (.aload_n 1, 1) := by decide +kernel
theorem dPR_collect_33 : decode cPR_collect 33 = .ok (.getfield 67, 3) := by decide +kernel
theorem dPR_collect_36 : decode cPR_collect 36 = .ok (.iconst (-1), 1) := by decide +kernel
theorem dPR_collect_37 : decode cPR_collect 37 = .ok (.iconst 2, 1) := by decide +kernel
theorem dPR_collect_38 : decode cPR_collect 38 = .ok (.aload_n 0, 1) := by decide +kernel
theorem dPR_collect_39 : decode cPR_collect 39 = .ok (.getfield 28, 3) := by decide +kernel
theorem dPR_collect_42 : decode cPR_collect 42 = .ok (.imul, 1) := by decide +kernel
theorem dPR_collect_43 : decode cPR_collect 43 = .ok (.iconst 1, 1) := by decide +kernel
theorem dPR_collect_44 : decode cPR_collect 44 = .ok (.isub, 1) := by decide +kernel
theorem dPR_collect_45 : decode cPR_collect 45 = .ok (.iload_n 2, 1) := by decide +kernel
theorem dPR_collect_46 : decode cPR_collect 46 = .ok (.isub, 1) := by decide +kernel
theorem dPR_collect_47 : decode cPR_collect 47 = .ok (.invokestatic 62, 3) := by decide +kernel
theorem dPR_collect_50 : decode cPR_collect 50 = .ok (.iadd, 1) := by decide +kernel
theorem dPR_collect_51 : decode cPR_collect 51 = .ok (.istore 4, 2) := by decide +kernel
theorem dPR_collect_53 : decode cPR_collect 53 = .ok (.iload_n 3, 1) := by decide +kernel
theorem dPR_collect_54 : decode cPR_collect 54 = .ok (.iload 4, 2) := by decide +kernel
theorem dPR_collect_56 : decode cPR_collect 56 = .ok (.invokestatic 70, 3) := by decide +kernel
theorem dPR_collect_59 : decode cPR_collect 59 = .ok (.ifCond .eq 24, 3) := by decide +kernel
theorem dPR_collect_62 : decode cPR_collect 62 = .ok (.aload_n 0, 1) := by decide +kernel
theorem dPR_collect_63 : decode cPR_collect 63 = .ok (.getfield 18, 3) := by decide +kernel
theorem dPR_collect_66 : decode cPR_collect 66 = .ok (.getfield 74, 3) := by decide +kernel
theorem dPR_collect_69 : decode cPR_collect 69 = .ok (.iload_n 3, 1) := by decide +kernel
theorem dPR_collect_70 : decode cPR_collect 70 = .ok (.iload 4, 2) := by decide +kernel
theorem dPR_collect_72 : decode cPR_collect 72 = .ok (.invokestatic 77, 3) := by decide +kernel
theorem dPR_collect_75 : decode cPR_collect 75 = .ok (.iaload, 1) := by decide +kernel
theorem dPR_collect_76 : decode cPR_collect 76 = .ok (.ifCond .eq 7, 3) := by decide +kernel
theorem dPR_collect_79 : decode cPR_collect 79 = .ok (.iconst 1, 1) := by decide +kernel
theorem dPR_collect_80 : decode cPR_collect 80 = .ok (.goto 4, 3) := by decide +kernel
theorem dPR_collect_83 : decode cPR_collect 83 = .ok (.iconst 0, 1) := by decide +kernel
theorem dPR_collect_84 : decode cPR_collect 84 = .ok (.istore 5, 2) := by decide +kernel
theorem dPR_collect_86 : decode cPR_collect 86 = .ok (.aload_n 0, 1) := by decide +kernel
theorem dPR_collect_87 : decode cPR_collect 87 = .ok (.getfield 11, 3) := by decide +kernel
theorem dPR_collect_90 : decode cPR_collect 90 = .ok (.iload_n 2, 1) := by decide +kernel
theorem dPR_collect_91 : decode cPR_collect 91 = .ok (.iload 5, 2) := by decide +kernel
theorem dPR_collect_93 : decode cPR_collect 93 = .ok (.ifCond .eq 20, 3) := by decide +kernel
theorem dPR_collect_96 : decode cPR_collect 96 = .ok (.aload_n 0, 1) := by decide +kernel
theorem dPR_collect_97 : decode cPR_collect 97 = .ok (.getfield 18, 3) := by decide +kernel
theorem dPR_collect_100 : decode cPR_collect 100 = .ok (.getfield 80, 3) := by decide +kernel
theorem dPR_collect_103 : decode cPR_collect 103 = .ok (.iload_n 3, 1) := by decide +kernel
theorem dPR_collect_104 : decode cPR_collect 104 = .ok (.iload 4, 2) := by decide +kernel
theorem dPR_collect_106 : decode cPR_collect 106 = .ok (.invokestatic 77, 3) := by decide +kernel
theorem dPR_collect_109 : decode cPR_collect 109 = .ok (.iaload, 1) := by decide +kernel
theorem dPR_collect_110 : decode cPR_collect 110 = .ok (.goto 4, 3) := by decide +kernel
theorem dPR_collect_113 : decode cPR_collect 113 = .ok (.iconst (-1), 1) := by decide +kernel
theorem dPR_collect_114 : decode cPR_collect 114 = .ok (.iastore, 1) := by decide +kernel
theorem dPR_collect_115 : decode cPR_collect 115 = .ok (.iinc 2 1, 3) := by decide +kernel
theorem dPR_collect_118 : decode cPR_collect 118 = .ok (.goto (-116), 3) := by decide +kernel
theorem dPR_collect_121 : decode cPR_collect 121 = .ok (.return_, 1) := by decide +kernel
abbrev cPR_fillGaps : ByteArray := prog_9_method_7_code
def yPR_fillGaps : MethodName := ⟨kR_PR, "fillGaps", "()V"⟩
def wsPR_fillGaps : List Cond := .code yPR_fillGaps cPR_fillGaps 3 none :: ipW
theorem dPR_fillGaps_0 : decode cPR_fillGaps 0 = .ok (.sipush 128, 3) := by decide +kernel
theorem dPR_fillGaps_3 : decode cPR_fillGaps 3 = .ok (.istore_n 1, 1) := by decide +kernel
theorem dPR_fillGaps_4 : decode cPR_fillGaps 4 = .ok (.iconst 4, 1) := by decide +kernel
theorem dPR_fillGaps_5 : decode cPR_fillGaps 5 = .ok (.aload_n 0, 1) := by decide +kernel
theorem dPR_fillGaps_6 : decode cPR_fillGaps 6 = .ok (.getfield 28, 3) := by decide +kernel
theorem dPR_fillGaps_9 : decode cPR_fillGaps 9 = .ok (.imul, 1) := by decide +kernel
theorem dPR_fillGaps_10 : decode cPR_fillGaps 10 = .ok (.istore_n 2, 1) := by decide +kernel
theorem dPR_fillGaps_11 : decode cPR_fillGaps 11 = .ok (.iload_n 2, 1) := by decide +kernel
theorem dPR_fillGaps_12 : decode cPR_fillGaps 12 = .ok (.ifCond .lt 30, 3) := by decide +kernel
theorem dPR_fillGaps_15 : decode cPR_fillGaps 15 = .ok (.aload_n 0, 1) := by decide +kernel
theorem dPR_fillGaps_16 : decode cPR_fillGaps 16 = .ok (.getfield 11, 3) := by decide +kernel
theorem dPR_fillGaps_19 : decode cPR_fillGaps 19 = .ok (.iload_n 2, 1) := by decide +kernel
theorem dPR_fillGaps_20 : decode cPR_fillGaps 20 = .ok (.iaload, 1) := by decide +kernel
theorem dPR_fillGaps_21 : decode cPR_fillGaps 21 = .ok (.iconst (-1), 1) := by decide +kernel
theorem dPR_fillGaps_22 : decode cPR_fillGaps 22 = .ok (.if_icmp .ne 7, 3) := by decide +kernel
theorem dPR_fillGaps_25 : decode cPR_fillGaps 25 = .ok (.iload_n 1, 1) := by decide +kernel
theorem dPR_fillGaps_26 : decode cPR_fillGaps 26 = .ok (.goto 9, 3) := by decide +kernel
theorem dPR_fillGaps_29 : decode cPR_fillGaps 29 = .ok (.aload_n 0, 1) := by decide +kernel
theorem dPR_fillGaps_30 : decode cPR_fillGaps 30 = .ok (.getfield 11, 3) := by decide +kernel
theorem dPR_fillGaps_33 : decode cPR_fillGaps 33 = .ok (.iload_n 2, 1) := by decide +kernel
theorem dPR_fillGaps_34 : decode cPR_fillGaps 34 = .ok (.iaload, 1) := by decide +kernel
theorem dPR_fillGaps_35 : decode cPR_fillGaps 35 = .ok (.istore_n 1, 1) := by decide +kernel
theorem dPR_fillGaps_36 : decode cPR_fillGaps 36 = .ok (.iinc 2 (-1), 3) := by decide +kernel
theorem dPR_fillGaps_39 : decode cPR_fillGaps 39 = .ok (.goto (-28), 3) := by decide +kernel
theorem dPR_fillGaps_42 : decode cPR_fillGaps 42 = .ok (.iconst 0, 1) := by decide +kernel
theorem dPR_fillGaps_43 : decode cPR_fillGaps 43 = .ok (.istore_n 2, 1) := by decide +kernel
theorem dPR_fillGaps_44 : decode cPR_fillGaps 44 = .ok (.iload_n 2, 1) := by decide +kernel
theorem dPR_fillGaps_45 : decode cPR_fillGaps 45 = .ok (.iconst 4, 1) := by decide +kernel
theorem dPR_fillGaps_46 : decode cPR_fillGaps 46 = .ok (.aload_n 0, 1) := by decide +kernel
theorem dPR_fillGaps_47 : decode cPR_fillGaps 47 = .ok (.getfield 28, 3) := by decide +kernel
theorem dPR_fillGaps_50 : decode cPR_fillGaps 50 = .ok (.imul, 1) := by decide +kernel
theorem dPR_fillGaps_51 : decode cPR_fillGaps 51 = .ok (.if_icmp .gt 37, 3) := by decide +kernel
theorem dPR_fillGaps_54 : decode cPR_fillGaps 54 = .ok (.aload_n 0, 1) := by decide +kernel
theorem dPR_fillGaps_55 : decode cPR_fillGaps 55 = .ok (.getfield 11, 3) := by decide +kernel
theorem dPR_fillGaps_58 : decode cPR_fillGaps 58 = .ok (.iload_n 2, 1) := by decide +kernel
theorem dPR_fillGaps_59 : decode cPR_fillGaps 59 = .ok (.iaload, 1) := by decide +kernel
theorem dPR_fillGaps_60 : decode cPR_fillGaps 60 = .ok (.iconst (-1), 1) := by decide +kernel
theorem dPR_fillGaps_61 : decode cPR_fillGaps 61 = .ok (.if_icmp .ne 7, 3) := by decide +kernel
theorem dPR_fillGaps_64 : decode cPR_fillGaps 64 = .ok (.iload_n 1, 1) := by decide +kernel
theorem dPR_fillGaps_65 : decode cPR_fillGaps 65 = .ok (.goto 9, 3) := by decide +kernel
theorem dPR_fillGaps_68 : decode cPR_fillGaps 68 = .ok (.aload_n 0, 1) := by decide +kernel
theorem dPR_fillGaps_69 : decode cPR_fillGaps 69 = .ok (.getfield 11, 3) := by decide +kernel
theorem dPR_fillGaps_72 : decode cPR_fillGaps 72 = .ok (.iload_n 2, 1) := by decide +kernel
theorem dPR_fillGaps_73 : decode cPR_fillGaps 73 = .ok (.iaload, 1) := by decide +kernel
theorem dPR_fillGaps_74 : decode cPR_fillGaps 74 = .ok (.istore_n 1, 1) := by decide +kernel
theorem dPR_fillGaps_75 : decode cPR_fillGaps 75 = .ok (.aload_n 0, 1) := by decide +kernel
theorem dPR_fillGaps_76 : decode cPR_fillGaps 76 = .ok (.getfield 11, 3) := by decide +kernel
theorem dPR_fillGaps_79 : decode cPR_fillGaps 79 = .ok (.iload_n 2, 1) := by decide +kernel
theorem dPR_fillGaps_80 : decode cPR_fillGaps 80 = .ok (.iload_n 1, 1) := by decide +kernel
theorem dPR_fillGaps_81 : decode cPR_fillGaps 81 = .ok (.iastore, 1) := by decide +kernel
theorem dPR_fillGaps_82 : decode cPR_fillGaps 82 = .ok (.iinc 2 1, 3) := by decide +kernel
theorem dPR_fillGaps_85 : decode cPR_fillGaps 85 = .ok (.goto (-41), 3) := by decide +kernel
theorem dPR_fillGaps_88 : decode cPR_fillGaps 88 = .ok (.return_, 1) := by decide +kernel
abbrev cPR_smooth : ByteArray := prog_9_method_8_code
def yPR_smooth : MethodName := ⟨kR_PR, "smooth", "()V"⟩
def wsPR_smooth : List Cond := .code yPR_smooth cPR_smooth 2 none :: ipW
theorem dPR_smooth_0 : decode cPR_smooth 0 = .ok (.aload_n 0, 1) := by decide +kernel
theorem dPR_smooth_1 : decode cPR_smooth 1 = .ok (.getfield 11, 3) := by decide +kernel
theorem dPR_smooth_4 : decode cPR_smooth 4 = .ok (.iconst 0, 1) := by decide +kernel
theorem dPR_smooth_5 : decode cPR_smooth 5 = .ok (.aload_n 0, 1) := by decide +kernel
theorem dPR_smooth_6 : decode cPR_smooth 6 = .ok (.getfield 15, 3) := by decide +kernel
theorem dPR_smooth_9 : decode cPR_smooth 9 = .ok (.iconst 0, 1) := by decide +kernel
theorem dPR_smooth_10 : decode cPR_smooth 10 = .ok (.bipush 33, 2) := by decide +kernel
theorem dPR_smooth_12 : decode cPR_smooth 12 = .ok (.invokestatic 83, 3) := by decide +kernel
theorem dPR_smooth_15 : decode cPR_smooth 15 = .ok (.iconst 1, 1) := by decide +kernel
theorem dPR_smooth_16 : decode cPR_smooth 16 = .ok (.istore_n 1, 1) := by decide +kernel
theorem dPR_smooth_17 : decode cPR_smooth 17 = .ok (.iload_n 1, 1) := by decide +kernel
theorem dPR_smooth_18 : decode cPR_smooth 18 = .ok (.iconst 4, 1) := by decide +kernel
theorem dPR_smooth_19 : decode cPR_smooth 19 = .ok (.aload_n 0, 1) := by decide +kernel
theorem dPR_smooth_20 : decode cPR_smooth 20 = .ok (.getfield 28, 3) := by decide +kernel
theorem dPR_smooth_23 : decode cPR_smooth 23 = .ok (.imul, 1) := by decide +kernel
theorem dPR_smooth_24 : decode cPR_smooth 24 = .ok (.if_icmp .ge 45, 3) := by decide +kernel
theorem dPR_smooth_27 : decode cPR_smooth 27 = .ok (.aload_n 0, 1) := by decide +kernel
theorem dPR_smooth_28 : decode cPR_smooth 28 = .ok (.getfield 11, 3) := by decide +kernel
theorem dPR_smooth_31 : decode cPR_smooth 31 = .ok (.iload_n 1, 1) := by decide +kernel
theorem dPR_smooth_32 : decode cPR_smooth 32 = .ok (.aload_n 0, 1) := by decide +kernel
theorem dPR_smooth_33 : decode cPR_smooth 33 = .ok (.getfield 15, 3) := by decide +kernel
theorem dPR_smooth_36 : decode cPR_smooth 36 = .ok (.iload_n 1, 1) := by decide +kernel
theorem dPR_smooth_37 : decode cPR_smooth 37 = .ok (.iconst 1, 1) := by decide +kernel
theorem dPR_smooth_38 : decode cPR_smooth 38 = .ok (.isub, 1) := by decide +kernel
theorem dPR_smooth_39 : decode cPR_smooth 39 = .ok (.iaload, 1) := by decide +kernel
theorem dPR_smooth_40 : decode cPR_smooth 40 = .ok (.iconst 2, 1) := by decide +kernel
theorem dPR_smooth_41 : decode cPR_smooth 41 = .ok (.aload_n 0, 1) := by decide +kernel
theorem dPR_smooth_42 : decode cPR_smooth 42 = .ok (.getfield 15, 3) := by decide +kernel
theorem dPR_smooth_45 : decode cPR_smooth 45 = .ok (.iload_n 1, 1) := by decide +kernel
theorem dPR_smooth_46 : decode cPR_smooth 46 = .ok (.iaload, 1) := by decide +kernel
theorem dPR_smooth_47 : decode cPR_smooth 47 = .ok (.imul, 1) := by decide +kernel
theorem dPR_smooth_48 : decode cPR_smooth 48 = .ok (.iadd, 1) := by decide +kernel
theorem dPR_smooth_49 : decode cPR_smooth 49 = .ok (.aload_n 0, 1) := by decide +kernel
theorem dPR_smooth_50 : decode cPR_smooth 50 = .ok (.getfield 15, 3) := by decide +kernel
theorem dPR_smooth_53 : decode cPR_smooth 53 = .ok (.iload_n 1, 1) := by decide +kernel
theorem dPR_smooth_54 : decode cPR_smooth 54 = .ok (.iconst 1, 1) := by decide +kernel
theorem dPR_smooth_55 : decode cPR_smooth 55 = .ok (.iadd, 1) := by decide +kernel
theorem dPR_smooth_56 : decode cPR_smooth 56 = .ok (.iaload, 1) := by decide +kernel
theorem dPR_smooth_57 : decode cPR_smooth 57 = .ok (.iadd, 1) := by decide +kernel
theorem dPR_smooth_58 : decode cPR_smooth 58 = .ok (.iconst 2, 1) := by decide +kernel
theorem dPR_smooth_59 : decode cPR_smooth 59 = .ok (.iadd, 1) := by decide +kernel
theorem dPR_smooth_60 : decode cPR_smooth 60 = .ok (.iconst 2, 1) := by decide +kernel
theorem dPR_smooth_61 : decode cPR_smooth 61 = .ok (.ishr, 1) := by decide +kernel
theorem dPR_smooth_62 : decode cPR_smooth 62 = .ok (.iastore, 1) := by decide +kernel
theorem dPR_smooth_63 : decode cPR_smooth 63 = .ok (.iinc 1 1, 3) := by decide +kernel
theorem dPR_smooth_66 : decode cPR_smooth 66 = .ok (.goto (-49), 3) := by decide +kernel
theorem dPR_smooth_69 : decode cPR_smooth 69 = .ok (.return_, 1) := by decide +kernel
abbrev cPR_mean : ByteArray := prog_9_method_9_code
def yPR_mean : MethodName := ⟨kR_PR, "mean", "()I"⟩
def wsPR_mean : List Cond := .code yPR_mean cPR_mean 3 (some .int) :: ipW
theorem dPR_mean_0 : decode cPR_mean 0 = .ok (.aload_n 0, 1) := by decide +kernel
theorem dPR_mean_1 : decode cPR_mean 1 = .ok (.getfield 28, 3) := by decide +kernel
theorem dPR_mean_4 : decode cPR_mean 4 = .ok (.istore_n 1, 1) := by decide +kernel
theorem dPR_mean_5 : decode cPR_mean 5 = .ok (.iconst 0, 1) := by decide +kernel
theorem dPR_mean_6 : decode cPR_mean 6 = .ok (.istore_n 2, 1) := by decide +kernel
theorem dPR_mean_7 : decode cPR_mean 7 = .ok (.iload_n 2, 1) := by decide +kernel
theorem dPR_mean_8 : decode cPR_mean 8 = .ok (.aload_n 0, 1) := by decide +kernel
theorem dPR_mean_9 : decode cPR_mean 9 = .ok (.getfield 28, 3) := by decide +kernel
theorem dPR_mean_12 : decode cPR_mean 12 = .ok (.if_icmp .ge 23, 3) := by decide +kernel
theorem dPR_mean_15 : decode cPR_mean 15 = .ok (.iload_n 1, 1) := by decide +kernel
theorem dPR_mean_16 : decode cPR_mean 16 = .ok (.aload_n 0, 1) := by decide +kernel
theorem dPR_mean_17 : decode cPR_mean 17 = .ok (.iload_n 2, 1) := by decide +kernel
theorem dPR_mean_18 : decode cPR_mean 18 = .ok (.invokevirtual 89, 3) := by decide +kernel
theorem dPR_mean_21 : decode cPR_mean 21 = .ok (.aload_n 0, 1) := by decide +kernel
theorem dPR_mean_22 : decode cPR_mean 22 = .ok (.iload_n 2, 1) := by decide +kernel
theorem dPR_mean_23 : decode cPR_mean 23 = .ok (.invokevirtual 93, 3) := by decide +kernel
theorem dPR_mean_26 : decode cPR_mean 26 = .ok (.iadd, 1) := by decide +kernel
theorem dPR_mean_27 : decode cPR_mean 27 = .ok (.iadd, 1) := by decide +kernel
theorem dPR_mean_28 : decode cPR_mean 28 = .ok (.istore_n 1, 1) := by decide +kernel
theorem dPR_mean_29 : decode cPR_mean 29 = .ok (.iinc 2 1, 3) := by decide +kernel
theorem dPR_mean_32 : decode cPR_mean 32 = .ok (.goto (-25), 3) := by decide +kernel
theorem dPR_mean_35 : decode cPR_mean 35 = .ok (.iload_n 1, 1) := by decide +kernel
theorem dPR_mean_36 : decode cPR_mean 36 = .ok (.iconst 2, 1) := by decide +kernel
theorem dPR_mean_37 : decode cPR_mean 37 = .ok (.aload_n 0, 1) := by decide +kernel
theorem dPR_mean_38 : decode cPR_mean 38 = .ok (.getfield 28, 3) := by decide +kernel
theorem dPR_mean_41 : decode cPR_mean 41 = .ok (.imul, 1) := by decide +kernel
theorem dPR_mean_42 : decode cPR_mean 42 = .ok (.idiv, 1) := by decide +kernel
theorem dPR_mean_43 : decode cPR_mean 43 = .ok (.ireturn, 1) := by decide +kernel
abbrev cPR_predictAt : ByteArray := prog_9_method_10_code
def yPR_predictAt : MethodName := ⟨kR_PR, "predictAt", "(III)I"⟩
def wsPR_predictAt : List Cond := .code yPR_predictAt cPR_predictAt 4 (some .int) :: ipW
theorem dPR_predictAt_0 : decode cPR_predictAt 0 = .ok (.iload_n 1, 1) := by decide +kernel
theorem dPR_predictAt_1 : decode cPR_predictAt 1 = .ok (.tableswitch 96 0 6 #[43, 96, 50, 56, 62, 74, 84], 43) := by decide +kernel
theorem dPR_predictAt_44 : decode cPR_predictAt 44 = .ok (.aload_n 0, 1) := by decide +kernel
theorem dPR_predictAt_45 : decode cPR_predictAt 45 = .ok (.iload_n 2, 1) := by decide +kernel
theorem dPR_predictAt_46 : decode cPR_predictAt 46 = .ok (.iload_n 3, 1) := by decide +kernel
theorem dPR_predictAt_47 : decode cPR_predictAt 47 = .ok (.invokevirtual 96, 3) := by decide +kernel
theorem dPR_predictAt_50 : decode cPR_predictAt 50 = .ok (.ireturn, 1) := by decide +kernel
theorem dPR_predictAt_51 : decode cPR_predictAt 51 = .ok (.aload_n 0, 1) := by decide +kernel
theorem dPR_predictAt_52 : decode cPR_predictAt 52 = .ok (.iload_n 3, 1) := by decide +kernel
theorem dPR_predictAt_53 : decode cPR_predictAt 53 = .ok (.invokevirtual 89, 3) := by decide +kernel
theorem dPR_predictAt_56 : decode cPR_predictAt 56 = .ok (.ireturn, 1) := by decide +kernel
theorem dPR_predictAt_57 : decode cPR_predictAt 57 = .ok (.aload_n 0, 1) := by decide +kernel
theorem dPR_predictAt_58 : decode cPR_predictAt 58 = .ok (.iload_n 2, 1) := by decide +kernel
theorem dPR_predictAt_59 : decode cPR_predictAt 59 = .ok (.invokevirtual 93, 3) := by decide +kernel
theorem dPR_predictAt_62 : decode cPR_predictAt 62 = .ok (.ireturn, 1) := by decide +kernel
theorem dPR_predictAt_63 : decode cPR_predictAt 63 = .ok (.aload_n 0, 1) := by decide +kernel
theorem dPR_predictAt_64 : decode cPR_predictAt 64 = .ok (.iload_n 2, 1) := by decide +kernel
theorem dPR_predictAt_65 : decode cPR_predictAt 65 = .ok (.bipush 13, 2) := by decide +kernel
theorem dPR_predictAt_67 : decode cPR_predictAt 67 = .ok (.iload_n 3, 1) := by decide +kernel
theorem dPR_predictAt_68 : decode cPR_predictAt 68 = .ok (.iconst 1, 1) := by decide +kernel
theorem dPR_predictAt_69 : decode cPR_predictAt 69 = .ok (.iadd, 1) := by decide +kernel
theorem dPR_predictAt_70 : decode cPR_predictAt 70 = .ok (.imul, 1) := by decide +kernel
theorem dPR_predictAt_71 : decode cPR_predictAt 71 = .ok (.invokevirtual 99, 3) := by decide +kernel
theorem dPR_predictAt_74 : decode cPR_predictAt 74 = .ok (.ireturn, 1) := by decide +kernel
theorem dPR_predictAt_75 : decode cPR_predictAt 75 = .ok (.aload_n 0, 1) := by decide +kernel
theorem dPR_predictAt_76 : decode cPR_predictAt 76 = .ok (.iload_n 2, 1) := by decide +kernel
theorem dPR_predictAt_77 : decode cPR_predictAt 77 = .ok (.iload_n 3, 1) := by decide +kernel
theorem dPR_predictAt_78 : decode cPR_predictAt 78 = .ok (.iadd, 1) := by decide +kernel
theorem dPR_predictAt_79 : decode cPR_predictAt 79 = .ok (.iconst 1, 1) := by decide +kernel
theorem dPR_predictAt_80 : decode cPR_predictAt 80 = .ok (.iadd, 1) := by decide +kernel
theorem dPR_predictAt_81 : decode cPR_predictAt 81 = .ok (.invokevirtual 93, 3) := by decide +kernel
theorem dPR_predictAt_84 : decode cPR_predictAt 84 = .ok (.ireturn, 1) := by decide +kernel
theorem dPR_predictAt_85 : decode cPR_predictAt 85 = .ok (.aload_n 0, 1) := by decide +kernel
theorem dPR_predictAt_86 : decode cPR_predictAt 86 = .ok (.iload_n 3, 1) := by decide +kernel
theorem dPR_predictAt_87 : decode cPR_predictAt 87 = .ok (.bipush 26, 2) := by decide +kernel
theorem dPR_predictAt_89 : decode cPR_predictAt 89 = .ok (.iload_n 2, 1) := by decide +kernel
theorem dPR_predictAt_90 : decode cPR_predictAt 90 = .ok (.iconst 1, 1) := by decide +kernel
theorem dPR_predictAt_91 : decode cPR_predictAt 91 = .ok (.iadd, 1) := by decide +kernel
theorem dPR_predictAt_92 : decode cPR_predictAt 92 = .ok (.imul, 1) := by decide +kernel
theorem dPR_predictAt_93 : decode cPR_predictAt 93 = .ok (.invokevirtual 102, 3) := by decide +kernel
theorem dPR_predictAt_96 : decode cPR_predictAt 96 = .ok (.ireturn, 1) := by decide +kernel
theorem dPR_predictAt_97 : decode cPR_predictAt 97 = .ok (.aload_n 0, 1) := by decide +kernel
theorem dPR_predictAt_98 : decode cPR_predictAt 98 = .ok (.iload_n 2, 1) := by decide +kernel
theorem dPR_predictAt_99 : decode cPR_predictAt 99 = .ok (.iload_n 3, 1) := by decide +kernel
theorem dPR_predictAt_100 : decode cPR_predictAt 100 = .ok (.invokevirtual 105, 3) := by decide +kernel
theorem dPR_predictAt_103 : decode cPR_predictAt 103 = .ok (.ireturn, 1) := by decide +kernel
abbrev cPR_plane : ByteArray := prog_9_method_11_code
def yPR_plane : MethodName := ⟨kR_PR, "plane", "(II)I"⟩
def wsPR_plane : List Cond := .code yPR_plane cPR_plane 5 (some .int) :: ipW
theorem dPR_plane_0 : decode cPR_plane 0 = .ok (.aload_n 0, 1) := by decide +kernel
theorem dPR_plane_1 : decode cPR_plane 1 = .ok (.getfield 28, 3) := by decide +kernel
theorem dPR_plane_4 : decode cPR_plane 4 = .ok (.iconst 1, 1) := by decide +kernel
theorem dPR_plane_5 : decode cPR_plane 5 = .ok (.isub, 1) := by decide +kernel
theorem dPR_plane_6 : decode cPR_plane 6 = .ok (.iload_n 1, 1) := by decide +kernel
theorem dPR_plane_7 : decode cPR_plane 7 = .ok (.isub, 1) := by decide +kernel
theorem dPR_plane_8 : decode cPR_plane 8 = .ok (.aload_n 0, 1) := by decide +kernel
theorem dPR_plane_9 : decode cPR_plane 9 = .ok (.iload_n 2, 1) := by decide +kernel
theorem dPR_plane_10 : decode cPR_plane 10 = .ok (.invokevirtual 89, 3) := by decide +kernel
theorem dPR_plane_13 : decode cPR_plane 13 = .ok (.imul, 1) := by decide +kernel
theorem dPR_plane_14 : decode cPR_plane 14 = .ok (.iload_n 1, 1) := by decide +kernel
theorem dPR_plane_15 : decode cPR_plane 15 = .ok (.iconst 1, 1) := by decide +kernel
theorem dPR_plane_16 : decode cPR_plane 16 = .ok (.iadd, 1) := by decide +kernel
theorem dPR_plane_17 : decode cPR_plane 17 = .ok (.aload_n 0, 1) := by decide +kernel
theorem dPR_plane_18 : decode cPR_plane 18 = .ok (.aload_n 0, 1) := by decide +kernel
theorem dPR_plane_19 : decode cPR_plane 19 = .ok (.getfield 28, 3) := by decide +kernel
theorem dPR_plane_22 : decode cPR_plane 22 = .ok (.invokevirtual 93, 3) := by decide +kernel
theorem dPR_plane_25 : decode cPR_plane 25 = .ok (.imul, 1) := by decide +kernel
theorem dPR_plane_26 : decode cPR_plane 26 = .ok (.iadd, 1) := by decide +kernel
theorem dPR_plane_27 : decode cPR_plane 27 = .ok (.istore_n 3, 1) := by decide +kernel
theorem dPR_plane_28 : decode cPR_plane 28 = .ok (.aload_n 0, 1) := by decide +kernel
theorem dPR_plane_29 : decode cPR_plane 29 = .ok (.getfield 28, 3) := by decide +kernel
theorem dPR_plane_32 : decode cPR_plane 32 = .ok (.iconst 1, 1) := by decide +kernel
theorem dPR_plane_33 : decode cPR_plane 33 = .ok (.isub, 1) := by decide +kernel
theorem dPR_plane_34 : decode cPR_plane 34 = .ok (.iload_n 2, 1) := by decide +kernel
theorem dPR_plane_35 : decode cPR_plane 35 = .ok (.isub, 1) := by decide +kernel
theorem dPR_plane_36 : decode cPR_plane 36 = .ok (.aload_n 0, 1) := by decide +kernel
theorem dPR_plane_37 : decode cPR_plane 37 = .ok (.iload_n 1, 1) := by decide +kernel
theorem dPR_plane_38 : decode cPR_plane 38 = .ok (.invokevirtual 93, 3) := by decide +kernel
theorem dPR_plane_41 : decode cPR_plane 41 = .ok (.imul, 1) := by decide +kernel
theorem dPR_plane_42 : decode cPR_plane 42 = .ok (.iload_n 2, 1) := by decide +kernel
theorem dPR_plane_43 : decode cPR_plane 43 = .ok (.iconst 1, 1) := by decide +kernel
theorem dPR_plane_44 : decode cPR_plane 44 = .ok (.iadd, 1) := by decide +kernel
theorem dPR_plane_45 : decode cPR_plane 45 = .ok (.aload_n 0, 1) := by decide +kernel
theorem dPR_plane_46 : decode cPR_plane 46 = .ok (.aload_n 0, 1) := by decide +kernel
theorem dPR_plane_47 : decode cPR_plane 47 = .ok (.getfield 28, 3) := by decide +kernel
theorem dPR_plane_50 : decode cPR_plane 50 = .ok (.invokevirtual 89, 3) := by decide +kernel
theorem dPR_plane_53 : decode cPR_plane 53 = .ok (.imul, 1) := by decide +kernel
theorem dPR_plane_54 : decode cPR_plane 54 = .ok (.iadd, 1) := by decide +kernel
theorem dPR_plane_55 : decode cPR_plane 55 = .ok (.istore 4, 2) := by decide +kernel
theorem dPR_plane_57 : decode cPR_plane 57 = .ok (.iload_n 3, 1) := by decide +kernel
theorem dPR_plane_58 : decode cPR_plane 58 = .ok (.iload 4, 2) := by decide +kernel
theorem dPR_plane_60 : decode cPR_plane 60 = .ok (.iadd, 1) := by decide +kernel
theorem dPR_plane_61 : decode cPR_plane 61 = .ok (.aload_n 0, 1) := by decide +kernel
theorem dPR_plane_62 : decode cPR_plane 62 = .ok (.getfield 28, 3) := by decide +kernel
theorem dPR_plane_65 : decode cPR_plane 65 = .ok (.iadd, 1) := by decide +kernel
theorem dPR_plane_66 : decode cPR_plane 66 = .ok (.iconst 2, 1) := by decide +kernel
theorem dPR_plane_67 : decode cPR_plane 67 = .ok (.aload_n 0, 1) := by decide +kernel
theorem dPR_plane_68 : decode cPR_plane 68 = .ok (.getfield 28, 3) := by decide +kernel
theorem dPR_plane_71 : decode cPR_plane 71 = .ok (.imul, 1) := by decide +kernel
theorem dPR_plane_72 : decode cPR_plane 72 = .ok (.idiv, 1) := by decide +kernel
theorem dPR_plane_73 : decode cPR_plane 73 = .ok (.ireturn, 1) := by decide +kernel
abbrev cPR_steep : ByteArray := prog_9_method_12_code
def yPR_steep : MethodName := ⟨kR_PR, "steep", "(II)I"⟩
def wsPR_steep : List Cond := .code yPR_steep cPR_steep 4 (some .int) :: ipW
theorem dPR_steep_0 : decode cPR_steep 0 = .ok (.iload_n 1, 1) := by decide +kernel
theorem dPR_steep_1 : decode cPR_steep 1 = .ok (.iload_n 2, 1) := by decide +kernel
theorem dPR_steep_2 : decode cPR_steep 2 = .ok (.iconst 5, 1) := by decide +kernel
theorem dPR_steep_3 : decode cPR_steep 3 = .ok (.ishr, 1) := by decide +kernel
theorem dPR_steep_4 : decode cPR_steep 4 = .ok (.iadd, 1) := by decide +kernel
theorem dPR_steep_5 : decode cPR_steep 5 = .ok (.istore_n 3, 1) := by decide +kernel
theorem dPR_steep_6 : decode cPR_steep 6 = .ok (.aload_n 0, 1) := by decide +kernel
theorem dPR_steep_7 : decode cPR_steep 7 = .ok (.iload_n 3, 1) := by decide +kernel
theorem dPR_steep_8 : decode cPR_steep 8 = .ok (.invokevirtual 93, 3) := by decide +kernel
theorem dPR_steep_11 : decode cPR_steep 11 = .ok (.aload_n 0, 1) := by decide +kernel
theorem dPR_steep_12 : decode cPR_steep 12 = .ok (.iload_n 3, 1) := by decide +kernel
theorem dPR_steep_13 : decode cPR_steep 13 = .ok (.iconst 1, 1) := by decide +kernel
theorem dPR_steep_14 : decode cPR_steep 14 = .ok (.iadd, 1) := by decide +kernel
theorem dPR_steep_15 : decode cPR_steep 15 = .ok (.invokevirtual 93, 3) := by decide +kernel
theorem dPR_steep_18 : decode cPR_steep 18 = .ok (.iload_n 2, 1) := by decide +kernel
theorem dPR_steep_19 : decode cPR_steep 19 = .ok (.bipush 31, 2) := by decide +kernel
theorem dPR_steep_21 : decode cPR_steep 21 = .ok (.iand, 1) := by decide +kernel
theorem dPR_steep_22 : decode cPR_steep 22 = .ok (.invokestatic 108, 3) := by decide +kernel
theorem dPR_steep_25 : decode cPR_steep 25 = .ok (.ireturn, 1) := by decide +kernel
abbrev cPR_flat : ByteArray := prog_9_method_13_code
def yPR_flat : MethodName := ⟨kR_PR, "flat", "(II)I"⟩
def wsPR_flat : List Cond := .code yPR_flat cPR_flat 4 (some .int) :: ipW
theorem dPR_flat_0 : decode cPR_flat 0 = .ok (.iload_n 1, 1) := by decide +kernel
theorem dPR_flat_1 : decode cPR_flat 1 = .ok (.iload_n 2, 1) := by decide +kernel
theorem dPR_flat_2 : decode cPR_flat 2 = .ok (.iconst 5, 1) := by decide +kernel
theorem dPR_flat_3 : decode cPR_flat 3 = .ok (.ishr, 1) := by decide +kernel
theorem dPR_flat_4 : decode cPR_flat 4 = .ok (.iadd, 1) := by decide +kernel
theorem dPR_flat_5 : decode cPR_flat 5 = .ok (.istore_n 3, 1) := by decide +kernel
theorem dPR_flat_6 : decode cPR_flat 6 = .ok (.aload_n 0, 1) := by decide +kernel
theorem dPR_flat_7 : decode cPR_flat 7 = .ok (.iload_n 3, 1) := by decide +kernel
theorem dPR_flat_8 : decode cPR_flat 8 = .ok (.invokevirtual 89, 3) := by decide +kernel
theorem dPR_flat_11 : decode cPR_flat 11 = .ok (.aload_n 0, 1) := by decide +kernel
theorem dPR_flat_12 : decode cPR_flat 12 = .ok (.iload_n 3, 1) := by decide +kernel
theorem dPR_flat_13 : decode cPR_flat 13 = .ok (.iconst 1, 1) := by decide +kernel
theorem dPR_flat_14 : decode cPR_flat 14 = .ok (.iadd, 1) := by decide +kernel
theorem dPR_flat_15 : decode cPR_flat 15 = .ok (.invokevirtual 89, 3) := by decide +kernel
theorem dPR_flat_18 : decode cPR_flat 18 = .ok (.iload_n 2, 1) := by decide +kernel
theorem dPR_flat_19 : decode cPR_flat 19 = .ok (.bipush 31, 2) := by decide +kernel
theorem dPR_flat_21 : decode cPR_flat 21 = .ok (.iand, 1) := by decide +kernel
theorem dPR_flat_22 : decode cPR_flat 22 = .ok (.invokestatic 108, 3) := by decide +kernel
theorem dPR_flat_25 : decode cPR_flat 25 = .ok (.ireturn, 1) := by decide +kernel
abbrev cPR_blend : ByteArray := prog_9_method_14_code
def yPR_blend : MethodName := ⟨kR_PR, "blend", "(III)I"⟩
def wsPR_blend : List Cond := .code yPR_blend cPR_blend 3 (some .int) :: ipW
theorem dPR_blend_0 : decode cPR_blend 0 = .ok (.bipush 32, 2) := by decide +kernel
theorem dPR_blend_2 : decode cPR_blend 2 = .ok (.iload_n 2, 1) := by decide +kernel
theorem dPR_blend_3 : decode cPR_blend 3 = .ok (.isub, 1) := by decide +kernel
theorem dPR_blend_4 : decode cPR_blend 4 = .ok (.iload_n 0, 1) := by decide +kernel
theorem dPR_blend_5 : decode cPR_blend 5 = .ok (.imul, 1) := by decide +kernel
theorem dPR_blend_6 : decode cPR_blend 6 = .ok (.iload_n 2, 1) := by decide +kernel
theorem dPR_blend_7 : decode cPR_blend 7 = .ok (.iload_n 1, 1) := by decide +kernel
theorem dPR_blend_8 : decode cPR_blend 8 = .ok (.imul, 1) := by decide +kernel
theorem dPR_blend_9 : decode cPR_blend 9 = .ok (.iadd, 1) := by decide +kernel
theorem dPR_blend_10 : decode cPR_blend 10 = .ok (.bipush 16, 2) := by decide +kernel
theorem dPR_blend_12 : decode cPR_blend 12 = .ok (.iadd, 1) := by decide +kernel
theorem dPR_blend_13 : decode cPR_blend 13 = .ok (.iconst 5, 1) := by decide +kernel
theorem dPR_blend_14 : decode cPR_blend 14 = .ok (.ishr, 1) := by decide +kernel
theorem dPR_blend_15 : decode cPR_blend 15 = .ok (.ireturn, 1) := by decide +kernel
abbrev cPR_diagonal : ByteArray := prog_9_method_15_code
def yPR_diagonal : MethodName := ⟨kR_PR, "diagonal", "(II)I"⟩
def wsPR_diagonal : List Cond := .code yPR_diagonal cPR_diagonal 3 (some .int) :: ipW
theorem dPR_diagonal_0 : decode cPR_diagonal 0 = .ok (.iload_n 1, 1) := by decide +kernel
theorem dPR_diagonal_1 : decode cPR_diagonal 1 = .ok (.iload_n 2, 1) := by decide +kernel
theorem dPR_diagonal_2 : decode cPR_diagonal 2 = .ok (.if_icmp .ne 8, 3) := by decide +kernel
theorem dPR_diagonal_5 : decode cPR_diagonal 5 = .ok (.aload_n 0, 1) := by decide +kernel
theorem dPR_diagonal_6 : decode cPR_diagonal 6 = .ok (.invokevirtual 111, 3) := by decide +kernel
theorem dPR_diagonal_9 : decode cPR_diagonal 9 = .ok (.ireturn, 1) := by decide +kernel
theorem dPR_diagonal_10 : decode cPR_diagonal 10 = .ok (.iload_n 1, 1) := by decide +kernel
theorem dPR_diagonal_11 : decode cPR_diagonal 11 = .ok (.iload_n 2, 1) := by decide +kernel
theorem dPR_diagonal_12 : decode cPR_diagonal 12 = .ok (.if_icmp .le 15, 3) := by decide +kernel
theorem dPR_diagonal_15 : decode cPR_diagonal 15 = .ok (.aload_n 0, 1) := by decide +kernel
theorem dPR_diagonal_16 : decode cPR_diagonal 16 = .ok (.iload_n 1, 1) := by decide +kernel
theorem dPR_diagonal_17 : decode cPR_diagonal 17 = .ok (.iload_n 2, 1) := by decide +kernel
theorem dPR_diagonal_18 : decode cPR_diagonal 18 = .ok (.isub, 1) := by decide +kernel
theorem dPR_diagonal_19 : decode cPR_diagonal 19 = .ok (.iconst 1, 1) := by decide +kernel
theorem dPR_diagonal_20 : decode cPR_diagonal 20 = .ok (.isub, 1) := by decide +kernel
theorem dPR_diagonal_21 : decode cPR_diagonal 21 = .ok (.invokevirtual 93, 3) := by decide +kernel
theorem dPR_diagonal_24 : decode cPR_diagonal 24 = .ok (.goto 12, 3) := by decide +kernel
theorem dPR_diagonal_27 : decode cPR_diagonal 27 = .ok (.aload_n 0, 1) := by decide +kernel
theorem dPR_diagonal_28 : decode cPR_diagonal 28 = .ok (.iload_n 2, 1) := by decide +kernel
theorem dPR_diagonal_29 : decode cPR_diagonal 29 = .ok (.iload_n 1, 1) := by decide +kernel
theorem dPR_diagonal_30 : decode cPR_diagonal 30 = .ok (.isub, 1) := by decide +kernel
theorem dPR_diagonal_31 : decode cPR_diagonal 31 = .ok (.iconst 1, 1) := by decide +kernel
theorem dPR_diagonal_32 : decode cPR_diagonal 32 = .ok (.isub, 1) := by decide +kernel
theorem dPR_diagonal_33 : decode cPR_diagonal 33 = .ok (.invokevirtual 89, 3) := by decide +kernel
theorem dPR_diagonal_36 : decode cPR_diagonal 36 = .ok (.ireturn, 1) := by decide +kernel
abbrev cFI_apply : ByteArray := prog_4_method_2_code
def yFI_apply : MethodName := ⟨kR_FI, "apply", "([I)V"⟩
def wsFI_apply : List Cond := .code yFI_apply cFI_apply 3 none :: ipW
theorem dFI_apply_0 : decode cFI_apply 0 = .ok (.aload_n 1, 1) := by decide +kernel
theorem dFI_apply_1 : decode cFI_apply 1 = .ok (.iconst 3, 1) := by decide +kernel
theorem dFI_apply_2 : decode cFI_apply 2 = .ok (.iaload, 1) := by decide +kernel
theorem dFI_apply_3 : decode cFI_apply 3 = .ok (.iconst 1, 1) := by decide +kernel
theorem dFI_apply_4 : decode cFI_apply 4 = .ok (.if_icmp .ne 60, 3) := by decide +kernel
theorem dFI_apply_7 : decode cFI_apply 7 = .ok (.iconst 0, 1) := by decide +kernel
theorem dFI_apply_8 : decode cFI_apply 8 = .ok (.istore_n 2, 1) := by decide +kernel
theorem dFI_apply_9 : decode cFI_apply 9 = .ok (.iload_n 2, 1) := by decide +kernel
theorem dFI_apply_10 : decode cFI_apply 10 = .ok (.bipush 16, 2) := by decide +kernel
theorem dFI_apply_12 : decode cFI_apply 12 = .ok (.if_icmp .ge 23, 3) := by decide +kernel
theorem dFI_apply_15 : decode cFI_apply 15 = .ok (.aload_n 0, 1) := by decide +kernel
theorem dFI_apply_16 : decode cFI_apply 16 = .ok (.bipush 8, 2) := by decide +kernel
theorem dFI_apply_18 : decode cFI_apply 18 = .ok (.iload_n 2, 1) := by decide +kernel
theorem dFI_apply_19 : decode cFI_apply 19 = .ok (.invokestatic 18, 3) := by decide +kernel
theorem dFI_apply_22 : decode cFI_apply 22 = .ok (.iconst 1, 1) := by decide +kernel
theorem dFI_apply_23 : decode cFI_apply 23 = .ok (.aload_n 1, 1) := by decide +kernel
theorem dFI_apply_24 : decode cFI_apply 24 = .ok (.iconst 0, 1) := by decide +kernel
theorem dFI_apply_25 : decode cFI_apply 25 = .ok (.iaload, 1) := by decide +kernel
theorem dFI_apply_26 : decode cFI_apply 26 = .ok (.invokevirtual 22, 3) := by decide +kernel
theorem dFI_apply_29 : decode cFI_apply 29 = .ok (.iinc 2 1, 3) := by decide +kernel
theorem dFI_apply_32 : decode cFI_apply 32 = .ok (.goto (-23), 3) := by decide +kernel
theorem dFI_apply_35 : decode cFI_apply 35 = .ok (.iconst 0, 1) := by decide +kernel
theorem dFI_apply_36 : decode cFI_apply 36 = .ok (.istore_n 2, 1) := by decide +kernel
theorem dFI_apply_37 : decode cFI_apply 37 = .ok (.iload_n 2, 1) := by decide +kernel
theorem dFI_apply_38 : decode cFI_apply 38 = .ok (.bipush 16, 2) := by decide +kernel
theorem dFI_apply_40 : decode cFI_apply 40 = .ok (.if_icmp .ge 24, 3) := by decide +kernel
theorem dFI_apply_43 : decode cFI_apply 43 = .ok (.aload_n 0, 1) := by decide +kernel
theorem dFI_apply_44 : decode cFI_apply 44 = .ok (.iload_n 2, 1) := by decide +kernel
theorem dFI_apply_45 : decode cFI_apply 45 = .ok (.bipush 8, 2) := by decide +kernel
theorem dFI_apply_47 : decode cFI_apply 47 = .ok (.invokestatic 18, 3) := by decide +kernel
theorem dFI_apply_50 : decode cFI_apply 50 = .ok (.bipush 16, 2) := by decide +kernel
theorem dFI_apply_52 : decode cFI_apply 52 = .ok (.aload_n 1, 1) := by decide +kernel
theorem dFI_apply_53 : decode cFI_apply 53 = .ok (.iconst 0, 1) := by decide +kernel
theorem dFI_apply_54 : decode cFI_apply 54 = .ok (.iaload, 1) := by decide +kernel
theorem dFI_apply_55 : decode cFI_apply 55 = .ok (.invokevirtual 22, 3) := by decide +kernel
theorem dFI_apply_58 : decode cFI_apply 58 = .ok (.iinc 2 1, 3) := by decide +kernel
theorem dFI_apply_61 : decode cFI_apply 61 = .ok (.goto (-24), 3) := by decide +kernel
theorem dFI_apply_64 : decode cFI_apply 64 = .ok (.aload_n 1, 1) := by decide +kernel
theorem dFI_apply_65 : decode cFI_apply 65 = .ok (.iconst 4, 1) := by decide +kernel
theorem dFI_apply_66 : decode cFI_apply 66 = .ok (.iaload, 1) := by decide +kernel
theorem dFI_apply_67 : decode cFI_apply 67 = .ok (.ifCond .eq 8, 3) := by decide +kernel
theorem dFI_apply_70 : decode cFI_apply 70 = .ok (.aload_n 0, 1) := by decide +kernel
theorem dFI_apply_71 : decode cFI_apply 71 = .ok (.aload_n 1, 1) := by decide +kernel
theorem dFI_apply_72 : decode cFI_apply 72 = .ok (.invokevirtual 26, 3) := by decide +kernel
theorem dFI_apply_75 : decode cFI_apply 75 = .ok (.return_, 1) := by decide +kernel
abbrev cFI_smoothEdge : ByteArray := prog_4_method_3_code
def yFI_smoothEdge : MethodName := ⟨kR_FI, "smoothEdge", "(III)V"⟩
def wsFI_smoothEdge : List Cond := .code yFI_smoothEdge cFI_smoothEdge 10 none :: ipW
theorem dFI_smoothEdge_0 : decode cFI_smoothEdge 0 = .ok (.aload_n 0, 1) := by decide +kernel
theorem dFI_smoothEdge_1 : decode cFI_smoothEdge 1 = .ok (.getfield 15, 3) := by decide +kernel
theorem dFI_smoothEdge_4 : decode cFI_smoothEdge 4 = .ok (.iload_n 1, 1) := by decide +kernel
theorem dFI_smoothEdge_5 : decode cFI_smoothEdge 5 = .ok (.iconst 2, 1) := by decide +kernel
theorem dFI_smoothEdge_6 : decode cFI_smoothEdge 6 = .ok (.iload_n 2, 1) := by decide +kernel
theorem dFI_smoothEdge_7 : decode cFI_smoothEdge 7 = .ok (.imul, 1) := by decide +kernel
theorem dFI_smoothEdge_8 : decode cFI_smoothEdge 8 = .ok (.isub, 1) := by decide +kernel
theorem dFI_smoothEdge_9 : decode cFI_smoothEdge 9 = .ok (.iaload, 1) := by decide +kernel
theorem dFI_smoothEdge_10 : decode cFI_smoothEdge 10 = .ok (.istore 4, 2) := by decide +kernel
theorem dFI_smoothEdge_12 : decode cFI_smoothEdge 12 = .ok (.aload_n 0, 1) := by decide +kernel
theorem dFI_smoothEdge_13 : decode cFI_smoothEdge 13 = .ok (.getfield 15, 3) := by decide +kernel
theorem dFI_smoothEdge_16 : decode cFI_smoothEdge 16 = .ok (.iload_n 1, 1) := by decide +kernel
theorem dFI_smoothEdge_17 : decode cFI_smoothEdge 17 = .ok (.iload_n 2, 1) := by decide +kernel
theorem dFI_smoothEdge_18 : decode cFI_smoothEdge 18 = .ok (.isub, 1) := by decide +kernel
theorem dFI_smoothEdge_19 : decode cFI_smoothEdge 19 = .ok (.iaload, 1) := by decide +kernel
theorem dFI_smoothEdge_20 : decode cFI_smoothEdge 20 = .ok (.istore 5, 2) := by decide +kernel
theorem dFI_smoothEdge_22 : decode cFI_smoothEdge 22 = .ok (.aload_n 0, 1) := by decide +kernel
theorem dFI_smoothEdge_23 : decode cFI_smoothEdge 23 = .ok (.getfield 15, 3) := by decide +kernel
theorem dFI_smoothEdge_26 : decode cFI_smoothEdge 26 = .ok (.iload_n 1, 1) := by decide +kernel
theorem dFI_smoothEdge_27 : decode cFI_smoothEdge 27 = .ok (.iaload, 1) := by decide +kernel
theorem dFI_smoothEdge_28 : decode cFI_smoothEdge 28 = .ok (.istore 6, 2) := by decide +kernel
theorem dFI_smoothEdge_30 : decode cFI_smoothEdge 30 = .ok (.aload_n 0, 1) := by decide +kernel
theorem dFI_smoothEdge_31 : decode cFI_smoothEdge 31 = .ok (.getfield 15, 3) := by decide +kernel
theorem dFI_smoothEdge_34 : decode cFI_smoothEdge 34 = .ok (.iload_n 1, 1) := by decide +kernel
theorem dFI_smoothEdge_35 : decode cFI_smoothEdge 35 = .ok (.iload_n 2, 1) := by decide +kernel
theorem dFI_smoothEdge_36 : decode cFI_smoothEdge 36 = .ok (.iadd, 1) := by decide +kernel
theorem dFI_smoothEdge_37 : decode cFI_smoothEdge 37 = .ok (.iaload, 1) := by decide +kernel
theorem dFI_smoothEdge_38 : decode cFI_smoothEdge 38 = .ok (.istore 7, 2) := by decide +kernel
theorem dFI_smoothEdge_40 : decode cFI_smoothEdge 40 = .ok (.iconst 1, 1) := by decide +kernel
theorem dFI_smoothEdge_41 : decode cFI_smoothEdge 41 = .ok (.iload_n 3, 1) := by decide +kernel
theorem dFI_smoothEdge_42 : decode cFI_smoothEdge 42 = .ok (.bipush 8, 2) := by decide +kernel
theorem dFI_smoothEdge_44 : decode cFI_smoothEdge 44 = .ok (.idiv, 1) := by decide +kernel
theorem dFI_smoothEdge_45 : decode cFI_smoothEdge 45 = .ok (.iadd, 1) := by decide +kernel
theorem dFI_smoothEdge_46 : decode cFI_smoothEdge 46 = .ok (.istore 8, 2) := by decide +kernel
theorem dFI_smoothEdge_48 : decode cFI_smoothEdge 48 = .ok (.bipush 9, 2) := by decide +kernel
theorem dFI_smoothEdge_50 : decode cFI_smoothEdge 50 = .ok (.iload 6, 2) := by decide +kernel
theorem dFI_smoothEdge_52 : decode cFI_smoothEdge 52 = .ok (.iload 5, 2) := by decide +kernel
theorem dFI_smoothEdge_54 : decode cFI_smoothEdge 54 = .ok (.isub, 1) := by decide +kernel
theorem dFI_smoothEdge_55 : decode cFI_smoothEdge 55 = .ok (.imul, 1) := by decide +kernel
theorem dFI_smoothEdge_56 : decode cFI_smoothEdge 56 = .ok (.iconst 3, 1) := by decide +kernel
theorem dFI_smoothEdge_57 : decode cFI_smoothEdge 57 = .ok (.iload 7, 2) := by decide +kernel
theorem dFI_smoothEdge_59 : decode cFI_smoothEdge 59 = .ok (.iload 4, 2) := by decide +kernel
theorem dFI_smoothEdge_61 : decode cFI_smoothEdge 61 = .ok (.isub, 1) := by decide +kernel
theorem dFI_smoothEdge_62 : decode cFI_smoothEdge 62 = .ok (.imul, 1) := by decide +kernel
theorem dFI_smoothEdge_63 : decode cFI_smoothEdge 63 = .ok (.isub, 1) := by decide +kernel
theorem dFI_smoothEdge_64 : decode cFI_smoothEdge 64 = .ok (.bipush 8, 2) := by decide +kernel
theorem dFI_smoothEdge_66 : decode cFI_smoothEdge 66 = .ok (.iadd, 1) := by decide +kernel
theorem dFI_smoothEdge_67 : decode cFI_smoothEdge 67 = .ok (.iconst 4, 1) := by decide +kernel
theorem dFI_smoothEdge_68 : decode cFI_smoothEdge 68 = .ok (.ishr, 1) := by decide +kernel
theorem dFI_smoothEdge_69 : decode cFI_smoothEdge 69 = .ok (.istore 9, 2) := by decide +kernel
theorem dFI_smoothEdge_71 : decode cFI_smoothEdge 71 = .ok (.iload 4, 2) := by decide +kernel
theorem dFI_smoothEdge_73 : decode cFI_smoothEdge 73 = .ok (.iload 5, 2) := by decide +kernel
theorem dFI_smoothEdge_75 : decode cFI_smoothEdge 75 = .ok (.isub, 1) := by decide +kernel
theorem dFI_smoothEdge_76 : decode cFI_smoothEdge 76 = .ok (.invokestatic 30, 3) := by decide +kernel
theorem dFI_smoothEdge_79 : decode cFI_smoothEdge 79 = .ok (.iload 7, 2) := by decide +kernel
theorem dFI_smoothEdge_81 : decode cFI_smoothEdge 81 = .ok (.iload 6, 2) := by decide +kernel
theorem dFI_smoothEdge_83 : decode cFI_smoothEdge 83 = .ok (.isub, 1) := by decide +kernel
theorem dFI_smoothEdge_84 : decode cFI_smoothEdge 84 = .ok (.invokestatic 30, 3) := by decide +kernel
theorem dFI_smoothEdge_87 : decode cFI_smoothEdge 87 = .ok (.iadd, 1) := by decide +kernel
theorem dFI_smoothEdge_88 : decode cFI_smoothEdge 88 = .ok (.iload_n 3, 1) := by decide +kernel
theorem dFI_smoothEdge_89 : decode cFI_smoothEdge 89 = .ok (.if_icmp .ge 66, 3) := by decide +kernel
theorem dFI_smoothEdge_92 : decode cFI_smoothEdge 92 = .ok (.iload 9, 2) := by decide +kernel
theorem dFI_smoothEdge_94 : decode cFI_smoothEdge 94 = .ok (.invokestatic 30, 3) := by decide +kernel
theorem dFI_smoothEdge_97 : decode cFI_smoothEdge 97 = .ok (.bipush 10, 2) := by decide +kernel
theorem dFI_smoothEdge_99 : decode cFI_smoothEdge 99 = .ok (.iload 8, 2) := by decide +kernel
theorem dFI_smoothEdge_101 : decode cFI_smoothEdge 101 = .ok (.imul, 1) := by decide +kernel
theorem dFI_smoothEdge_102 : decode cFI_smoothEdge 102 = .ok (.if_icmp .ge 53, 3) := by decide +kernel
theorem dFI_smoothEdge_105 : decode cFI_smoothEdge 105 = .ok (.iload 9, 2) := by decide +kernel
theorem dFI_smoothEdge_107 : decode cFI_smoothEdge 107 = .ok (.iload 8, 2) := by decide +kernel
theorem dFI_smoothEdge_109 : decode cFI_smoothEdge 109 = .ok (.ineg, 1) := by decide +kernel
theorem dFI_smoothEdge_110 : decode cFI_smoothEdge 110 = .ok (.iload 8, 2) := by decide +kernel
theorem dFI_smoothEdge_112 : decode cFI_smoothEdge 112 = .ok (.invokestatic 36, 3) := by decide +kernel
theorem dFI_smoothEdge_115 : decode cFI_smoothEdge 115 = .ok (.istore 9, 2) := by decide +kernel
theorem dFI_smoothEdge_117 : decode cFI_smoothEdge 117 = .ok (.aload_n 0, 1) := by decide +kernel
theorem dFI_smoothEdge_118 : decode cFI_smoothEdge 118 = .ok (.getfield 15, 3) := by decide +kernel
theorem dFI_smoothEdge_121 : decode cFI_smoothEdge 121 = .ok (.iload_n 1, 1) := by decide +kernel
theorem dFI_smoothEdge_122 : decode cFI_smoothEdge 122 = .ok (.iload_n 2, 1) := by decide +kernel
theorem dFI_smoothEdge_123 : decode cFI_smoothEdge 123 = .ok (.isub, 1) := by decide +kernel
theorem dFI_smoothEdge_124 : decode cFI_smoothEdge 124 = .ok (.iload 5, 2) := by decide +kernel
theorem dFI_smoothEdge_126 : decode cFI_smoothEdge 126 = .ok (.iload 9, 2) := by decide +kernel
theorem dFI_smoothEdge_128 : decode cFI_smoothEdge 128 = .ok (.iadd, 1) := by decide +kernel
theorem dFI_smoothEdge_129 : decode cFI_smoothEdge 129 = .ok (.iconst 0, 1) := by decide +kernel
theorem dFI_smoothEdge_130 : decode cFI_smoothEdge 130 = .ok (.sipush 255, 3) := by decide +kernel
theorem dFI_smoothEdge_133 : decode cFI_smoothEdge 133 = .ok (.invokestatic 36, 3) := by decide +kernel
theorem dFI_smoothEdge_136 : decode cFI_smoothEdge 136 = .ok (.iastore, 1) := by decide +kernel
theorem dFI_smoothEdge_137 : decode cFI_smoothEdge 137 = .ok (.aload_n 0, 1) := by decide +kernel
theorem dFI_smoothEdge_138 : decode cFI_smoothEdge 138 = .ok (.getfield 15, 3) := by decide +kernel
theorem dFI_smoothEdge_141 : decode cFI_smoothEdge 141 = .ok (.iload_n 1, 1) := by decide +kernel
theorem dFI_smoothEdge_142 : decode cFI_smoothEdge 142 = .ok (.iload 6, 2) := by decide +kernel
theorem dFI_smoothEdge_144 : decode cFI_smoothEdge 144 = .ok (.iload 9, 2) := by decide +kernel
theorem dFI_smoothEdge_146 : decode cFI_smoothEdge 146 = .ok (.isub, 1) := by decide +kernel
theorem dFI_smoothEdge_147 : decode cFI_smoothEdge 147 = .ok (.iconst 0, 1) := by decide +kernel
theorem dFI_smoothEdge_148 : decode cFI_smoothEdge 148 = .ok (.sipush 255, 3) := by decide +kernel
theorem dFI_smoothEdge_151 : decode cFI_smoothEdge 151 = .ok (.invokestatic 36, 3) := by decide +kernel
theorem dFI_smoothEdge_154 : decode cFI_smoothEdge 154 = .ok (.iastore, 1) := by decide +kernel
theorem dFI_smoothEdge_155 : decode cFI_smoothEdge 155 = .ok (.return_, 1) := by decide +kernel
abbrev cFI_addOffsets : ByteArray := prog_4_method_4_code
def yFI_addOffsets : MethodName := ⟨kR_FI, "addOffsets", "([I)V"⟩
def wsFI_addOffsets : List Cond := .code yFI_addOffsets cFI_addOffsets 6 none :: ipW
theorem dFI_addOffsets_0 : decode cFI_addOffsets 0 = .ok (.aload_n 0, 1) := by decide +kernel
theorem dFI_addOffsets_1 : decode cFI_addOffsets 1 = .ok (.getfield 15, 3) := by decide +kernel
theorem dFI_addOffsets_4 : decode cFI_addOffsets 4 = .ok (.iconst 0, 1) := by decide +kernel
theorem dFI_addOffsets_5 : decode cFI_addOffsets 5 = .ok (.aload_n 0, 1) := by decide +kernel
theorem dFI_addOffsets_6 : decode cFI_addOffsets 6 = .ok (.getfield 9, 3) := by decide +kernel
theorem dFI_addOffsets_9 : decode cFI_addOffsets 9 = .ok (.iconst 0, 1) := by decide +kernel
theorem dFI_addOffsets_10 : decode cFI_addOffsets 10 = .ok (.sipush 256, 3) := by decide +kernel
theorem dFI_addOffsets_13 : decode cFI_addOffsets 13 = .ok (.invokestatic 40, 3) := by decide +kernel
theorem dFI_addOffsets_16 : decode cFI_addOffsets 16 = .ok (.iconst 0, 1) := by decide +kernel
theorem dFI_addOffsets_17 : decode cFI_addOffsets 17 = .ok (.istore_n 2, 1) := by decide +kernel
theorem dFI_addOffsets_18 : decode cFI_addOffsets 18 = .ok (.iload_n 2, 1) := by decide +kernel
theorem dFI_addOffsets_19 : decode cFI_addOffsets 19 = .ok (.bipush 16, 2) := by decide +kernel
theorem dFI_addOffsets_21 : decode cFI_addOffsets 21 = .ok (.if_icmp .ge 72, 3) := by decide +kernel
theorem dFI_addOffsets_24 : decode cFI_addOffsets 24 = .ok (.iconst 0, 1) := by decide +kernel
theorem dFI_addOffsets_25 : decode cFI_addOffsets 25 = .ok (.istore_n 3, 1) := by decide +kernel
theorem dFI_addOffsets_26 : decode cFI_addOffsets 26 = .ok (.iload_n 3, 1) := by decide +kernel
theorem dFI_addOffsets_27 : decode cFI_addOffsets 27 = .ok (.bipush 16, 2) := by decide +kernel
theorem dFI_addOffsets_29 : decode cFI_addOffsets 29 = .ok (.if_icmp .ge 58, 3) := by decide +kernel
theorem dFI_addOffsets_32 : decode cFI_addOffsets 32 = .ok (.aload_n 0, 1) := by decide +kernel
theorem dFI_addOffsets_33 : decode cFI_addOffsets 33 = .ok (.aload_n 1, 1) := by decide +kernel
theorem dFI_addOffsets_34 : decode cFI_addOffsets 34 = .ok (.iload_n 3, 1) := by decide +kernel
theorem dFI_addOffsets_35 : decode cFI_addOffsets 35 = .ok (.iload_n 2, 1) := by decide +kernel
theorem dFI_addOffsets_36 : decode cFI_addOffsets 36 = .ok (.invokevirtual 46, 3) := by decide +kernel
theorem dFI_addOffsets_39 : decode cFI_addOffsets 39 = .ok (.istore 4, 2) := by decide +kernel
theorem dFI_addOffsets_41 : decode cFI_addOffsets 41 = .ok (.iload 4, 2) := by decide +kernel
theorem dFI_addOffsets_43 : decode cFI_addOffsets 43 = .ok (.ifCond .lt 38, 3) := by decide +kernel
theorem dFI_addOffsets_46 : decode cFI_addOffsets 46 = .ok (.iload_n 3, 1) := by decide +kernel
theorem dFI_addOffsets_47 : decode cFI_addOffsets 47 = .ok (.iload_n 2, 1) := by decide +kernel
theorem dFI_addOffsets_48 : decode cFI_addOffsets 48 = .ok (.invokestatic 18, 3) := by decide +kernel
theorem dFI_addOffsets_51 : decode cFI_addOffsets 51 = .ok (.istore 5, 2) := by decide +kernel
theorem dFI_addOffsets_53 : decode cFI_addOffsets 53 = .ok (.aload_n 0, 1) := by decide +kernel
theorem dFI_addOffsets_54 : decode cFI_addOffsets 54 = .ok (.getfield 15, 3) := by decide +kernel
theorem dFI_addOffsets_57 : decode cFI_addOffsets 57 = .ok (.iload 5, 2) := by decide +kernel
theorem dFI_addOffsets_59 : decode cFI_addOffsets 59 = .ok (.aload_n 0, 1) := by decide +kernel
theorem dFI_addOffsets_60 : decode cFI_addOffsets 60 = .ok (.getfield 9, 3) := by decide +kernel
theorem dFI_addOffsets_63 : decode cFI_addOffsets 63 = .ok (.iload 5, 2) := by decide +kernel
theorem dFI_addOffsets_65 : decode cFI_addOffsets 65 = .ok (.iaload, 1) := by decide +kernel
theorem dFI_addOffsets_66 : decode cFI_addOffsets 66 = .ok (.aload_n 1, 1) := by decide +kernel
theorem dFI_addOffsets_67 : decode cFI_addOffsets 67 = .ok (.iconst 5, 1) := by decide +kernel
theorem dFI_addOffsets_68 : decode cFI_addOffsets 68 = .ok (.iload 4, 2) := by decide +kernel
theorem dFI_addOffsets_70 : decode cFI_addOffsets 70 = .ok (.iadd, 1) := by decide +kernel
theorem dFI_addOffsets_71 : decode cFI_addOffsets 71 = .ok (.iaload, 1) := by decide +kernel
theorem dFI_addOffsets_72 : decode cFI_addOffsets 72 = .ok (.iadd, 1) := by decide +kernel
theorem dFI_addOffsets_73 : decode cFI_addOffsets 73 = .ok (.iconst 0, 1) := by decide +kernel
theorem dFI_addOffsets_74 : decode cFI_addOffsets 74 = .ok (.sipush 255, 3) := by decide +kernel
theorem dFI_addOffsets_77 : decode cFI_addOffsets 77 = .ok (.invokestatic 36, 3) := by decide +kernel
theorem dFI_addOffsets_80 : decode cFI_addOffsets 80 = .ok (.iastore, 1) := by decide +kernel
theorem dFI_addOffsets_81 : decode cFI_addOffsets 81 = .ok (.iinc 3 1, 3) := by decide +kernel
theorem dFI_addOffsets_84 : decode cFI_addOffsets 84 = .ok (.goto (-58), 3) := by decide +kernel
theorem dFI_addOffsets_87 : decode cFI_addOffsets 87 = .ok (.iinc 2 1, 3) := by decide +kernel
theorem dFI_addOffsets_90 : decode cFI_addOffsets 90 = .ok (.goto (-72), 3) := by decide +kernel
theorem dFI_addOffsets_93 : decode cFI_addOffsets 93 = .ok (.return_, 1) := by decide +kernel
abbrev cFI_offsetNumber : ByteArray := prog_4_method_5_code
def yFI_offsetNumber : MethodName := ⟨kR_FI, "offsetNumber", "([III)I"⟩
def wsFI_offsetNumber : List Cond := .code yFI_offsetNumber cFI_offsetNumber 6 (some .int) :: ipW
theorem dFI_offsetNumber_0 : decode cFI_offsetNumber 0 = .ok (.iload_n 2, 1) := by decide +kernel
theorem dFI_offsetNumber_1 : decode cFI_offsetNumber 1 = .ok (.iload_n 3, 1) := by decide +kernel
theorem dFI_offsetNumber_2 : decode cFI_offsetNumber 2 = .ok (.invokestatic 18, 3) := by decide +kernel
theorem dFI_offsetNumber_5 : decode cFI_offsetNumber 5 = .ok (.istore 4, 2) := by decide +kernel
theorem dFI_offsetNumber_7 : decode cFI_offsetNumber 7 = .ok (.aload_n 1, 1) := by decide +kernel
theorem dFI_offsetNumber_8 : decode cFI_offsetNumber 8 = .ok (.iconst 4, 1) := by decide +kernel
theorem dFI_offsetNumber_9 : decode cFI_offsetNumber 9 = .ok (.iaload, 1) := by decide +kernel
theorem dFI_offsetNumber_10 : decode cFI_offsetNumber 10 = .ok (.lookupswitch 71 #[(1, 26), (2, 48)], 26) := by decide +kernel
theorem dFI_offsetNumber_36 : decode cFI_offsetNumber 36 = .ok (.iload_n 2, 1) := by decide +kernel
theorem dFI_offsetNumber_37 : decode cFI_offsetNumber 37 = .ok (.ifCond .le 19, 3) := by decide +kernel
theorem dFI_offsetNumber_40 : decode cFI_offsetNumber 40 = .ok (.iload_n 2, 1) := by decide +kernel
theorem dFI_offsetNumber_41 : decode cFI_offsetNumber 41 = .ok (.bipush 15, 2) := by decide +kernel
theorem dFI_offsetNumber_43 : decode cFI_offsetNumber 43 = .ok (.if_icmp .ge 13, 3) := by decide +kernel
theorem dFI_offsetNumber_46 : decode cFI_offsetNumber 46 = .ok (.aload_n 0, 1) := by decide +kernel
theorem dFI_offsetNumber_47 : decode cFI_offsetNumber 47 = .ok (.iload 4, 2) := by decide +kernel
theorem dFI_offsetNumber_49 : decode cFI_offsetNumber 49 = .ok (.iconst 1, 1) := by decide +kernel
theorem dFI_offsetNumber_50 : decode cFI_offsetNumber 50 = .ok (.invokevirtual 50, 3) := by decide +kernel
theorem dFI_offsetNumber_53 : decode cFI_offsetNumber 53 = .ok (.goto 4, 3) := by decide +kernel
theorem dFI_offsetNumber_56 : decode cFI_offsetNumber 56 = .ok (.iconst (-1), 1) := by decide +kernel
theorem dFI_offsetNumber_57 : decode cFI_offsetNumber 57 = .ok (.ireturn, 1) := by decide +kernel
theorem dFI_offsetNumber_58 : decode cFI_offsetNumber 58 = .ok (.iload_n 3, 1) := by decide +kernel
theorem dFI_offsetNumber_59 : decode cFI_offsetNumber 59 = .ok (.ifCond .le 20, 3) := by decide +kernel
theorem dFI_offsetNumber_62 : decode cFI_offsetNumber 62 = .ok (.iload_n 3, 1) := by decide +kernel
theorem dFI_offsetNumber_63 : decode cFI_offsetNumber 63 = .ok (.bipush 15, 2) := by decide +kernel
theorem dFI_offsetNumber_65 : decode cFI_offsetNumber 65 = .ok (.if_icmp .ge 14, 3) := by decide +kernel
theorem dFI_offsetNumber_68 : decode cFI_offsetNumber 68 = .ok (.aload_n 0, 1) := by decide +kernel
theorem dFI_offsetNumber_69 : decode cFI_offsetNumber 69 = .ok (.iload 4, 2) := by decide +kernel
theorem dFI_offsetNumber_71 : decode cFI_offsetNumber 71 = .ok (.bipush 16, 2) := by decide +kernel
theorem dFI_offsetNumber_73 : decode cFI_offsetNumber 73 = .ok (.invokevirtual 50, 3) := by decide +kernel
theorem dFI_offsetNumber_76 : decode cFI_offsetNumber 76 = .ok (.goto 4, 3) := by decide +kernel
theorem dFI_offsetNumber_79 : decode cFI_offsetNumber 79 = .ok (.iconst (-1), 1) := by decide +kernel
theorem dFI_offsetNumber_80 : decode cFI_offsetNumber 80 = .ok (.ireturn, 1) := by decide +kernel
theorem dFI_offsetNumber_81 : decode cFI_offsetNumber 81 = .ok (.aload_n 0, 1) := by decide +kernel
theorem dFI_offsetNumber_82 : decode cFI_offsetNumber 82 = .ok (.getfield 9, 3) := by decide +kernel
theorem dFI_offsetNumber_85 : decode cFI_offsetNumber 85 = .ok (.iload 4, 2) := by decide +kernel
theorem dFI_offsetNumber_87 : decode cFI_offsetNumber 87 = .ok (.iaload, 1) := by decide +kernel
theorem dFI_offsetNumber_88 : decode cFI_offsetNumber 88 = .ok (.iconst 5, 1) := by decide +kernel
theorem dFI_offsetNumber_89 : decode cFI_offsetNumber 89 = .ok (.ishr, 1) := by decide +kernel
theorem dFI_offsetNumber_90 : decode cFI_offsetNumber 90 = .ok (.aload_n 1, 1) := by decide +kernel
theorem dFI_offsetNumber_91 : decode cFI_offsetNumber 91 = .ok (.bipush 9, 2) := by decide +kernel
theorem dFI_offsetNumber_93 : decode cFI_offsetNumber 93 = .ok (.iaload, 1) := by decide +kernel
theorem dFI_offsetNumber_94 : decode cFI_offsetNumber 94 = .ok (.isub, 1) := by decide +kernel
theorem dFI_offsetNumber_95 : decode cFI_offsetNumber 95 = .ok (.bipush 7, 2) := by decide +kernel
theorem dFI_offsetNumber_97 : decode cFI_offsetNumber 97 = .ok (.iand, 1) := by decide +kernel
theorem dFI_offsetNumber_98 : decode cFI_offsetNumber 98 = .ok (.istore 5, 2) := by decide +kernel
theorem dFI_offsetNumber_100 : decode cFI_offsetNumber 100 = .ok (.iload 5, 2) := by decide +kernel
theorem dFI_offsetNumber_102 : decode cFI_offsetNumber 102 = .ok (.iconst 4, 1) := by decide +kernel
theorem dFI_offsetNumber_103 : decode cFI_offsetNumber 103 = .ok (.if_icmp .ge 8, 3) := by decide +kernel
theorem dFI_offsetNumber_106 : decode cFI_offsetNumber 106 = .ok (.iload 5, 2) := by decide +kernel
theorem dFI_offsetNumber_108 : decode cFI_offsetNumber 108 = .ok (.goto 4, 3) := by decide +kernel
theorem dFI_offsetNumber_111 : decode cFI_offsetNumber 111 = .ok (.iconst (-1), 1) := by decide +kernel
theorem dFI_offsetNumber_112 : decode cFI_offsetNumber 112 = .ok (.ireturn, 1) := by decide +kernel
abbrev cFI_numberByNeighbours : ByteArray := prog_4_method_6_code
def yFI_numberByNeighbours : MethodName := ⟨kR_FI, "numberByNeighbours", "(II)I"⟩
def wsFI_numberByNeighbours : List Cond := .code yFI_numberByNeighbours cFI_numberByNeighbours 5 (some .int) :: ipW
theorem dFI_numberByNeighbours_0 : decode cFI_numberByNeighbours 0 = .ok (.aload_n 0, 1) := by decide +kernel
theorem dFI_numberByNeighbours_1 : decode cFI_numberByNeighbours 1 = .ok (.getfield 9, 3) := by decide +kernel
theorem dFI_numberByNeighbours_4 : decode cFI_numberByNeighbours 4 = .ok (.iload_n 1, 1) := by decide +kernel
theorem dFI_numberByNeighbours_5 : decode cFI_numberByNeighbours 5 = .ok (.iaload, 1) := by decide +kernel
theorem dFI_numberByNeighbours_6 : decode cFI_numberByNeighbours 6 = .ok (.istore_n 3, 1) := by decide +kernel
theorem dFI_numberByNeighbours_7 : decode cFI_numberByNeighbours 7 = .ok (.aload_n 0, 1) := by decide +kernel
theorem dFI_numberByNeighbours_8 : decode cFI_numberByNeighbours 8 = .ok (.getfield 9, 3) := by decide +kernel
theorem dFI_numberByNeighbours_11 : decode cFI_numberByNeighbours 11 = .ok (.iload_n 1, 1) := by decide +kernel
theorem dFI_numberByNeighbours_12 : decode cFI_numberByNeighbours 12 = .ok (.iload_n 2, 1) := by decide +kernel
theorem dFI_numberByNeighbours_13 : decode cFI_numberByNeighbours 13 = .ok (.isub, 1) := by decide +kernel
theorem dFI_numberByNeighbours_14 : decode cFI_numberByNeighbours 14 = .ok (.iaload, 1) := by decide +kernel
theorem dFI_numberByNeighbours_15 : decode cFI_numberByNeighbours 15 = .ok (.iload_n 3, 1) := by decide +kernel
theorem dFI_numberByNeighbours_16 : decode cFI_numberByNeighbours 16 = .ok (.invokestatic 53, 3) := by decide +kernel
theorem dFI_numberByNeighbours_19 : decode cFI_numberByNeighbours 19 = .ok (.aload_n 0, 1) := by decide +kernel
theorem dFI_numberByNeighbours_20 : decode cFI_numberByNeighbours 20 = .ok (.getfield 9, 3) := by decide +kernel
theorem dFI_numberByNeighbours_23 : decode cFI_numberByNeighbours 23 = .ok (.iload_n 1, 1) := by decide +kernel
theorem dFI_numberByNeighbours_24 : decode cFI_numberByNeighbours 24 = .ok (.iload_n 2, 1) := by decide +kernel
theorem dFI_numberByNeighbours_25 : decode cFI_numberByNeighbours 25 = .ok (.iadd, 1) := by decide +kernel
theorem dFI_numberByNeighbours_26 : decode cFI_numberByNeighbours 26 = .ok (.iaload, 1) := by decide +kernel
theorem dFI_numberByNeighbours_27 : decode cFI_numberByNeighbours 27 = .ok (.iload_n 3, 1) := by decide +kernel
theorem dFI_numberByNeighbours_28 : decode cFI_numberByNeighbours 28 = .ok (.invokestatic 53, 3) := by decide +kernel
theorem dFI_numberByNeighbours_31 : decode cFI_numberByNeighbours 31 = .ok (.iadd, 1) := by decide +kernel
theorem dFI_numberByNeighbours_32 : decode cFI_numberByNeighbours 32 = .ok (.istore 4, 2) := by decide +kernel
theorem dFI_numberByNeighbours_34 : decode cFI_numberByNeighbours 34 = .ok (.iload 4, 2) := by decide +kernel
theorem dFI_numberByNeighbours_36 : decode cFI_numberByNeighbours 36 = .ok (.tableswitch 44 (-2) 2 #[42, 40, 44, 38, 36], 36) := by decide +kernel
theorem dFI_numberByNeighbours_72 : decode cFI_numberByNeighbours 72 = .ok (.iconst 0, 1) := by decide +kernel
theorem dFI_numberByNeighbours_73 : decode cFI_numberByNeighbours 73 = .ok (.ireturn, 1) := by decide +kernel
theorem dFI_numberByNeighbours_74 : decode cFI_numberByNeighbours 74 = .ok (.iconst 1, 1) := by decide +kernel
theorem dFI_numberByNeighbours_75 : decode cFI_numberByNeighbours 75 = .ok (.ireturn, 1) := by decide +kernel
theorem dFI_numberByNeighbours_76 : decode cFI_numberByNeighbours 76 = .ok (.iconst 2, 1) := by decide +kernel
theorem dFI_numberByNeighbours_77 : decode cFI_numberByNeighbours 77 = .ok (.ireturn, 1) := by decide +kernel
theorem dFI_numberByNeighbours_78 : decode cFI_numberByNeighbours 78 = .ok (.iconst 3, 1) := by decide +kernel
theorem dFI_numberByNeighbours_79 : decode cFI_numberByNeighbours 79 = .ok (.ireturn, 1) := by decide +kernel
theorem dFI_numberByNeighbours_80 : decode cFI_numberByNeighbours 80 = .ok (.iconst (-1), 1) := by decide +kernel
theorem dFI_numberByNeighbours_81 : decode cFI_numberByNeighbours 81 = .ok (.ireturn, 1) := by decide +kernel
