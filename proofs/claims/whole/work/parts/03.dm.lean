abbrev cMO_held : ByteArray := prog_14_method_2_code
def yMO_held : MethodName := ⟨kR_MO, "held", "(III)I"⟩
def wsMO_held : List Cond := .code yMO_held cMO_held 3 (some .int) :: ipW
theorem dMO_held_0 : decode cMO_held 0 = .ok (.iload_n 0, 1) := by decide +kernel
theorem dMO_held_1 : decode cMO_held 1 = .ok (.iload_n 1, 1) := by decide +kernel
theorem dMO_held_2 : decode cMO_held 2 = .ok (.if_icmp .ge 7, 3) := by decide +kernel
theorem dMO_held_5 : decode cMO_held 5 = .ok (.iload_n 1, 1) := by decide +kernel
theorem dMO_held_6 : decode cMO_held 6 = .ok (.goto 13, 3) := by decide +kernel
theorem dMO_held_9 : decode cMO_held 9 = .ok (.iload_n 0, 1) := by decide +kernel
theorem dMO_held_10 : decode cMO_held 10 = .ok (.iload_n 2, 1) := by decide +kernel
theorem dMO_held_11 : decode cMO_held 11 = .ok (.if_icmp .le 7, 3) := by decide +kernel
theorem dMO_held_14 : decode cMO_held 14 = .ok (.iload_n 2, 1) := by decide +kernel
theorem dMO_held_15 : decode cMO_held 15 = .ok (.goto 4, 3) := by decide +kernel
theorem dMO_held_18 : decode cMO_held 18 = .ok (.iload_n 0, 1) := by decide +kernel
theorem dMO_held_19 : decode cMO_held 19 = .ok (.ireturn, 1) := by decide +kernel
abbrev cMO_feed : ByteArray := prog_14_method_3_code
def yMO_feed : MethodName := ⟨kR_MO, "feed", "(JI)Z"⟩
def wsMO_feed : List Cond := .code yMO_feed cMO_feed 5 (some .boolean) :: ipW
theorem dMO_feed_0 : decode cMO_feed 0 = .ok (.iload_n 3, 1) := by decide +kernel
theorem dMO_feed_1 : decode cMO_feed 1 = .ok (.iconst 1, 1) := by decide +kernel
theorem dMO_feed_2 : decode cMO_feed 2 = .ok (.if_icmp .lt 21, 3) := by decide +kernel
theorem dMO_feed_5 : decode cMO_feed 5 = .ok (.iload_n 3, 1) := by decide +kernel
theorem dMO_feed_6 : decode cMO_feed 6 = .ok (.bipush 8, 2) := by decide +kernel
theorem dMO_feed_8 : decode cMO_feed 8 = .ok (.if_icmp .gt 15, 3) := by decide +kernel
theorem dMO_feed_11 : decode cMO_feed 11 = .ok (.aload_n 0, 1) := by decide +kernel
theorem dMO_feed_12 : decode cMO_feed 12 = .ok (.getfield 80, 3) := by decide +kernel
theorem dMO_feed_15 : decode cMO_feed 15 = .ok (.iload_n 3, 1) := by decide +kernel
theorem dMO_feed_16 : decode cMO_feed 16 = .ok (.iadd, 1) := by decide +kernel
theorem dMO_feed_17 : decode cMO_feed 17 = .ok (.sipush 240, 3) := by decide +kernel
theorem dMO_feed_20 : decode cMO_feed 20 = .ok (.if_icmp .le 5, 3) := by decide +kernel
theorem dMO_feed_23 : decode cMO_feed 23 = .ok (.iconst 0, 1) := by decide +kernel
theorem dMO_feed_24 : decode cMO_feed 24 = .ok (.ireturn, 1) := by decide +kernel
theorem dMO_feed_25 : decode cMO_feed 25 = .ok (.iconst 0, 1) := by decide +kernel
theorem dMO_feed_26 : decode cMO_feed 26 = .ok (.istore 4, 2) := by decide +kernel
theorem dMO_feed_28 : decode cMO_feed 28 = .ok (.iload 4, 2) := by decide +kernel
theorem dMO_feed_30 : decode cMO_feed 30 = .ok (.iload_n 3, 1) := by decide +kernel
theorem dMO_feed_31 : decode cMO_feed 31 = .ok (.if_icmp .ge 40, 3) := by decide +kernel
theorem dMO_feed_34 : decode cMO_feed 34 = .ok (.aload_n 0, 1) := by decide +kernel
theorem dMO_feed_35 : decode cMO_feed 35 = .ok (.getfield 7, 3) := by decide +kernel
theorem dMO_feed_38 : decode cMO_feed 38 = .ok (.aload_n 0, 1) := by decide +kernel
theorem dMO_feed_39 : decode cMO_feed 39 = .ok (.getfield 80, 3) := by decide +kernel
theorem dMO_feed_42 : decode cMO_feed 42 = .ok (.lload_n 1, 1) := by decide +kernel
theorem dMO_feed_43 : decode cMO_feed 43 = .ok (.bipush 8, 2) := by decide +kernel
theorem dMO_feed_45 : decode cMO_feed 45 = .ok (.iload 4, 2) := by decide +kernel
theorem dMO_feed_47 : decode cMO_feed 47 = .ok (.imul, 1) := by decide +kernel
theorem dMO_feed_48 : decode cMO_feed 48 = .ok (.lushr, 1) := by decide +kernel
theorem dMO_feed_49 : decode cMO_feed 49 = .ok (.ldc2_w 84, 3) := by decide +kernel
theorem dMO_feed_52 : decode cMO_feed 52 = .ok (.land, 1) := by decide +kernel
theorem dMO_feed_53 : decode cMO_feed 53 = .ok (.l2i, 1) := by decide +kernel
theorem dMO_feed_54 : decode cMO_feed 54 = .ok (.iastore, 1) := by decide +kernel
theorem dMO_feed_55 : decode cMO_feed 55 = .ok (.aload_n 0, 1) := by decide +kernel
theorem dMO_feed_56 : decode cMO_feed 56 = .ok (.dup, 1) := by decide +kernel
theorem dMO_feed_57 : decode cMO_feed 57 = .ok (.getfield 80, 3) := by decide +kernel
theorem dMO_feed_60 : decode cMO_feed 60 = .ok (.iconst 1, 1) := by decide +kernel
theorem dMO_feed_61 : decode cMO_feed 61 = .ok (.iadd, 1) := by decide +kernel
theorem dMO_feed_62 : decode cMO_feed 62 = .ok (.putfield 80, 3) := by decide +kernel
theorem dMO_feed_65 : decode cMO_feed 65 = .ok (.iinc 4 1, 3) := by decide +kernel
theorem dMO_feed_68 : decode cMO_feed 68 = .ok (.goto (-40), 3) := by decide +kernel
theorem dMO_feed_71 : decode cMO_feed 71 = .ok (.iconst 1, 1) := by decide +kernel
theorem dMO_feed_72 : decode cMO_feed 72 = .ok (.ireturn, 1) := by decide +kernel
abbrev cMO_clear : ByteArray := prog_14_method_4_code
def yMO_clear : MethodName := ⟨kR_MO, "clear", "()V"⟩
def wsMO_clear : List Cond := .code yMO_clear cMO_clear 1 none :: ipW
theorem dMO_clear_0 : decode cMO_clear 0 = .ok (.aload_n 0, 1) := by decide +kernel
theorem dMO_clear_1 : decode cMO_clear 1 = .ok (.iconst 0, 1) := by decide +kernel
theorem dMO_clear_2 : decode cMO_clear 2 = .ok (.putfield 80, 3) := by decide +kernel
theorem dMO_clear_5 : decode cMO_clear 5 = .ok (.aload_n 0, 1) := by decide +kernel
theorem dMO_clear_6 : decode cMO_clear 6 = .ok (.iconst 0, 1) := by decide +kernel
theorem dMO_clear_7 : decode cMO_clear 7 = .ok (.putfield 86, 3) := by decide +kernel
theorem dMO_clear_10 : decode cMO_clear 10 = .ok (.aload_n 0, 1) := by decide +kernel
theorem dMO_clear_11 : decode cMO_clear 11 = .ok (.iconst 0, 1) := by decide +kernel
theorem dMO_clear_12 : decode cMO_clear 12 = .ok (.putfield 90, 3) := by decide +kernel
theorem dMO_clear_15 : decode cMO_clear 15 = .ok (.return_, 1) := by decide +kernel
abbrev cMO_start : ByteArray := prog_14_method_5_code
def yMO_start : MethodName := ⟨kR_MO, "start", "(I)I"⟩
def wsMO_start : List Cond := .code yMO_start cMO_start 3 (some .int) :: ipW
theorem dMO_start_0 : decode cMO_start 0 = .ok (.iload_n 1, 1) := by decide +kernel
theorem dMO_start_1 : decode cMO_start 1 = .ok (.istore_n 2, 1) := by decide +kernel
theorem dMO_start_2 : decode cMO_start 2 = .ok (.iload_n 2, 1) := by decide +kernel
theorem dMO_start_3 : decode cMO_start 3 = .ok (.aload_n 0, 1) := by decide +kernel
theorem dMO_start_4 : decode cMO_start 4 = .ok (.getfield 80, 3) := by decide +kernel
theorem dMO_start_7 : decode cMO_start 7 = .ok (.if_icmp .ge 51, 3) := by decide +kernel
theorem dMO_start_10 : decode cMO_start 10 = .ok (.iload_n 2, 1) := by decide +kernel
theorem dMO_start_11 : decode cMO_start 11 = .ok (.iconst 2, 1) := by decide +kernel
theorem dMO_start_12 : decode cMO_start 12 = .ok (.iadd, 1) := by decide +kernel
theorem dMO_start_13 : decode cMO_start 13 = .ok (.aload_n 0, 1) := by decide +kernel
theorem dMO_start_14 : decode cMO_start 14 = .ok (.getfield 80, 3) := by decide +kernel
theorem dMO_start_17 : decode cMO_start 17 = .ok (.if_icmp .ge 35, 3) := by decide +kernel
theorem dMO_start_20 : decode cMO_start 20 = .ok (.aload_n 0, 1) := by decide +kernel
theorem dMO_start_21 : decode cMO_start 21 = .ok (.getfield 7, 3) := by decide +kernel
theorem dMO_start_24 : decode cMO_start 24 = .ok (.iload_n 2, 1) := by decide +kernel
theorem dMO_start_25 : decode cMO_start 25 = .ok (.iaload, 1) := by decide +kernel
theorem dMO_start_26 : decode cMO_start 26 = .ok (.ifCond .ne 26, 3) := by decide +kernel
theorem dMO_start_29 : decode cMO_start 29 = .ok (.aload_n 0, 1) := by decide +kernel
theorem dMO_start_30 : decode cMO_start 30 = .ok (.getfield 7, 3) := by decide +kernel
theorem dMO_start_33 : decode cMO_start 33 = .ok (.iload_n 2, 1) := by decide +kernel
theorem dMO_start_34 : decode cMO_start 34 = .ok (.iconst 1, 1) := by decide +kernel
theorem dMO_start_35 : decode cMO_start 35 = .ok (.iadd, 1) := by decide +kernel
theorem dMO_start_36 : decode cMO_start 36 = .ok (.iaload, 1) := by decide +kernel
theorem dMO_start_37 : decode cMO_start 37 = .ok (.ifCond .ne 15, 3) := by decide +kernel
theorem dMO_start_40 : decode cMO_start 40 = .ok (.aload_n 0, 1) := by decide +kernel
theorem dMO_start_41 : decode cMO_start 41 = .ok (.getfield 7, 3) := by decide +kernel
theorem dMO_start_44 : decode cMO_start 44 = .ok (.iload_n 2, 1) := by decide +kernel
theorem dMO_start_45 : decode cMO_start 45 = .ok (.iconst 2, 1) := by decide +kernel
theorem dMO_start_46 : decode cMO_start 46 = .ok (.iadd, 1) := by decide +kernel
theorem dMO_start_47 : decode cMO_start 47 = .ok (.iaload, 1) := by decide +kernel
theorem dMO_start_48 : decode cMO_start 48 = .ok (.iconst 1, 1) := by decide +kernel
theorem dMO_start_49 : decode cMO_start 49 = .ok (.if_icmp .eq 9, 3) := by decide +kernel
theorem dMO_start_52 : decode cMO_start 52 = .ok (.iinc 2 1, 3) := by decide +kernel
theorem dMO_start_55 : decode cMO_start 55 = .ok (.goto (-53), 3) := by decide +kernel
theorem dMO_start_58 : decode cMO_start 58 = .ok (.iload_n 2, 1) := by decide +kernel
theorem dMO_start_59 : decode cMO_start 59 = .ok (.ireturn, 1) := by decide +kernel
abbrev cMO_units : ByteArray := prog_14_method_6_code
def yMO_units : MethodName := ⟨kR_MO, "units", "()I"⟩
def wsMO_units : List Cond := .code yMO_units cMO_units 3 (some .int) :: ipW
theorem dMO_units_0 : decode cMO_units 0 = .ok (.iconst 0, 1) := by decide +kernel
theorem dMO_units_1 : decode cMO_units 1 = .ok (.istore_n 1, 1) := by decide +kernel
theorem dMO_units_2 : decode cMO_units 2 = .ok (.aload_n 0, 1) := by decide +kernel
theorem dMO_units_3 : decode cMO_units 3 = .ok (.iconst 0, 1) := by decide +kernel
theorem dMO_units_4 : decode cMO_units 4 = .ok (.invokevirtual 93, 3) := by decide +kernel
theorem dMO_units_7 : decode cMO_units 7 = .ok (.istore_n 2, 1) := by decide +kernel
theorem dMO_units_8 : decode cMO_units 8 = .ok (.iload_n 2, 1) := by decide +kernel
theorem dMO_units_9 : decode cMO_units 9 = .ok (.aload_n 0, 1) := by decide +kernel
theorem dMO_units_10 : decode cMO_units 10 = .ok (.getfield 80, 3) := by decide +kernel
theorem dMO_units_13 : decode cMO_units 13 = .ok (.if_icmp .ge 17, 3) := by decide +kernel
theorem dMO_units_16 : decode cMO_units 16 = .ok (.iinc 1 1, 3) := by decide +kernel
theorem dMO_units_19 : decode cMO_units 19 = .ok (.aload_n 0, 1) := by decide +kernel
theorem dMO_units_20 : decode cMO_units 20 = .ok (.iload_n 2, 1) := by decide +kernel
theorem dMO_units_21 : decode cMO_units 21 = .ok (.iconst 3, 1) := by decide +kernel
theorem dMO_units_22 : decode cMO_units 22 = .ok (.iadd, 1) := by decide +kernel
theorem dMO_units_23 : decode cMO_units 23 = .ok (.invokevirtual 93, 3) := by decide +kernel
theorem dMO_units_26 : decode cMO_units 26 = .ok (.istore_n 2, 1) := by decide +kernel
theorem dMO_units_27 : decode cMO_units 27 = .ok (.goto (-19), 3) := by decide +kernel
theorem dMO_units_30 : decode cMO_units 30 = .ok (.iload_n 1, 1) := by decide +kernel
theorem dMO_units_31 : decode cMO_units 31 = .ok (.ireturn, 1) := by decide +kernel
abbrev cMO_open : ByteArray := prog_14_method_7_code
def yMO_open : MethodName := ⟨kR_MO, "open", "(I)Z"⟩
def wsMO_open : List Cond := .code yMO_open cMO_open 7 (some .boolean) :: ipW
theorem dMO_open_0 : decode cMO_open 0 = .ok (.iload_n 1, 1) := by decide +kernel
theorem dMO_open_1 : decode cMO_open 1 = .ok (.ifCond .lt 11, 3) := by decide +kernel
theorem dMO_open_4 : decode cMO_open 4 = .ok (.iload_n 1, 1) := by decide +kernel
theorem dMO_open_5 : decode cMO_open 5 = .ok (.aload_n 0, 1) := by decide +kernel
theorem dMO_open_6 : decode cMO_open 6 = .ok (.invokevirtual 97, 3) := by decide +kernel
theorem dMO_open_9 : decode cMO_open 9 = .ok (.if_icmp .lt 5, 3) := by decide +kernel
theorem dMO_open_12 : decode cMO_open 12 = .ok (.iconst 0, 1) := by decide +kernel
theorem dMO_open_13 : decode cMO_open 13 = .ok (.ireturn, 1) := by decide +kernel
theorem dMO_open_14 : decode cMO_open 14 = .ok (.aload_n 0, 1) := by decide +kernel
theorem dMO_open_15 : decode cMO_open 15 = .ok (.iconst 0, 1) := by decide +kernel
theorem dMO_open_16 : decode cMO_open 16 = .ok (.invokevirtual 93, 3) := by decide +kernel
theorem dMO_open_19 : decode cMO_open 19 = .ok (.istore_n 2, 1) := by decide +kernel
theorem dMO_open_20 : decode cMO_open 20 = .ok (.iconst 0, 1) := by decide +kernel
theorem dMO_open_21 : decode cMO_open 21 = .ok (.istore_n 3, 1) := by decide +kernel
theorem dMO_open_22 : decode cMO_open 22 = .ok (.iload_n 3, 1) := by decide +kernel
theorem dMO_open_23 : decode cMO_open 23 = .ok (.iload_n 1, 1) := by decide +kernel
theorem dMO_open_24 : decode cMO_open 24 = .ok (.if_icmp .ge 17, 3) := by decide +kernel
theorem dMO_open_27 : decode cMO_open 27 = .ok (.aload_n 0, 1) := by decide +kernel
theorem dMO_open_28 : decode cMO_open 28 = .ok (.iload_n 2, 1) := by decide +kernel
theorem dMO_open_29 : decode cMO_open 29 = .ok (.iconst 3, 1) := by decide +kernel
theorem dMO_open_30 : decode cMO_open 30 = .ok (.iadd, 1) := by decide +kernel
theorem dMO_open_31 : decode cMO_open 31 = .ok (.invokevirtual 93, 3) := by decide +kernel
theorem dMO_open_34 : decode cMO_open 34 = .ok (.istore_n 2, 1) := by decide +kernel
theorem dMO_open_35 : decode cMO_open 35 = .ok (.iinc 3 1, 3) := by decide +kernel
theorem dMO_open_38 : decode cMO_open 38 = .ok (.goto (-16), 3) := by decide +kernel
theorem dMO_open_41 : decode cMO_open 41 = .ok (.aload_n 0, 1) := by decide +kernel
theorem dMO_open_42 : decode cMO_open 42 = .ok (.iload_n 2, 1) := by decide +kernel
theorem dMO_open_43 : decode cMO_open 43 = .ok (.iconst 3, 1) := by decide +kernel
theorem dMO_open_44 : decode cMO_open 44 = .ok (.iadd, 1) := by decide +kernel
theorem dMO_open_45 : decode cMO_open 45 = .ok (.invokevirtual 93, 3) := by decide +kernel
theorem dMO_open_48 : decode cMO_open 48 = .ok (.istore_n 3, 1) := by decide +kernel
theorem dMO_open_49 : decode cMO_open 49 = .ok (.iconst 0, 1) := by decide +kernel
theorem dMO_open_50 : decode cMO_open 50 = .ok (.istore 4, 2) := by decide +kernel
theorem dMO_open_52 : decode cMO_open 52 = .ok (.aload_n 0, 1) := by decide +kernel
theorem dMO_open_53 : decode cMO_open 53 = .ok (.iconst 0, 1) := by decide +kernel
theorem dMO_open_54 : decode cMO_open 54 = .ok (.putfield 101, 3) := by decide +kernel
theorem dMO_open_57 : decode cMO_open 57 = .ok (.iload_n 2, 1) := by decide +kernel
theorem dMO_open_58 : decode cMO_open 58 = .ok (.iconst 3, 1) := by decide +kernel
theorem dMO_open_59 : decode cMO_open 59 = .ok (.iadd, 1) := by decide +kernel
theorem dMO_open_60 : decode cMO_open 60 = .ok (.istore 5, 2) := by decide +kernel
theorem dMO_open_62 : decode cMO_open 62 = .ok (.iload 5, 2) := by decide +kernel
theorem dMO_open_64 : decode cMO_open 64 = .ok (.iload_n 3, 1) := by decide +kernel
theorem dMO_open_65 : decode cMO_open 65 = .ok (.if_icmp .ge 89, 3) := by decide +kernel
theorem dMO_open_68 : decode cMO_open 68 = .ok (.iload 4, 2) := by decide +kernel
theorem dMO_open_70 : decode cMO_open 70 = .ok (.iconst 2, 1) := by decide +kernel
theorem dMO_open_71 : decode cMO_open 71 = .ok (.if_icmp .lt 18, 3) := by decide +kernel
theorem dMO_open_74 : decode cMO_open 74 = .ok (.aload_n 0, 1) := by decide +kernel
theorem dMO_open_75 : decode cMO_open 75 = .ok (.getfield 7, 3) := by decide +kernel
theorem dMO_open_78 : decode cMO_open 78 = .ok (.iload 5, 2) := by decide +kernel
theorem dMO_open_80 : decode cMO_open 80 = .ok (.iaload, 1) := by decide +kernel
theorem dMO_open_81 : decode cMO_open 81 = .ok (.iconst 3, 1) := by decide +kernel
theorem dMO_open_82 : decode cMO_open 82 = .ok (.if_icmp .ne 7, 3) := by decide +kernel
theorem dMO_open_85 : decode cMO_open 85 = .ok (.iconst 1, 1) := by decide +kernel
theorem dMO_open_86 : decode cMO_open 86 = .ok (.goto 4, 3) := by decide +kernel
theorem dMO_open_89 : decode cMO_open 89 = .ok (.iconst 0, 1) := by decide +kernel
theorem dMO_open_90 : decode cMO_open 90 = .ok (.istore 6, 2) := by decide +kernel
theorem dMO_open_92 : decode cMO_open 92 = .ok (.aload_n 0, 1) := by decide +kernel
theorem dMO_open_93 : decode cMO_open 93 = .ok (.getfield 7, 3) := by decide +kernel
theorem dMO_open_96 : decode cMO_open 96 = .ok (.iload 5, 2) := by decide +kernel
theorem dMO_open_98 : decode cMO_open 98 = .ok (.iaload, 1) := by decide +kernel
theorem dMO_open_99 : decode cMO_open 99 = .ok (.ifCond .ne 15, 3) := by decide +kernel
theorem dMO_open_102 : decode cMO_open 102 = .ok (.iload 6, 2) := by decide +kernel
theorem dMO_open_104 : decode cMO_open 104 = .ok (.ifCond .ne 10, 3) := by decide +kernel
theorem dMO_open_107 : decode cMO_open 107 = .ok (.iload 4, 2) := by decide +kernel
theorem dMO_open_109 : decode cMO_open 109 = .ok (.iconst 1, 1) := by decide +kernel
theorem dMO_open_110 : decode cMO_open 110 = .ok (.iadd, 1) := by decide +kernel
theorem dMO_open_111 : decode cMO_open 111 = .ok (.goto 4, 3) := by decide +kernel
theorem dMO_open_114 : decode cMO_open 114 = .ok (.iconst 0, 1) := by decide +kernel
theorem dMO_open_115 : decode cMO_open 115 = .ok (.istore 4, 2) := by decide +kernel
theorem dMO_open_117 : decode cMO_open 117 = .ok (.iload 6, 2) := by decide +kernel
theorem dMO_open_119 : decode cMO_open 119 = .ok (.ifCond .ne 29, 3) := by decide +kernel
theorem dMO_open_122 : decode cMO_open 122 = .ok (.aload_n 0, 1) := by decide +kernel
theorem dMO_open_123 : decode cMO_open 123 = .ok (.getfield 13, 3) := by decide +kernel
theorem dMO_open_126 : decode cMO_open 126 = .ok (.aload_n 0, 1) := by decide +kernel
theorem dMO_open_127 : decode cMO_open 127 = .ok (.getfield 101, 3) := by decide +kernel
theorem dMO_open_130 : decode cMO_open 130 = .ok (.aload_n 0, 1) := by decide +kernel
theorem dMO_open_131 : decode cMO_open 131 = .ok (.getfield 7, 3) := by decide +kernel
theorem dMO_open_134 : decode cMO_open 134 = .ok (.iload 5, 2) := by decide +kernel
theorem dMO_open_136 : decode cMO_open 136 = .ok (.iaload, 1) := by decide +kernel
theorem dMO_open_137 : decode cMO_open 137 = .ok (.iastore, 1) := by decide +kernel
theorem dMO_open_138 : decode cMO_open 138 = .ok (.aload_n 0, 1) := by decide +kernel
theorem dMO_open_139 : decode cMO_open 139 = .ok (.dup, 1) := by decide +kernel
theorem dMO_open_140 : decode cMO_open 140 = .ok (.getfield 101, 3) := by decide +kernel
theorem dMO_open_143 : decode cMO_open 143 = .ok (.iconst 1, 1) := by decide +kernel
theorem dMO_open_144 : decode cMO_open 144 = .ok (.iadd, 1) := by decide +kernel
theorem dMO_open_145 : decode cMO_open 145 = .ok (.putfield 101, 3) := by decide +kernel
theorem dMO_open_148 : decode cMO_open 148 = .ok (.iinc 5 1, 3) := by decide +kernel
theorem dMO_open_151 : decode cMO_open 151 = .ok (.goto (-89), 3) := by decide +kernel
theorem dMO_open_154 : decode cMO_open 154 = .ok (.iconst 1, 1) := by decide +kernel
theorem dMO_open_155 : decode cMO_open 155 = .ok (.ireturn, 1) := by decide +kernel
abbrev cMO_payload : ByteArray := prog_14_method_8_code
def yMO_payload : MethodName := ⟨kR_MO, "payload", "(II)I"⟩
def wsMO_payload : List Cond := .code yMO_payload cMO_payload 3 (some .int) :: ipW
theorem dMO_payload_0 : decode cMO_payload 0 = .ok (.aload_n 0, 1) := by decide +kernel
theorem dMO_payload_1 : decode cMO_payload 1 = .ok (.iload_n 1, 1) := by decide +kernel
theorem dMO_payload_2 : decode cMO_payload 2 = .ok (.invokevirtual 104, 3) := by decide +kernel
theorem dMO_payload_5 : decode cMO_payload 5 = .ok (.ifCond .eq 16, 3) := by decide +kernel
theorem dMO_payload_8 : decode cMO_payload 8 = .ok (.iload_n 2, 1) := by decide +kernel
theorem dMO_payload_9 : decode cMO_payload 9 = .ok (.iconst (-1), 1) := by decide +kernel
theorem dMO_payload_10 : decode cMO_payload 10 = .ok (.if_icmp .lt 11, 3) := by decide +kernel
theorem dMO_payload_13 : decode cMO_payload 13 = .ok (.iload_n 2, 1) := by decide +kernel
theorem dMO_payload_14 : decode cMO_payload 14 = .ok (.aload_n 0, 1) := by decide +kernel
theorem dMO_payload_15 : decode cMO_payload 15 = .ok (.getfield 101, 3) := by decide +kernel
theorem dMO_payload_18 : decode cMO_payload 18 = .ok (.if_icmp .lt 5, 3) := by decide +kernel
theorem dMO_payload_21 : decode cMO_payload 21 = .ok (.iconst (-1), 1) := by decide +kernel
theorem dMO_payload_22 : decode cMO_payload 22 = .ok (.ireturn, 1) := by decide +kernel
theorem dMO_payload_23 : decode cMO_payload 23 = .ok (.iload_n 2, 1) := by decide +kernel
theorem dMO_payload_24 : decode cMO_payload 24 = .ok (.iconst (-1), 1) := by decide +kernel
theorem dMO_payload_25 : decode cMO_payload 25 = .ok (.if_icmp .ne 10, 3) := by decide +kernel
theorem dMO_payload_28 : decode cMO_payload 28 = .ok (.aload_n 0, 1) := by decide +kernel
theorem dMO_payload_29 : decode cMO_payload 29 = .ok (.getfield 101, 3) := by decide +kernel
theorem dMO_payload_32 : decode cMO_payload 32 = .ok (.goto 9, 3) := by decide +kernel
theorem dMO_payload_35 : decode cMO_payload 35 = .ok (.aload_n 0, 1) := by decide +kernel
theorem dMO_payload_36 : decode cMO_payload 36 = .ok (.getfield 13, 3) := by decide +kernel
theorem dMO_payload_39 : decode cMO_payload 39 = .ok (.iload_n 2, 1) := by decide +kernel
theorem dMO_payload_40 : decode cMO_payload 40 = .ok (.iaload, 1) := by decide +kernel
theorem dMO_payload_41 : decode cMO_payload 41 = .ok (.ireturn, 1) := by decide +kernel
abbrev cMO_bit : ByteArray := prog_14_method_9_code
def yMO_bit : MethodName := ⟨kR_MO, "bit", "()I"⟩
def wsMO_bit : List Cond := .code yMO_bit cMO_bit 3 (some .int) :: ipW
theorem dMO_bit_0 : decode cMO_bit 0 = .ok (.iconst 1, 1) := by decide +kernel
theorem dMO_bit_1 : decode cMO_bit 1 = .ok (.aload_n 0, 1) := by decide +kernel
theorem dMO_bit_2 : decode cMO_bit 2 = .ok (.getfield 108, 3) := by decide +kernel
theorem dMO_bit_5 : decode cMO_bit 5 = .ok (.bipush 8, 2) := by decide +kernel
theorem dMO_bit_7 : decode cMO_bit 7 = .ok (.idiv, 1) := by decide +kernel
theorem dMO_bit_8 : decode cMO_bit 8 = .ok (.iadd, 1) := by decide +kernel
theorem dMO_bit_9 : decode cMO_bit 9 = .ok (.istore_n 1, 1) := by decide +kernel
theorem dMO_bit_10 : decode cMO_bit 10 = .ok (.iload_n 1, 1) := by decide +kernel
theorem dMO_bit_11 : decode cMO_bit 11 = .ok (.aload_n 0, 1) := by decide +kernel
theorem dMO_bit_12 : decode cMO_bit 12 = .ok (.getfield 101, 3) := by decide +kernel
theorem dMO_bit_15 : decode cMO_bit 15 = .ok (.if_icmp .ge 25, 3) := by decide +kernel
theorem dMO_bit_18 : decode cMO_bit 18 = .ok (.aload_n 0, 1) := by decide +kernel
theorem dMO_bit_19 : decode cMO_bit 19 = .ok (.getfield 13, 3) := by decide +kernel
theorem dMO_bit_22 : decode cMO_bit 22 = .ok (.iload_n 1, 1) := by decide +kernel
theorem dMO_bit_23 : decode cMO_bit 23 = .ok (.iaload, 1) := by decide +kernel
theorem dMO_bit_24 : decode cMO_bit 24 = .ok (.bipush 7, 2) := by decide +kernel
theorem dMO_bit_26 : decode cMO_bit 26 = .ok (.aload_n 0, 1) := by decide +kernel
theorem dMO_bit_27 : decode cMO_bit 27 = .ok (.getfield 108, 3) := by decide +kernel
theorem dMO_bit_30 : decode cMO_bit 30 = .ok (.bipush 8, 2) := by decide +kernel
theorem dMO_bit_32 : decode cMO_bit 32 = .ok (.irem, 1) := by decide +kernel
theorem dMO_bit_33 : decode cMO_bit 33 = .ok (.isub, 1) := by decide +kernel
theorem dMO_bit_34 : decode cMO_bit 34 = .ok (.ishr, 1) := by decide +kernel
theorem dMO_bit_35 : decode cMO_bit 35 = .ok (.iconst 1, 1) := by decide +kernel
theorem dMO_bit_36 : decode cMO_bit 36 = .ok (.iand, 1) := by decide +kernel
theorem dMO_bit_37 : decode cMO_bit 37 = .ok (.goto 4, 3) := by decide +kernel
theorem dMO_bit_40 : decode cMO_bit 40 = .ok (.iconst 0, 1) := by decide +kernel
theorem dMO_bit_41 : decode cMO_bit 41 = .ok (.istore_n 2, 1) := by decide +kernel
theorem dMO_bit_42 : decode cMO_bit 42 = .ok (.aload_n 0, 1) := by decide +kernel
theorem dMO_bit_43 : decode cMO_bit 43 = .ok (.dup, 1) := by decide +kernel
theorem dMO_bit_44 : decode cMO_bit 44 = .ok (.getfield 108, 3) := by decide +kernel
theorem dMO_bit_47 : decode cMO_bit 47 = .ok (.iconst 1, 1) := by decide +kernel
theorem dMO_bit_48 : decode cMO_bit 48 = .ok (.iadd, 1) := by decide +kernel
theorem dMO_bit_49 : decode cMO_bit 49 = .ok (.putfield 108, 3) := by decide +kernel
theorem dMO_bit_52 : decode cMO_bit 52 = .ok (.iload_n 2, 1) := by decide +kernel
theorem dMO_bit_53 : decode cMO_bit 53 = .ok (.ireturn, 1) := by decide +kernel
abbrev cMO_needed : ByteArray := prog_14_method_10_code
def yMO_needed : MethodName := ⟨kR_MO, "needed", "(I)I"⟩
def wsMO_needed : List Cond := .code yMO_needed cMO_needed 4 (some .int) :: ipW
theorem dMO_needed_0 : decode cMO_needed 0 = .ok (.iconst 0, 1) := by decide +kernel
theorem dMO_needed_1 : decode cMO_needed 1 = .ok (.istore_n 2, 1) := by decide +kernel
theorem dMO_needed_2 : decode cMO_needed 2 = .ok (.iconst 0, 1) := by decide +kernel
theorem dMO_needed_3 : decode cMO_needed 3 = .ok (.istore_n 3, 1) := by decide +kernel
theorem dMO_needed_4 : decode cMO_needed 4 = .ok (.iload_n 3, 1) := by decide +kernel
theorem dMO_needed_5 : decode cMO_needed 5 = .ok (.iload_n 1, 1) := by decide +kernel
theorem dMO_needed_6 : decode cMO_needed 6 = .ok (.if_icmp .ge 50, 3) := by decide +kernel
theorem dMO_needed_9 : decode cMO_needed 9 = .ok (.aload_n 0, 1) := by decide +kernel
theorem dMO_needed_10 : decode cMO_needed 10 = .ok (.getfield 111, 3) := by decide +kernel
theorem dMO_needed_13 : decode cMO_needed 13 = .ok (.ifCond .ne 43, 3) := by decide +kernel
theorem dMO_needed_16 : decode cMO_needed 16 = .ok (.iconst 1, 1) := by decide +kernel
theorem dMO_needed_17 : decode cMO_needed 17 = .ok (.aload_n 0, 1) := by decide +kernel
theorem dMO_needed_18 : decode cMO_needed 18 = .ok (.getfield 108, 3) := by decide +kernel
theorem dMO_needed_21 : decode cMO_needed 21 = .ok (.bipush 8, 2) := by decide +kernel
theorem dMO_needed_23 : decode cMO_needed 23 = .ok (.idiv, 1) := by decide +kernel
theorem dMO_needed_24 : decode cMO_needed 24 = .ok (.iadd, 1) := by decide +kernel
theorem dMO_needed_25 : decode cMO_needed 25 = .ok (.aload_n 0, 1) := by decide +kernel
theorem dMO_needed_26 : decode cMO_needed 26 = .ok (.getfield 101, 3) := by decide +kernel
theorem dMO_needed_29 : decode cMO_needed 29 = .ok (.if_icmp .lt 12, 3) := by decide +kernel
theorem dMO_needed_32 : decode cMO_needed 32 = .ok (.aload_n 0, 1) := by decide +kernel
theorem dMO_needed_33 : decode cMO_needed 33 = .ok (.bipush (-4), 2) := by decide +kernel
theorem dMO_needed_35 : decode cMO_needed 35 = .ok (.putfield 111, 3) := by decide +kernel
theorem dMO_needed_38 : decode cMO_needed 38 = .ok (.goto 12, 3) := by decide +kernel
theorem dMO_needed_41 : decode cMO_needed 41 = .ok (.iconst 2, 1) := by decide +kernel
theorem dMO_needed_42 : decode cMO_needed 42 = .ok (.iload_n 2, 1) := by decide +kernel
theorem dMO_needed_43 : decode cMO_needed 43 = .ok (.imul, 1) := by decide +kernel
theorem dMO_needed_44 : decode cMO_needed 44 = .ok (.aload_n 0, 1) := by decide +kernel
theorem dMO_needed_45 : decode cMO_needed 45 = .ok (.invokevirtual 114, 3) := by decide +kernel
theorem dMO_needed_48 : decode cMO_needed 48 = .ok (.iadd, 1) := by decide +kernel
theorem dMO_needed_49 : decode cMO_needed 49 = .ok (.istore_n 2, 1) := by decide +kernel
theorem dMO_needed_50 : decode cMO_needed 50 = .ok (.iinc 3 1, 3) := by decide +kernel
theorem dMO_needed_53 : decode cMO_needed 53 = .ok (.goto (-49), 3) := by decide +kernel
theorem dMO_needed_56 : decode cMO_needed 56 = .ok (.iload_n 2, 1) := by decide +kernel
theorem dMO_needed_57 : decode cMO_needed 57 = .ok (.ireturn, 1) := by decide +kernel
abbrev cMO_code : ByteArray := prog_14_method_11_code
def yMO_code : MethodName := ⟨kR_MO, "code", "()I"⟩
def wsMO_code : List Cond := .code yMO_code cMO_code 3 (some .int) :: ipW
theorem dMO_code_0 : decode cMO_code 0 = .ok (.iconst 0, 1) := by decide +kernel
theorem dMO_code_1 : decode cMO_code 1 = .ok (.istore_n 1, 1) := by decide +kernel
theorem dMO_code_2 : decode cMO_code 2 = .ok (.aload_n 0, 1) := by decide +kernel
theorem dMO_code_3 : decode cMO_code 3 = .ok (.iconst 1, 1) := by decide +kernel
theorem dMO_code_4 : decode cMO_code 4 = .ok (.invokevirtual 117, 3) := by decide +kernel
theorem dMO_code_7 : decode cMO_code 7 = .ok (.istore_n 2, 1) := by decide +kernel
theorem dMO_code_8 : decode cMO_code 8 = .ok (.iload_n 2, 1) := by decide +kernel
theorem dMO_code_9 : decode cMO_code 9 = .ok (.ifCond .ne 37, 3) := by decide +kernel
theorem dMO_code_12 : decode cMO_code 12 = .ok (.aload_n 0, 1) := by decide +kernel
theorem dMO_code_13 : decode cMO_code 13 = .ok (.getfield 111, 3) := by decide +kernel
theorem dMO_code_16 : decode cMO_code 16 = .ok (.ifCond .ne 30, 3) := by decide +kernel
theorem dMO_code_19 : decode cMO_code 19 = .ok (.iinc 1 1, 3) := by decide +kernel
theorem dMO_code_22 : decode cMO_code 22 = .ok (.iload_n 1, 1) := by decide +kernel
theorem dMO_code_23 : decode cMO_code 23 = .ok (.bipush 7, 2) := by decide +kernel
theorem dMO_code_25 : decode cMO_code 25 = .ok (.if_icmp .ne 12, 3) := by decide +kernel
theorem dMO_code_28 : decode cMO_code 28 = .ok (.aload_n 0, 1) := by decide +kernel
theorem dMO_code_29 : decode cMO_code 29 = .ok (.bipush (-3), 2) := by decide +kernel
theorem dMO_code_31 : decode cMO_code 31 = .ok (.putfield 111, 3) := by decide +kernel
theorem dMO_code_34 : decode cMO_code 34 = .ok (.goto (-26), 3) := by decide +kernel
theorem dMO_code_37 : decode cMO_code 37 = .ok (.aload_n 0, 1) := by decide +kernel
theorem dMO_code_38 : decode cMO_code 38 = .ok (.iconst 1, 1) := by decide +kernel
theorem dMO_code_39 : decode cMO_code 39 = .ok (.invokevirtual 117, 3) := by decide +kernel
theorem dMO_code_42 : decode cMO_code 42 = .ok (.istore_n 2, 1) := by decide +kernel
theorem dMO_code_43 : decode cMO_code 43 = .ok (.goto (-35), 3) := by decide +kernel
theorem dMO_code_46 : decode cMO_code 46 = .ok (.iconst 1, 1) := by decide +kernel
theorem dMO_code_47 : decode cMO_code 47 = .ok (.iload_n 1, 1) := by decide +kernel
theorem dMO_code_48 : decode cMO_code 48 = .ok (.ishl, 1) := by decide +kernel
theorem dMO_code_49 : decode cMO_code 49 = .ok (.iconst 1, 1) := by decide +kernel
theorem dMO_code_50 : decode cMO_code 50 = .ok (.isub, 1) := by decide +kernel
theorem dMO_code_51 : decode cMO_code 51 = .ok (.aload_n 0, 1) := by decide +kernel
theorem dMO_code_52 : decode cMO_code 52 = .ok (.iload_n 1, 1) := by decide +kernel
theorem dMO_code_53 : decode cMO_code 53 = .ok (.invokevirtual 117, 3) := by decide +kernel
theorem dMO_code_56 : decode cMO_code 56 = .ok (.iadd, 1) := by decide +kernel
theorem dMO_code_57 : decode cMO_code 57 = .ok (.ireturn, 1) := by decide +kernel
abbrev cMO_within : ByteArray := prog_14_method_12_code
def yMO_within : MethodName := ⟨kR_MO, "within", "(III)I"⟩
def wsMO_within : List Cond := .code yMO_within cMO_within 4 (some .int) :: ipW
theorem dMO_within_0 : decode cMO_within 0 = .ok (.aload_n 0, 1) := by decide +kernel
theorem dMO_within_1 : decode cMO_within 1 = .ok (.getfield 111, 3) := by decide +kernel
theorem dMO_within_4 : decode cMO_within 4 = .ok (.ifCond .ne 19, 3) := by decide +kernel
theorem dMO_within_7 : decode cMO_within 7 = .ok (.iload_n 1, 1) := by decide +kernel
theorem dMO_within_8 : decode cMO_within 8 = .ok (.iload_n 2, 1) := by decide +kernel
theorem dMO_within_9 : decode cMO_within 9 = .ok (.if_icmp .lt 8, 3) := by decide +kernel
theorem dMO_within_12 : decode cMO_within 12 = .ok (.iload_n 1, 1) := by decide +kernel
theorem dMO_within_13 : decode cMO_within 13 = .ok (.iload_n 3, 1) := by decide +kernel
theorem dMO_within_14 : decode cMO_within 14 = .ok (.if_icmp .le 9, 3) := by decide +kernel
theorem dMO_within_17 : decode cMO_within 17 = .ok (.aload_n 0, 1) := by decide +kernel
theorem dMO_within_18 : decode cMO_within 18 = .ok (.bipush (-3), 2) := by decide +kernel
theorem dMO_within_20 : decode cMO_within 20 = .ok (.putfield 111, 3) := by decide +kernel
theorem dMO_within_23 : decode cMO_within 23 = .ok (.iload_n 1, 1) := by decide +kernel
theorem dMO_within_24 : decode cMO_within 24 = .ok (.ireturn, 1) := by decide +kernel
abbrev cMO_signedCode : ByteArray := prog_14_method_13_code
def yMO_signedCode : MethodName := ⟨kR_MO, "signedCode", "()I"⟩
def wsMO_signedCode : List Cond := .code yMO_signedCode cMO_signedCode 2 (some .int) :: ipW
theorem dMO_signedCode_0 : decode cMO_signedCode 0 = .ok (.aload_n 0, 1) := by decide +kernel
theorem dMO_signedCode_1 : decode cMO_signedCode 1 = .ok (.invokevirtual 120, 3) := by decide +kernel
theorem dMO_signedCode_4 : decode cMO_signedCode 4 = .ok (.istore_n 1, 1) := by decide +kernel
theorem dMO_signedCode_5 : decode cMO_signedCode 5 = .ok (.aload_n 0, 1) := by decide +kernel
theorem dMO_signedCode_6 : decode cMO_signedCode 6 = .ok (.iload_n 1, 1) := by decide +kernel
theorem dMO_signedCode_7 : decode cMO_signedCode 7 = .ok (.iconst 2, 1) := by decide +kernel
theorem dMO_signedCode_8 : decode cMO_signedCode 8 = .ok (.irem, 1) := by decide +kernel
theorem dMO_signedCode_9 : decode cMO_signedCode 9 = .ok (.iconst 1, 1) := by decide +kernel
theorem dMO_signedCode_10 : decode cMO_signedCode 10 = .ok (.if_icmp .ne 11, 3) := by decide +kernel
theorem dMO_signedCode_13 : decode cMO_signedCode 13 = .ok (.iload_n 1, 1) := by decide +kernel
theorem dMO_signedCode_14 : decode cMO_signedCode 14 = .ok (.iconst 1, 1) := by decide +kernel
theorem dMO_signedCode_15 : decode cMO_signedCode 15 = .ok (.iadd, 1) := by decide +kernel
theorem dMO_signedCode_16 : decode cMO_signedCode 16 = .ok (.iconst 2, 1) := by decide +kernel
theorem dMO_signedCode_17 : decode cMO_signedCode 17 = .ok (.idiv, 1) := by decide +kernel
theorem dMO_signedCode_18 : decode cMO_signedCode 18 = .ok (.goto 7, 3) := by decide +kernel
theorem dMO_signedCode_21 : decode cMO_signedCode 21 = .ok (.iload_n 1, 1) := by decide +kernel
theorem dMO_signedCode_22 : decode cMO_signedCode 22 = .ok (.iconst 2, 1) := by decide +kernel
theorem dMO_signedCode_23 : decode cMO_signedCode 23 = .ok (.idiv, 1) := by decide +kernel
theorem dMO_signedCode_24 : decode cMO_signedCode 24 = .ok (.ineg, 1) := by decide +kernel
theorem dMO_signedCode_25 : decode cMO_signedCode 25 = .ok (.bipush (-7), 2) := by decide +kernel
theorem dMO_signedCode_27 : decode cMO_signedCode 27 = .ok (.bipush 7, 2) := by decide +kernel
theorem dMO_signedCode_29 : decode cMO_signedCode 29 = .ok (.invokevirtual 123, 3) := by decide +kernel
theorem dMO_signedCode_32 : decode cMO_signedCode 32 = .ok (.ireturn, 1) := by decide +kernel
abbrev cMO_readParameters : ByteArray := prog_14_method_14_code
def yMO_readParameters : MethodName := ⟨kR_MO, "readParameters", "()V"⟩
def wsMO_readParameters : List Cond := .code yMO_readParameters cMO_readParameters 2 none :: ipW
theorem dMO_readParameters_0 : decode cMO_readParameters 0 = .ok (.aload_n 0, 1) := by decide +kernel
theorem dMO_readParameters_1 : decode cMO_readParameters 1 = .ok (.iconst 0, 1) := by decide +kernel
theorem dMO_readParameters_2 : decode cMO_readParameters 2 = .ok (.putfield 108, 3) := by decide +kernel
theorem dMO_readParameters_5 : decode cMO_readParameters 5 = .ok (.iconst 0, 1) := by decide +kernel
theorem dMO_readParameters_6 : decode cMO_readParameters 6 = .ok (.istore_n 1, 1) := by decide +kernel
theorem dMO_readParameters_7 : decode cMO_readParameters 7 = .ok (.iload_n 1, 1) := by decide +kernel
theorem dMO_readParameters_8 : decode cMO_readParameters 8 = .ok (.bipush 10, 2) := by decide +kernel
theorem dMO_readParameters_10 : decode cMO_readParameters 10 = .ok (.if_icmp .ge 16, 3) := by decide +kernel
theorem dMO_readParameters_13 : decode cMO_readParameters 13 = .ok (.aload_n 0, 1) := by decide +kernel
theorem dMO_readParameters_14 : decode cMO_readParameters 14 = .ok (.getfield 19, 3) := by decide +kernel
theorem dMO_readParameters_17 : decode cMO_readParameters 17 = .ok (.iload_n 1, 1) := by decide +kernel
theorem dMO_readParameters_18 : decode cMO_readParameters 18 = .ok (.iconst 0, 1) := by decide +kernel
theorem dMO_readParameters_19 : decode cMO_readParameters 19 = .ok (.iastore, 1) := by decide +kernel
theorem dMO_readParameters_20 : decode cMO_readParameters 20 = .ok (.iinc 1 1, 3) := by decide +kernel
theorem dMO_readParameters_23 : decode cMO_readParameters 23 = .ok (.goto (-16), 3) := by decide +kernel
theorem dMO_readParameters_26 : decode cMO_readParameters 26 = .ok (.aload_n 0, 1) := by decide +kernel
theorem dMO_readParameters_27 : decode cMO_readParameters 27 = .ok (.getfield 19, 3) := by decide +kernel
theorem dMO_readParameters_30 : decode cMO_readParameters 30 = .ok (.iconst 0, 1) := by decide +kernel
theorem dMO_readParameters_31 : decode cMO_readParameters 31 = .ok (.aload_n 0, 1) := by decide +kernel
theorem dMO_readParameters_32 : decode cMO_readParameters 32 = .ok (.aload_n 0, 1) := by decide +kernel
theorem dMO_readParameters_33 : decode cMO_readParameters 33 = .ok (.invokevirtual 120, 3) := by decide +kernel
theorem dMO_readParameters_36 : decode cMO_readParameters 36 = .ok (.iconst 0, 1) := by decide +kernel
theorem dMO_readParameters_37 : decode cMO_readParameters 37 = .ok (.bipush 51, 2) := by decide +kernel
theorem dMO_readParameters_39 : decode cMO_readParameters 39 = .ok (.invokevirtual 123, 3) := by decide +kernel
theorem dMO_readParameters_42 : decode cMO_readParameters 42 = .ok (.iastore, 1) := by decide +kernel
theorem dMO_readParameters_43 : decode cMO_readParameters 43 = .ok (.iconst 1, 1) := by decide +kernel
theorem dMO_readParameters_44 : decode cMO_readParameters 44 = .ok (.istore_n 1, 1) := by decide +kernel
theorem dMO_readParameters_45 : decode cMO_readParameters 45 = .ok (.iload_n 1, 1) := by decide +kernel
theorem dMO_readParameters_46 : decode cMO_readParameters 46 = .ok (.iconst 4, 1) := by decide +kernel
theorem dMO_readParameters_47 : decode cMO_readParameters 47 = .ok (.if_icmp .ge 20, 3) := by decide +kernel
theorem dMO_readParameters_50 : decode cMO_readParameters 50 = .ok (.aload_n 0, 1) := by decide +kernel
theorem dMO_readParameters_51 : decode cMO_readParameters 51 = .ok (.getfield 19, 3) := by decide +kernel
theorem dMO_readParameters_54 : decode cMO_readParameters 54 = .ok (.iload_n 1, 1) := by decide +kernel
theorem dMO_readParameters_55 : decode cMO_readParameters 55 = .ok (.aload_n 0, 1) := by decide +kernel
theorem dMO_readParameters_56 : decode cMO_readParameters 56 = .ok (.iconst 1, 1) := by decide +kernel
theorem dMO_readParameters_57 : decode cMO_readParameters 57 = .ok (.invokevirtual 117, 3) := by decide +kernel
theorem dMO_readParameters_60 : decode cMO_readParameters 60 = .ok (.iastore, 1) := by decide +kernel
theorem dMO_readParameters_61 : decode cMO_readParameters 61 = .ok (.iinc 1 1, 3) := by decide +kernel
theorem dMO_readParameters_64 : decode cMO_readParameters 64 = .ok (.goto (-19), 3) := by decide +kernel
theorem dMO_readParameters_67 : decode cMO_readParameters 67 = .ok (.aload_n 0, 1) := by decide +kernel
theorem dMO_readParameters_68 : decode cMO_readParameters 68 = .ok (.getfield 19, 3) := by decide +kernel
theorem dMO_readParameters_71 : decode cMO_readParameters 71 = .ok (.iconst 4, 1) := by decide +kernel
theorem dMO_readParameters_72 : decode cMO_readParameters 72 = .ok (.aload_n 0, 1) := by decide +kernel
theorem dMO_readParameters_73 : decode cMO_readParameters 73 = .ok (.iconst 2, 1) := by decide +kernel
theorem dMO_readParameters_74 : decode cMO_readParameters 74 = .ok (.invokevirtual 117, 3) := by decide +kernel
theorem dMO_readParameters_77 : decode cMO_readParameters 77 = .ok (.iastore, 1) := by decide +kernel
theorem dMO_readParameters_78 : decode cMO_readParameters 78 = .ok (.iconst 5, 1) := by decide +kernel
theorem dMO_readParameters_79 : decode cMO_readParameters 79 = .ok (.istore_n 1, 1) := by decide +kernel
theorem dMO_readParameters_80 : decode cMO_readParameters 80 = .ok (.iload_n 1, 1) := by decide +kernel
theorem dMO_readParameters_81 : decode cMO_readParameters 81 = .ok (.bipush 9, 2) := by decide +kernel
theorem dMO_readParameters_83 : decode cMO_readParameters 83 = .ok (.if_icmp .ge 35, 3) := by decide +kernel
theorem dMO_readParameters_86 : decode cMO_readParameters 86 = .ok (.aload_n 0, 1) := by decide +kernel
theorem dMO_readParameters_87 : decode cMO_readParameters 87 = .ok (.getfield 19, 3) := by decide +kernel
theorem dMO_readParameters_90 : decode cMO_readParameters 90 = .ok (.iconst 4, 1) := by decide +kernel
theorem dMO_readParameters_91 : decode cMO_readParameters 91 = .ok (.iaload, 1) := by decide +kernel
theorem dMO_readParameters_92 : decode cMO_readParameters 92 = .ok (.ifCond .eq 26, 3) := by decide +kernel
theorem dMO_readParameters_95 : decode cMO_readParameters 95 = .ok (.aload_n 0, 1) := by decide +kernel
theorem dMO_readParameters_96 : decode cMO_readParameters 96 = .ok (.getfield 111, 3) := by decide +kernel
theorem dMO_readParameters_99 : decode cMO_readParameters 99 = .ok (.ifCond .ne 19, 3) := by decide +kernel
theorem dMO_readParameters_102 : decode cMO_readParameters 102 = .ok (.aload_n 0, 1) := by decide +kernel
theorem dMO_readParameters_103 : decode cMO_readParameters 103 = .ok (.getfield 19, 3) := by decide +kernel
theorem dMO_readParameters_106 : decode cMO_readParameters 106 = .ok (.iload_n 1, 1) := by decide +kernel
theorem dMO_readParameters_107 : decode cMO_readParameters 107 = .ok (.aload_n 0, 1) := by decide +kernel
theorem dMO_readParameters_108 : decode cMO_readParameters 108 = .ok (.invokevirtual 127, 3) := by decide +kernel
theorem dMO_readParameters_111 : decode cMO_readParameters 111 = .ok (.iastore, 1) := by decide +kernel
theorem dMO_readParameters_112 : decode cMO_readParameters 112 = .ok (.iinc 1 1, 3) := by decide +kernel
theorem dMO_readParameters_115 : decode cMO_readParameters 115 = .ok (.goto (-35), 3) := by decide +kernel
theorem dMO_readParameters_118 : decode cMO_readParameters 118 = .ok (.aload_n 0, 1) := by decide +kernel
theorem dMO_readParameters_119 : decode cMO_readParameters 119 = .ok (.getfield 19, 3) := by decide +kernel
theorem dMO_readParameters_122 : decode cMO_readParameters 122 = .ok (.iconst 4, 1) := by decide +kernel
theorem dMO_readParameters_123 : decode cMO_readParameters 123 = .ok (.iaload, 1) := by decide +kernel
theorem dMO_readParameters_124 : decode cMO_readParameters 124 = .ok (.iconst 3, 1) := by decide +kernel
theorem dMO_readParameters_125 : decode cMO_readParameters 125 = .ok (.if_icmp .ne 15, 3) := by decide +kernel
theorem dMO_readParameters_128 : decode cMO_readParameters 128 = .ok (.aload_n 0, 1) := by decide +kernel
theorem dMO_readParameters_129 : decode cMO_readParameters 129 = .ok (.getfield 19, 3) := by decide +kernel
theorem dMO_readParameters_132 : decode cMO_readParameters 132 = .ok (.bipush 9, 2) := by decide +kernel
theorem dMO_readParameters_134 : decode cMO_readParameters 134 = .ok (.aload_n 0, 1) := by decide +kernel
theorem dMO_readParameters_135 : decode cMO_readParameters 135 = .ok (.iconst 3, 1) := by decide +kernel
theorem dMO_readParameters_136 : decode cMO_readParameters 136 = .ok (.invokevirtual 117, 3) := by decide +kernel
theorem dMO_readParameters_139 : decode cMO_readParameters 139 = .ok (.iastore, 1) := by decide +kernel
theorem dMO_readParameters_140 : decode cMO_readParameters 140 = .ok (.iconst 0, 1) := by decide +kernel
theorem dMO_readParameters_141 : decode cMO_readParameters 141 = .ok (.istore_n 1, 1) := by decide +kernel
theorem dMO_readParameters_142 : decode cMO_readParameters 142 = .ok (.iload_n 1, 1) := by decide +kernel
theorem dMO_readParameters_143 : decode cMO_readParameters 143 = .ok (.bipush 10, 2) := by decide +kernel
theorem dMO_readParameters_145 : decode cMO_readParameters 145 = .ok (.if_icmp .ge 28, 3) := by decide +kernel
theorem dMO_readParameters_148 : decode cMO_readParameters 148 = .ok (.aload_n 0, 1) := by decide +kernel
theorem dMO_readParameters_149 : decode cMO_readParameters 149 = .ok (.getfield 111, 3) := by decide +kernel
theorem dMO_readParameters_152 : decode cMO_readParameters 152 = .ok (.ifCond .ne 21, 3) := by decide +kernel
theorem dMO_readParameters_155 : decode cMO_readParameters 155 = .ok (.aload_n 0, 1) := by decide +kernel
theorem dMO_readParameters_156 : decode cMO_readParameters 156 = .ok (.getfield 16, 3) := by decide +kernel
theorem dMO_readParameters_159 : decode cMO_readParameters 159 = .ok (.iload_n 1, 1) := by decide +kernel
theorem dMO_readParameters_160 : decode cMO_readParameters 160 = .ok (.aload_n 0, 1) := by decide +kernel
theorem dMO_readParameters_161 : decode cMO_readParameters 161 = .ok (.getfield 19, 3) := by decide +kernel
theorem dMO_readParameters_164 : decode cMO_readParameters 164 = .ok (.iload_n 1, 1) := by decide +kernel
theorem dMO_readParameters_165 : decode cMO_readParameters 165 = .ok (.iaload, 1) := by decide +kernel
theorem dMO_readParameters_166 : decode cMO_readParameters 166 = .ok (.iastore, 1) := by decide +kernel
theorem dMO_readParameters_167 : decode cMO_readParameters 167 = .ok (.iinc 1 1, 3) := by decide +kernel
theorem dMO_readParameters_170 : decode cMO_readParameters 170 = .ok (.goto (-28), 3) := by decide +kernel
theorem dMO_readParameters_173 : decode cMO_readParameters 173 = .ok (.aload_n 0, 1) := by decide +kernel
theorem dMO_readParameters_174 : decode cMO_readParameters 174 = .ok (.aload_n 0, 1) := by decide +kernel
theorem dMO_readParameters_175 : decode cMO_readParameters 175 = .ok (.getfield 86, 3) := by decide +kernel
theorem dMO_readParameters_178 : decode cMO_readParameters 178 = .ok (.ifCond .ne 10, 3) := by decide +kernel
theorem dMO_readParameters_181 : decode cMO_readParameters 181 = .ok (.aload_n 0, 1) := by decide +kernel
theorem dMO_readParameters_182 : decode cMO_readParameters 182 = .ok (.getfield 111, 3) := by decide +kernel
theorem dMO_readParameters_185 : decode cMO_readParameters 185 = .ok (.ifCond .ne 7, 3) := by decide +kernel
theorem dMO_readParameters_188 : decode cMO_readParameters 188 = .ok (.iconst 1, 1) := by decide +kernel
theorem dMO_readParameters_189 : decode cMO_readParameters 189 = .ok (.goto 4, 3) := by decide +kernel
theorem dMO_readParameters_192 : decode cMO_readParameters 192 = .ok (.iconst 0, 1) := by decide +kernel
theorem dMO_readParameters_193 : decode cMO_readParameters 193 = .ok (.putfield 86, 3) := by decide +kernel
theorem dMO_readParameters_196 : decode cMO_readParameters 196 = .ok (.return_, 1) := by decide +kernel
abbrev cMO_decode : ByteArray := prog_14_method_15_code
def yMO_decode : MethodName := ⟨kR_MO, "decode", "()I"⟩
def wsMO_decode : List Cond := .code yMO_decode cMO_decode 5 (some .int) :: ipW
theorem dMO_decode_0 : decode cMO_decode 0 = .ok (.aload_n 0, 1) := by decide +kernel
theorem dMO_decode_1 : decode cMO_decode 1 = .ok (.iconst 0, 1) := by decide +kernel
theorem dMO_decode_2 : decode cMO_decode 2 = .ok (.putfield 86, 3) := by decide +kernel
theorem dMO_decode_5 : decode cMO_decode 5 = .ok (.aload_n 0, 1) := by decide +kernel
theorem dMO_decode_6 : decode cMO_decode 6 = .ok (.iconst 0, 1) := by decide +kernel
theorem dMO_decode_7 : decode cMO_decode 7 = .ok (.putfield 90, 3) := by decide +kernel
theorem dMO_decode_10 : decode cMO_decode 10 = .ok (.aload_n 0, 1) := by decide +kernel
theorem dMO_decode_11 : decode cMO_decode 11 = .ok (.iconst 0, 1) := by decide +kernel
theorem dMO_decode_12 : decode cMO_decode 12 = .ok (.putfield 111, 3) := by decide +kernel
theorem dMO_decode_15 : decode cMO_decode 15 = .ok (.aload_n 0, 1) := by decide +kernel
theorem dMO_decode_16 : decode cMO_decode 16 = .ok (.invokevirtual 97, 3) := by decide +kernel
theorem dMO_decode_19 : decode cMO_decode 19 = .ok (.istore_n 1, 1) := by decide +kernel
theorem dMO_decode_20 : decode cMO_decode 20 = .ok (.iconst 0, 1) := by decide +kernel
theorem dMO_decode_21 : decode cMO_decode 21 = .ok (.istore_n 2, 1) := by decide +kernel
theorem dMO_decode_22 : decode cMO_decode 22 = .ok (.iload_n 2, 1) := by decide +kernel
theorem dMO_decode_23 : decode cMO_decode 23 = .ok (.iload_n 1, 1) := by decide +kernel
theorem dMO_decode_24 : decode cMO_decode 24 = .ok (.if_icmp .ge 95, 3) := by decide +kernel
theorem dMO_decode_27 : decode cMO_decode 27 = .ok (.aload_n 0, 1) := by decide +kernel
theorem dMO_decode_28 : decode cMO_decode 28 = .ok (.getfield 111, 3) := by decide +kernel
theorem dMO_decode_31 : decode cMO_decode 31 = .ok (.ifCond .ne 88, 3) := by decide +kernel
theorem dMO_decode_34 : decode cMO_decode 34 = .ok (.aload_n 0, 1) := by decide +kernel
theorem dMO_decode_35 : decode cMO_decode 35 = .ok (.iload_n 2, 1) := by decide +kernel
theorem dMO_decode_36 : decode cMO_decode 36 = .ok (.invokevirtual 104, 3) := by decide +kernel
theorem dMO_decode_39 : decode cMO_decode 39 = .ok (.istore_n 3, 1) := by decide +kernel
theorem dMO_decode_40 : decode cMO_decode 40 = .ok (.aload_n 0, 1) := by decide +kernel
theorem dMO_decode_41 : decode cMO_decode 41 = .ok (.getfield 101, 3) := by decide +kernel
theorem dMO_decode_44 : decode cMO_decode 44 = .ok (.ifCond .le 12, 3) := by decide +kernel
theorem dMO_decode_47 : decode cMO_decode 47 = .ok (.aload_n 0, 1) := by decide +kernel
theorem dMO_decode_48 : decode cMO_decode 48 = .ok (.getfield 13, 3) := by decide +kernel
theorem dMO_decode_51 : decode cMO_decode 51 = .ok (.iconst 0, 1) := by decide +kernel
theorem dMO_decode_52 : decode cMO_decode 52 = .ok (.iaload, 1) := by decide +kernel
theorem dMO_decode_53 : decode cMO_decode 53 = .ok (.goto 4, 3) := by decide +kernel
theorem dMO_decode_56 : decode cMO_decode 56 = .ok (.iconst (-1), 1) := by decide +kernel
theorem dMO_decode_57 : decode cMO_decode 57 = .ok (.istore 4, 2) := by decide +kernel
theorem dMO_decode_59 : decode cMO_decode 59 = .ok (.iload 4, 2) := by decide +kernel
theorem dMO_decode_61 : decode cMO_decode 61 = .ok (.iconst 1, 1) := by decide +kernel
theorem dMO_decode_62 : decode cMO_decode 62 = .ok (.if_icmp .ne 10, 3) := by decide +kernel
theorem dMO_decode_65 : decode cMO_decode 65 = .ok (.aload_n 0, 1) := by decide +kernel
theorem dMO_decode_66 : decode cMO_decode 66 = .ok (.invokevirtual 130, 3) := by decide +kernel
theorem dMO_decode_69 : decode cMO_decode 69 = .ok (.goto 44, 3) := by decide +kernel
theorem dMO_decode_72 : decode cMO_decode 72 = .ok (.iload 4, 2) := by decide +kernel
theorem dMO_decode_74 : decode cMO_decode 74 = .ok (.iconst 2, 1) := by decide +kernel
theorem dMO_decode_75 : decode cMO_decode 75 = .ok (.if_icmp .ne 19, 3) := by decide +kernel
theorem dMO_decode_78 : decode cMO_decode 78 = .ok (.aload_n 0, 1) := by decide +kernel
theorem dMO_decode_79 : decode cMO_decode 79 = .ok (.getfield 86, 3) := by decide +kernel
theorem dMO_decode_82 : decode cMO_decode 82 = .ok (.ifCond .ne 12, 3) := by decide +kernel
theorem dMO_decode_85 : decode cMO_decode 85 = .ok (.aload_n 0, 1) := by decide +kernel
theorem dMO_decode_86 : decode cMO_decode 86 = .ok (.bipush (-2), 2) := by decide +kernel
theorem dMO_decode_88 : decode cMO_decode 88 = .ok (.putfield 111, 3) := by decide +kernel
theorem dMO_decode_91 : decode cMO_decode 91 = .ok (.goto 22, 3) := by decide +kernel
theorem dMO_decode_94 : decode cMO_decode 94 = .ok (.iload 4, 2) := by decide +kernel
theorem dMO_decode_96 : decode cMO_decode 96 = .ok (.iconst 2, 1) := by decide +kernel
theorem dMO_decode_97 : decode cMO_decode 97 = .ok (.if_icmp .ne 16, 3) := by decide +kernel
theorem dMO_decode_100 : decode cMO_decode 100 = .ok (.aload_n 0, 1) := by decide +kernel
theorem dMO_decode_101 : decode cMO_decode 101 = .ok (.iload_n 3, 1) := by decide +kernel
theorem dMO_decode_102 : decode cMO_decode 102 = .ok (.putfield 90, 3) := by decide +kernel
theorem dMO_decode_105 : decode cMO_decode 105 = .ok (.aload_n 0, 1) := by decide +kernel
theorem dMO_decode_106 : decode cMO_decode 106 = .ok (.invokevirtual 133, 3) := by decide +kernel
theorem dMO_decode_109 : decode cMO_decode 109 = .ok (.aload_n 0, 1) := by decide +kernel
theorem dMO_decode_110 : decode cMO_decode 110 = .ok (.invokevirtual 136, 3) := by decide +kernel
theorem dMO_decode_113 : decode cMO_decode 113 = .ok (.iinc 2 1, 3) := by decide +kernel
theorem dMO_decode_116 : decode cMO_decode 116 = .ok (.goto (-94), 3) := by decide +kernel
theorem dMO_decode_119 : decode cMO_decode 119 = .ok (.aload_n 0, 1) := by decide +kernel
theorem dMO_decode_120 : decode cMO_decode 120 = .ok (.aload_n 0, 1) := by decide +kernel
theorem dMO_decode_121 : decode cMO_decode 121 = .ok (.getfield 90, 3) := by decide +kernel
theorem dMO_decode_124 : decode cMO_decode 124 = .ok (.ifCond .eq 14, 3) := by decide +kernel
theorem dMO_decode_127 : decode cMO_decode 127 = .ok (.aload_n 0, 1) := by decide +kernel
theorem dMO_decode_128 : decode cMO_decode 128 = .ok (.getfield 111, 3) := by decide +kernel
theorem dMO_decode_131 : decode cMO_decode 131 = .ok (.ifCond .ne 7, 3) := by decide +kernel
theorem dMO_decode_134 : decode cMO_decode 134 = .ok (.iconst 1, 1) := by decide +kernel
theorem dMO_decode_135 : decode cMO_decode 135 = .ok (.goto 4, 3) := by decide +kernel
theorem dMO_decode_138 : decode cMO_decode 138 = .ok (.iconst 0, 1) := by decide +kernel
theorem dMO_decode_139 : decode cMO_decode 139 = .ok (.putfield 90, 3) := by decide +kernel
theorem dMO_decode_142 : decode cMO_decode 142 = .ok (.aload_n 0, 1) := by decide +kernel
theorem dMO_decode_143 : decode cMO_decode 143 = .ok (.getfield 111, 3) := by decide +kernel
theorem dMO_decode_146 : decode cMO_decode 146 = .ok (.ifCond .ge 10, 3) := by decide +kernel
theorem dMO_decode_149 : decode cMO_decode 149 = .ok (.aload_n 0, 1) := by decide +kernel
theorem dMO_decode_150 : decode cMO_decode 150 = .ok (.getfield 111, 3) := by decide +kernel
theorem dMO_decode_153 : decode cMO_decode 153 = .ok (.goto 18, 3) := by decide +kernel
theorem dMO_decode_156 : decode cMO_decode 156 = .ok (.aload_n 0, 1) := by decide +kernel
theorem dMO_decode_157 : decode cMO_decode 157 = .ok (.getfield 90, 3) := by decide +kernel
theorem dMO_decode_160 : decode cMO_decode 160 = .ok (.ifCond .eq 10, 3) := by decide +kernel
theorem dMO_decode_163 : decode cMO_decode 163 = .ok (.aload_n 0, 1) := by decide +kernel
theorem dMO_decode_164 : decode cMO_decode 164 = .ok (.getfield 139, 3) := by decide +kernel
theorem dMO_decode_167 : decode cMO_decode 167 = .ok (.goto 4, 3) := by decide +kernel
theorem dMO_decode_170 : decode cMO_decode 170 = .ok (.iconst (-1), 1) := by decide +kernel
theorem dMO_decode_171 : decode cMO_decode 171 = .ok (.ireturn, 1) := by decide +kernel
abbrev cMO_shift : ByteArray := prog_14_method_16_code
def yMO_shift : MethodName := ⟨kR_MO, "shift", "()V"⟩
def wsMO_shift : List Cond := .code yMO_shift cMO_shift 1 none :: ipW
theorem dMO_shift_0 : decode cMO_shift 0 = .ok (.aload_n 0, 1) := by decide +kernel
theorem dMO_shift_1 : decode cMO_shift 1 = .ok (.iconst 2, 1) := by decide +kernel
theorem dMO_shift_2 : decode cMO_shift 2 = .ok (.aload_n 0, 1) := by decide +kernel
theorem dMO_shift_3 : decode cMO_shift 3 = .ok (.getfield 142, 3) := by decide +kernel
theorem dMO_shift_6 : decode cMO_shift 6 = .ok (.imul, 1) := by decide +kernel
theorem dMO_shift_7 : decode cMO_shift 7 = .ok (.aload_n 0, 1) := by decide +kernel
theorem dMO_shift_8 : decode cMO_shift 8 = .ok (.invokevirtual 114, 3) := by decide +kernel
theorem dMO_shift_11 : decode cMO_shift 11 = .ok (.iadd, 1) := by decide +kernel
theorem dMO_shift_12 : decode cMO_shift 12 = .ok (.putfield 142, 3) := by decide +kernel
theorem dMO_shift_15 : decode cMO_shift 15 = .ok (.aload_n 0, 1) := by decide +kernel
theorem dMO_shift_16 : decode cMO_shift 16 = .ok (.getfield 25, 3) := by decide +kernel
theorem dMO_shift_19 : decode cMO_shift 19 = .ok (.iconst 2, 1) := by decide +kernel
theorem dMO_shift_20 : decode cMO_shift 20 = .ok (.dup2, 1) := by decide +kernel
theorem dMO_shift_21 : decode cMO_shift 21 = .ok (.iaload, 1) := by decide +kernel
theorem dMO_shift_22 : decode cMO_shift 22 = .ok (.iconst 1, 1) := by decide +kernel
theorem dMO_shift_23 : decode cMO_shift 23 = .ok (.iadd, 1) := by decide +kernel
theorem dMO_shift_24 : decode cMO_shift 24 = .ok (.iastore, 1) := by decide +kernel
theorem dMO_shift_25 : decode cMO_shift 25 = .ok (.return_, 1) := by decide +kernel
abbrev cMO_bin : ByteArray := prog_14_method_17_code
def yMO_bin : MethodName := ⟨kR_MO, "bin", "(I)I"⟩
def wsMO_bin : List Cond := .code yMO_bin cMO_bin 7 (some .int) :: ipW
theorem dMO_bin_0 : decode cMO_bin 0 = .ok (.aload_n 0, 1) := by decide +kernel
theorem dMO_bin_1 : decode cMO_bin 1 = .ok (.getfield 25, 3) := by decide +kernel
theorem dMO_bin_4 : decode cMO_bin 4 = .ok (.iconst 0, 1) := by decide +kernel
theorem dMO_bin_5 : decode cMO_bin 5 = .ok (.dup2, 1) := by decide +kernel
theorem dMO_bin_6 : decode cMO_bin 6 = .ok (.iaload, 1) := by decide +kernel
theorem dMO_bin_7 : decode cMO_bin 7 = .ok (.iconst 1, 1) := by decide +kernel
theorem dMO_bin_8 : decode cMO_bin 8 = .ok (.iadd, 1) := by decide +kernel
theorem dMO_bin_9 : decode cMO_bin 9 = .ok (.iastore, 1) := by decide +kernel
theorem dMO_bin_10 : decode cMO_bin 10 = .ok (.aload_n 0, 1) := by decide +kernel
theorem dMO_bin_11 : decode cMO_bin 11 = .ok (.getfield 22, 3) := by decide +kernel
theorem dMO_bin_14 : decode cMO_bin 14 = .ok (.iload_n 1, 1) := by decide +kernel
theorem dMO_bin_15 : decode cMO_bin 15 = .ok (.iaload, 1) := by decide +kernel
theorem dMO_bin_16 : decode cMO_bin 16 = .ok (.istore_n 2, 1) := by decide +kernel
theorem dMO_bin_17 : decode cMO_bin 17 = .ok (.iload_n 2, 1) := by decide +kernel
theorem dMO_bin_18 : decode cMO_bin 18 = .ok (.sipush 512, 3) := by decide +kernel
theorem dMO_bin_21 : decode cMO_bin 21 = .ok (.if_icmp .lt 7, 3) := by decide +kernel
theorem dMO_bin_24 : decode cMO_bin 24 = .ok (.iconst 1, 1) := by decide +kernel
theorem dMO_bin_25 : decode cMO_bin 25 = .ok (.goto 4, 3) := by decide +kernel
theorem dMO_bin_28 : decode cMO_bin 28 = .ok (.iconst 0, 1) := by decide +kernel
theorem dMO_bin_29 : decode cMO_bin 29 = .ok (.istore_n 3, 1) := by decide +kernel
theorem dMO_bin_30 : decode cMO_bin 30 = .ok (.aload_n 0, 1) := by decide +kernel
theorem dMO_bin_31 : decode cMO_bin 31 = .ok (.getfield 145, 3) := by decide +kernel
theorem dMO_bin_34 : decode cMO_bin 34 = .ok (.iconst 5, 1) := by decide +kernel
theorem dMO_bin_35 : decode cMO_bin 35 = .ok (.ishr, 1) := by decide +kernel
theorem dMO_bin_36 : decode cMO_bin 36 = .ok (.iload_n 3, 1) := by decide +kernel
theorem dMO_bin_37 : decode cMO_bin 37 = .ok (.iconst 1, 1) := by decide +kernel
theorem dMO_bin_38 : decode cMO_bin 38 = .ok (.if_icmp .ne 11, 3) := by decide +kernel
theorem dMO_bin_41 : decode cMO_bin 41 = .ok (.sipush 1023, 3) := by decide +kernel
theorem dMO_bin_44 : decode cMO_bin 44 = .ok (.iload_n 2, 1) := by decide +kernel
theorem dMO_bin_45 : decode cMO_bin 45 = .ok (.isub, 1) := by decide +kernel
theorem dMO_bin_46 : decode cMO_bin 46 = .ok (.goto 4, 3) := by decide +kernel
theorem dMO_bin_49 : decode cMO_bin 49 = .ok (.iload_n 2, 1) := by decide +kernel
theorem dMO_bin_50 : decode cMO_bin 50 = .ok (.iconst 5, 1) := by decide +kernel
theorem dMO_bin_51 : decode cMO_bin 51 = .ok (.ishr, 1) := by decide +kernel
theorem dMO_bin_52 : decode cMO_bin 52 = .ok (.imul, 1) := by decide +kernel
theorem dMO_bin_53 : decode cMO_bin 53 = .ok (.iconst 1, 1) := by decide +kernel
theorem dMO_bin_54 : decode cMO_bin 54 = .ok (.ishr, 1) := by decide +kernel
theorem dMO_bin_55 : decode cMO_bin 55 = .ok (.iconst 4, 1) := by decide +kernel
theorem dMO_bin_56 : decode cMO_bin 56 = .ok (.iadd, 1) := by decide +kernel
theorem dMO_bin_57 : decode cMO_bin 57 = .ok (.istore 4, 2) := by decide +kernel
theorem dMO_bin_59 : decode cMO_bin 59 = .ok (.aload_n 0, 1) := by decide +kernel
theorem dMO_bin_60 : decode cMO_bin 60 = .ok (.dup, 1) := by decide +kernel
theorem dMO_bin_61 : decode cMO_bin 61 = .ok (.getfield 145, 3) := by decide +kernel
theorem dMO_bin_64 : decode cMO_bin 64 = .ok (.iload 4, 2) := by decide +kernel
theorem dMO_bin_66 : decode cMO_bin 66 = .ok (.isub, 1) := by decide +kernel
theorem dMO_bin_67 : decode cMO_bin 67 = .ok (.putfield 145, 3) := by decide +kernel
theorem dMO_bin_70 : decode cMO_bin 70 = .ok (.iload_n 3, 1) := by decide +kernel
theorem dMO_bin_71 : decode cMO_bin 71 = .ok (.istore 5, 2) := by decide +kernel
theorem dMO_bin_73 : decode cMO_bin 73 = .ok (.aload_n 0, 1) := by decide +kernel
theorem dMO_bin_74 : decode cMO_bin 74 = .ok (.getfield 142, 3) := by decide +kernel
theorem dMO_bin_77 : decode cMO_bin 77 = .ok (.aload_n 0, 1) := by decide +kernel
theorem dMO_bin_78 : decode cMO_bin 78 = .ok (.getfield 145, 3) := by decide +kernel
theorem dMO_bin_81 : decode cMO_bin 81 = .ok (.if_icmp .lt 27, 3) := by decide +kernel
theorem dMO_bin_84 : decode cMO_bin 84 = .ok (.aload_n 0, 1) := by decide +kernel
theorem dMO_bin_85 : decode cMO_bin 85 = .ok (.dup, 1) := by decide +kernel
theorem dMO_bin_86 : decode cMO_bin 86 = .ok (.getfield 142, 3) := by decide +kernel
theorem dMO_bin_89 : decode cMO_bin 89 = .ok (.aload_n 0, 1) := by decide +kernel
theorem dMO_bin_90 : decode cMO_bin 90 = .ok (.getfield 145, 3) := by decide +kernel
theorem dMO_bin_93 : decode cMO_bin 93 = .ok (.isub, 1) := by decide +kernel
theorem dMO_bin_94 : decode cMO_bin 94 = .ok (.putfield 142, 3) := by decide +kernel
theorem dMO_bin_97 : decode cMO_bin 97 = .ok (.aload_n 0, 1) := by decide +kernel
theorem dMO_bin_98 : decode cMO_bin 98 = .ok (.iload 4, 2) := by decide +kernel
theorem dMO_bin_100 : decode cMO_bin 100 = .ok (.putfield 145, 3) := by decide +kernel
theorem dMO_bin_103 : decode cMO_bin 103 = .ok (.iconst 1, 1) := by decide +kernel
theorem dMO_bin_104 : decode cMO_bin 104 = .ok (.iload_n 3, 1) := by decide +kernel
theorem dMO_bin_105 : decode cMO_bin 105 = .ok (.isub, 1) := by decide +kernel
theorem dMO_bin_106 : decode cMO_bin 106 = .ok (.istore 5, 2) := by decide +kernel
theorem dMO_bin_108 : decode cMO_bin 108 = .ok (.aload_n 0, 1) := by decide +kernel
theorem dMO_bin_109 : decode cMO_bin 109 = .ok (.getfield 22, 3) := by decide +kernel
theorem dMO_bin_112 : decode cMO_bin 112 = .ok (.iload_n 1, 1) := by decide +kernel
theorem dMO_bin_113 : decode cMO_bin 113 = .ok (.iload 5, 2) := by decide +kernel
theorem dMO_bin_115 : decode cMO_bin 115 = .ok (.iconst 1, 1) := by decide +kernel
theorem dMO_bin_116 : decode cMO_bin 116 = .ok (.if_icmp .ne 15, 3) := by decide +kernel
theorem dMO_bin_119 : decode cMO_bin 119 = .ok (.iload_n 2, 1) := by decide +kernel
theorem dMO_bin_120 : decode cMO_bin 120 = .ok (.sipush 1023, 3) := by decide +kernel
theorem dMO_bin_123 : decode cMO_bin 123 = .ok (.iload_n 2, 1) := by decide +kernel
theorem dMO_bin_124 : decode cMO_bin 124 = .ok (.isub, 1) := by decide +kernel
theorem dMO_bin_125 : decode cMO_bin 125 = .ok (.iconst 4, 1) := by decide +kernel
theorem dMO_bin_126 : decode cMO_bin 126 = .ok (.ishr, 1) := by decide +kernel
theorem dMO_bin_127 : decode cMO_bin 127 = .ok (.iadd, 1) := by decide +kernel
theorem dMO_bin_128 : decode cMO_bin 128 = .ok (.goto 8, 3) := by decide +kernel
theorem dMO_bin_131 : decode cMO_bin 131 = .ok (.iload_n 2, 1) := by decide +kernel
theorem dMO_bin_132 : decode cMO_bin 132 = .ok (.iload_n 2, 1) := by decide +kernel
theorem dMO_bin_133 : decode cMO_bin 133 = .ok (.iconst 4, 1) := by decide +kernel
theorem dMO_bin_134 : decode cMO_bin 134 = .ok (.ishr, 1) := by decide +kernel
theorem dMO_bin_135 : decode cMO_bin 135 = .ok (.isub, 1) := by decide +kernel
theorem dMO_bin_136 : decode cMO_bin 136 = .ok (.iastore, 1) := by decide +kernel
theorem dMO_bin_137 : decode cMO_bin 137 = .ok (.iconst 0, 1) := by decide +kernel
theorem dMO_bin_138 : decode cMO_bin 138 = .ok (.istore 6, 2) := by decide +kernel
theorem dMO_bin_140 : decode cMO_bin 140 = .ok (.iload 6, 2) := by decide +kernel
theorem dMO_bin_142 : decode cMO_bin 142 = .ok (.bipush 10, 2) := by decide +kernel
theorem dMO_bin_144 : decode cMO_bin 144 = .ok (.if_icmp .ge 33, 3) := by decide +kernel
theorem dMO_bin_147 : decode cMO_bin 147 = .ok (.aload_n 0, 1) := by decide +kernel
theorem dMO_bin_148 : decode cMO_bin 148 = .ok (.getfield 145, 3) := by decide +kernel
theorem dMO_bin_151 : decode cMO_bin 151 = .ok (.sipush 256, 3) := by decide +kernel
theorem dMO_bin_154 : decode cMO_bin 154 = .ok (.if_icmp .ge 23, 3) := by decide +kernel
theorem dMO_bin_157 : decode cMO_bin 157 = .ok (.aload_n 0, 1) := by decide +kernel
theorem dMO_bin_158 : decode cMO_bin 158 = .ok (.dup, 1) := by decide +kernel
theorem dMO_bin_159 : decode cMO_bin 159 = .ok (.getfield 145, 3) := by decide +kernel
theorem dMO_bin_162 : decode cMO_bin 162 = .ok (.iconst 2, 1) := by decide +kernel
theorem dMO_bin_163 : decode cMO_bin 163 = .ok (.imul, 1) := by decide +kernel
theorem dMO_bin_164 : decode cMO_bin 164 = .ok (.putfield 145, 3) := by decide +kernel
theorem dMO_bin_167 : decode cMO_bin 167 = .ok (.aload_n 0, 1) := by decide +kernel
theorem dMO_bin_168 : decode cMO_bin 168 = .ok (.invokevirtual 148, 3) := by decide +kernel
theorem dMO_bin_171 : decode cMO_bin 171 = .ok (.iinc 6 1, 3) := by decide +kernel
theorem dMO_bin_174 : decode cMO_bin 174 = .ok (.goto (-34), 3) := by decide +kernel
theorem dMO_bin_177 : decode cMO_bin 177 = .ok (.iload 5, 2) := by decide +kernel
theorem dMO_bin_179 : decode cMO_bin 179 = .ok (.ireturn, 1) := by decide +kernel
abbrev cMO_free : ByteArray := prog_14_method_18_code
def yMO_free : MethodName := ⟨kR_MO, "free", "()I"⟩
def wsMO_free : List Cond := .code yMO_free cMO_free 1 (some .int) :: ipW
theorem dMO_free_0 : decode cMO_free 0 = .ok (.aload_n 0, 1) := by decide +kernel
theorem dMO_free_1 : decode cMO_free 1 = .ok (.getfield 25, 3) := by decide +kernel
theorem dMO_free_4 : decode cMO_free 4 = .ok (.iconst 1, 1) := by decide +kernel
theorem dMO_free_5 : decode cMO_free 5 = .ok (.dup2, 1) := by decide +kernel
theorem dMO_free_6 : decode cMO_free 6 = .ok (.iaload, 1) := by decide +kernel
theorem dMO_free_7 : decode cMO_free 7 = .ok (.iconst 1, 1) := by decide +kernel
theorem dMO_free_8 : decode cMO_free 8 = .ok (.iadd, 1) := by decide +kernel
theorem dMO_free_9 : decode cMO_free 9 = .ok (.iastore, 1) := by decide +kernel
theorem dMO_free_10 : decode cMO_free 10 = .ok (.aload_n 0, 1) := by decide +kernel
theorem dMO_free_11 : decode cMO_free 11 = .ok (.invokevirtual 148, 3) := by decide +kernel
theorem dMO_free_14 : decode cMO_free 14 = .ok (.aload_n 0, 1) := by decide +kernel
theorem dMO_free_15 : decode cMO_free 15 = .ok (.getfield 142, 3) := by decide +kernel
theorem dMO_free_18 : decode cMO_free 18 = .ok (.aload_n 0, 1) := by decide +kernel
theorem dMO_free_19 : decode cMO_free 19 = .ok (.getfield 145, 3) := by decide +kernel
theorem dMO_free_22 : decode cMO_free 22 = .ok (.if_icmp .ge 5, 3) := by decide +kernel
theorem dMO_free_25 : decode cMO_free 25 = .ok (.iconst 0, 1) := by decide +kernel
theorem dMO_free_26 : decode cMO_free 26 = .ok (.ireturn, 1) := by decide +kernel
theorem dMO_free_27 : decode cMO_free 27 = .ok (.aload_n 0, 1) := by decide +kernel
theorem dMO_free_28 : decode cMO_free 28 = .ok (.dup, 1) := by decide +kernel
theorem dMO_free_29 : decode cMO_free 29 = .ok (.getfield 142, 3) := by decide +kernel
theorem dMO_free_32 : decode cMO_free 32 = .ok (.aload_n 0, 1) := by decide +kernel
theorem dMO_free_33 : decode cMO_free 33 = .ok (.getfield 145, 3) := by decide +kernel
theorem dMO_free_36 : decode cMO_free 36 = .ok (.isub, 1) := by decide +kernel
theorem dMO_free_37 : decode cMO_free 37 = .ok (.putfield 142, 3) := by decide +kernel
theorem dMO_free_40 : decode cMO_free 40 = .ok (.iconst 1, 1) := by decide +kernel
theorem dMO_free_41 : decode cMO_free 41 = .ok (.ireturn, 1) := by decide +kernel
abbrev cMO_frees : ByteArray := prog_14_method_19_code
def yMO_frees : MethodName := ⟨kR_MO, "frees", "(I)I"⟩
def wsMO_frees : List Cond := .code yMO_frees cMO_frees 4 (some .int) :: ipW
theorem dMO_frees_0 : decode cMO_frees 0 = .ok (.iconst 0, 1) := by decide +kernel
theorem dMO_frees_1 : decode cMO_frees 1 = .ok (.istore_n 2, 1) := by decide +kernel
theorem dMO_frees_2 : decode cMO_frees 2 = .ok (.iconst 0, 1) := by decide +kernel
theorem dMO_frees_3 : decode cMO_frees 3 = .ok (.istore_n 3, 1) := by decide +kernel
theorem dMO_frees_4 : decode cMO_frees 4 = .ok (.iload_n 3, 1) := by decide +kernel
theorem dMO_frees_5 : decode cMO_frees 5 = .ok (.iload_n 1, 1) := by decide +kernel
theorem dMO_frees_6 : decode cMO_frees 6 = .ok (.if_icmp .ge 18, 3) := by decide +kernel
theorem dMO_frees_9 : decode cMO_frees 9 = .ok (.iconst 2, 1) := by decide +kernel
theorem dMO_frees_10 : decode cMO_frees 10 = .ok (.iload_n 2, 1) := by decide +kernel
theorem dMO_frees_11 : decode cMO_frees 11 = .ok (.imul, 1) := by decide +kernel
theorem dMO_frees_12 : decode cMO_frees 12 = .ok (.aload_n 0, 1) := by decide +kernel
theorem dMO_frees_13 : decode cMO_frees 13 = .ok (.invokevirtual 151, 3) := by decide +kernel
theorem dMO_frees_16 : decode cMO_frees 16 = .ok (.iadd, 1) := by decide +kernel
theorem dMO_frees_17 : decode cMO_frees 17 = .ok (.istore_n 2, 1) := by decide +kernel
theorem dMO_frees_18 : decode cMO_frees 18 = .ok (.iinc 3 1, 3) := by decide +kernel
theorem dMO_frees_21 : decode cMO_frees 21 = .ok (.goto (-17), 3) := by decide +kernel
theorem dMO_frees_24 : decode cMO_frees 24 = .ok (.iload_n 2, 1) := by decide +kernel
theorem dMO_frees_25 : decode cMO_frees 25 = .ok (.ireturn, 1) := by decide +kernel
abbrev cMO_readPicture : ByteArray := prog_14_method_20_code
def yMO_readPicture : MethodName := ⟨kR_MO, "readPicture", "()V"⟩
def wsMO_readPicture : List Cond := .code yMO_readPicture cMO_readPicture 6 none :: ipW
theorem dMO_readPicture_0 : decode cMO_readPicture 0 = .ok (.aload_n 0, 1) := by decide +kernel
theorem dMO_readPicture_1 : decode cMO_readPicture 1 = .ok (.iconst 0, 1) := by decide +kernel
theorem dMO_readPicture_2 : decode cMO_readPicture 2 = .ok (.putfield 108, 3) := by decide +kernel
theorem dMO_readPicture_5 : decode cMO_readPicture 5 = .ok (.aload_n 0, 1) := by decide +kernel
theorem dMO_readPicture_6 : decode cMO_readPicture 6 = .ok (.sipush 510, 3) := by decide +kernel
theorem dMO_readPicture_9 : decode cMO_readPicture 9 = .ok (.putfield 145, 3) := by decide +kernel
theorem dMO_readPicture_12 : decode cMO_readPicture 12 = .ok (.aload_n 0, 1) := by decide +kernel
theorem dMO_readPicture_13 : decode cMO_readPicture 13 = .ok (.iconst 0, 1) := by decide +kernel
theorem dMO_readPicture_14 : decode cMO_readPicture 14 = .ok (.putfield 142, 3) := by decide +kernel
theorem dMO_readPicture_17 : decode cMO_readPicture 17 = .ok (.aload_n 0, 1) := by decide +kernel
theorem dMO_readPicture_18 : decode cMO_readPicture 18 = .ok (.iconst 0, 1) := by decide +kernel
theorem dMO_readPicture_19 : decode cMO_readPicture 19 = .ok (.putfield 139, 3) := by decide +kernel
theorem dMO_readPicture_22 : decode cMO_readPicture 22 = .ok (.iconst 0, 1) := by decide +kernel
theorem dMO_readPicture_23 : decode cMO_readPicture 23 = .ok (.istore_n 1, 1) := by decide +kernel
theorem dMO_readPicture_24 : decode cMO_readPicture 24 = .ok (.iload_n 1, 1) := by decide +kernel
theorem dMO_readPicture_25 : decode cMO_readPicture 25 = .ok (.bipush 14, 2) := by decide +kernel
theorem dMO_readPicture_27 : decode cMO_readPicture 27 = .ok (.if_icmp .ge 18, 3) := by decide +kernel
theorem dMO_readPicture_30 : decode cMO_readPicture 30 = .ok (.aload_n 0, 1) := by decide +kernel
theorem dMO_readPicture_31 : decode cMO_readPicture 31 = .ok (.getfield 22, 3) := by decide +kernel
theorem dMO_readPicture_34 : decode cMO_readPicture 34 = .ok (.iload_n 1, 1) := by decide +kernel
theorem dMO_readPicture_35 : decode cMO_readPicture 35 = .ok (.sipush 512, 3) := by decide +kernel
theorem dMO_readPicture_38 : decode cMO_readPicture 38 = .ok (.iastore, 1) := by decide +kernel
theorem dMO_readPicture_39 : decode cMO_readPicture 39 = .ok (.iinc 1 1, 3) := by decide +kernel
theorem dMO_readPicture_42 : decode cMO_readPicture 42 = .ok (.goto (-18), 3) := by decide +kernel
theorem dMO_readPicture_45 : decode cMO_readPicture 45 = .ok (.iconst 0, 1) := by decide +kernel
theorem dMO_readPicture_46 : decode cMO_readPicture 46 = .ok (.istore_n 1, 1) := by decide +kernel
theorem dMO_readPicture_47 : decode cMO_readPicture 47 = .ok (.iload_n 1, 1) := by decide +kernel
theorem dMO_readPicture_48 : decode cMO_readPicture 48 = .ok (.iconst 3, 1) := by decide +kernel
theorem dMO_readPicture_49 : decode cMO_readPicture 49 = .ok (.if_icmp .ge 16, 3) := by decide +kernel
theorem dMO_readPicture_52 : decode cMO_readPicture 52 = .ok (.aload_n 0, 1) := by decide +kernel
theorem dMO_readPicture_53 : decode cMO_readPicture 53 = .ok (.getfield 25, 3) := by decide +kernel
theorem dMO_readPicture_56 : decode cMO_readPicture 56 = .ok (.iload_n 1, 1) := by decide +kernel
theorem dMO_readPicture_57 : decode cMO_readPicture 57 = .ok (.iconst 0, 1) := by decide +kernel
theorem dMO_readPicture_58 : decode cMO_readPicture 58 = .ok (.iastore, 1) := by decide +kernel
theorem dMO_readPicture_59 : decode cMO_readPicture 59 = .ok (.iinc 1 1, 3) := by decide +kernel
theorem dMO_readPicture_62 : decode cMO_readPicture 62 = .ok (.goto (-15), 3) := by decide +kernel
theorem dMO_readPicture_65 : decode cMO_readPicture 65 = .ok (.iconst 0, 1) := by decide +kernel
theorem dMO_readPicture_66 : decode cMO_readPicture 66 = .ok (.istore_n 1, 1) := by decide +kernel
theorem dMO_readPicture_67 : decode cMO_readPicture 67 = .ok (.iload_n 1, 1) := by decide +kernel
theorem dMO_readPicture_68 : decode cMO_readPicture 68 = .ok (.bipush 8, 2) := by decide +kernel
theorem dMO_readPicture_70 : decode cMO_readPicture 70 = .ok (.if_icmp .ge 13, 3) := by decide +kernel
theorem dMO_readPicture_73 : decode cMO_readPicture 73 = .ok (.aload_n 0, 1) := by decide +kernel
theorem dMO_readPicture_74 : decode cMO_readPicture 74 = .ok (.invokevirtual 148, 3) := by decide +kernel
theorem dMO_readPicture_77 : decode cMO_readPicture 77 = .ok (.iinc 1 1, 3) := by decide +kernel
theorem dMO_readPicture_80 : decode cMO_readPicture 80 = .ok (.goto (-13), 3) := by decide +kernel
theorem dMO_readPicture_83 : decode cMO_readPicture 83 = .ok (.iconst 0, 1) := by decide +kernel
theorem dMO_readPicture_84 : decode cMO_readPicture 84 = .ok (.istore_n 1, 1) := by decide +kernel
theorem dMO_readPicture_85 : decode cMO_readPicture 85 = .ok (.iload_n 1, 1) := by decide +kernel
theorem dMO_readPicture_86 : decode cMO_readPicture 86 = .ok (.sipush 256, 3) := by decide +kernel
theorem dMO_readPicture_89 : decode cMO_readPicture 89 = .ok (.if_icmp .ge 23, 3) := by decide +kernel
theorem dMO_readPicture_92 : decode cMO_readPicture 92 = .ok (.aload_n 0, 1) := by decide +kernel
theorem dMO_readPicture_93 : decode cMO_readPicture 93 = .ok (.getfield 44, 3) := by decide +kernel
theorem dMO_readPicture_96 : decode cMO_readPicture 96 = .ok (.iload_n 1, 1) := by decide +kernel
theorem dMO_readPicture_97 : decode cMO_readPicture 97 = .ok (.iconst (-1), 1) := by decide +kernel
theorem dMO_readPicture_98 : decode cMO_readPicture 98 = .ok (.iastore, 1) := by decide +kernel
theorem dMO_readPicture_99 : decode cMO_readPicture 99 = .ok (.aload_n 0, 1) := by decide +kernel
theorem dMO_readPicture_100 : decode cMO_readPicture 100 = .ok (.getfield 47, 3) := by decide +kernel
theorem dMO_readPicture_103 : decode cMO_readPicture 103 = .ok (.iload_n 1, 1) := by decide +kernel
theorem dMO_readPicture_104 : decode cMO_readPicture 104 = .ok (.iconst 0, 1) := by decide +kernel
theorem dMO_readPicture_105 : decode cMO_readPicture 105 = .ok (.iastore, 1) := by decide +kernel
theorem dMO_readPicture_106 : decode cMO_readPicture 106 = .ok (.iinc 1 1, 3) := by decide +kernel
theorem dMO_readPicture_109 : decode cMO_readPicture 109 = .ok (.goto (-24), 3) := by decide +kernel
theorem dMO_readPicture_112 : decode cMO_readPicture 112 = .ok (.iconst 0, 1) := by decide +kernel
theorem dMO_readPicture_113 : decode cMO_readPicture 113 = .ok (.istore_n 1, 1) := by decide +kernel
theorem dMO_readPicture_114 : decode cMO_readPicture 114 = .ok (.iconst 0, 1) := by decide +kernel
theorem dMO_readPicture_115 : decode cMO_readPicture 115 = .ok (.istore_n 2, 1) := by decide +kernel
theorem dMO_readPicture_116 : decode cMO_readPicture 116 = .ok (.iload_n 2, 1) := by decide +kernel
theorem dMO_readPicture_117 : decode cMO_readPicture 117 = .ok (.iconst 4, 1) := by decide +kernel
theorem dMO_readPicture_118 : decode cMO_readPicture 118 = .ok (.if_icmp .ge 121, 3) := by decide +kernel
theorem dMO_readPicture_121 : decode cMO_readPicture 121 = .ok (.iload_n 2, 1) := by decide +kernel
theorem dMO_readPicture_122 : decode cMO_readPicture 122 = .ok (.iconst 2, 1) := by decide +kernel
theorem dMO_readPicture_123 : decode cMO_readPicture 123 = .ok (.irem, 1) := by decide +kernel
theorem dMO_readPicture_124 : decode cMO_readPicture 124 = .ok (.iconst 1, 1) := by decide +kernel
theorem dMO_readPicture_125 : decode cMO_readPicture 125 = .ok (.if_icmp .ne 13, 3) := by decide +kernel
theorem dMO_readPicture_128 : decode cMO_readPicture 128 = .ok (.iload_n 1, 1) := by decide +kernel
theorem dMO_readPicture_129 : decode cMO_readPicture 129 = .ok (.iload_n 2, 1) := by decide +kernel
theorem dMO_readPicture_130 : decode cMO_readPicture 130 = .ok (.iconst 1, 1) := by decide +kernel
theorem dMO_readPicture_131 : decode cMO_readPicture 131 = .ok (.isub, 1) := by decide +kernel
theorem dMO_readPicture_132 : decode cMO_readPicture 132 = .ok (.ishr, 1) := by decide +kernel
theorem dMO_readPicture_133 : decode cMO_readPicture 133 = .ok (.iconst 1, 1) := by decide +kernel
theorem dMO_readPicture_134 : decode cMO_readPicture 134 = .ok (.iand, 1) := by decide +kernel
theorem dMO_readPicture_135 : decode cMO_readPicture 135 = .ok (.goto 4, 3) := by decide +kernel
theorem dMO_readPicture_138 : decode cMO_readPicture 138 = .ok (.iconst 0, 1) := by decide +kernel
theorem dMO_readPicture_139 : decode cMO_readPicture 139 = .ok (.iload_n 2, 1) := by decide +kernel
theorem dMO_readPicture_140 : decode cMO_readPicture 140 = .ok (.iconst 1, 1) := by decide +kernel
theorem dMO_readPicture_141 : decode cMO_readPicture 141 = .ok (.if_icmp .le 13, 3) := by decide +kernel
theorem dMO_readPicture_144 : decode cMO_readPicture 144 = .ok (.iload_n 1, 1) := by decide +kernel
theorem dMO_readPicture_145 : decode cMO_readPicture 145 = .ok (.iload_n 2, 1) := by decide +kernel
theorem dMO_readPicture_146 : decode cMO_readPicture 146 = .ok (.iconst 2, 1) := by decide +kernel
theorem dMO_readPicture_147 : decode cMO_readPicture 147 = .ok (.isub, 1) := by decide +kernel
theorem dMO_readPicture_148 : decode cMO_readPicture 148 = .ok (.ishr, 1) := by decide +kernel
theorem dMO_readPicture_149 : decode cMO_readPicture 149 = .ok (.iconst 1, 1) := by decide +kernel
theorem dMO_readPicture_150 : decode cMO_readPicture 150 = .ok (.iand, 1) := by decide +kernel
theorem dMO_readPicture_151 : decode cMO_readPicture 151 = .ok (.goto 4, 3) := by decide +kernel
theorem dMO_readPicture_154 : decode cMO_readPicture 154 = .ok (.iconst 0, 1) := by decide +kernel
theorem dMO_readPicture_155 : decode cMO_readPicture 155 = .ok (.iadd, 1) := by decide +kernel
theorem dMO_readPicture_156 : decode cMO_readPicture 156 = .ok (.istore_n 3, 1) := by decide +kernel
theorem dMO_readPicture_157 : decode cMO_readPicture 157 = .ok (.aload_n 0, 1) := by decide +kernel
theorem dMO_readPicture_158 : decode cMO_readPicture 158 = .ok (.iload_n 3, 1) := by decide +kernel
theorem dMO_readPicture_159 : decode cMO_readPicture 159 = .ok (.invokevirtual 154, 3) := by decide +kernel
theorem dMO_readPicture_162 : decode cMO_readPicture 162 = .ok (.istore 4, 2) := by decide +kernel
theorem dMO_readPicture_164 : decode cMO_readPicture 164 = .ok (.iload_n 1, 1) := by decide +kernel
theorem dMO_readPicture_165 : decode cMO_readPicture 165 = .ok (.iload 4, 2) := by decide +kernel
theorem dMO_readPicture_167 : decode cMO_readPicture 167 = .ok (.iload_n 2, 1) := by decide +kernel
theorem dMO_readPicture_168 : decode cMO_readPicture 168 = .ok (.ishl, 1) := by decide +kernel
theorem dMO_readPicture_169 : decode cMO_readPicture 169 = .ok (.ior, 1) := by decide +kernel
theorem dMO_readPicture_170 : decode cMO_readPicture 170 = .ok (.istore_n 1, 1) := by decide +kernel
theorem dMO_readPicture_171 : decode cMO_readPicture 171 = .ok (.iconst 0, 1) := by decide +kernel
theorem dMO_readPicture_172 : decode cMO_readPicture 172 = .ok (.istore 5, 2) := by decide +kernel
theorem dMO_readPicture_174 : decode cMO_readPicture 174 = .ok (.iload 5, 2) := by decide +kernel
theorem dMO_readPicture_176 : decode cMO_readPicture 176 = .ok (.iconst 1, 1) := by decide +kernel
theorem dMO_readPicture_177 : decode cMO_readPicture 177 = .ok (.iconst 3, 1) := by decide +kernel
theorem dMO_readPicture_178 : decode cMO_readPicture 178 = .ok (.iload 4, 2) := by decide +kernel
theorem dMO_readPicture_180 : decode cMO_readPicture 180 = .ok (.imul, 1) := by decide +kernel
theorem dMO_readPicture_181 : decode cMO_readPicture 181 = .ok (.iadd, 1) := by decide +kernel
theorem dMO_readPicture_182 : decode cMO_readPicture 182 = .ok (.if_icmp .ge 51, 3) := by decide +kernel
theorem dMO_readPicture_185 : decode cMO_readPicture 185 = .ok (.aload_n 0, 1) := by decide +kernel
theorem dMO_readPicture_186 : decode cMO_readPicture 186 = .ok (.iload_n 2, 1) := by decide +kernel
theorem dMO_readPicture_187 : decode cMO_readPicture 187 = .ok (.iconst 2, 1) := by decide +kernel
theorem dMO_readPicture_188 : decode cMO_readPicture 188 = .ok (.irem, 1) := by decide +kernel
theorem dMO_readPicture_189 : decode cMO_readPicture 189 = .ok (.bipush 8, 2) := by decide +kernel
theorem dMO_readPicture_191 : decode cMO_readPicture 191 = .ok (.imul, 1) := by decide +kernel
theorem dMO_readPicture_192 : decode cMO_readPicture 192 = .ok (.iload 5, 2) := by decide +kernel
theorem dMO_readPicture_194 : decode cMO_readPicture 194 = .ok (.iconst 2, 1) := by decide +kernel
theorem dMO_readPicture_195 : decode cMO_readPicture 195 = .ok (.irem, 1) := by decide +kernel
theorem dMO_readPicture_196 : decode cMO_readPicture 196 = .ok (.iconst 4, 1) := by decide +kernel
theorem dMO_readPicture_197 : decode cMO_readPicture 197 = .ok (.imul, 1) := by decide +kernel
theorem dMO_readPicture_198 : decode cMO_readPicture 198 = .ok (.iadd, 1) := by decide +kernel
theorem dMO_readPicture_199 : decode cMO_readPicture 199 = .ok (.iload_n 2, 1) := by decide +kernel
theorem dMO_readPicture_200 : decode cMO_readPicture 200 = .ok (.iconst 2, 1) := by decide +kernel
theorem dMO_readPicture_201 : decode cMO_readPicture 201 = .ok (.idiv, 1) := by decide +kernel
theorem dMO_readPicture_202 : decode cMO_readPicture 202 = .ok (.bipush 8, 2) := by decide +kernel
theorem dMO_readPicture_204 : decode cMO_readPicture 204 = .ok (.imul, 1) := by decide +kernel
theorem dMO_readPicture_205 : decode cMO_readPicture 205 = .ok (.iload 5, 2) := by decide +kernel
theorem dMO_readPicture_207 : decode cMO_readPicture 207 = .ok (.iconst 2, 1) := by decide +kernel
theorem dMO_readPicture_208 : decode cMO_readPicture 208 = .ok (.idiv, 1) := by decide +kernel
theorem dMO_readPicture_209 : decode cMO_readPicture 209 = .ok (.iconst 4, 1) := by decide +kernel
theorem dMO_readPicture_210 : decode cMO_readPicture 210 = .ok (.imul, 1) := by decide +kernel
theorem dMO_readPicture_211 : decode cMO_readPicture 211 = .ok (.iadd, 1) := by decide +kernel
theorem dMO_readPicture_212 : decode cMO_readPicture 212 = .ok (.iload 4, 2) := by decide +kernel
theorem dMO_readPicture_214 : decode cMO_readPicture 214 = .ok (.iconst 1, 1) := by decide +kernel
theorem dMO_readPicture_215 : decode cMO_readPicture 215 = .ok (.if_icmp .ne 7, 3) := by decide +kernel
theorem dMO_readPicture_218 : decode cMO_readPicture 218 = .ok (.iconst 4, 1) := by decide +kernel
theorem dMO_readPicture_219 : decode cMO_readPicture 219 = .ok (.goto 5, 3) := by decide +kernel
theorem dMO_readPicture_222 : decode cMO_readPicture 222 = .ok (.bipush 8, 2) := by decide +kernel
theorem dMO_readPicture_224 : decode cMO_readPicture 224 = .ok (.invokevirtual 157, 3) := by decide +kernel
theorem dMO_readPicture_227 : decode cMO_readPicture 227 = .ok (.iinc 5 1, 3) := by decide +kernel
theorem dMO_readPicture_230 : decode cMO_readPicture 230 = .ok (.goto (-56), 3) := by decide +kernel
theorem dMO_readPicture_233 : decode cMO_readPicture 233 = .ok (.iinc 2 1, 3) := by decide +kernel
theorem dMO_readPicture_236 : decode cMO_readPicture 236 = .ok (.goto (-120), 3) := by decide +kernel
theorem dMO_readPicture_239 : decode cMO_readPicture 239 = .ok (.return_, 1) := by decide +kernel
abbrev cMO_readLeaf : ByteArray := prog_14_method_21_code
def yMO_readLeaf : MethodName := ⟨kR_MO, "readLeaf", "(III)V"⟩
def wsMO_readLeaf : List Cond := .code yMO_readLeaf cMO_readLeaf 7 none :: ipW
theorem dMO_readLeaf_0 : decode cMO_readLeaf 0 = .ok (.aload_n 0, 1) := by decide +kernel
theorem dMO_readLeaf_1 : decode cMO_readLeaf 1 = .ok (.getfield 139, 3) := by decide +kernel
theorem dMO_readLeaf_4 : decode cMO_readLeaf 4 = .ok (.istore 4, 2) := by decide +kernel
theorem dMO_readLeaf_6 : decode cMO_readLeaf 6 = .ok (.aload_n 0, 1) := by decide +kernel
theorem dMO_readLeaf_7 : decode cMO_readLeaf 7 = .ok (.getfield 28, 3) := by decide +kernel
theorem dMO_readLeaf_10 : decode cMO_readLeaf 10 = .ok (.iload 4, 2) := by decide +kernel
theorem dMO_readLeaf_12 : decode cMO_readLeaf 12 = .ok (.iload_n 1, 1) := by decide +kernel
theorem dMO_readLeaf_13 : decode cMO_readLeaf 13 = .ok (.iastore, 1) := by decide +kernel
theorem dMO_readLeaf_14 : decode cMO_readLeaf 14 = .ok (.aload_n 0, 1) := by decide +kernel
theorem dMO_readLeaf_15 : decode cMO_readLeaf 15 = .ok (.getfield 31, 3) := by decide +kernel
theorem dMO_readLeaf_18 : decode cMO_readLeaf 18 = .ok (.iload 4, 2) := by decide +kernel
theorem dMO_readLeaf_20 : decode cMO_readLeaf 20 = .ok (.iload_n 2, 1) := by decide +kernel
theorem dMO_readLeaf_21 : decode cMO_readLeaf 21 = .ok (.iastore, 1) := by decide +kernel
theorem dMO_readLeaf_22 : decode cMO_readLeaf 22 = .ok (.aload_n 0, 1) := by decide +kernel
theorem dMO_readLeaf_23 : decode cMO_readLeaf 23 = .ok (.getfield 34, 3) := by decide +kernel
theorem dMO_readLeaf_26 : decode cMO_readLeaf 26 = .ok (.iload 4, 2) := by decide +kernel
theorem dMO_readLeaf_28 : decode cMO_readLeaf 28 = .ok (.iload_n 3, 1) := by decide +kernel
theorem dMO_readLeaf_29 : decode cMO_readLeaf 29 = .ok (.iastore, 1) := by decide +kernel
theorem dMO_readLeaf_30 : decode cMO_readLeaf 30 = .ok (.aload_n 0, 1) := by decide +kernel
theorem dMO_readLeaf_31 : decode cMO_readLeaf 31 = .ok (.iconst 3, 1) := by decide +kernel
theorem dMO_readLeaf_32 : decode cMO_readLeaf 32 = .ok (.invokevirtual 154, 3) := by decide +kernel
theorem dMO_readLeaf_35 : decode cMO_readLeaf 35 = .ok (.iconst 1, 1) := by decide +kernel
theorem dMO_readLeaf_36 : decode cMO_readLeaf 36 = .ok (.if_icmp .ne 39, 3) := by decide +kernel
theorem dMO_readLeaf_39 : decode cMO_readLeaf 39 = .ok (.aload_n 0, 1) := by decide +kernel
theorem dMO_readLeaf_40 : decode cMO_readLeaf 40 = .ok (.getfield 37, 3) := by decide +kernel
theorem dMO_readLeaf_43 : decode cMO_readLeaf 43 = .ok (.iload 4, 2) := by decide +kernel
theorem dMO_readLeaf_45 : decode cMO_readLeaf 45 = .ok (.iload_n 1, 1) := by decide +kernel
theorem dMO_readLeaf_46 : decode cMO_readLeaf 46 = .ok (.ifCond .ne 7, 3) := by decide +kernel
theorem dMO_readLeaf_49 : decode cMO_readLeaf 49 = .ok (.iconst 1, 1) := by decide +kernel
theorem dMO_readLeaf_50 : decode cMO_readLeaf 50 = .ok (.goto 21, 3) := by decide +kernel
theorem dMO_readLeaf_53 : decode cMO_readLeaf 53 = .ok (.aload_n 0, 1) := by decide +kernel
theorem dMO_readLeaf_54 : decode cMO_readLeaf 54 = .ok (.getfield 37, 3) := by decide +kernel
theorem dMO_readLeaf_57 : decode cMO_readLeaf 57 = .ok (.aload_n 0, 1) := by decide +kernel
theorem dMO_readLeaf_58 : decode cMO_readLeaf 58 = .ok (.getfield 44, 3) := by decide +kernel
theorem dMO_readLeaf_61 : decode cMO_readLeaf 61 = .ok (.bipush 16, 2) := by decide +kernel
theorem dMO_readLeaf_63 : decode cMO_readLeaf 63 = .ok (.iload_n 2, 1) := by decide +kernel
theorem dMO_readLeaf_64 : decode cMO_readLeaf 64 = .ok (.imul, 1) := by decide +kernel
theorem dMO_readLeaf_65 : decode cMO_readLeaf 65 = .ok (.iload_n 1, 1) := by decide +kernel
theorem dMO_readLeaf_66 : decode cMO_readLeaf 66 = .ok (.iadd, 1) := by decide +kernel
theorem dMO_readLeaf_67 : decode cMO_readLeaf 67 = .ok (.iconst 1, 1) := by decide +kernel
theorem dMO_readLeaf_68 : decode cMO_readLeaf 68 = .ok (.isub, 1) := by decide +kernel
theorem dMO_readLeaf_69 : decode cMO_readLeaf 69 = .ok (.iaload, 1) := by decide +kernel
theorem dMO_readLeaf_70 : decode cMO_readLeaf 70 = .ok (.iaload, 1) := by decide +kernel
theorem dMO_readLeaf_71 : decode cMO_readLeaf 71 = .ok (.iastore, 1) := by decide +kernel
theorem dMO_readLeaf_72 : decode cMO_readLeaf 72 = .ok (.goto 15, 3) := by decide +kernel
theorem dMO_readLeaf_75 : decode cMO_readLeaf 75 = .ok (.aload_n 0, 1) := by decide +kernel
theorem dMO_readLeaf_76 : decode cMO_readLeaf 76 = .ok (.getfield 37, 3) := by decide +kernel
theorem dMO_readLeaf_79 : decode cMO_readLeaf 79 = .ok (.iload 4, 2) := by decide +kernel
theorem dMO_readLeaf_81 : decode cMO_readLeaf 81 = .ok (.aload_n 0, 1) := by decide +kernel
theorem dMO_readLeaf_82 : decode cMO_readLeaf 82 = .ok (.iconst 3, 1) := by decide +kernel
theorem dMO_readLeaf_83 : decode cMO_readLeaf 83 = .ok (.invokevirtual 161, 3) := by decide +kernel
theorem dMO_readLeaf_86 : decode cMO_readLeaf 86 = .ok (.iastore, 1) := by decide +kernel
theorem dMO_readLeaf_87 : decode cMO_readLeaf 87 = .ok (.iconst 0, 1) := by decide +kernel
theorem dMO_readLeaf_88 : decode cMO_readLeaf 88 = .ok (.istore 5, 2) := by decide +kernel
theorem dMO_readLeaf_90 : decode cMO_readLeaf 90 = .ok (.iload 5, 2) := by decide +kernel
theorem dMO_readLeaf_92 : decode cMO_readLeaf 92 = .ok (.iload_n 3, 1) := by decide +kernel
theorem dMO_readLeaf_93 : decode cMO_readLeaf 93 = .ok (.iload_n 3, 1) := by decide +kernel
theorem dMO_readLeaf_94 : decode cMO_readLeaf 94 = .ok (.imul, 1) := by decide +kernel
theorem dMO_readLeaf_95 : decode cMO_readLeaf 95 = .ok (.if_icmp .ge 32, 3) := by decide +kernel
theorem dMO_readLeaf_98 : decode cMO_readLeaf 98 = .ok (.aload_n 0, 1) := by decide +kernel
theorem dMO_readLeaf_99 : decode cMO_readLeaf 99 = .ok (.getfield 44, 3) := by decide +kernel
theorem dMO_readLeaf_102 : decode cMO_readLeaf 102 = .ok (.bipush 16, 2) := by decide +kernel
theorem dMO_readLeaf_104 : decode cMO_readLeaf 104 = .ok (.iload_n 2, 1) := by decide +kernel
theorem dMO_readLeaf_105 : decode cMO_readLeaf 105 = .ok (.iload 5, 2) := by decide +kernel
theorem dMO_readLeaf_107 : decode cMO_readLeaf 107 = .ok (.iload_n 3, 1) := by decide +kernel
theorem dMO_readLeaf_108 : decode cMO_readLeaf 108 = .ok (.idiv, 1) := by decide +kernel
theorem dMO_readLeaf_109 : decode cMO_readLeaf 109 = .ok (.iadd, 1) := by decide +kernel
theorem dMO_readLeaf_110 : decode cMO_readLeaf 110 = .ok (.imul, 1) := by decide +kernel
theorem dMO_readLeaf_111 : decode cMO_readLeaf 111 = .ok (.iload_n 1, 1) := by decide +kernel
theorem dMO_readLeaf_112 : decode cMO_readLeaf 112 = .ok (.iadd, 1) := by decide +kernel
theorem dMO_readLeaf_113 : decode cMO_readLeaf 113 = .ok (.iload 5, 2) := by decide +kernel
theorem dMO_readLeaf_115 : decode cMO_readLeaf 115 = .ok (.iload_n 3, 1) := by decide +kernel
theorem dMO_readLeaf_116 : decode cMO_readLeaf 116 = .ok (.irem, 1) := by decide +kernel
theorem dMO_readLeaf_117 : decode cMO_readLeaf 117 = .ok (.iadd, 1) := by decide +kernel
theorem dMO_readLeaf_118 : decode cMO_readLeaf 118 = .ok (.iload 4, 2) := by decide +kernel
theorem dMO_readLeaf_120 : decode cMO_readLeaf 120 = .ok (.iastore, 1) := by decide +kernel
theorem dMO_readLeaf_121 : decode cMO_readLeaf 121 = .ok (.iinc 5 1, 3) := by decide +kernel
theorem dMO_readLeaf_124 : decode cMO_readLeaf 124 = .ok (.goto (-34), 3) := by decide +kernel
theorem dMO_readLeaf_127 : decode cMO_readLeaf 127 = .ok (.aload_n 0, 1) := by decide +kernel
theorem dMO_readLeaf_128 : decode cMO_readLeaf 128 = .ok (.dup, 1) := by decide +kernel
theorem dMO_readLeaf_129 : decode cMO_readLeaf 129 = .ok (.getfield 139, 3) := by decide +kernel
theorem dMO_readLeaf_132 : decode cMO_readLeaf 132 = .ok (.iconst 1, 1) := by decide +kernel
theorem dMO_readLeaf_133 : decode cMO_readLeaf 133 = .ok (.iadd, 1) := by decide +kernel
theorem dMO_readLeaf_134 : decode cMO_readLeaf 134 = .ok (.putfield 139, 3) := by decide +kernel
theorem dMO_readLeaf_137 : decode cMO_readLeaf 137 = .ok (.aload_n 0, 1) := by decide +kernel
theorem dMO_readLeaf_138 : decode cMO_readLeaf 138 = .ok (.getfield 40, 3) := by decide +kernel
theorem dMO_readLeaf_141 : decode cMO_readLeaf 141 = .ok (.iload 4, 2) := by decide +kernel
theorem dMO_readLeaf_143 : decode cMO_readLeaf 143 = .ok (.iconst 0, 1) := by decide +kernel
theorem dMO_readLeaf_144 : decode cMO_readLeaf 144 = .ok (.bastore, 1) := by decide +kernel
theorem dMO_readLeaf_145 : decode cMO_readLeaf 145 = .ok (.aload_n 0, 1) := by decide +kernel
theorem dMO_readLeaf_146 : decode cMO_readLeaf 146 = .ok (.iload_n 3, 1) := by decide +kernel
theorem dMO_readLeaf_147 : decode cMO_readLeaf 147 = .ok (.iconst 4, 1) := by decide +kernel
theorem dMO_readLeaf_148 : decode cMO_readLeaf 148 = .ok (.if_icmp .ne 7, 3) := by decide +kernel
theorem dMO_readLeaf_151 : decode cMO_readLeaf 151 = .ok (.iconst 4, 1) := by decide +kernel
theorem dMO_readLeaf_152 : decode cMO_readLeaf 152 = .ok (.goto 4, 3) := by decide +kernel
theorem dMO_readLeaf_155 : decode cMO_readLeaf 155 = .ok (.iconst 5, 1) := by decide +kernel
theorem dMO_readLeaf_156 : decode cMO_readLeaf 156 = .ok (.invokevirtual 154, 3) := by decide +kernel
theorem dMO_readLeaf_159 : decode cMO_readLeaf 159 = .ok (.ifCond .ne 4, 3) := by decide +kernel
theorem dMO_readLeaf_162 : decode cMO_readLeaf 162 = .ok (.return_, 1) := by decide +kernel
theorem dMO_readLeaf_163 : decode cMO_readLeaf 163 = .ok (.aload_n 0, 1) := by decide +kernel
theorem dMO_readLeaf_164 : decode cMO_readLeaf 164 = .ok (.getfield 40, 3) := by decide +kernel
theorem dMO_readLeaf_167 : decode cMO_readLeaf 167 = .ok (.iload 4, 2) := by decide +kernel
theorem dMO_readLeaf_169 : decode cMO_readLeaf 169 = .ok (.iload_n 3, 1) := by decide +kernel
theorem dMO_readLeaf_170 : decode cMO_readLeaf 170 = .ok (.iconst 4, 1) := by decide +kernel
theorem dMO_readLeaf_171 : decode cMO_readLeaf 171 = .ok (.if_icmp .ne 27, 3) := by decide +kernel
theorem dMO_readLeaf_174 : decode cMO_readLeaf 174 = .ok (.aload_n 0, 1) := by decide +kernel
theorem dMO_readLeaf_175 : decode cMO_readLeaf 175 = .ok (.getfield 16, 3) := by decide +kernel
theorem dMO_readLeaf_178 : decode cMO_readLeaf 178 = .ok (.iconst 2, 1) := by decide +kernel
theorem dMO_readLeaf_179 : decode cMO_readLeaf 179 = .ok (.iaload, 1) := by decide +kernel
theorem dMO_readLeaf_180 : decode cMO_readLeaf 180 = .ok (.iconst 1, 1) := by decide +kernel
theorem dMO_readLeaf_181 : decode cMO_readLeaf 181 = .ok (.if_icmp .ne 17, 3) := by decide +kernel
theorem dMO_readLeaf_184 : decode cMO_readLeaf 184 = .ok (.aload_n 0, 1) := by decide +kernel
theorem dMO_readLeaf_185 : decode cMO_readLeaf 185 = .ok (.bipush 6, 2) := by decide +kernel
theorem dMO_readLeaf_187 : decode cMO_readLeaf 187 = .ok (.invokevirtual 154, 3) := by decide +kernel
theorem dMO_readLeaf_190 : decode cMO_readLeaf 190 = .ok (.iconst 1, 1) := by decide +kernel
theorem dMO_readLeaf_191 : decode cMO_readLeaf 191 = .ok (.if_icmp .ne 7, 3) := by decide +kernel
theorem dMO_readLeaf_194 : decode cMO_readLeaf 194 = .ok (.iconst 1, 1) := by decide +kernel
theorem dMO_readLeaf_195 : decode cMO_readLeaf 195 = .ok (.goto 4, 3) := by decide +kernel
theorem dMO_readLeaf_198 : decode cMO_readLeaf 198 = .ok (.iconst 0, 1) := by decide +kernel
theorem dMO_readLeaf_199 : decode cMO_readLeaf 199 = .ok (.bastore, 1) := by decide +kernel
theorem dMO_readLeaf_200 : decode cMO_readLeaf 200 = .ok (.iconst 0, 1) := by decide +kernel
theorem dMO_readLeaf_201 : decode cMO_readLeaf 201 = .ok (.istore 5, 2) := by decide +kernel
theorem dMO_readLeaf_203 : decode cMO_readLeaf 203 = .ok (.iload 5, 2) := by decide +kernel
theorem dMO_readLeaf_205 : decode cMO_readLeaf 205 = .ok (.iload_n 3, 1) := by decide +kernel
theorem dMO_readLeaf_206 : decode cMO_readLeaf 206 = .ok (.iload_n 3, 1) := by decide +kernel
theorem dMO_readLeaf_207 : decode cMO_readLeaf 207 = .ok (.imul, 1) := by decide +kernel
theorem dMO_readLeaf_208 : decode cMO_readLeaf 208 = .ok (.bipush 16, 2) := by decide +kernel
theorem dMO_readLeaf_210 : decode cMO_readLeaf 210 = .ok (.idiv, 1) := by decide +kernel
theorem dMO_readLeaf_211 : decode cMO_readLeaf 211 = .ok (.if_icmp .ge 66, 3) := by decide +kernel
theorem dMO_readLeaf_214 : decode cMO_readLeaf 214 = .ok (.iload_n 3, 1) := by decide +kernel
theorem dMO_readLeaf_215 : decode cMO_readLeaf 215 = .ok (.iconst 4, 1) := by decide +kernel
theorem dMO_readLeaf_216 : decode cMO_readLeaf 216 = .ok (.if_icmp .eq 23, 3) := by decide +kernel
theorem dMO_readLeaf_219 : decode cMO_readLeaf 219 = .ok (.aload_n 0, 1) := by decide +kernel
theorem dMO_readLeaf_220 : decode cMO_readLeaf 220 = .ok (.iload 5, 2) := by decide +kernel
theorem dMO_readLeaf_222 : decode cMO_readLeaf 222 = .ok (.ifCond .ne 8, 3) := by decide +kernel
theorem dMO_readLeaf_225 : decode cMO_readLeaf 225 = .ok (.bipush 7, 2) := by decide +kernel
theorem dMO_readLeaf_227 : decode cMO_readLeaf 227 = .ok (.goto 5, 3) := by decide +kernel
theorem dMO_readLeaf_230 : decode cMO_readLeaf 230 = .ok (.bipush 8, 2) := by decide +kernel
theorem dMO_readLeaf_232 : decode cMO_readLeaf 232 = .ok (.invokevirtual 154, 3) := by decide +kernel
theorem dMO_readLeaf_235 : decode cMO_readLeaf 235 = .ok (.iconst 1, 1) := by decide +kernel
theorem dMO_readLeaf_236 : decode cMO_readLeaf 236 = .ok (.if_icmp .ne 7, 3) := by decide +kernel
theorem dMO_readLeaf_239 : decode cMO_readLeaf 239 = .ok (.iconst 1, 1) := by decide +kernel
theorem dMO_readLeaf_240 : decode cMO_readLeaf 240 = .ok (.goto 4, 3) := by decide +kernel
theorem dMO_readLeaf_243 : decode cMO_readLeaf 243 = .ok (.iconst 0, 1) := by decide +kernel
theorem dMO_readLeaf_244 : decode cMO_readLeaf 244 = .ok (.istore 6, 2) := by decide +kernel
theorem dMO_readLeaf_246 : decode cMO_readLeaf 246 = .ok (.iload 6, 2) := by decide +kernel
theorem dMO_readLeaf_248 : decode cMO_readLeaf 248 = .ok (.ifCond .eq 23, 3) := by decide +kernel
theorem dMO_readLeaf_251 : decode cMO_readLeaf 251 = .ok (.aload_n 0, 1) := by decide +kernel
theorem dMO_readLeaf_252 : decode cMO_readLeaf 252 = .ok (.iload_n 1, 1) := by decide +kernel
theorem dMO_readLeaf_253 : decode cMO_readLeaf 253 = .ok (.iload 5, 2) := by decide +kernel
theorem dMO_readLeaf_255 : decode cMO_readLeaf 255 = .ok (.iconst 2, 1) := by decide +kernel
theorem dMO_readLeaf_256 : decode cMO_readLeaf 256 = .ok (.irem, 1) := by decide +kernel
theorem dMO_readLeaf_257 : decode cMO_readLeaf 257 = .ok (.iconst 4, 1) := by decide +kernel
theorem dMO_readLeaf_258 : decode cMO_readLeaf 258 = .ok (.imul, 1) := by decide +kernel
theorem dMO_readLeaf_259 : decode cMO_readLeaf 259 = .ok (.iadd, 1) := by decide +kernel
theorem dMO_readLeaf_260 : decode cMO_readLeaf 260 = .ok (.iload_n 2, 1) := by decide +kernel
theorem dMO_readLeaf_261 : decode cMO_readLeaf 261 = .ok (.iload 5, 2) := by decide +kernel
theorem dMO_readLeaf_263 : decode cMO_readLeaf 263 = .ok (.iconst 2, 1) := by decide +kernel
theorem dMO_readLeaf_264 : decode cMO_readLeaf 264 = .ok (.idiv, 1) := by decide +kernel
theorem dMO_readLeaf_265 : decode cMO_readLeaf 265 = .ok (.iconst 4, 1) := by decide +kernel
theorem dMO_readLeaf_266 : decode cMO_readLeaf 266 = .ok (.imul, 1) := by decide +kernel
theorem dMO_readLeaf_267 : decode cMO_readLeaf 267 = .ok (.iadd, 1) := by decide +kernel
theorem dMO_readLeaf_268 : decode cMO_readLeaf 268 = .ok (.invokevirtual 164, 3) := by decide +kernel
theorem dMO_readLeaf_271 : decode cMO_readLeaf 271 = .ok (.iinc 5 1, 3) := by decide +kernel
theorem dMO_readLeaf_274 : decode cMO_readLeaf 274 = .ok (.goto (-71), 3) := by decide +kernel
theorem dMO_readLeaf_277 : decode cMO_readLeaf 277 = .ok (.return_, 1) := by decide +kernel
abbrev cMO_place : ByteArray := prog_14_method_22_code
def yMO_place : MethodName := ⟨kR_MO, "place", "(I)I"⟩
def wsMO_place : List Cond := .code yMO_place cMO_place 4 (some .int) :: ipW
theorem dMO_place_0 : decode cMO_place 0 = .ok (.iconst 0, 1) := by decide +kernel
theorem dMO_place_1 : decode cMO_place 1 = .ok (.istore_n 1, 1) := by decide +kernel
theorem dMO_place_2 : decode cMO_place 2 = .ok (.iconst 0, 1) := by decide +kernel
theorem dMO_place_3 : decode cMO_place 3 = .ok (.istore_n 2, 1) := by decide +kernel
theorem dMO_place_4 : decode cMO_place 4 = .ok (.iload_n 2, 1) := by decide +kernel
theorem dMO_place_5 : decode cMO_place 5 = .ok (.bipush 7, 2) := by decide +kernel
theorem dMO_place_7 : decode cMO_place 7 = .ok (.if_icmp .ge 51, 3) := by decide +kernel
theorem dMO_place_10 : decode cMO_place 10 = .ok (.iconst 0, 1) := by decide +kernel
theorem dMO_place_11 : decode cMO_place 11 = .ok (.istore_n 3, 1) := by decide +kernel
theorem dMO_place_12 : decode cMO_place 12 = .ok (.iload_n 3, 1) := by decide +kernel
theorem dMO_place_13 : decode cMO_place 13 = .ok (.iconst 4, 1) := by decide +kernel
theorem dMO_place_14 : decode cMO_place 14 = .ok (.if_icmp .ge 38, 3) := by decide +kernel
theorem dMO_place_17 : decode cMO_place 17 = .ok (.iload_n 2, 1) := by decide +kernel
theorem dMO_place_18 : decode cMO_place 18 = .ok (.iload_n 3, 1) := by decide +kernel
theorem dMO_place_19 : decode cMO_place 19 = .ok (.isub, 1) := by decide +kernel
theorem dMO_place_20 : decode cMO_place 20 = .ok (.ifCond .lt 26, 3) := by decide +kernel
theorem dMO_place_23 : decode cMO_place 23 = .ok (.iload_n 2, 1) := by decide +kernel
theorem dMO_place_24 : decode cMO_place 24 = .ok (.iload_n 3, 1) := by decide +kernel
theorem dMO_place_25 : decode cMO_place 25 = .ok (.isub, 1) := by decide +kernel
theorem dMO_place_26 : decode cMO_place 26 = .ok (.iconst 4, 1) := by decide +kernel
theorem dMO_place_27 : decode cMO_place 27 = .ok (.if_icmp .ge 19, 3) := by decide +kernel
theorem dMO_place_30 : decode cMO_place 30 = .ok (.iload_n 1, 1) := by decide +kernel
theorem dMO_place_31 : decode cMO_place 31 = .ok (.iload_n 0, 1) := by decide +kernel
theorem dMO_place_32 : decode cMO_place 32 = .ok (.if_icmp .ne 11, 3) := by decide +kernel
theorem dMO_place_35 : decode cMO_place 35 = .ok (.iconst 4, 1) := by decide +kernel
theorem dMO_place_36 : decode cMO_place 36 = .ok (.iload_n 2, 1) := by decide +kernel
theorem dMO_place_37 : decode cMO_place 37 = .ok (.iload_n 3, 1) := by decide +kernel
theorem dMO_place_38 : decode cMO_place 38 = .ok (.isub, 1) := by decide +kernel
theorem dMO_place_39 : decode cMO_place 39 = .ok (.imul, 1) := by decide +kernel
theorem dMO_place_40 : decode cMO_place 40 = .ok (.iload_n 3, 1) := by decide +kernel
theorem dMO_place_41 : decode cMO_place 41 = .ok (.iadd, 1) := by decide +kernel
theorem dMO_place_42 : decode cMO_place 42 = .ok (.ireturn, 1) := by decide +kernel
theorem dMO_place_43 : decode cMO_place 43 = .ok (.iinc 1 1, 3) := by decide +kernel
theorem dMO_place_46 : decode cMO_place 46 = .ok (.iinc 3 1, 3) := by decide +kernel
theorem dMO_place_49 : decode cMO_place 49 = .ok (.goto (-37), 3) := by decide +kernel
theorem dMO_place_52 : decode cMO_place 52 = .ok (.iinc 2 1, 3) := by decide +kernel
theorem dMO_place_55 : decode cMO_place 55 = .ok (.goto (-51), 3) := by decide +kernel
theorem dMO_place_58 : decode cMO_place 58 = .ok (.iconst 0, 1) := by decide +kernel
theorem dMO_place_59 : decode cMO_place 59 = .ok (.ireturn, 1) := by decide +kernel
abbrev cMO_sizeOfLevel : ByteArray := prog_14_method_23_code
def yMO_sizeOfLevel : MethodName := ⟨kR_MO, "sizeOfLevel", "()I"⟩
def wsMO_sizeOfLevel : List Cond := .code yMO_sizeOfLevel cMO_sizeOfLevel 2 (some .int) :: ipW
theorem dMO_sizeOfLevel_0 : decode cMO_sizeOfLevel 0 = .ok (.aload_n 0, 1) := by decide +kernel
theorem dMO_sizeOfLevel_1 : decode cMO_sizeOfLevel 1 = .ok (.bipush 12, 2) := by decide +kernel
theorem dMO_sizeOfLevel_3 : decode cMO_sizeOfLevel 3 = .ok (.invokevirtual 154, 3) := by decide +kernel
theorem dMO_sizeOfLevel_6 : decode cMO_sizeOfLevel 6 = .ok (.ifCond .ne 5, 3) := by decide +kernel
theorem dMO_sizeOfLevel_9 : decode cMO_sizeOfLevel 9 = .ok (.iconst 1, 1) := by decide +kernel
theorem dMO_sizeOfLevel_10 : decode cMO_sizeOfLevel 10 = .ok (.ireturn, 1) := by decide +kernel
theorem dMO_sizeOfLevel_11 : decode cMO_sizeOfLevel 11 = .ok (.aload_n 0, 1) := by decide +kernel
theorem dMO_sizeOfLevel_12 : decode cMO_sizeOfLevel 12 = .ok (.bipush 13, 2) := by decide +kernel
theorem dMO_sizeOfLevel_14 : decode cMO_sizeOfLevel 14 = .ok (.invokevirtual 154, 3) := by decide +kernel
theorem dMO_sizeOfLevel_17 : decode cMO_sizeOfLevel 17 = .ok (.ifCond .ne 5, 3) := by decide +kernel
theorem dMO_sizeOfLevel_20 : decode cMO_sizeOfLevel 20 = .ok (.iconst 2, 1) := by decide +kernel
theorem dMO_sizeOfLevel_21 : decode cMO_sizeOfLevel 21 = .ok (.ireturn, 1) := by decide +kernel
theorem dMO_sizeOfLevel_22 : decode cMO_sizeOfLevel 22 = .ok (.iconst 0, 1) := by decide +kernel
theorem dMO_sizeOfLevel_23 : decode cMO_sizeOfLevel 23 = .ok (.istore_n 1, 1) := by decide +kernel
theorem dMO_sizeOfLevel_24 : decode cMO_sizeOfLevel 24 = .ok (.iload_n 1, 1) := by decide +kernel
theorem dMO_sizeOfLevel_25 : decode cMO_sizeOfLevel 25 = .ok (.bipush 6, 2) := by decide +kernel
theorem dMO_sizeOfLevel_27 : decode cMO_sizeOfLevel 27 = .ok (.if_icmp .ge 17, 3) := by decide +kernel
theorem dMO_sizeOfLevel_30 : decode cMO_sizeOfLevel 30 = .ok (.aload_n 0, 1) := by decide +kernel
theorem dMO_sizeOfLevel_31 : decode cMO_sizeOfLevel 31 = .ok (.invokevirtual 151, 3) := by decide +kernel
theorem dMO_sizeOfLevel_34 : decode cMO_sizeOfLevel 34 = .ok (.iconst 1, 1) := by decide +kernel
theorem dMO_sizeOfLevel_35 : decode cMO_sizeOfLevel 35 = .ok (.if_icmp .ne 9, 3) := by decide +kernel
theorem dMO_sizeOfLevel_38 : decode cMO_sizeOfLevel 38 = .ok (.iinc 1 1, 3) := by decide +kernel
theorem dMO_sizeOfLevel_41 : decode cMO_sizeOfLevel 41 = .ok (.goto (-17), 3) := by decide +kernel
theorem dMO_sizeOfLevel_44 : decode cMO_sizeOfLevel 44 = .ok (.iconst 2, 1) := by decide +kernel
theorem dMO_sizeOfLevel_45 : decode cMO_sizeOfLevel 45 = .ok (.iconst 1, 1) := by decide +kernel
theorem dMO_sizeOfLevel_46 : decode cMO_sizeOfLevel 46 = .ok (.iload_n 1, 1) := by decide +kernel
theorem dMO_sizeOfLevel_47 : decode cMO_sizeOfLevel 47 = .ok (.ishl, 1) := by decide +kernel
theorem dMO_sizeOfLevel_48 : decode cMO_sizeOfLevel 48 = .ok (.iadd, 1) := by decide +kernel
theorem dMO_sizeOfLevel_49 : decode cMO_sizeOfLevel 49 = .ok (.aload_n 0, 1) := by decide +kernel
theorem dMO_sizeOfLevel_50 : decode cMO_sizeOfLevel 50 = .ok (.iload_n 1, 1) := by decide +kernel
theorem dMO_sizeOfLevel_51 : decode cMO_sizeOfLevel 51 = .ok (.invokevirtual 161, 3) := by decide +kernel
theorem dMO_sizeOfLevel_54 : decode cMO_sizeOfLevel 54 = .ok (.iadd, 1) := by decide +kernel
theorem dMO_sizeOfLevel_55 : decode cMO_sizeOfLevel 55 = .ok (.ireturn, 1) := by decide +kernel
abbrev cMO_readGroup : ByteArray := prog_14_method_24_code
def yMO_readGroup : MethodName := ⟨kR_MO, "readGroup", "(II)V"⟩
def wsMO_readGroup : List Cond := .code yMO_readGroup cMO_readGroup 10 none :: ipW
theorem dMO_readGroup_0 : decode cMO_readGroup 0 = .ok (.iconst 0, 1) := by decide +kernel
theorem dMO_readGroup_1 : decode cMO_readGroup 1 = .ok (.istore_n 3, 1) := by decide +kernel
theorem dMO_readGroup_2 : decode cMO_readGroup 2 = .ok (.iconst (-1), 1) := by decide +kernel
theorem dMO_readGroup_3 : decode cMO_readGroup 3 = .ok (.istore 4, 2) := by decide +kernel
theorem dMO_readGroup_5 : decode cMO_readGroup 5 = .ok (.iconst (-1), 1) := by decide +kernel
theorem dMO_readGroup_6 : decode cMO_readGroup 6 = .ok (.istore 5, 2) := by decide +kernel
theorem dMO_readGroup_8 : decode cMO_readGroup 8 = .ok (.iconst 0, 1) := by decide +kernel
theorem dMO_readGroup_9 : decode cMO_readGroup 9 = .ok (.istore 6, 2) := by decide +kernel
theorem dMO_readGroup_11 : decode cMO_readGroup 11 = .ok (.iload 6, 2) := by decide +kernel
theorem dMO_readGroup_13 : decode cMO_readGroup 13 = .ok (.bipush 16, 2) := by decide +kernel
theorem dMO_readGroup_15 : decode cMO_readGroup 15 = .ok (.if_icmp .ge 132, 3) := by decide +kernel
theorem dMO_readGroup_18 : decode cMO_readGroup 18 = .ok (.iload 6, 2) := by decide +kernel
theorem dMO_readGroup_20 : decode cMO_readGroup 20 = .ok (.invokestatic 168, 3) := by decide +kernel
theorem dMO_readGroup_23 : decode cMO_readGroup 23 = .ok (.istore 7, 2) := by decide +kernel
theorem dMO_readGroup_25 : decode cMO_readGroup 25 = .ok (.iload 7, 2) := by decide +kernel
theorem dMO_readGroup_27 : decode cMO_readGroup 27 = .ok (.iconst 4, 1) := by decide +kernel
theorem dMO_readGroup_28 : decode cMO_readGroup 28 = .ok (.irem, 1) := by decide +kernel
theorem dMO_readGroup_29 : decode cMO_readGroup 29 = .ok (.ifCond .le 19, 3) := by decide +kernel
theorem dMO_readGroup_32 : decode cMO_readGroup 32 = .ok (.aload_n 0, 1) := by decide +kernel
theorem dMO_readGroup_33 : decode cMO_readGroup 33 = .ok (.getfield 50, 3) := by decide +kernel
theorem dMO_readGroup_36 : decode cMO_readGroup 36 = .ok (.iload 7, 2) := by decide +kernel
theorem dMO_readGroup_38 : decode cMO_readGroup 38 = .ok (.iconst 1, 1) := by decide +kernel
theorem dMO_readGroup_39 : decode cMO_readGroup 39 = .ok (.isub, 1) := by decide +kernel
theorem dMO_readGroup_40 : decode cMO_readGroup 40 = .ok (.iaload, 1) := by decide +kernel
theorem dMO_readGroup_41 : decode cMO_readGroup 41 = .ok (.ifCond .eq 7, 3) := by decide +kernel
theorem dMO_readGroup_44 : decode cMO_readGroup 44 = .ok (.iconst 1, 1) := by decide +kernel
theorem dMO_readGroup_45 : decode cMO_readGroup 45 = .ok (.goto 4, 3) := by decide +kernel
theorem dMO_readGroup_48 : decode cMO_readGroup 48 = .ok (.iconst 0, 1) := by decide +kernel
theorem dMO_readGroup_49 : decode cMO_readGroup 49 = .ok (.iload 7, 2) := by decide +kernel
theorem dMO_readGroup_51 : decode cMO_readGroup 51 = .ok (.iconst 3, 1) := by decide +kernel
theorem dMO_readGroup_52 : decode cMO_readGroup 52 = .ok (.if_icmp .le 19, 3) := by decide +kernel
theorem dMO_readGroup_55 : decode cMO_readGroup 55 = .ok (.aload_n 0, 1) := by decide +kernel
theorem dMO_readGroup_56 : decode cMO_readGroup 56 = .ok (.getfield 50, 3) := by decide +kernel
theorem dMO_readGroup_59 : decode cMO_readGroup 59 = .ok (.iload 7, 2) := by decide +kernel
theorem dMO_readGroup_61 : decode cMO_readGroup 61 = .ok (.iconst 4, 1) := by decide +kernel
theorem dMO_readGroup_62 : decode cMO_readGroup 62 = .ok (.isub, 1) := by decide +kernel
theorem dMO_readGroup_63 : decode cMO_readGroup 63 = .ok (.iaload, 1) := by decide +kernel
theorem dMO_readGroup_64 : decode cMO_readGroup 64 = .ok (.ifCond .eq 7, 3) := by decide +kernel
theorem dMO_readGroup_67 : decode cMO_readGroup 67 = .ok (.iconst 1, 1) := by decide +kernel
theorem dMO_readGroup_68 : decode cMO_readGroup 68 = .ok (.goto 4, 3) := by decide +kernel
theorem dMO_readGroup_71 : decode cMO_readGroup 71 = .ok (.iconst 0, 1) := by decide +kernel
theorem dMO_readGroup_72 : decode cMO_readGroup 72 = .ok (.iadd, 1) := by decide +kernel
theorem dMO_readGroup_73 : decode cMO_readGroup 73 = .ok (.istore 8, 2) := by decide +kernel
theorem dMO_readGroup_75 : decode cMO_readGroup 75 = .ok (.aload_n 0, 1) := by decide +kernel
theorem dMO_readGroup_76 : decode cMO_readGroup 76 = .ok (.getfield 50, 3) := by decide +kernel
theorem dMO_readGroup_79 : decode cMO_readGroup 79 = .ok (.iload 7, 2) := by decide +kernel
theorem dMO_readGroup_81 : decode cMO_readGroup 81 = .ok (.aload_n 0, 1) := by decide +kernel
theorem dMO_readGroup_82 : decode cMO_readGroup 82 = .ok (.bipush 9, 2) := by decide +kernel
theorem dMO_readGroup_84 : decode cMO_readGroup 84 = .ok (.iload 8, 2) := by decide +kernel
theorem dMO_readGroup_86 : decode cMO_readGroup 86 = .ok (.iadd, 1) := by decide +kernel
theorem dMO_readGroup_87 : decode cMO_readGroup 87 = .ok (.invokevirtual 154, 3) := by decide +kernel
theorem dMO_readGroup_90 : decode cMO_readGroup 90 = .ok (.iconst 1, 1) := by decide +kernel
theorem dMO_readGroup_91 : decode cMO_readGroup 91 = .ok (.if_icmp .ne 10, 3) := by decide +kernel
theorem dMO_readGroup_94 : decode cMO_readGroup 94 = .ok (.aload_n 0, 1) := by decide +kernel
theorem dMO_readGroup_95 : decode cMO_readGroup 95 = .ok (.invokevirtual 171, 3) := by decide +kernel
theorem dMO_readGroup_98 : decode cMO_readGroup 98 = .ok (.goto 4, 3) := by decide +kernel
theorem dMO_readGroup_101 : decode cMO_readGroup 101 = .ok (.iconst 0, 1) := by decide +kernel
theorem dMO_readGroup_102 : decode cMO_readGroup 102 = .ok (.iastore, 1) := by decide +kernel
theorem dMO_readGroup_103 : decode cMO_readGroup 103 = .ok (.iload_n 3, 1) := by decide +kernel
theorem dMO_readGroup_104 : decode cMO_readGroup 104 = .ok (.aload_n 0, 1) := by decide +kernel
theorem dMO_readGroup_105 : decode cMO_readGroup 105 = .ok (.getfield 50, 3) := by decide +kernel
theorem dMO_readGroup_108 : decode cMO_readGroup 108 = .ok (.iload 7, 2) := by decide +kernel
theorem dMO_readGroup_110 : decode cMO_readGroup 110 = .ok (.iaload, 1) := by decide +kernel
theorem dMO_readGroup_111 : decode cMO_readGroup 111 = .ok (.iadd, 1) := by decide +kernel
theorem dMO_readGroup_112 : decode cMO_readGroup 112 = .ok (.istore_n 3, 1) := by decide +kernel
theorem dMO_readGroup_113 : decode cMO_readGroup 113 = .ok (.aload_n 0, 1) := by decide +kernel
theorem dMO_readGroup_114 : decode cMO_readGroup 114 = .ok (.getfield 50, 3) := by decide +kernel
theorem dMO_readGroup_117 : decode cMO_readGroup 117 = .ok (.iload 7, 2) := by decide +kernel
theorem dMO_readGroup_119 : decode cMO_readGroup 119 = .ok (.iaload, 1) := by decide +kernel
theorem dMO_readGroup_120 : decode cMO_readGroup 120 = .ok (.ifCond .eq 21, 3) := by decide +kernel
theorem dMO_readGroup_123 : decode cMO_readGroup 123 = .ok (.iload 4, 2) := by decide +kernel
theorem dMO_readGroup_125 : decode cMO_readGroup 125 = .ok (.ifCond .ge 8, 3) := by decide +kernel
theorem dMO_readGroup_128 : decode cMO_readGroup 128 = .ok (.iload 6, 2) := by decide +kernel
theorem dMO_readGroup_130 : decode cMO_readGroup 130 = .ok (.goto 5, 3) := by decide +kernel
theorem dMO_readGroup_133 : decode cMO_readGroup 133 = .ok (.iload 4, 2) := by decide +kernel
theorem dMO_readGroup_135 : decode cMO_readGroup 135 = .ok (.istore 4, 2) := by decide +kernel
theorem dMO_readGroup_137 : decode cMO_readGroup 137 = .ok (.iload 6, 2) := by decide +kernel
theorem dMO_readGroup_139 : decode cMO_readGroup 139 = .ok (.istore 5, 2) := by decide +kernel
theorem dMO_readGroup_141 : decode cMO_readGroup 141 = .ok (.iinc 6 1, 3) := by decide +kernel
theorem dMO_readGroup_144 : decode cMO_readGroup 144 = .ok (.goto (-133), 3) := by decide +kernel
theorem dMO_readGroup_147 : decode cMO_readGroup 147 = .ok (.aload_n 0, 1) := by decide +kernel
theorem dMO_readGroup_148 : decode cMO_readGroup 148 = .ok (.getfield 16, 3) := by decide +kernel
theorem dMO_readGroup_151 : decode cMO_readGroup 151 = .ok (.iconst 1, 1) := by decide +kernel
theorem dMO_readGroup_152 : decode cMO_readGroup 152 = .ok (.iaload, 1) := by decide +kernel
theorem dMO_readGroup_153 : decode cMO_readGroup 153 = .ok (.iconst 1, 1) := by decide +kernel
theorem dMO_readGroup_154 : decode cMO_readGroup 154 = .ok (.if_icmp .ne 16, 3) := by decide +kernel
theorem dMO_readGroup_157 : decode cMO_readGroup 157 = .ok (.iload 5, 2) := by decide +kernel
theorem dMO_readGroup_159 : decode cMO_readGroup 159 = .ok (.iload 4, 2) := by decide +kernel
theorem dMO_readGroup_161 : decode cMO_readGroup 161 = .ok (.isub, 1) := by decide +kernel
theorem dMO_readGroup_162 : decode cMO_readGroup 162 = .ok (.iconst 4, 1) := by decide +kernel
theorem dMO_readGroup_163 : decode cMO_readGroup 163 = .ok (.if_icmp .lt 7, 3) := by decide +kernel
theorem dMO_readGroup_166 : decode cMO_readGroup 166 = .ok (.iconst 1, 1) := by decide +kernel
theorem dMO_readGroup_167 : decode cMO_readGroup 167 = .ok (.goto 4, 3) := by decide +kernel
theorem dMO_readGroup_170 : decode cMO_readGroup 170 = .ok (.iconst 0, 1) := by decide +kernel
theorem dMO_readGroup_171 : decode cMO_readGroup 171 = .ok (.istore 6, 2) := by decide +kernel
theorem dMO_readGroup_173 : decode cMO_readGroup 173 = .ok (.iconst 0, 1) := by decide +kernel
theorem dMO_readGroup_174 : decode cMO_readGroup 174 = .ok (.istore 7, 2) := by decide +kernel
theorem dMO_readGroup_176 : decode cMO_readGroup 176 = .ok (.iload 7, 2) := by decide +kernel
theorem dMO_readGroup_178 : decode cMO_readGroup 178 = .ok (.bipush 16, 2) := by decide +kernel
theorem dMO_readGroup_180 : decode cMO_readGroup 180 = .ok (.if_icmp .ge 107, 3) := by decide +kernel
theorem dMO_readGroup_183 : decode cMO_readGroup 183 = .ok (.iload 7, 2) := by decide +kernel
theorem dMO_readGroup_185 : decode cMO_readGroup 185 = .ok (.invokestatic 168, 3) := by decide +kernel
theorem dMO_readGroup_188 : decode cMO_readGroup 188 = .ok (.istore 8, 2) := by decide +kernel
theorem dMO_readGroup_190 : decode cMO_readGroup 190 = .ok (.aload_n 0, 1) := by decide +kernel
theorem dMO_readGroup_191 : decode cMO_readGroup 191 = .ok (.getfield 50, 3) := by decide +kernel
theorem dMO_readGroup_194 : decode cMO_readGroup 194 = .ok (.iload 8, 2) := by decide +kernel
theorem dMO_readGroup_196 : decode cMO_readGroup 196 = .ok (.iaload, 1) := by decide +kernel
theorem dMO_readGroup_197 : decode cMO_readGroup 197 = .ok (.ifCond .eq 37, 3) := by decide +kernel
theorem dMO_readGroup_200 : decode cMO_readGroup 200 = .ok (.iload 6, 2) := by decide +kernel
theorem dMO_readGroup_202 : decode cMO_readGroup 202 = .ok (.ifCond .eq 20, 3) := by decide +kernel
theorem dMO_readGroup_205 : decode cMO_readGroup 205 = .ok (.iload 7, 2) := by decide +kernel
theorem dMO_readGroup_207 : decode cMO_readGroup 207 = .ok (.iload 4, 2) := by decide +kernel
theorem dMO_readGroup_209 : decode cMO_readGroup 209 = .ok (.if_icmp .ne 13, 3) := by decide +kernel
theorem dMO_readGroup_212 : decode cMO_readGroup 212 = .ok (.iload_n 3, 1) := by decide +kernel
theorem dMO_readGroup_213 : decode cMO_readGroup 213 = .ok (.iconst 2, 1) := by decide +kernel
theorem dMO_readGroup_214 : decode cMO_readGroup 214 = .ok (.irem, 1) := by decide +kernel
theorem dMO_readGroup_215 : decode cMO_readGroup 215 = .ok (.iconst 1, 1) := by decide +kernel
theorem dMO_readGroup_216 : decode cMO_readGroup 216 = .ok (.if_icmp .ne 18, 3) := by decide +kernel
theorem dMO_readGroup_219 : decode cMO_readGroup 219 = .ok (.goto 11, 3) := by decide +kernel
theorem dMO_readGroup_222 : decode cMO_readGroup 222 = .ok (.aload_n 0, 1) := by decide +kernel
theorem dMO_readGroup_223 : decode cMO_readGroup 223 = .ok (.invokevirtual 151, 3) := by decide +kernel
theorem dMO_readGroup_226 : decode cMO_readGroup 226 = .ok (.iconst 1, 1) := by decide +kernel
theorem dMO_readGroup_227 : decode cMO_readGroup 227 = .ok (.if_icmp .ne 7, 3) := by decide +kernel
theorem dMO_readGroup_230 : decode cMO_readGroup 230 = .ok (.iconst 1, 1) := by decide +kernel
theorem dMO_readGroup_231 : decode cMO_readGroup 231 = .ok (.goto 4, 3) := by decide +kernel
theorem dMO_readGroup_234 : decode cMO_readGroup 234 = .ok (.iconst 0, 1) := by decide +kernel
theorem dMO_readGroup_235 : decode cMO_readGroup 235 = .ok (.istore 9, 2) := by decide +kernel
theorem dMO_readGroup_237 : decode cMO_readGroup 237 = .ok (.aload_n 0, 1) := by decide +kernel
theorem dMO_readGroup_238 : decode cMO_readGroup 238 = .ok (.getfield 47, 3) := by decide +kernel
theorem dMO_readGroup_241 : decode cMO_readGroup 241 = .ok (.bipush 16, 2) := by decide +kernel
theorem dMO_readGroup_243 : decode cMO_readGroup 243 = .ok (.iload_n 2, 1) := by decide +kernel
theorem dMO_readGroup_244 : decode cMO_readGroup 244 = .ok (.iload 8, 2) := by decide +kernel
theorem dMO_readGroup_246 : decode cMO_readGroup 246 = .ok (.iconst 4, 1) := by decide +kernel
theorem dMO_readGroup_247 : decode cMO_readGroup 247 = .ok (.idiv, 1) := by decide +kernel
theorem dMO_readGroup_248 : decode cMO_readGroup 248 = .ok (.iadd, 1) := by decide +kernel
theorem dMO_readGroup_249 : decode cMO_readGroup 249 = .ok (.imul, 1) := by decide +kernel
theorem dMO_readGroup_250 : decode cMO_readGroup 250 = .ok (.iload_n 1, 1) := by decide +kernel
theorem dMO_readGroup_251 : decode cMO_readGroup 251 = .ok (.iadd, 1) := by decide +kernel
theorem dMO_readGroup_252 : decode cMO_readGroup 252 = .ok (.iload 8, 2) := by decide +kernel
theorem dMO_readGroup_254 : decode cMO_readGroup 254 = .ok (.iconst 4, 1) := by decide +kernel
theorem dMO_readGroup_255 : decode cMO_readGroup 255 = .ok (.irem, 1) := by decide +kernel
theorem dMO_readGroup_256 : decode cMO_readGroup 256 = .ok (.iadd, 1) := by decide +kernel
theorem dMO_readGroup_257 : decode cMO_readGroup 257 = .ok (.iload 9, 2) := by decide +kernel
theorem dMO_readGroup_259 : decode cMO_readGroup 259 = .ok (.ifCond .eq 14, 3) := by decide +kernel
theorem dMO_readGroup_262 : decode cMO_readGroup 262 = .ok (.aload_n 0, 1) := by decide +kernel
theorem dMO_readGroup_263 : decode cMO_readGroup 263 = .ok (.getfield 50, 3) := by decide +kernel
theorem dMO_readGroup_266 : decode cMO_readGroup 266 = .ok (.iload 8, 2) := by decide +kernel
theorem dMO_readGroup_268 : decode cMO_readGroup 268 = .ok (.iaload, 1) := by decide +kernel
theorem dMO_readGroup_269 : decode cMO_readGroup 269 = .ok (.ineg, 1) := by decide +kernel
theorem dMO_readGroup_270 : decode cMO_readGroup 270 = .ok (.goto 10, 3) := by decide +kernel
theorem dMO_readGroup_273 : decode cMO_readGroup 273 = .ok (.aload_n 0, 1) := by decide +kernel
theorem dMO_readGroup_274 : decode cMO_readGroup 274 = .ok (.getfield 50, 3) := by decide +kernel
theorem dMO_readGroup_277 : decode cMO_readGroup 277 = .ok (.iload 8, 2) := by decide +kernel
theorem dMO_readGroup_279 : decode cMO_readGroup 279 = .ok (.iaload, 1) := by decide +kernel
theorem dMO_readGroup_280 : decode cMO_readGroup 280 = .ok (.iastore, 1) := by decide +kernel
theorem dMO_readGroup_281 : decode cMO_readGroup 281 = .ok (.iinc 7 1, 3) := by decide +kernel
theorem dMO_readGroup_284 : decode cMO_readGroup 284 = .ok (.goto (-108), 3) := by decide +kernel
theorem dMO_readGroup_287 : decode cMO_readGroup 287 = .ok (.return_, 1) := by decide +kernel
abbrev cMO_coefficient : ByteArray := prog_14_method_25_code
def yMO_coefficient : MethodName := ⟨kR_MO, "coefficient", "(III)I"⟩
def wsMO_coefficient : List Cond := .code yMO_coefficient cMO_coefficient 5 (some .int) :: ipW
theorem dMO_coefficient_0 : decode cMO_coefficient 0 = .ok (.aload_n 0, 1) := by decide +kernel
theorem dMO_coefficient_1 : decode cMO_coefficient 1 = .ok (.getfield 47, 3) := by decide +kernel
theorem dMO_coefficient_4 : decode cMO_coefficient 4 = .ok (.bipush 16, 2) := by decide +kernel
theorem dMO_coefficient_6 : decode cMO_coefficient 6 = .ok (.aload_n 0, 1) := by decide +kernel
theorem dMO_coefficient_7 : decode cMO_coefficient 7 = .ok (.getfield 31, 3) := by decide +kernel
theorem dMO_coefficient_10 : decode cMO_coefficient 10 = .ok (.iload_n 1, 1) := by decide +kernel
theorem dMO_coefficient_11 : decode cMO_coefficient 11 = .ok (.iaload, 1) := by decide +kernel
theorem dMO_coefficient_12 : decode cMO_coefficient 12 = .ok (.iload_n 3, 1) := by decide +kernel
theorem dMO_coefficient_13 : decode cMO_coefficient 13 = .ok (.iadd, 1) := by decide +kernel
theorem dMO_coefficient_14 : decode cMO_coefficient 14 = .ok (.imul, 1) := by decide +kernel
theorem dMO_coefficient_15 : decode cMO_coefficient 15 = .ok (.aload_n 0, 1) := by decide +kernel
theorem dMO_coefficient_16 : decode cMO_coefficient 16 = .ok (.getfield 28, 3) := by decide +kernel
theorem dMO_coefficient_19 : decode cMO_coefficient 19 = .ok (.iload_n 1, 1) := by decide +kernel
theorem dMO_coefficient_20 : decode cMO_coefficient 20 = .ok (.iaload, 1) := by decide +kernel
theorem dMO_coefficient_21 : decode cMO_coefficient 21 = .ok (.iadd, 1) := by decide +kernel
theorem dMO_coefficient_22 : decode cMO_coefficient 22 = .ok (.iload_n 2, 1) := by decide +kernel
theorem dMO_coefficient_23 : decode cMO_coefficient 23 = .ok (.iadd, 1) := by decide +kernel
theorem dMO_coefficient_24 : decode cMO_coefficient 24 = .ok (.iaload, 1) := by decide +kernel
theorem dMO_coefficient_25 : decode cMO_coefficient 25 = .ok (.aload_n 0, 1) := by decide +kernel
theorem dMO_coefficient_26 : decode cMO_coefficient 26 = .ok (.getfield 77, 3) := by decide +kernel
theorem dMO_coefficient_29 : decode cMO_coefficient 29 = .ok (.aload_n 0, 1) := by decide +kernel
theorem dMO_coefficient_30 : decode cMO_coefficient 30 = .ok (.getfield 16, 3) := by decide +kernel
theorem dMO_coefficient_33 : decode cMO_coefficient 33 = .ok (.iconst 0, 1) := by decide +kernel
theorem dMO_coefficient_34 : decode cMO_coefficient 34 = .ok (.iaload, 1) := by decide +kernel
theorem dMO_coefficient_35 : decode cMO_coefficient 35 = .ok (.bipush 6, 2) := by decide +kernel
theorem dMO_coefficient_37 : decode cMO_coefficient 37 = .ok (.irem, 1) := by decide +kernel
theorem dMO_coefficient_38 : decode cMO_coefficient 38 = .ok (.iaload, 1) := by decide +kernel
theorem dMO_coefficient_39 : decode cMO_coefficient 39 = .ok (.imul, 1) := by decide +kernel
theorem dMO_coefficient_40 : decode cMO_coefficient 40 = .ok (.aload_n 0, 1) := by decide +kernel
theorem dMO_coefficient_41 : decode cMO_coefficient 41 = .ok (.getfield 16, 3) := by decide +kernel
theorem dMO_coefficient_44 : decode cMO_coefficient 44 = .ok (.iconst 0, 1) := by decide +kernel
theorem dMO_coefficient_45 : decode cMO_coefficient 45 = .ok (.iaload, 1) := by decide +kernel
theorem dMO_coefficient_46 : decode cMO_coefficient 46 = .ok (.bipush 6, 2) := by decide +kernel
theorem dMO_coefficient_48 : decode cMO_coefficient 48 = .ok (.idiv, 1) := by decide +kernel
theorem dMO_coefficient_49 : decode cMO_coefficient 49 = .ok (.ishl, 1) := by decide +kernel
theorem dMO_coefficient_50 : decode cMO_coefficient 50 = .ok (.istore 4, 2) := by decide +kernel
theorem dMO_coefficient_52 : decode cMO_coefficient 52 = .ok (.aload_n 0, 1) := by decide +kernel
theorem dMO_coefficient_53 : decode cMO_coefficient 53 = .ok (.getfield 34, 3) := by decide +kernel
theorem dMO_coefficient_56 : decode cMO_coefficient 56 = .ok (.iload_n 1, 1) := by decide +kernel
theorem dMO_coefficient_57 : decode cMO_coefficient 57 = .ok (.iaload, 1) := by decide +kernel
theorem dMO_coefficient_58 : decode cMO_coefficient 58 = .ok (.iconst 4, 1) := by decide +kernel
theorem dMO_coefficient_59 : decode cMO_coefficient 59 = .ok (.if_icmp .ne 12, 3) := by decide +kernel
theorem dMO_coefficient_62 : decode cMO_coefficient 62 = .ok (.iload 4, 2) := by decide +kernel
theorem dMO_coefficient_64 : decode cMO_coefficient 64 = .ok (.iconst 1, 1) := by decide +kernel
theorem dMO_coefficient_65 : decode cMO_coefficient 65 = .ok (.iadd, 1) := by decide +kernel
theorem dMO_coefficient_66 : decode cMO_coefficient 66 = .ok (.iconst 1, 1) := by decide +kernel
theorem dMO_coefficient_67 : decode cMO_coefficient 67 = .ok (.ishr, 1) := by decide +kernel
theorem dMO_coefficient_68 : decode cMO_coefficient 68 = .ok (.goto 9, 3) := by decide +kernel
theorem dMO_coefficient_71 : decode cMO_coefficient 71 = .ok (.iload 4, 2) := by decide +kernel
theorem dMO_coefficient_73 : decode cMO_coefficient 73 = .ok (.iconst 2, 1) := by decide +kernel
theorem dMO_coefficient_74 : decode cMO_coefficient 74 = .ok (.iadd, 1) := by decide +kernel
theorem dMO_coefficient_75 : decode cMO_coefficient 75 = .ok (.iconst 2, 1) := by decide +kernel
theorem dMO_coefficient_76 : decode cMO_coefficient 76 = .ok (.ishr, 1) := by decide +kernel
theorem dMO_coefficient_77 : decode cMO_coefficient 77 = .ok (.sipush (-32768), 3) := by decide +kernel
theorem dMO_coefficient_80 : decode cMO_coefficient 80 = .ok (.sipush 32767, 3) := by decide +kernel
theorem dMO_coefficient_83 : decode cMO_coefficient 83 = .ok (.invokestatic 174, 3) := by decide +kernel
theorem dMO_coefficient_86 : decode cMO_coefficient 86 = .ok (.ireturn, 1) := by decide +kernel
abbrev cMO_matrix : ByteArray := prog_14_method_26_code
def yMO_matrix : MethodName := ⟨kR_MO, "matrix", "(III)I"⟩
def wsMO_matrix : List Cond := .code yMO_matrix cMO_matrix 5 (some .int) :: ipW
theorem dMO_matrix_0 : decode cMO_matrix 0 = .ok (.iload_n 1, 1) := by decide +kernel
theorem dMO_matrix_1 : decode cMO_matrix 1 = .ok (.iconst 4, 1) := by decide +kernel
theorem dMO_matrix_2 : decode cMO_matrix 2 = .ok (.if_icmp .ne 14, 3) := by decide +kernel
theorem dMO_matrix_5 : decode cMO_matrix 5 = .ok (.aload_n 0, 1) := by decide +kernel
theorem dMO_matrix_6 : decode cMO_matrix 6 = .ok (.getfield 71, 3) := by decide +kernel
theorem dMO_matrix_9 : decode cMO_matrix 9 = .ok (.iconst 4, 1) := by decide +kernel
theorem dMO_matrix_10 : decode cMO_matrix 10 = .ok (.iload_n 2, 1) := by decide +kernel
theorem dMO_matrix_11 : decode cMO_matrix 11 = .ok (.imul, 1) := by decide +kernel
theorem dMO_matrix_12 : decode cMO_matrix 12 = .ok (.iload_n 3, 1) := by decide +kernel
theorem dMO_matrix_13 : decode cMO_matrix 13 = .ok (.iadd, 1) := by decide +kernel
theorem dMO_matrix_14 : decode cMO_matrix 14 = .ok (.iaload, 1) := by decide +kernel
theorem dMO_matrix_15 : decode cMO_matrix 15 = .ok (.ireturn, 1) := by decide +kernel
theorem dMO_matrix_16 : decode cMO_matrix 16 = .ok (.iload_n 2, 1) := by decide +kernel
theorem dMO_matrix_17 : decode cMO_matrix 17 = .ok (.ifCond .ne 6, 3) := by decide +kernel
theorem dMO_matrix_20 : decode cMO_matrix 20 = .ok (.bipush 64, 2) := by decide +kernel
theorem dMO_matrix_22 : decode cMO_matrix 22 = .ok (.ireturn, 1) := by decide +kernel
theorem dMO_matrix_23 : decode cMO_matrix 23 = .ok (.iconst 2, 1) := by decide +kernel
theorem dMO_matrix_24 : decode cMO_matrix 24 = .ok (.iload_n 3, 1) := by decide +kernel
theorem dMO_matrix_25 : decode cMO_matrix 25 = .ok (.imul, 1) := by decide +kernel
theorem dMO_matrix_26 : decode cMO_matrix 26 = .ok (.iconst 1, 1) := by decide +kernel
theorem dMO_matrix_27 : decode cMO_matrix 27 = .ok (.iadd, 1) := by decide +kernel
theorem dMO_matrix_28 : decode cMO_matrix 28 = .ok (.iload_n 2, 1) := by decide +kernel
theorem dMO_matrix_29 : decode cMO_matrix 29 = .ok (.imul, 1) := by decide +kernel
theorem dMO_matrix_30 : decode cMO_matrix 30 = .ok (.bipush 32, 2) := by decide +kernel
theorem dMO_matrix_32 : decode cMO_matrix 32 = .ok (.irem, 1) := by decide +kernel
theorem dMO_matrix_33 : decode cMO_matrix 33 = .ok (.istore 4, 2) := by decide +kernel
theorem dMO_matrix_35 : decode cMO_matrix 35 = .ok (.iload 4, 2) := by decide +kernel
theorem dMO_matrix_37 : decode cMO_matrix 37 = .ok (.bipush 16, 2) := by decide +kernel
theorem dMO_matrix_39 : decode cMO_matrix 39 = .ok (.if_icmp .le 11, 3) := by decide +kernel
theorem dMO_matrix_42 : decode cMO_matrix 42 = .ok (.bipush 32, 2) := by decide +kernel
theorem dMO_matrix_44 : decode cMO_matrix 44 = .ok (.iload 4, 2) := by decide +kernel
theorem dMO_matrix_46 : decode cMO_matrix 46 = .ok (.isub, 1) := by decide +kernel
theorem dMO_matrix_47 : decode cMO_matrix 47 = .ok (.goto 5, 3) := by decide +kernel
theorem dMO_matrix_50 : decode cMO_matrix 50 = .ok (.iload 4, 2) := by decide +kernel
theorem dMO_matrix_52 : decode cMO_matrix 52 = .ok (.istore 4, 2) := by decide +kernel
theorem dMO_matrix_54 : decode cMO_matrix 54 = .ok (.iload 4, 2) := by decide +kernel
theorem dMO_matrix_56 : decode cMO_matrix 56 = .ok (.bipush 8, 2) := by decide +kernel
theorem dMO_matrix_58 : decode cMO_matrix 58 = .ok (.if_icmp .le 17, 3) := by decide +kernel
theorem dMO_matrix_61 : decode cMO_matrix 61 = .ok (.aload_n 0, 1) := by decide +kernel
theorem dMO_matrix_62 : decode cMO_matrix 62 = .ok (.getfield 74, 3) := by decide +kernel
theorem dMO_matrix_65 : decode cMO_matrix 65 = .ok (.bipush 16, 2) := by decide +kernel
theorem dMO_matrix_67 : decode cMO_matrix 67 = .ok (.iload 4, 2) := by decide +kernel
theorem dMO_matrix_69 : decode cMO_matrix 69 = .ok (.isub, 1) := by decide +kernel
theorem dMO_matrix_70 : decode cMO_matrix 70 = .ok (.iaload, 1) := by decide +kernel
theorem dMO_matrix_71 : decode cMO_matrix 71 = .ok (.ineg, 1) := by decide +kernel
theorem dMO_matrix_72 : decode cMO_matrix 72 = .ok (.goto 10, 3) := by decide +kernel
theorem dMO_matrix_75 : decode cMO_matrix 75 = .ok (.aload_n 0, 1) := by decide +kernel
theorem dMO_matrix_76 : decode cMO_matrix 76 = .ok (.getfield 74, 3) := by decide +kernel
theorem dMO_matrix_79 : decode cMO_matrix 79 = .ok (.iload 4, 2) := by decide +kernel
theorem dMO_matrix_81 : decode cMO_matrix 81 = .ok (.iaload, 1) := by decide +kernel
theorem dMO_matrix_82 : decode cMO_matrix 82 = .ok (.ireturn, 1) := by decide +kernel
abbrev cMO_half : ByteArray := prog_14_method_27_code
def yMO_half : MethodName := ⟨kR_MO, "half", "(III)I"⟩
def wsMO_half : List Cond := .code yMO_half cMO_half 7 (some .int) :: ipW
theorem dMO_half_0 : decode cMO_half 0 = .ok (.aload_n 0, 1) := by decide +kernel
theorem dMO_half_1 : decode cMO_half 1 = .ok (.getfield 34, 3) := by decide +kernel
theorem dMO_half_4 : decode cMO_half 4 = .ok (.iload_n 1, 1) := by decide +kernel
theorem dMO_half_5 : decode cMO_half 5 = .ok (.iaload, 1) := by decide +kernel
theorem dMO_half_6 : decode cMO_half 6 = .ok (.istore 4, 2) := by decide +kernel
theorem dMO_half_8 : decode cMO_half 8 = .ok (.bipush 64, 2) := by decide +kernel
theorem dMO_half_10 : decode cMO_half 10 = .ok (.istore 5, 2) := by decide +kernel
theorem dMO_half_12 : decode cMO_half 12 = .ok (.iconst 0, 1) := by decide +kernel
theorem dMO_half_13 : decode cMO_half 13 = .ok (.istore 6, 2) := by decide +kernel
theorem dMO_half_15 : decode cMO_half 15 = .ok (.iload 6, 2) := by decide +kernel
theorem dMO_half_17 : decode cMO_half 17 = .ok (.iload 4, 2) := by decide +kernel
theorem dMO_half_19 : decode cMO_half 19 = .ok (.if_icmp .ge 32, 3) := by decide +kernel
theorem dMO_half_22 : decode cMO_half 22 = .ok (.iload 5, 2) := by decide +kernel
theorem dMO_half_24 : decode cMO_half 24 = .ok (.aload_n 0, 1) := by decide +kernel
theorem dMO_half_25 : decode cMO_half 25 = .ok (.iload 4, 2) := by decide +kernel
theorem dMO_half_27 : decode cMO_half 27 = .ok (.iload 6, 2) := by decide +kernel
theorem dMO_half_29 : decode cMO_half 29 = .ok (.iload_n 3, 1) := by decide +kernel
theorem dMO_half_30 : decode cMO_half 30 = .ok (.invokevirtual 177, 3) := by decide +kernel
theorem dMO_half_33 : decode cMO_half 33 = .ok (.aload_n 0, 1) := by decide +kernel
theorem dMO_half_34 : decode cMO_half 34 = .ok (.iload_n 1, 1) := by decide +kernel
theorem dMO_half_35 : decode cMO_half 35 = .ok (.iload_n 2, 1) := by decide +kernel
theorem dMO_half_36 : decode cMO_half 36 = .ok (.iload 6, 2) := by decide +kernel
theorem dMO_half_38 : decode cMO_half 38 = .ok (.invokevirtual 180, 3) := by decide +kernel
theorem dMO_half_41 : decode cMO_half 41 = .ok (.imul, 1) := by decide +kernel
theorem dMO_half_42 : decode cMO_half 42 = .ok (.iadd, 1) := by decide +kernel
theorem dMO_half_43 : decode cMO_half 43 = .ok (.istore 5, 2) := by decide +kernel
theorem dMO_half_45 : decode cMO_half 45 = .ok (.iinc 6 1, 3) := by decide +kernel
theorem dMO_half_48 : decode cMO_half 48 = .ok (.goto (-33), 3) := by decide +kernel
theorem dMO_half_51 : decode cMO_half 51 = .ok (.iload 5, 2) := by decide +kernel
theorem dMO_half_53 : decode cMO_half 53 = .ok (.bipush 7, 2) := by decide +kernel
theorem dMO_half_55 : decode cMO_half 55 = .ok (.ishr, 1) := by decide +kernel
theorem dMO_half_56 : decode cMO_half 56 = .ok (.sipush (-32768), 3) := by decide +kernel
theorem dMO_half_59 : decode cMO_half 59 = .ok (.sipush 32767, 3) := by decide +kernel
theorem dMO_half_62 : decode cMO_half 62 = .ok (.invokestatic 174, 3) := by decide +kernel
theorem dMO_half_65 : decode cMO_half 65 = .ok (.ireturn, 1) := by decide +kernel
abbrev cMO_residual : ByteArray := prog_14_method_28_code
def yMO_residual : MethodName := ⟨kR_MO, "residual", "(III)I"⟩
def wsMO_residual : List Cond := .code yMO_residual cMO_residual 6 (some .int) :: ipW
theorem dMO_residual_0 : decode cMO_residual 0 = .ok (.aload_n 0, 1) := by decide +kernel
theorem dMO_residual_1 : decode cMO_residual 1 = .ok (.getfield 40, 3) := by decide +kernel
theorem dMO_residual_4 : decode cMO_residual 4 = .ok (.iload_n 1, 1) := by decide +kernel
theorem dMO_residual_5 : decode cMO_residual 5 = .ok (.baload, 1) := by decide +kernel
theorem dMO_residual_6 : decode cMO_residual 6 = .ok (.ifCond .eq 22, 3) := by decide +kernel
theorem dMO_residual_9 : decode cMO_residual 9 = .ok (.aload_n 0, 1) := by decide +kernel
theorem dMO_residual_10 : decode cMO_residual 10 = .ok (.iload_n 1, 1) := by decide +kernel
theorem dMO_residual_11 : decode cMO_residual 11 = .ok (.iload_n 2, 1) := by decide +kernel
theorem dMO_residual_12 : decode cMO_residual 12 = .ok (.iload_n 3, 1) := by decide +kernel
theorem dMO_residual_13 : decode cMO_residual 13 = .ok (.invokevirtual 180, 3) := by decide +kernel
theorem dMO_residual_16 : decode cMO_residual 16 = .ok (.sipush 128, 3) := by decide +kernel
theorem dMO_residual_19 : decode cMO_residual 19 = .ok (.imul, 1) := by decide +kernel
theorem dMO_residual_20 : decode cMO_residual 20 = .ok (.sipush 2048, 3) := by decide +kernel
theorem dMO_residual_23 : decode cMO_residual 23 = .ok (.iadd, 1) := by decide +kernel
theorem dMO_residual_24 : decode cMO_residual 24 = .ok (.bipush 12, 2) := by decide +kernel
theorem dMO_residual_26 : decode cMO_residual 26 = .ok (.ishr, 1) := by decide +kernel
theorem dMO_residual_27 : decode cMO_residual 27 = .ok (.ireturn, 1) := by decide +kernel
theorem dMO_residual_28 : decode cMO_residual 28 = .ok (.sipush 2048, 3) := by decide +kernel
theorem dMO_residual_31 : decode cMO_residual 31 = .ok (.istore 4, 2) := by decide +kernel
theorem dMO_residual_33 : decode cMO_residual 33 = .ok (.iconst 0, 1) := by decide +kernel
theorem dMO_residual_34 : decode cMO_residual 34 = .ok (.istore 5, 2) := by decide +kernel
theorem dMO_residual_36 : decode cMO_residual 36 = .ok (.iload 5, 2) := by decide +kernel
theorem dMO_residual_38 : decode cMO_residual 38 = .ok (.aload_n 0, 1) := by decide +kernel
theorem dMO_residual_39 : decode cMO_residual 39 = .ok (.getfield 34, 3) := by decide +kernel
theorem dMO_residual_42 : decode cMO_residual 42 = .ok (.iload_n 1, 1) := by decide +kernel
theorem dMO_residual_43 : decode cMO_residual 43 = .ok (.iaload, 1) := by decide +kernel
theorem dMO_residual_44 : decode cMO_residual 44 = .ok (.if_icmp .ge 36, 3) := by decide +kernel
theorem dMO_residual_47 : decode cMO_residual 47 = .ok (.iload 4, 2) := by decide +kernel
theorem dMO_residual_49 : decode cMO_residual 49 = .ok (.aload_n 0, 1) := by decide +kernel
theorem dMO_residual_50 : decode cMO_residual 50 = .ok (.aload_n 0, 1) := by decide +kernel
theorem dMO_residual_51 : decode cMO_residual 51 = .ok (.getfield 34, 3) := by decide +kernel
theorem dMO_residual_54 : decode cMO_residual 54 = .ok (.iload_n 1, 1) := by decide +kernel
theorem dMO_residual_55 : decode cMO_residual 55 = .ok (.iaload, 1) := by decide +kernel
theorem dMO_residual_56 : decode cMO_residual 56 = .ok (.iload 5, 2) := by decide +kernel
theorem dMO_residual_58 : decode cMO_residual 58 = .ok (.iload_n 2, 1) := by decide +kernel
theorem dMO_residual_59 : decode cMO_residual 59 = .ok (.invokevirtual 177, 3) := by decide +kernel
theorem dMO_residual_62 : decode cMO_residual 62 = .ok (.aload_n 0, 1) := by decide +kernel
theorem dMO_residual_63 : decode cMO_residual 63 = .ok (.iload_n 1, 1) := by decide +kernel
theorem dMO_residual_64 : decode cMO_residual 64 = .ok (.iload 5, 2) := by decide +kernel
theorem dMO_residual_66 : decode cMO_residual 66 = .ok (.iload_n 3, 1) := by decide +kernel
theorem dMO_residual_67 : decode cMO_residual 67 = .ok (.invokevirtual 183, 3) := by decide +kernel
theorem dMO_residual_70 : decode cMO_residual 70 = .ok (.imul, 1) := by decide +kernel
theorem dMO_residual_71 : decode cMO_residual 71 = .ok (.iadd, 1) := by decide +kernel
theorem dMO_residual_72 : decode cMO_residual 72 = .ok (.istore 4, 2) := by decide +kernel
theorem dMO_residual_74 : decode cMO_residual 74 = .ok (.iinc 5 1, 3) := by decide +kernel
theorem dMO_residual_77 : decode cMO_residual 77 = .ok (.goto (-41), 3) := by decide +kernel
theorem dMO_residual_80 : decode cMO_residual 80 = .ok (.iload 4, 2) := by decide +kernel
theorem dMO_residual_82 : decode cMO_residual 82 = .ok (.bipush 12, 2) := by decide +kernel
theorem dMO_residual_84 : decode cMO_residual 84 = .ok (.ishr, 1) := by decide +kernel
theorem dMO_residual_85 : decode cMO_residual 85 = .ok (.ireturn, 1) := by decide +kernel
abbrev cMO_reference : ByteArray := prog_14_method_29_code
def yMO_reference : MethodName := ⟨kR_MO, "reference", "(II)I"⟩
def wsMO_reference : List Cond := .code yMO_reference cMO_reference 7 (some .int) :: ipW
theorem dMO_reference_0 : decode cMO_reference 0 = .ok (.iconst 2, 1) := by decide +kernel
theorem dMO_reference_1 : decode cMO_reference 1 = .ok (.aload_n 0, 1) := by decide +kernel
theorem dMO_reference_2 : decode cMO_reference 2 = .ok (.getfield 34, 3) := by decide +kernel
theorem dMO_reference_5 : decode cMO_reference 5 = .ok (.iload_n 1, 1) := by decide +kernel
theorem dMO_reference_6 : decode cMO_reference 6 = .ok (.iaload, 1) := by decide +kernel
theorem dMO_reference_7 : decode cMO_reference 7 = .ok (.imul, 1) := by decide +kernel
theorem dMO_reference_8 : decode cMO_reference 8 = .ok (.istore_n 3, 1) := by decide +kernel
theorem dMO_reference_9 : decode cMO_reference 9 = .ok (.iload_n 2, 1) := by decide +kernel
theorem dMO_reference_10 : decode cMO_reference 10 = .ok (.iload_n 3, 1) := by decide +kernel
theorem dMO_reference_11 : decode cMO_reference 11 = .ok (.if_icmp .gt 14, 3) := by decide +kernel
theorem dMO_reference_14 : decode cMO_reference 14 = .ok (.aload_n 0, 1) := by decide +kernel
theorem dMO_reference_15 : decode cMO_reference 15 = .ok (.getfield 28, 3) := by decide +kernel
theorem dMO_reference_18 : decode cMO_reference 18 = .ok (.iload_n 1, 1) := by decide +kernel
theorem dMO_reference_19 : decode cMO_reference 19 = .ok (.iaload, 1) := by decide +kernel
theorem dMO_reference_20 : decode cMO_reference 20 = .ok (.iconst 1, 1) := by decide +kernel
theorem dMO_reference_21 : decode cMO_reference 21 = .ok (.isub, 1) := by decide +kernel
theorem dMO_reference_22 : decode cMO_reference 22 = .ok (.goto 15, 3) := by decide +kernel
theorem dMO_reference_25 : decode cMO_reference 25 = .ok (.aload_n 0, 1) := by decide +kernel
theorem dMO_reference_26 : decode cMO_reference 26 = .ok (.getfield 28, 3) := by decide +kernel
theorem dMO_reference_29 : decode cMO_reference 29 = .ok (.iload_n 1, 1) := by decide +kernel
theorem dMO_reference_30 : decode cMO_reference 30 = .ok (.iaload, 1) := by decide +kernel
theorem dMO_reference_31 : decode cMO_reference 31 = .ok (.iload_n 2, 1) := by decide +kernel
theorem dMO_reference_32 : decode cMO_reference 32 = .ok (.iadd, 1) := by decide +kernel
theorem dMO_reference_33 : decode cMO_reference 33 = .ok (.iload_n 3, 1) := by decide +kernel
theorem dMO_reference_34 : decode cMO_reference 34 = .ok (.isub, 1) := by decide +kernel
theorem dMO_reference_35 : decode cMO_reference 35 = .ok (.iconst 1, 1) := by decide +kernel
theorem dMO_reference_36 : decode cMO_reference 36 = .ok (.isub, 1) := by decide +kernel
theorem dMO_reference_37 : decode cMO_reference 37 = .ok (.istore 4, 2) := by decide +kernel
theorem dMO_reference_39 : decode cMO_reference 39 = .ok (.iload_n 2, 1) := by decide +kernel
theorem dMO_reference_40 : decode cMO_reference 40 = .ok (.iload_n 3, 1) := by decide +kernel
theorem dMO_reference_41 : decode cMO_reference 41 = .ok (.if_icmp .ge 18, 3) := by decide +kernel
theorem dMO_reference_44 : decode cMO_reference 44 = .ok (.aload_n 0, 1) := by decide +kernel
theorem dMO_reference_45 : decode cMO_reference 45 = .ok (.getfield 31, 3) := by decide +kernel
theorem dMO_reference_48 : decode cMO_reference 48 = .ok (.iload_n 1, 1) := by decide +kernel
theorem dMO_reference_49 : decode cMO_reference 49 = .ok (.iaload, 1) := by decide +kernel
theorem dMO_reference_50 : decode cMO_reference 50 = .ok (.iload_n 3, 1) := by decide +kernel
theorem dMO_reference_51 : decode cMO_reference 51 = .ok (.iadd, 1) := by decide +kernel
theorem dMO_reference_52 : decode cMO_reference 52 = .ok (.iconst 1, 1) := by decide +kernel
theorem dMO_reference_53 : decode cMO_reference 53 = .ok (.isub, 1) := by decide +kernel
theorem dMO_reference_54 : decode cMO_reference 54 = .ok (.iload_n 2, 1) := by decide +kernel
theorem dMO_reference_55 : decode cMO_reference 55 = .ok (.isub, 1) := by decide +kernel
theorem dMO_reference_56 : decode cMO_reference 56 = .ok (.goto 11, 3) := by decide +kernel
theorem dMO_reference_59 : decode cMO_reference 59 = .ok (.aload_n 0, 1) := by decide +kernel
theorem dMO_reference_60 : decode cMO_reference 60 = .ok (.getfield 31, 3) := by decide +kernel
theorem dMO_reference_63 : decode cMO_reference 63 = .ok (.iload_n 1, 1) := by decide +kernel
theorem dMO_reference_64 : decode cMO_reference 64 = .ok (.iaload, 1) := by decide +kernel
theorem dMO_reference_65 : decode cMO_reference 65 = .ok (.iconst 1, 1) := by decide +kernel
theorem dMO_reference_66 : decode cMO_reference 66 = .ok (.isub, 1) := by decide +kernel
theorem dMO_reference_67 : decode cMO_reference 67 = .ok (.istore 5, 2) := by decide +kernel
theorem dMO_reference_69 : decode cMO_reference 69 = .ok (.iload 4, 2) := by decide +kernel
theorem dMO_reference_71 : decode cMO_reference 71 = .ok (.ifCond .lt 22, 3) := by decide +kernel
theorem dMO_reference_74 : decode cMO_reference 74 = .ok (.iload 5, 2) := by decide +kernel
theorem dMO_reference_76 : decode cMO_reference 76 = .ok (.ifCond .lt 17, 3) := by decide +kernel
theorem dMO_reference_79 : decode cMO_reference 79 = .ok (.iload 4, 2) := by decide +kernel
theorem dMO_reference_81 : decode cMO_reference 81 = .ok (.bipush 15, 2) := by decide +kernel
theorem dMO_reference_83 : decode cMO_reference 83 = .ok (.if_icmp .gt 10, 3) := by decide +kernel
theorem dMO_reference_86 : decode cMO_reference 86 = .ok (.iload 5, 2) := by decide +kernel
theorem dMO_reference_88 : decode cMO_reference 88 = .ok (.bipush 15, 2) := by decide +kernel
theorem dMO_reference_90 : decode cMO_reference 90 = .ok (.if_icmp .le 5, 3) := by decide +kernel
theorem dMO_reference_93 : decode cMO_reference 93 = .ok (.iconst (-1), 1) := by decide +kernel
theorem dMO_reference_94 : decode cMO_reference 94 = .ok (.ireturn, 1) := by decide +kernel
theorem dMO_reference_95 : decode cMO_reference 95 = .ok (.bipush 16, 2) := by decide +kernel
theorem dMO_reference_97 : decode cMO_reference 97 = .ok (.iload 5, 2) := by decide +kernel
theorem dMO_reference_99 : decode cMO_reference 99 = .ok (.imul, 1) := by decide +kernel
theorem dMO_reference_100 : decode cMO_reference 100 = .ok (.iload 4, 2) := by decide +kernel
theorem dMO_reference_102 : decode cMO_reference 102 = .ok (.iadd, 1) := by decide +kernel
theorem dMO_reference_103 : decode cMO_reference 103 = .ok (.istore 6, 2) := by decide +kernel
theorem dMO_reference_105 : decode cMO_reference 105 = .ok (.aload_n 0, 1) := by decide +kernel
theorem dMO_reference_106 : decode cMO_reference 106 = .ok (.getfield 44, 3) := by decide +kernel
theorem dMO_reference_109 : decode cMO_reference 109 = .ok (.iload 6, 2) := by decide +kernel
theorem dMO_reference_111 : decode cMO_reference 111 = .ok (.iaload, 1) := by decide +kernel
theorem dMO_reference_112 : decode cMO_reference 112 = .ok (.iload_n 1, 1) := by decide +kernel
theorem dMO_reference_113 : decode cMO_reference 113 = .ok (.if_icmp .ge 8, 3) := by decide +kernel
theorem dMO_reference_116 : decode cMO_reference 116 = .ok (.iload 6, 2) := by decide +kernel
theorem dMO_reference_118 : decode cMO_reference 118 = .ok (.goto 4, 3) := by decide +kernel
theorem dMO_reference_121 : decode cMO_reference 121 = .ok (.iconst (-1), 1) := by decide +kernel
theorem dMO_reference_122 : decode cMO_reference 122 = .ok (.ireturn, 1) := by decide +kernel
abbrev cMO_references : ByteArray := prog_14_method_30_code
def yMO_references : MethodName := ⟨kR_MO, "references", "(I)V"⟩
def wsMO_references : List Cond := .code yMO_references cMO_references 7 none :: ipW
theorem dMO_references_0 : decode cMO_references 0 = .ok (.iconst 4, 1) := by decide +kernel
theorem dMO_references_1 : decode cMO_references 1 = .ok (.aload_n 0, 1) := by decide +kernel
theorem dMO_references_2 : decode cMO_references 2 = .ok (.getfield 34, 3) := by decide +kernel
theorem dMO_references_5 : decode cMO_references 5 = .ok (.iload_n 1, 1) := by decide +kernel
theorem dMO_references_6 : decode cMO_references 6 = .ok (.iaload, 1) := by decide +kernel
theorem dMO_references_7 : decode cMO_references 7 = .ok (.imul, 1) := by decide +kernel
theorem dMO_references_8 : decode cMO_references 8 = .ok (.istore_n 2, 1) := by decide +kernel
theorem dMO_references_9 : decode cMO_references 9 = .ok (.iconst (-1), 1) := by decide +kernel
theorem dMO_references_10 : decode cMO_references 10 = .ok (.istore_n 3, 1) := by decide +kernel
theorem dMO_references_11 : decode cMO_references 11 = .ok (.iload_n 2, 1) := by decide +kernel
theorem dMO_references_12 : decode cMO_references 12 = .ok (.istore 4, 2) := by decide +kernel
theorem dMO_references_14 : decode cMO_references 14 = .ok (.iload 4, 2) := by decide +kernel
theorem dMO_references_16 : decode cMO_references 16 = .ok (.ifCond .lt 26, 3) := by decide +kernel
theorem dMO_references_19 : decode cMO_references 19 = .ok (.aload_n 0, 1) := by decide +kernel
theorem dMO_references_20 : decode cMO_references 20 = .ok (.iload_n 1, 1) := by decide +kernel
theorem dMO_references_21 : decode cMO_references 21 = .ok (.iload 4, 2) := by decide +kernel
theorem dMO_references_23 : decode cMO_references 23 = .ok (.invokevirtual 186, 3) := by decide +kernel
theorem dMO_references_26 : decode cMO_references 26 = .ok (.ifCond .lt 8, 3) := by decide +kernel
theorem dMO_references_29 : decode cMO_references 29 = .ok (.iload 4, 2) := by decide +kernel
theorem dMO_references_31 : decode cMO_references 31 = .ok (.goto 4, 3) := by decide +kernel
theorem dMO_references_34 : decode cMO_references 34 = .ok (.iload_n 3, 1) := by decide +kernel
theorem dMO_references_35 : decode cMO_references 35 = .ok (.istore_n 3, 1) := by decide +kernel
theorem dMO_references_36 : decode cMO_references 36 = .ok (.iinc 4 (-1), 3) := by decide +kernel
theorem dMO_references_39 : decode cMO_references 39 = .ok (.goto (-25), 3) := by decide +kernel
theorem dMO_references_42 : decode cMO_references 42 = .ok (.iload_n 3, 1) := by decide +kernel
theorem dMO_references_43 : decode cMO_references 43 = .ok (.ifCond .ge 9, 3) := by decide +kernel
theorem dMO_references_46 : decode cMO_references 46 = .ok (.sipush 128, 3) := by decide +kernel
theorem dMO_references_49 : decode cMO_references 49 = .ok (.goto 14, 3) := by decide +kernel
theorem dMO_references_52 : decode cMO_references 52 = .ok (.aload_n 0, 1) := by decide +kernel
theorem dMO_references_53 : decode cMO_references 53 = .ok (.getfield 56, 3) := by decide +kernel
theorem dMO_references_56 : decode cMO_references 56 = .ok (.aload_n 0, 1) := by decide +kernel
theorem dMO_references_57 : decode cMO_references 57 = .ok (.iload_n 1, 1) := by decide +kernel
theorem dMO_references_58 : decode cMO_references 58 = .ok (.iload_n 3, 1) := by decide +kernel
theorem dMO_references_59 : decode cMO_references 59 = .ok (.invokevirtual 186, 3) := by decide +kernel
theorem dMO_references_62 : decode cMO_references 62 = .ok (.iaload, 1) := by decide +kernel
theorem dMO_references_63 : decode cMO_references 63 = .ok (.istore 4, 2) := by decide +kernel
theorem dMO_references_65 : decode cMO_references 65 = .ok (.iconst 0, 1) := by decide +kernel
theorem dMO_references_66 : decode cMO_references 66 = .ok (.istore 5, 2) := by decide +kernel
theorem dMO_references_68 : decode cMO_references 68 = .ok (.iload 5, 2) := by decide +kernel
theorem dMO_references_70 : decode cMO_references 70 = .ok (.iload_n 2, 1) := by decide +kernel
theorem dMO_references_71 : decode cMO_references 71 = .ok (.if_icmp .gt 46, 3) := by decide +kernel
theorem dMO_references_74 : decode cMO_references 74 = .ok (.aload_n 0, 1) := by decide +kernel
theorem dMO_references_75 : decode cMO_references 75 = .ok (.iload_n 1, 1) := by decide +kernel
theorem dMO_references_76 : decode cMO_references 76 = .ok (.iload 5, 2) := by decide +kernel
theorem dMO_references_78 : decode cMO_references 78 = .ok (.invokevirtual 186, 3) := by decide +kernel
theorem dMO_references_81 : decode cMO_references 81 = .ok (.istore 6, 2) := by decide +kernel
theorem dMO_references_83 : decode cMO_references 83 = .ok (.iload 6, 2) := by decide +kernel
theorem dMO_references_85 : decode cMO_references 85 = .ok (.ifCond .lt 13, 3) := by decide +kernel
theorem dMO_references_88 : decode cMO_references 88 = .ok (.aload_n 0, 1) := by decide +kernel
theorem dMO_references_89 : decode cMO_references 89 = .ok (.getfield 56, 3) := by decide +kernel
theorem dMO_references_92 : decode cMO_references 92 = .ok (.iload 6, 2) := by decide +kernel
theorem dMO_references_94 : decode cMO_references 94 = .ok (.iaload, 1) := by decide +kernel
theorem dMO_references_95 : decode cMO_references 95 = .ok (.goto 5, 3) := by decide +kernel
theorem dMO_references_98 : decode cMO_references 98 = .ok (.iload 4, 2) := by decide +kernel
theorem dMO_references_100 : decode cMO_references 100 = .ok (.istore 4, 2) := by decide +kernel
theorem dMO_references_102 : decode cMO_references 102 = .ok (.aload_n 0, 1) := by decide +kernel
theorem dMO_references_103 : decode cMO_references 103 = .ok (.getfield 68, 3) := by decide +kernel
theorem dMO_references_106 : decode cMO_references 106 = .ok (.iload 5, 2) := by decide +kernel
theorem dMO_references_108 : decode cMO_references 108 = .ok (.iload 4, 2) := by decide +kernel
theorem dMO_references_110 : decode cMO_references 110 = .ok (.iastore, 1) := by decide +kernel
theorem dMO_references_111 : decode cMO_references 111 = .ok (.iinc 5 1, 3) := by decide +kernel
theorem dMO_references_114 : decode cMO_references 114 = .ok (.goto (-46), 3) := by decide +kernel
theorem dMO_references_117 : decode cMO_references 117 = .ok (.aload_n 0, 1) := by decide +kernel
theorem dMO_references_118 : decode cMO_references 118 = .ok (.getfield 34, 3) := by decide +kernel
theorem dMO_references_121 : decode cMO_references 121 = .ok (.iload_n 1, 1) := by decide +kernel
theorem dMO_references_122 : decode cMO_references 122 = .ok (.iaload, 1) := by decide +kernel
theorem dMO_references_123 : decode cMO_references 123 = .ok (.bipush 8, 2) := by decide +kernel
theorem dMO_references_125 : decode cMO_references 125 = .ok (.if_icmp .ne 37, 3) := by decide +kernel
theorem dMO_references_128 : decode cMO_references 128 = .ok (.aload_n 0, 1) := by decide +kernel
theorem dMO_references_129 : decode cMO_references 129 = .ok (.getfield 37, 3) := by decide +kernel
theorem dMO_references_132 : decode cMO_references 132 = .ok (.iload_n 1, 1) := by decide +kernel
theorem dMO_references_133 : decode cMO_references 133 = .ok (.iaload, 1) := by decide +kernel
theorem dMO_references_134 : decode cMO_references 134 = .ok (.ifCond .eq 24, 3) := by decide +kernel
theorem dMO_references_137 : decode cMO_references 137 = .ok (.aload_n 0, 1) := by decide +kernel
theorem dMO_references_138 : decode cMO_references 138 = .ok (.getfield 37, 3) := by decide +kernel
theorem dMO_references_141 : decode cMO_references 141 = .ok (.iload_n 1, 1) := by decide +kernel
theorem dMO_references_142 : decode cMO_references 142 = .ok (.iaload, 1) := by decide +kernel
theorem dMO_references_143 : decode cMO_references 143 = .ok (.iconst 5, 1) := by decide +kernel
theorem dMO_references_144 : decode cMO_references 144 = .ok (.if_icmp .eq 14, 3) := by decide +kernel
theorem dMO_references_147 : decode cMO_references 147 = .ok (.aload_n 0, 1) := by decide +kernel
theorem dMO_references_148 : decode cMO_references 148 = .ok (.getfield 37, 3) := by decide +kernel
theorem dMO_references_151 : decode cMO_references 151 = .ok (.iload_n 1, 1) := by decide +kernel
theorem dMO_references_152 : decode cMO_references 152 = .ok (.iaload, 1) := by decide +kernel
theorem dMO_references_153 : decode cMO_references 153 = .ok (.bipush 7, 2) := by decide +kernel
theorem dMO_references_155 : decode cMO_references 155 = .ok (.if_icmp .ne 7, 3) := by decide +kernel
theorem dMO_references_158 : decode cMO_references 158 = .ok (.iconst 1, 1) := by decide +kernel
theorem dMO_references_159 : decode cMO_references 159 = .ok (.goto 4, 3) := by decide +kernel
theorem dMO_references_162 : decode cMO_references 162 = .ok (.iconst 0, 1) := by decide +kernel
theorem dMO_references_163 : decode cMO_references 163 = .ok (.istore 5, 2) := by decide +kernel
theorem dMO_references_165 : decode cMO_references 165 = .ok (.iconst 0, 1) := by decide +kernel
theorem dMO_references_166 : decode cMO_references 166 = .ok (.istore 6, 2) := by decide +kernel
theorem dMO_references_168 : decode cMO_references 168 = .ok (.iload 6, 2) := by decide +kernel
theorem dMO_references_170 : decode cMO_references 170 = .ok (.iload_n 2, 1) := by decide +kernel
theorem dMO_references_171 : decode cMO_references 171 = .ok (.if_icmp .gt 75, 3) := by decide +kernel
theorem dMO_references_174 : decode cMO_references 174 = .ok (.aload_n 0, 1) := by decide +kernel
theorem dMO_references_175 : decode cMO_references 175 = .ok (.getfield 65, 3) := by decide +kernel
theorem dMO_references_178 : decode cMO_references 178 = .ok (.iload 6, 2) := by decide +kernel
theorem dMO_references_180 : decode cMO_references 180 = .ok (.iload 5, 2) := by decide +kernel
theorem dMO_references_182 : decode cMO_references 182 = .ok (.ifCond .eq 50, 3) := by decide +kernel
theorem dMO_references_185 : decode cMO_references 185 = .ok (.iload 6, 2) := by decide +kernel
theorem dMO_references_187 : decode cMO_references 187 = .ok (.ifCond .le 45, 3) := by decide +kernel
theorem dMO_references_190 : decode cMO_references 190 = .ok (.iload 6, 2) := by decide +kernel
theorem dMO_references_192 : decode cMO_references 192 = .ok (.iload_n 2, 1) := by decide +kernel
theorem dMO_references_193 : decode cMO_references 193 = .ok (.if_icmp .ge 39, 3) := by decide +kernel
theorem dMO_references_196 : decode cMO_references 196 = .ok (.aload_n 0, 1) := by decide +kernel
theorem dMO_references_197 : decode cMO_references 197 = .ok (.getfield 68, 3) := by decide +kernel
theorem dMO_references_200 : decode cMO_references 200 = .ok (.iload 6, 2) := by decide +kernel
theorem dMO_references_202 : decode cMO_references 202 = .ok (.iconst 1, 1) := by decide +kernel
theorem dMO_references_203 : decode cMO_references 203 = .ok (.isub, 1) := by decide +kernel
theorem dMO_references_204 : decode cMO_references 204 = .ok (.iaload, 1) := by decide +kernel
theorem dMO_references_205 : decode cMO_references 205 = .ok (.iconst 2, 1) := by decide +kernel
theorem dMO_references_206 : decode cMO_references 206 = .ok (.aload_n 0, 1) := by decide +kernel
theorem dMO_references_207 : decode cMO_references 207 = .ok (.getfield 68, 3) := by decide +kernel
theorem dMO_references_210 : decode cMO_references 210 = .ok (.iload 6, 2) := by decide +kernel
theorem dMO_references_212 : decode cMO_references 212 = .ok (.iaload, 1) := by decide +kernel
theorem dMO_references_213 : decode cMO_references 213 = .ok (.imul, 1) := by decide +kernel
theorem dMO_references_214 : decode cMO_references 214 = .ok (.iadd, 1) := by decide +kernel
theorem dMO_references_215 : decode cMO_references 215 = .ok (.aload_n 0, 1) := by decide +kernel
theorem dMO_references_216 : decode cMO_references 216 = .ok (.getfield 68, 3) := by decide +kernel
theorem dMO_references_219 : decode cMO_references 219 = .ok (.iload 6, 2) := by decide +kernel
theorem dMO_references_221 : decode cMO_references 221 = .ok (.iconst 1, 1) := by decide +kernel
theorem dMO_references_222 : decode cMO_references 222 = .ok (.iadd, 1) := by decide +kernel
theorem dMO_references_223 : decode cMO_references 223 = .ok (.iaload, 1) := by decide +kernel
theorem dMO_references_224 : decode cMO_references 224 = .ok (.iadd, 1) := by decide +kernel
theorem dMO_references_225 : decode cMO_references 225 = .ok (.iconst 2, 1) := by decide +kernel
theorem dMO_references_226 : decode cMO_references 226 = .ok (.iadd, 1) := by decide +kernel
theorem dMO_references_227 : decode cMO_references 227 = .ok (.iconst 2, 1) := by decide +kernel
theorem dMO_references_228 : decode cMO_references 228 = .ok (.ishr, 1) := by decide +kernel
theorem dMO_references_229 : decode cMO_references 229 = .ok (.goto 10, 3) := by decide +kernel
theorem dMO_references_232 : decode cMO_references 232 = .ok (.aload_n 0, 1) := by decide +kernel
theorem dMO_references_233 : decode cMO_references 233 = .ok (.getfield 68, 3) := by decide +kernel
theorem dMO_references_236 : decode cMO_references 236 = .ok (.iload 6, 2) := by decide +kernel
theorem dMO_references_238 : decode cMO_references 238 = .ok (.iaload, 1) := by decide +kernel
theorem dMO_references_239 : decode cMO_references 239 = .ok (.iastore, 1) := by decide +kernel
theorem dMO_references_240 : decode cMO_references 240 = .ok (.iinc 6 1, 3) := by decide +kernel
theorem dMO_references_243 : decode cMO_references 243 = .ok (.goto (-75), 3) := by decide +kernel
theorem dMO_references_246 : decode cMO_references 246 = .ok (.return_, 1) := by decide +kernel
abbrev cMO_toLeft : ByteArray := prog_14_method_31_code
def yMO_toLeft : MethodName := ⟨kR_MO, "toLeft", "(II)I"⟩
def wsMO_toLeft : List Cond := .code yMO_toLeft cMO_toLeft 3 (some .int) :: ipW
theorem dMO_toLeft_0 : decode cMO_toLeft 0 = .ok (.aload_n 0, 1) := by decide +kernel
theorem dMO_toLeft_1 : decode cMO_toLeft 1 = .ok (.getfield 65, 3) := by decide +kernel
theorem dMO_toLeft_4 : decode cMO_toLeft 4 = .ok (.iconst 2, 1) := by decide +kernel
theorem dMO_toLeft_5 : decode cMO_toLeft 5 = .ok (.aload_n 0, 1) := by decide +kernel
theorem dMO_toLeft_6 : decode cMO_toLeft 6 = .ok (.getfield 34, 3) := by decide +kernel
theorem dMO_toLeft_9 : decode cMO_toLeft 9 = .ok (.iload_n 1, 1) := by decide +kernel
theorem dMO_toLeft_10 : decode cMO_toLeft 10 = .ok (.iaload, 1) := by decide +kernel
theorem dMO_toLeft_11 : decode cMO_toLeft 11 = .ok (.imul, 1) := by decide +kernel
theorem dMO_toLeft_12 : decode cMO_toLeft 12 = .ok (.iconst 1, 1) := by decide +kernel
theorem dMO_toLeft_13 : decode cMO_toLeft 13 = .ok (.isub, 1) := by decide +kernel
theorem dMO_toLeft_14 : decode cMO_toLeft 14 = .ok (.iload_n 2, 1) := by decide +kernel
theorem dMO_toLeft_15 : decode cMO_toLeft 15 = .ok (.isub, 1) := by decide +kernel
theorem dMO_toLeft_16 : decode cMO_toLeft 16 = .ok (.iaload, 1) := by decide +kernel
theorem dMO_toLeft_17 : decode cMO_toLeft 17 = .ok (.ireturn, 1) := by decide +kernel
abbrev cMO_above : ByteArray := prog_14_method_32_code
def yMO_above : MethodName := ⟨kR_MO, "above", "(II)I"⟩
def wsMO_above : List Cond := .code yMO_above cMO_above 3 (some .int) :: ipW
theorem dMO_above_0 : decode cMO_above 0 = .ok (.aload_n 0, 1) := by decide +kernel
theorem dMO_above_1 : decode cMO_above 1 = .ok (.getfield 65, 3) := by decide +kernel
theorem dMO_above_4 : decode cMO_above 4 = .ok (.iconst 2, 1) := by decide +kernel
theorem dMO_above_5 : decode cMO_above 5 = .ok (.aload_n 0, 1) := by decide +kernel
theorem dMO_above_6 : decode cMO_above 6 = .ok (.getfield 34, 3) := by decide +kernel
theorem dMO_above_9 : decode cMO_above 9 = .ok (.iload_n 1, 1) := by decide +kernel
theorem dMO_above_10 : decode cMO_above 10 = .ok (.iaload, 1) := by decide +kernel
theorem dMO_above_11 : decode cMO_above 11 = .ok (.imul, 1) := by decide +kernel
theorem dMO_above_12 : decode cMO_above 12 = .ok (.iconst 1, 1) := by decide +kernel
theorem dMO_above_13 : decode cMO_above 13 = .ok (.iadd, 1) := by decide +kernel
theorem dMO_above_14 : decode cMO_above 14 = .ok (.iload_n 2, 1) := by decide +kernel
theorem dMO_above_15 : decode cMO_above 15 = .ok (.iadd, 1) := by decide +kernel
theorem dMO_above_16 : decode cMO_above 16 = .ok (.iaload, 1) := by decide +kernel
theorem dMO_above_17 : decode cMO_above 17 = .ok (.ireturn, 1) := by decide +kernel
abbrev cMO_mean : ByteArray := prog_14_method_33_code
def yMO_mean : MethodName := ⟨kR_MO, "mean", "(I)I"⟩
def wsMO_mean : List Cond := .code yMO_mean cMO_mean 5 (some .int) :: ipW
theorem dMO_mean_0 : decode cMO_mean 0 = .ok (.aload_n 0, 1) := by decide +kernel
theorem dMO_mean_1 : decode cMO_mean 1 = .ok (.getfield 34, 3) := by decide +kernel
theorem dMO_mean_4 : decode cMO_mean 4 = .ok (.iload_n 1, 1) := by decide +kernel
theorem dMO_mean_5 : decode cMO_mean 5 = .ok (.iaload, 1) := by decide +kernel
theorem dMO_mean_6 : decode cMO_mean 6 = .ok (.istore_n 2, 1) := by decide +kernel
theorem dMO_mean_7 : decode cMO_mean 7 = .ok (.iload_n 2, 1) := by decide +kernel
theorem dMO_mean_8 : decode cMO_mean 8 = .ok (.istore_n 3, 1) := by decide +kernel
theorem dMO_mean_9 : decode cMO_mean 9 = .ok (.iconst 0, 1) := by decide +kernel
theorem dMO_mean_10 : decode cMO_mean 10 = .ok (.istore 4, 2) := by decide +kernel
theorem dMO_mean_12 : decode cMO_mean 12 = .ok (.iload 4, 2) := by decide +kernel
theorem dMO_mean_14 : decode cMO_mean 14 = .ok (.iload_n 2, 1) := by decide +kernel
theorem dMO_mean_15 : decode cMO_mean 15 = .ok (.if_icmp .ge 27, 3) := by decide +kernel
theorem dMO_mean_18 : decode cMO_mean 18 = .ok (.iload_n 3, 1) := by decide +kernel
theorem dMO_mean_19 : decode cMO_mean 19 = .ok (.aload_n 0, 1) := by decide +kernel
theorem dMO_mean_20 : decode cMO_mean 20 = .ok (.iload_n 1, 1) := by decide +kernel
theorem dMO_mean_21 : decode cMO_mean 21 = .ok (.iload 4, 2) := by decide +kernel
theorem dMO_mean_23 : decode cMO_mean 23 = .ok (.invokevirtual 190, 3) := by decide +kernel
theorem dMO_mean_26 : decode cMO_mean 26 = .ok (.aload_n 0, 1) := by decide +kernel
theorem dMO_mean_27 : decode cMO_mean 27 = .ok (.iload_n 1, 1) := by decide +kernel
theorem dMO_mean_28 : decode cMO_mean 28 = .ok (.iload 4, 2) := by decide +kernel
theorem dMO_mean_30 : decode cMO_mean 30 = .ok (.invokevirtual 193, 3) := by decide +kernel
theorem dMO_mean_33 : decode cMO_mean 33 = .ok (.iadd, 1) := by decide +kernel
theorem dMO_mean_34 : decode cMO_mean 34 = .ok (.iadd, 1) := by decide +kernel
theorem dMO_mean_35 : decode cMO_mean 35 = .ok (.istore_n 3, 1) := by decide +kernel
theorem dMO_mean_36 : decode cMO_mean 36 = .ok (.iinc 4 1, 3) := by decide +kernel
theorem dMO_mean_39 : decode cMO_mean 39 = .ok (.goto (-27), 3) := by decide +kernel
theorem dMO_mean_42 : decode cMO_mean 42 = .ok (.iload_n 3, 1) := by decide +kernel
theorem dMO_mean_43 : decode cMO_mean 43 = .ok (.iconst 2, 1) := by decide +kernel
theorem dMO_mean_44 : decode cMO_mean 44 = .ok (.iload_n 2, 1) := by decide +kernel
theorem dMO_mean_45 : decode cMO_mean 45 = .ok (.imul, 1) := by decide +kernel
theorem dMO_mean_46 : decode cMO_mean 46 = .ok (.idiv, 1) := by decide +kernel
theorem dMO_mean_47 : decode cMO_mean 47 = .ok (.ireturn, 1) := by decide +kernel
abbrev cMO_predict : ByteArray := prog_14_method_34_code
def yMO_predict : MethodName := ⟨kR_MO, "predict", "(III)I"⟩
def wsMO_predict : List Cond := .code yMO_predict cMO_predict 7 (some .int) :: ipW
theorem dMO_predict_0 : decode cMO_predict 0 = .ok (.aload_n 0, 1) := by decide +kernel
theorem dMO_predict_1 : decode cMO_predict 1 = .ok (.getfield 34, 3) := by decide +kernel
theorem dMO_predict_4 : decode cMO_predict 4 = .ok (.iload_n 1, 1) := by decide +kernel
theorem dMO_predict_5 : decode cMO_predict 5 = .ok (.iaload, 1) := by decide +kernel
theorem dMO_predict_6 : decode cMO_predict 6 = .ok (.istore 4, 2) := by decide +kernel
theorem dMO_predict_8 : decode cMO_predict 8 = .ok (.bipush 13, 2) := by decide +kernel
theorem dMO_predict_10 : decode cMO_predict 10 = .ok (.iload_n 3, 1) := by decide +kernel
theorem dMO_predict_11 : decode cMO_predict 11 = .ok (.iconst 1, 1) := by decide +kernel
theorem dMO_predict_12 : decode cMO_predict 12 = .ok (.iadd, 1) := by decide +kernel
theorem dMO_predict_13 : decode cMO_predict 13 = .ok (.imul, 1) := by decide +kernel
theorem dMO_predict_14 : decode cMO_predict 14 = .ok (.istore 5, 2) := by decide +kernel
theorem dMO_predict_16 : decode cMO_predict 16 = .ok (.bipush 26, 2) := by decide +kernel
theorem dMO_predict_18 : decode cMO_predict 18 = .ok (.iload_n 2, 1) := by decide +kernel
theorem dMO_predict_19 : decode cMO_predict 19 = .ok (.iconst 1, 1) := by decide +kernel
theorem dMO_predict_20 : decode cMO_predict 20 = .ok (.iadd, 1) := by decide +kernel
theorem dMO_predict_21 : decode cMO_predict 21 = .ok (.imul, 1) := by decide +kernel
theorem dMO_predict_22 : decode cMO_predict 22 = .ok (.istore 6, 2) := by decide +kernel
theorem dMO_predict_24 : decode cMO_predict 24 = .ok (.aload_n 0, 1) := by decide +kernel
theorem dMO_predict_25 : decode cMO_predict 25 = .ok (.getfield 37, 3) := by decide +kernel
theorem dMO_predict_28 : decode cMO_predict 28 = .ok (.iload_n 1, 1) := by decide +kernel
theorem dMO_predict_29 : decode cMO_predict 29 = .ok (.iaload, 1) := by decide +kernel
theorem dMO_predict_30 : decode cMO_predict 30 = .ok (.tableswitch 229 0 6 #[42, 102, 108, 115, 122, 170, 181], 42) := by decide +kernel
theorem dMO_predict_72 : decode cMO_predict 72 = .ok (.iload 4, 2) := by decide +kernel
theorem dMO_predict_74 : decode cMO_predict 74 = .ok (.iconst 1, 1) := by decide +kernel
theorem dMO_predict_75 : decode cMO_predict 75 = .ok (.isub, 1) := by decide +kernel
theorem dMO_predict_76 : decode cMO_predict 76 = .ok (.iload_n 2, 1) := by decide +kernel
theorem dMO_predict_77 : decode cMO_predict 77 = .ok (.isub, 1) := by decide +kernel
theorem dMO_predict_78 : decode cMO_predict 78 = .ok (.aload_n 0, 1) := by decide +kernel
theorem dMO_predict_79 : decode cMO_predict 79 = .ok (.iload_n 1, 1) := by decide +kernel
theorem dMO_predict_80 : decode cMO_predict 80 = .ok (.iload_n 3, 1) := by decide +kernel
theorem dMO_predict_81 : decode cMO_predict 81 = .ok (.invokevirtual 190, 3) := by decide +kernel
theorem dMO_predict_84 : decode cMO_predict 84 = .ok (.imul, 1) := by decide +kernel
theorem dMO_predict_85 : decode cMO_predict 85 = .ok (.iload_n 2, 1) := by decide +kernel
theorem dMO_predict_86 : decode cMO_predict 86 = .ok (.iconst 1, 1) := by decide +kernel
theorem dMO_predict_87 : decode cMO_predict 87 = .ok (.iadd, 1) := by decide +kernel
theorem dMO_predict_88 : decode cMO_predict 88 = .ok (.aload_n 0, 1) := by decide +kernel
theorem dMO_predict_89 : decode cMO_predict 89 = .ok (.iload_n 1, 1) := by decide +kernel
theorem dMO_predict_90 : decode cMO_predict 90 = .ok (.iload 4, 2) := by decide +kernel
theorem dMO_predict_92 : decode cMO_predict 92 = .ok (.invokevirtual 193, 3) := by decide +kernel
theorem dMO_predict_95 : decode cMO_predict 95 = .ok (.imul, 1) := by decide +kernel
theorem dMO_predict_96 : decode cMO_predict 96 = .ok (.iadd, 1) := by decide +kernel
theorem dMO_predict_97 : decode cMO_predict 97 = .ok (.iload 4, 2) := by decide +kernel
theorem dMO_predict_99 : decode cMO_predict 99 = .ok (.iconst 1, 1) := by decide +kernel
theorem dMO_predict_100 : decode cMO_predict 100 = .ok (.isub, 1) := by decide +kernel
theorem dMO_predict_101 : decode cMO_predict 101 = .ok (.iload_n 3, 1) := by decide +kernel
theorem dMO_predict_102 : decode cMO_predict 102 = .ok (.isub, 1) := by decide +kernel
theorem dMO_predict_103 : decode cMO_predict 103 = .ok (.aload_n 0, 1) := by decide +kernel
theorem dMO_predict_104 : decode cMO_predict 104 = .ok (.iload_n 1, 1) := by decide +kernel
theorem dMO_predict_105 : decode cMO_predict 105 = .ok (.iload_n 2, 1) := by decide +kernel
theorem dMO_predict_106 : decode cMO_predict 106 = .ok (.invokevirtual 193, 3) := by decide +kernel
theorem dMO_predict_109 : decode cMO_predict 109 = .ok (.imul, 1) := by decide +kernel
theorem dMO_predict_110 : decode cMO_predict 110 = .ok (.iadd, 1) := by decide +kernel
theorem dMO_predict_111 : decode cMO_predict 111 = .ok (.iload_n 3, 1) := by decide +kernel
theorem dMO_predict_112 : decode cMO_predict 112 = .ok (.iconst 1, 1) := by decide +kernel
theorem dMO_predict_113 : decode cMO_predict 113 = .ok (.iadd, 1) := by decide +kernel
theorem dMO_predict_114 : decode cMO_predict 114 = .ok (.aload_n 0, 1) := by decide +kernel
theorem dMO_predict_115 : decode cMO_predict 115 = .ok (.iload_n 1, 1) := by decide +kernel
theorem dMO_predict_116 : decode cMO_predict 116 = .ok (.iload 4, 2) := by decide +kernel
theorem dMO_predict_118 : decode cMO_predict 118 = .ok (.invokevirtual 190, 3) := by decide +kernel
theorem dMO_predict_121 : decode cMO_predict 121 = .ok (.imul, 1) := by decide +kernel
theorem dMO_predict_122 : decode cMO_predict 122 = .ok (.iadd, 1) := by decide +kernel
theorem dMO_predict_123 : decode cMO_predict 123 = .ok (.iload 4, 2) := by decide +kernel
theorem dMO_predict_125 : decode cMO_predict 125 = .ok (.iadd, 1) := by decide +kernel
theorem dMO_predict_126 : decode cMO_predict 126 = .ok (.iconst 2, 1) := by decide +kernel
theorem dMO_predict_127 : decode cMO_predict 127 = .ok (.iload 4, 2) := by decide +kernel
theorem dMO_predict_129 : decode cMO_predict 129 = .ok (.imul, 1) := by decide +kernel
theorem dMO_predict_130 : decode cMO_predict 130 = .ok (.idiv, 1) := by decide +kernel
theorem dMO_predict_131 : decode cMO_predict 131 = .ok (.ireturn, 1) := by decide +kernel
theorem dMO_predict_132 : decode cMO_predict 132 = .ok (.aload_n 0, 1) := by decide +kernel
theorem dMO_predict_133 : decode cMO_predict 133 = .ok (.iload_n 1, 1) := by decide +kernel
theorem dMO_predict_134 : decode cMO_predict 134 = .ok (.invokevirtual 196, 3) := by decide +kernel
theorem dMO_predict_137 : decode cMO_predict 137 = .ok (.ireturn, 1) := by decide +kernel
theorem dMO_predict_138 : decode cMO_predict 138 = .ok (.aload_n 0, 1) := by decide +kernel
theorem dMO_predict_139 : decode cMO_predict 139 = .ok (.iload_n 1, 1) := by decide +kernel
theorem dMO_predict_140 : decode cMO_predict 140 = .ok (.iload_n 3, 1) := by decide +kernel
theorem dMO_predict_141 : decode cMO_predict 141 = .ok (.invokevirtual 190, 3) := by decide +kernel
theorem dMO_predict_144 : decode cMO_predict 144 = .ok (.ireturn, 1) := by decide +kernel
theorem dMO_predict_145 : decode cMO_predict 145 = .ok (.aload_n 0, 1) := by decide +kernel
theorem dMO_predict_146 : decode cMO_predict 146 = .ok (.iload_n 1, 1) := by decide +kernel
theorem dMO_predict_147 : decode cMO_predict 147 = .ok (.iload_n 2, 1) := by decide +kernel
theorem dMO_predict_148 : decode cMO_predict 148 = .ok (.invokevirtual 193, 3) := by decide +kernel
theorem dMO_predict_151 : decode cMO_predict 151 = .ok (.ireturn, 1) := by decide +kernel
theorem dMO_predict_152 : decode cMO_predict 152 = .ok (.bipush 32, 2) := by decide +kernel
theorem dMO_predict_154 : decode cMO_predict 154 = .ok (.iload 5, 2) := by decide +kernel
theorem dMO_predict_156 : decode cMO_predict 156 = .ok (.bipush 32, 2) := by decide +kernel
theorem dMO_predict_158 : decode cMO_predict 158 = .ok (.irem, 1) := by decide +kernel
theorem dMO_predict_159 : decode cMO_predict 159 = .ok (.isub, 1) := by decide +kernel
theorem dMO_predict_160 : decode cMO_predict 160 = .ok (.aload_n 0, 1) := by decide +kernel
theorem dMO_predict_161 : decode cMO_predict 161 = .ok (.iload_n 1, 1) := by decide +kernel
theorem dMO_predict_162 : decode cMO_predict 162 = .ok (.iload_n 2, 1) := by decide +kernel
theorem dMO_predict_163 : decode cMO_predict 163 = .ok (.iload 5, 2) := by decide +kernel
theorem dMO_predict_165 : decode cMO_predict 165 = .ok (.bipush 32, 2) := by decide +kernel
theorem dMO_predict_167 : decode cMO_predict 167 = .ok (.idiv, 1) := by decide +kernel
theorem dMO_predict_168 : decode cMO_predict 168 = .ok (.iadd, 1) := by decide +kernel
theorem dMO_predict_169 : decode cMO_predict 169 = .ok (.invokevirtual 193, 3) := by decide +kernel
theorem dMO_predict_172 : decode cMO_predict 172 = .ok (.imul, 1) := by decide +kernel
theorem dMO_predict_173 : decode cMO_predict 173 = .ok (.iload 5, 2) := by decide +kernel
theorem dMO_predict_175 : decode cMO_predict 175 = .ok (.bipush 32, 2) := by decide +kernel
theorem dMO_predict_177 : decode cMO_predict 177 = .ok (.irem, 1) := by decide +kernel
theorem dMO_predict_178 : decode cMO_predict 178 = .ok (.aload_n 0, 1) := by decide +kernel
theorem dMO_predict_179 : decode cMO_predict 179 = .ok (.iload_n 1, 1) := by decide +kernel
theorem dMO_predict_180 : decode cMO_predict 180 = .ok (.iload_n 2, 1) := by decide +kernel
theorem dMO_predict_181 : decode cMO_predict 181 = .ok (.iload 5, 2) := by decide +kernel
theorem dMO_predict_183 : decode cMO_predict 183 = .ok (.bipush 32, 2) := by decide +kernel
theorem dMO_predict_185 : decode cMO_predict 185 = .ok (.idiv, 1) := by decide +kernel
theorem dMO_predict_186 : decode cMO_predict 186 = .ok (.iadd, 1) := by decide +kernel
theorem dMO_predict_187 : decode cMO_predict 187 = .ok (.iconst 1, 1) := by decide +kernel
theorem dMO_predict_188 : decode cMO_predict 188 = .ok (.iadd, 1) := by decide +kernel
theorem dMO_predict_189 : decode cMO_predict 189 = .ok (.invokevirtual 193, 3) := by decide +kernel
theorem dMO_predict_192 : decode cMO_predict 192 = .ok (.imul, 1) := by decide +kernel
theorem dMO_predict_193 : decode cMO_predict 193 = .ok (.iadd, 1) := by decide +kernel
theorem dMO_predict_194 : decode cMO_predict 194 = .ok (.bipush 16, 2) := by decide +kernel
theorem dMO_predict_196 : decode cMO_predict 196 = .ok (.iadd, 1) := by decide +kernel
theorem dMO_predict_197 : decode cMO_predict 197 = .ok (.iconst 5, 1) := by decide +kernel
theorem dMO_predict_198 : decode cMO_predict 198 = .ok (.ishr, 1) := by decide +kernel
theorem dMO_predict_199 : decode cMO_predict 199 = .ok (.ireturn, 1) := by decide +kernel
theorem dMO_predict_200 : decode cMO_predict 200 = .ok (.aload_n 0, 1) := by decide +kernel
theorem dMO_predict_201 : decode cMO_predict 201 = .ok (.iload_n 1, 1) := by decide +kernel
theorem dMO_predict_202 : decode cMO_predict 202 = .ok (.iload_n 2, 1) := by decide +kernel
theorem dMO_predict_203 : decode cMO_predict 203 = .ok (.iload_n 3, 1) := by decide +kernel
theorem dMO_predict_204 : decode cMO_predict 204 = .ok (.iadd, 1) := by decide +kernel
theorem dMO_predict_205 : decode cMO_predict 205 = .ok (.iconst 1, 1) := by decide +kernel
theorem dMO_predict_206 : decode cMO_predict 206 = .ok (.iadd, 1) := by decide +kernel
theorem dMO_predict_207 : decode cMO_predict 207 = .ok (.invokevirtual 193, 3) := by decide +kernel
theorem dMO_predict_210 : decode cMO_predict 210 = .ok (.ireturn, 1) := by decide +kernel
theorem dMO_predict_211 : decode cMO_predict 211 = .ok (.bipush 32, 2) := by decide +kernel
theorem dMO_predict_213 : decode cMO_predict 213 = .ok (.iload 6, 2) := by decide +kernel
theorem dMO_predict_215 : decode cMO_predict 215 = .ok (.bipush 32, 2) := by decide +kernel
theorem dMO_predict_217 : decode cMO_predict 217 = .ok (.irem, 1) := by decide +kernel
theorem dMO_predict_218 : decode cMO_predict 218 = .ok (.isub, 1) := by decide +kernel
theorem dMO_predict_219 : decode cMO_predict 219 = .ok (.aload_n 0, 1) := by decide +kernel
theorem dMO_predict_220 : decode cMO_predict 220 = .ok (.iload_n 1, 1) := by decide +kernel
theorem dMO_predict_221 : decode cMO_predict 221 = .ok (.iload_n 3, 1) := by decide +kernel
theorem dMO_predict_222 : decode cMO_predict 222 = .ok (.iload 6, 2) := by decide +kernel
theorem dMO_predict_224 : decode cMO_predict 224 = .ok (.bipush 32, 2) := by decide +kernel
theorem dMO_predict_226 : decode cMO_predict 226 = .ok (.idiv, 1) := by decide +kernel
theorem dMO_predict_227 : decode cMO_predict 227 = .ok (.iadd, 1) := by decide +kernel
theorem dMO_predict_228 : decode cMO_predict 228 = .ok (.invokevirtual 190, 3) := by decide +kernel
theorem dMO_predict_231 : decode cMO_predict 231 = .ok (.imul, 1) := by decide +kernel
theorem dMO_predict_232 : decode cMO_predict 232 = .ok (.iload 6, 2) := by decide +kernel
theorem dMO_predict_234 : decode cMO_predict 234 = .ok (.bipush 32, 2) := by decide +kernel
theorem dMO_predict_236 : decode cMO_predict 236 = .ok (.irem, 1) := by decide +kernel
theorem dMO_predict_237 : decode cMO_predict 237 = .ok (.aload_n 0, 1) := by decide +kernel
theorem dMO_predict_238 : decode cMO_predict 238 = .ok (.iload_n 1, 1) := by decide +kernel
theorem dMO_predict_239 : decode cMO_predict 239 = .ok (.iload_n 3, 1) := by decide +kernel
theorem dMO_predict_240 : decode cMO_predict 240 = .ok (.iload 6, 2) := by decide +kernel
theorem dMO_predict_242 : decode cMO_predict 242 = .ok (.bipush 32, 2) := by decide +kernel
theorem dMO_predict_244 : decode cMO_predict 244 = .ok (.idiv, 1) := by decide +kernel
theorem dMO_predict_245 : decode cMO_predict 245 = .ok (.iadd, 1) := by decide +kernel
theorem dMO_predict_246 : decode cMO_predict 246 = .ok (.iconst 1, 1) := by decide +kernel
theorem dMO_predict_247 : decode cMO_predict 247 = .ok (.iadd, 1) := by decide +kernel
theorem dMO_predict_248 : decode cMO_predict 248 = .ok (.invokevirtual 190, 3) := by decide +kernel
theorem dMO_predict_251 : decode cMO_predict 251 = .ok (.imul, 1) := by decide +kernel
theorem dMO_predict_252 : decode cMO_predict 252 = .ok (.iadd, 1) := by decide +kernel
theorem dMO_predict_253 : decode cMO_predict 253 = .ok (.bipush 16, 2) := by decide +kernel
theorem dMO_predict_255 : decode cMO_predict 255 = .ok (.iadd, 1) := by decide +kernel
theorem dMO_predict_256 : decode cMO_predict 256 = .ok (.iconst 5, 1) := by decide +kernel
theorem dMO_predict_257 : decode cMO_predict 257 = .ok (.ishr, 1) := by decide +kernel
theorem dMO_predict_258 : decode cMO_predict 258 = .ok (.ireturn, 1) := by decide +kernel
theorem dMO_predict_259 : decode cMO_predict 259 = .ok (.aload_n 0, 1) := by decide +kernel
theorem dMO_predict_260 : decode cMO_predict 260 = .ok (.getfield 65, 3) := by decide +kernel
theorem dMO_predict_263 : decode cMO_predict 263 = .ok (.iconst 2, 1) := by decide +kernel
theorem dMO_predict_264 : decode cMO_predict 264 = .ok (.iload 4, 2) := by decide +kernel
theorem dMO_predict_266 : decode cMO_predict 266 = .ok (.imul, 1) := by decide +kernel
theorem dMO_predict_267 : decode cMO_predict 267 = .ok (.iload_n 2, 1) := by decide +kernel
theorem dMO_predict_268 : decode cMO_predict 268 = .ok (.iadd, 1) := by decide +kernel
theorem dMO_predict_269 : decode cMO_predict 269 = .ok (.iload_n 3, 1) := by decide +kernel
theorem dMO_predict_270 : decode cMO_predict 270 = .ok (.isub, 1) := by decide +kernel
theorem dMO_predict_271 : decode cMO_predict 271 = .ok (.iaload, 1) := by decide +kernel
theorem dMO_predict_272 : decode cMO_predict 272 = .ok (.ireturn, 1) := by decide +kernel
abbrev cMO_restore : ByteArray := prog_14_method_35_code
def yMO_restore : MethodName := ⟨kR_MO, "restore", "()V"⟩
def wsMO_restore : List Cond := .code yMO_restore cMO_restore 7 none :: ipW
theorem dMO_restore_0 : decode cMO_restore 0 = .ok (.iconst 0, 1) := by decide +kernel
theorem dMO_restore_1 : decode cMO_restore 1 = .ok (.istore_n 1, 1) := by decide +kernel
theorem dMO_restore_2 : decode cMO_restore 2 = .ok (.iload_n 1, 1) := by decide +kernel
theorem dMO_restore_3 : decode cMO_restore 3 = .ok (.aload_n 0, 1) := by decide +kernel
theorem dMO_restore_4 : decode cMO_restore 4 = .ok (.getfield 139, 3) := by decide +kernel
theorem dMO_restore_7 : decode cMO_restore 7 = .ok (.if_icmp .ge 117, 3) := by decide +kernel
theorem dMO_restore_10 : decode cMO_restore 10 = .ok (.aload_n 0, 1) := by decide +kernel
theorem dMO_restore_11 : decode cMO_restore 11 = .ok (.iload_n 1, 1) := by decide +kernel
theorem dMO_restore_12 : decode cMO_restore 12 = .ok (.invokevirtual 199, 3) := by decide +kernel
theorem dMO_restore_15 : decode cMO_restore 15 = .ok (.aload_n 0, 1) := by decide +kernel
theorem dMO_restore_16 : decode cMO_restore 16 = .ok (.getfield 34, 3) := by decide +kernel
theorem dMO_restore_19 : decode cMO_restore 19 = .ok (.iload_n 1, 1) := by decide +kernel
theorem dMO_restore_20 : decode cMO_restore 20 = .ok (.iaload, 1) := by decide +kernel
theorem dMO_restore_21 : decode cMO_restore 21 = .ok (.istore_n 2, 1) := by decide +kernel
theorem dMO_restore_22 : decode cMO_restore 22 = .ok (.iconst 0, 1) := by decide +kernel
theorem dMO_restore_23 : decode cMO_restore 23 = .ok (.istore_n 3, 1) := by decide +kernel
theorem dMO_restore_24 : decode cMO_restore 24 = .ok (.iload_n 3, 1) := by decide +kernel
theorem dMO_restore_25 : decode cMO_restore 25 = .ok (.iload_n 2, 1) := by decide +kernel
theorem dMO_restore_26 : decode cMO_restore 26 = .ok (.iload_n 2, 1) := by decide +kernel
theorem dMO_restore_27 : decode cMO_restore 27 = .ok (.imul, 1) := by decide +kernel
theorem dMO_restore_28 : decode cMO_restore 28 = .ok (.if_icmp .ge 90, 3) := by decide +kernel
theorem dMO_restore_31 : decode cMO_restore 31 = .ok (.iload_n 3, 1) := by decide +kernel
theorem dMO_restore_32 : decode cMO_restore 32 = .ok (.iload_n 2, 1) := by decide +kernel
theorem dMO_restore_33 : decode cMO_restore 33 = .ok (.irem, 1) := by decide +kernel
theorem dMO_restore_34 : decode cMO_restore 34 = .ok (.istore 4, 2) := by decide +kernel
theorem dMO_restore_36 : decode cMO_restore 36 = .ok (.iload_n 3, 1) := by decide +kernel
theorem dMO_restore_37 : decode cMO_restore 37 = .ok (.iload_n 2, 1) := by decide +kernel
theorem dMO_restore_38 : decode cMO_restore 38 = .ok (.idiv, 1) := by decide +kernel
theorem dMO_restore_39 : decode cMO_restore 39 = .ok (.istore 5, 2) := by decide +kernel
theorem dMO_restore_41 : decode cMO_restore 41 = .ok (.bipush 16, 2) := by decide +kernel
theorem dMO_restore_43 : decode cMO_restore 43 = .ok (.aload_n 0, 1) := by decide +kernel
theorem dMO_restore_44 : decode cMO_restore 44 = .ok (.getfield 31, 3) := by decide +kernel
theorem dMO_restore_47 : decode cMO_restore 47 = .ok (.iload_n 1, 1) := by decide +kernel
theorem dMO_restore_48 : decode cMO_restore 48 = .ok (.iaload, 1) := by decide +kernel
theorem dMO_restore_49 : decode cMO_restore 49 = .ok (.iload 5, 2) := by decide +kernel
theorem dMO_restore_51 : decode cMO_restore 51 = .ok (.iadd, 1) := by decide +kernel
theorem dMO_restore_52 : decode cMO_restore 52 = .ok (.imul, 1) := by decide +kernel
theorem dMO_restore_53 : decode cMO_restore 53 = .ok (.aload_n 0, 1) := by decide +kernel
theorem dMO_restore_54 : decode cMO_restore 54 = .ok (.getfield 28, 3) := by decide +kernel
theorem dMO_restore_57 : decode cMO_restore 57 = .ok (.iload_n 1, 1) := by decide +kernel
theorem dMO_restore_58 : decode cMO_restore 58 = .ok (.iaload, 1) := by decide +kernel
theorem dMO_restore_59 : decode cMO_restore 59 = .ok (.iadd, 1) := by decide +kernel
theorem dMO_restore_60 : decode cMO_restore 60 = .ok (.iload 4, 2) := by decide +kernel
theorem dMO_restore_62 : decode cMO_restore 62 = .ok (.iadd, 1) := by decide +kernel
theorem dMO_restore_63 : decode cMO_restore 63 = .ok (.istore 6, 2) := by decide +kernel
theorem dMO_restore_65 : decode cMO_restore 65 = .ok (.aload_n 0, 1) := by decide +kernel
theorem dMO_restore_66 : decode cMO_restore 66 = .ok (.getfield 53, 3) := by decide +kernel
theorem dMO_restore_69 : decode cMO_restore 69 = .ok (.iload 6, 2) := by decide +kernel
theorem dMO_restore_71 : decode cMO_restore 71 = .ok (.aload_n 0, 1) := by decide +kernel
theorem dMO_restore_72 : decode cMO_restore 72 = .ok (.iload_n 1, 1) := by decide +kernel
theorem dMO_restore_73 : decode cMO_restore 73 = .ok (.iload 4, 2) := by decide +kernel
theorem dMO_restore_75 : decode cMO_restore 75 = .ok (.iload 5, 2) := by decide +kernel
theorem dMO_restore_77 : decode cMO_restore 77 = .ok (.invokevirtual 203, 3) := by decide +kernel
theorem dMO_restore_80 : decode cMO_restore 80 = .ok (.iastore, 1) := by decide +kernel
theorem dMO_restore_81 : decode cMO_restore 81 = .ok (.aload_n 0, 1) := by decide +kernel
theorem dMO_restore_82 : decode cMO_restore 82 = .ok (.getfield 56, 3) := by decide +kernel
theorem dMO_restore_85 : decode cMO_restore 85 = .ok (.iload 6, 2) := by decide +kernel
theorem dMO_restore_87 : decode cMO_restore 87 = .ok (.aload_n 0, 1) := by decide +kernel
theorem dMO_restore_88 : decode cMO_restore 88 = .ok (.getfield 53, 3) := by decide +kernel
theorem dMO_restore_91 : decode cMO_restore 91 = .ok (.iload 6, 2) := by decide +kernel
theorem dMO_restore_93 : decode cMO_restore 93 = .ok (.iaload, 1) := by decide +kernel
theorem dMO_restore_94 : decode cMO_restore 94 = .ok (.aload_n 0, 1) := by decide +kernel
theorem dMO_restore_95 : decode cMO_restore 95 = .ok (.iload_n 1, 1) := by decide +kernel
theorem dMO_restore_96 : decode cMO_restore 96 = .ok (.iload 4, 2) := by decide +kernel
theorem dMO_restore_98 : decode cMO_restore 98 = .ok (.iload 5, 2) := by decide +kernel
theorem dMO_restore_100 : decode cMO_restore 100 = .ok (.invokevirtual 206, 3) := by decide +kernel
theorem dMO_restore_103 : decode cMO_restore 103 = .ok (.iadd, 1) := by decide +kernel
theorem dMO_restore_104 : decode cMO_restore 104 = .ok (.iconst 0, 1) := by decide +kernel
theorem dMO_restore_105 : decode cMO_restore 105 = .ok (.sipush 255, 3) := by decide +kernel
theorem dMO_restore_108 : decode cMO_restore 108 = .ok (.invokestatic 174, 3) := by decide +kernel
theorem dMO_restore_111 : decode cMO_restore 111 = .ok (.iastore, 1) := by decide +kernel
theorem dMO_restore_112 : decode cMO_restore 112 = .ok (.iinc 3 1, 3) := by decide +kernel
theorem dMO_restore_115 : decode cMO_restore 115 = .ok (.goto (-91), 3) := by decide +kernel
theorem dMO_restore_118 : decode cMO_restore 118 = .ok (.iinc 1 1, 3) := by decide +kernel
theorem dMO_restore_121 : decode cMO_restore 121 = .ok (.goto (-119), 3) := by decide +kernel
theorem dMO_restore_124 : decode cMO_restore 124 = .ok (.iconst 0, 1) := by decide +kernel
theorem dMO_restore_125 : decode cMO_restore 125 = .ok (.istore_n 1, 1) := by decide +kernel
theorem dMO_restore_126 : decode cMO_restore 126 = .ok (.iload_n 1, 1) := by decide +kernel
theorem dMO_restore_127 : decode cMO_restore 127 = .ok (.sipush 256, 3) := by decide +kernel
theorem dMO_restore_130 : decode cMO_restore 130 = .ok (.if_icmp .ge 21, 3) := by decide +kernel
theorem dMO_restore_133 : decode cMO_restore 133 = .ok (.aload_n 0, 1) := by decide +kernel
theorem dMO_restore_134 : decode cMO_restore 134 = .ok (.getfield 59, 3) := by decide +kernel
theorem dMO_restore_137 : decode cMO_restore 137 = .ok (.iload_n 1, 1) := by decide +kernel
theorem dMO_restore_138 : decode cMO_restore 138 = .ok (.aload_n 0, 1) := by decide +kernel
theorem dMO_restore_139 : decode cMO_restore 139 = .ok (.getfield 56, 3) := by decide +kernel
theorem dMO_restore_142 : decode cMO_restore 142 = .ok (.iload_n 1, 1) := by decide +kernel
theorem dMO_restore_143 : decode cMO_restore 143 = .ok (.iaload, 1) := by decide +kernel
theorem dMO_restore_144 : decode cMO_restore 144 = .ok (.iastore, 1) := by decide +kernel
theorem dMO_restore_145 : decode cMO_restore 145 = .ok (.iinc 1 1, 3) := by decide +kernel
theorem dMO_restore_148 : decode cMO_restore 148 = .ok (.goto (-22), 3) := by decide +kernel
theorem dMO_restore_151 : decode cMO_restore 151 = .ok (.iconst 0, 1) := by decide +kernel
theorem dMO_restore_152 : decode cMO_restore 152 = .ok (.istore_n 1, 1) := by decide +kernel
theorem dMO_restore_153 : decode cMO_restore 153 = .ok (.iload_n 1, 1) := by decide +kernel
theorem dMO_restore_154 : decode cMO_restore 154 = .ok (.bipush 32, 2) := by decide +kernel
theorem dMO_restore_156 : decode cMO_restore 156 = .ok (.if_icmp .ge 58, 3) := by decide +kernel
theorem dMO_restore_159 : decode cMO_restore 159 = .ok (.aload_n 0, 1) := by decide +kernel
theorem dMO_restore_160 : decode cMO_restore 160 = .ok (.getfield 16, 3) := by decide +kernel
theorem dMO_restore_163 : decode cMO_restore 163 = .ok (.iconst 3, 1) := by decide +kernel
theorem dMO_restore_164 : decode cMO_restore 164 = .ok (.iaload, 1) := by decide +kernel
theorem dMO_restore_165 : decode cMO_restore 165 = .ok (.iconst 1, 1) := by decide +kernel
theorem dMO_restore_166 : decode cMO_restore 166 = .ok (.if_icmp .ne 48, 3) := by decide +kernel
theorem dMO_restore_169 : decode cMO_restore 169 = .ok (.aload_n 0, 1) := by decide +kernel
theorem dMO_restore_170 : decode cMO_restore 170 = .ok (.iload_n 1, 1) := by decide +kernel
theorem dMO_restore_171 : decode cMO_restore 171 = .ok (.bipush 16, 2) := by decide +kernel
theorem dMO_restore_173 : decode cMO_restore 173 = .ok (.if_icmp .ge 13, 3) := by decide +kernel
theorem dMO_restore_176 : decode cMO_restore 176 = .ok (.bipush 16, 2) := by decide +kernel
theorem dMO_restore_178 : decode cMO_restore 178 = .ok (.iload_n 1, 1) := by decide +kernel
theorem dMO_restore_179 : decode cMO_restore 179 = .ok (.imul, 1) := by decide +kernel
theorem dMO_restore_180 : decode cMO_restore 180 = .ok (.bipush 7, 2) := by decide +kernel
theorem dMO_restore_182 : decode cMO_restore 182 = .ok (.iadd, 1) := by decide +kernel
theorem dMO_restore_183 : decode cMO_restore 183 = .ok (.goto 10, 3) := by decide +kernel
theorem dMO_restore_186 : decode cMO_restore 186 = .ok (.bipush 112, 2) := by decide +kernel
theorem dMO_restore_188 : decode cMO_restore 188 = .ok (.iload_n 1, 1) := by decide +kernel
theorem dMO_restore_189 : decode cMO_restore 189 = .ok (.iadd, 1) := by decide +kernel
theorem dMO_restore_190 : decode cMO_restore 190 = .ok (.bipush 16, 2) := by decide +kernel
theorem dMO_restore_192 : decode cMO_restore 192 = .ok (.isub, 1) := by decide +kernel
theorem dMO_restore_193 : decode cMO_restore 193 = .ok (.iload_n 1, 1) := by decide +kernel
theorem dMO_restore_194 : decode cMO_restore 194 = .ok (.bipush 16, 2) := by decide +kernel
theorem dMO_restore_196 : decode cMO_restore 196 = .ok (.if_icmp .ge 7, 3) := by decide +kernel
theorem dMO_restore_199 : decode cMO_restore 199 = .ok (.iconst 1, 1) := by decide +kernel
theorem dMO_restore_200 : decode cMO_restore 200 = .ok (.goto 5, 3) := by decide +kernel
theorem dMO_restore_203 : decode cMO_restore 203 = .ok (.bipush 16, 2) := by decide +kernel
theorem dMO_restore_205 : decode cMO_restore 205 = .ok (.invokevirtual 209, 3) := by decide +kernel
theorem dMO_restore_208 : decode cMO_restore 208 = .ok (.iinc 1 1, 3) := by decide +kernel
theorem dMO_restore_211 : decode cMO_restore 211 = .ok (.goto (-58), 3) := by decide +kernel
theorem dMO_restore_214 : decode cMO_restore 214 = .ok (.iconst 0, 1) := by decide +kernel
theorem dMO_restore_215 : decode cMO_restore 215 = .ok (.istore_n 1, 1) := by decide +kernel
theorem dMO_restore_216 : decode cMO_restore 216 = .ok (.iload_n 1, 1) := by decide +kernel
theorem dMO_restore_217 : decode cMO_restore 217 = .ok (.sipush 256, 3) := by decide +kernel
theorem dMO_restore_220 : decode cMO_restore 220 = .ok (.if_icmp .ge 21, 3) := by decide +kernel
theorem dMO_restore_223 : decode cMO_restore 223 = .ok (.aload_n 0, 1) := by decide +kernel
theorem dMO_restore_224 : decode cMO_restore 224 = .ok (.getfield 62, 3) := by decide +kernel
theorem dMO_restore_227 : decode cMO_restore 227 = .ok (.iload_n 1, 1) := by decide +kernel
theorem dMO_restore_228 : decode cMO_restore 228 = .ok (.aload_n 0, 1) := by decide +kernel
theorem dMO_restore_229 : decode cMO_restore 229 = .ok (.getfield 59, 3) := by decide +kernel
theorem dMO_restore_232 : decode cMO_restore 232 = .ok (.iload_n 1, 1) := by decide +kernel
theorem dMO_restore_233 : decode cMO_restore 233 = .ok (.iaload, 1) := by decide +kernel
theorem dMO_restore_234 : decode cMO_restore 234 = .ok (.iastore, 1) := by decide +kernel
theorem dMO_restore_235 : decode cMO_restore 235 = .ok (.iinc 1 1, 3) := by decide +kernel
theorem dMO_restore_238 : decode cMO_restore 238 = .ok (.goto (-22), 3) := by decide +kernel
theorem dMO_restore_241 : decode cMO_restore 241 = .ok (.iconst 0, 1) := by decide +kernel
theorem dMO_restore_242 : decode cMO_restore 242 = .ok (.istore_n 1, 1) := by decide +kernel
theorem dMO_restore_243 : decode cMO_restore 243 = .ok (.iload_n 1, 1) := by decide +kernel
theorem dMO_restore_244 : decode cMO_restore 244 = .ok (.sipush 256, 3) := by decide +kernel
theorem dMO_restore_247 : decode cMO_restore 247 = .ok (.if_icmp .ge 34, 3) := by decide +kernel
theorem dMO_restore_250 : decode cMO_restore 250 = .ok (.aload_n 0, 1) := by decide +kernel
theorem dMO_restore_251 : decode cMO_restore 251 = .ok (.getfield 59, 3) := by decide +kernel
theorem dMO_restore_254 : decode cMO_restore 254 = .ok (.iload_n 1, 1) := by decide +kernel
theorem dMO_restore_255 : decode cMO_restore 255 = .ok (.aload_n 0, 1) := by decide +kernel
theorem dMO_restore_256 : decode cMO_restore 256 = .ok (.getfield 62, 3) := by decide +kernel
theorem dMO_restore_259 : decode cMO_restore 259 = .ok (.iload_n 1, 1) := by decide +kernel
theorem dMO_restore_260 : decode cMO_restore 260 = .ok (.iaload, 1) := by decide +kernel
theorem dMO_restore_261 : decode cMO_restore 261 = .ok (.aload_n 0, 1) := by decide +kernel
theorem dMO_restore_262 : decode cMO_restore 262 = .ok (.iload_n 1, 1) := by decide +kernel
theorem dMO_restore_263 : decode cMO_restore 263 = .ok (.invokevirtual 212, 3) := by decide +kernel
theorem dMO_restore_266 : decode cMO_restore 266 = .ok (.iadd, 1) := by decide +kernel
theorem dMO_restore_267 : decode cMO_restore 267 = .ok (.iconst 0, 1) := by decide +kernel
theorem dMO_restore_268 : decode cMO_restore 268 = .ok (.sipush 255, 3) := by decide +kernel
theorem dMO_restore_271 : decode cMO_restore 271 = .ok (.invokestatic 174, 3) := by decide +kernel
theorem dMO_restore_274 : decode cMO_restore 274 = .ok (.iastore, 1) := by decide +kernel
theorem dMO_restore_275 : decode cMO_restore 275 = .ok (.iinc 1 1, 3) := by decide +kernel
theorem dMO_restore_278 : decode cMO_restore 278 = .ok (.goto (-35), 3) := by decide +kernel
theorem dMO_restore_281 : decode cMO_restore 281 = .ok (.return_, 1) := by decide +kernel
abbrev cMO_without : ByteArray := prog_14_method_36_code
def yMO_without : MethodName := ⟨kR_MO, "without", "(I)I"⟩
def wsMO_without : List Cond := .code yMO_without cMO_without 1 (some .int) :: ipW
theorem dMO_without_0 : decode cMO_without 0 = .ok (.iload_n 0, 1) := by decide +kernel
theorem dMO_without_1 : decode cMO_without 1 = .ok (.ifCond .ge 8, 3) := by decide +kernel
theorem dMO_without_4 : decode cMO_without 4 = .ok (.iload_n 0, 1) := by decide +kernel
theorem dMO_without_5 : decode cMO_without 5 = .ok (.ineg, 1) := by decide +kernel
theorem dMO_without_6 : decode cMO_without 6 = .ok (.goto 4, 3) := by decide +kernel
theorem dMO_without_9 : decode cMO_without 9 = .ok (.iload_n 0, 1) := by decide +kernel
theorem dMO_without_10 : decode cMO_without 10 = .ok (.ireturn, 1) := by decide +kernel
abbrev cMO_smoothEdge : ByteArray := prog_14_method_37_code
def yMO_smoothEdge : MethodName := ⟨kR_MO, "smoothEdge", "(II)V"⟩
def wsMO_smoothEdge : List Cond := .code yMO_smoothEdge cMO_smoothEdge 9 none :: ipW
theorem dMO_smoothEdge_0 : decode cMO_smoothEdge 0 = .ok (.aload_n 0, 1) := by decide +kernel
theorem dMO_smoothEdge_1 : decode cMO_smoothEdge 1 = .ok (.getfield 59, 3) := by decide +kernel
theorem dMO_smoothEdge_4 : decode cMO_smoothEdge 4 = .ok (.iload_n 1, 1) := by decide +kernel
theorem dMO_smoothEdge_5 : decode cMO_smoothEdge 5 = .ok (.iaload, 1) := by decide +kernel
theorem dMO_smoothEdge_6 : decode cMO_smoothEdge 6 = .ok (.istore_n 3, 1) := by decide +kernel
theorem dMO_smoothEdge_7 : decode cMO_smoothEdge 7 = .ok (.aload_n 0, 1) := by decide +kernel
theorem dMO_smoothEdge_8 : decode cMO_smoothEdge 8 = .ok (.getfield 59, 3) := by decide +kernel
theorem dMO_smoothEdge_11 : decode cMO_smoothEdge 11 = .ok (.iload_n 1, 1) := by decide +kernel
theorem dMO_smoothEdge_12 : decode cMO_smoothEdge 12 = .ok (.iload_n 2, 1) := by decide +kernel
theorem dMO_smoothEdge_13 : decode cMO_smoothEdge 13 = .ok (.isub, 1) := by decide +kernel
theorem dMO_smoothEdge_14 : decode cMO_smoothEdge 14 = .ok (.iaload, 1) := by decide +kernel
theorem dMO_smoothEdge_15 : decode cMO_smoothEdge 15 = .ok (.istore 4, 2) := by decide +kernel
theorem dMO_smoothEdge_17 : decode cMO_smoothEdge 17 = .ok (.aload_n 0, 1) := by decide +kernel
theorem dMO_smoothEdge_18 : decode cMO_smoothEdge 18 = .ok (.getfield 59, 3) := by decide +kernel
theorem dMO_smoothEdge_21 : decode cMO_smoothEdge 21 = .ok (.iload_n 1, 1) := by decide +kernel
theorem dMO_smoothEdge_22 : decode cMO_smoothEdge 22 = .ok (.iload_n 2, 1) := by decide +kernel
theorem dMO_smoothEdge_23 : decode cMO_smoothEdge 23 = .ok (.iadd, 1) := by decide +kernel
theorem dMO_smoothEdge_24 : decode cMO_smoothEdge 24 = .ok (.iaload, 1) := by decide +kernel
theorem dMO_smoothEdge_25 : decode cMO_smoothEdge 25 = .ok (.istore 5, 2) := by decide +kernel
theorem dMO_smoothEdge_27 : decode cMO_smoothEdge 27 = .ok (.aload_n 0, 1) := by decide +kernel
theorem dMO_smoothEdge_28 : decode cMO_smoothEdge 28 = .ok (.getfield 59, 3) := by decide +kernel
theorem dMO_smoothEdge_31 : decode cMO_smoothEdge 31 = .ok (.iload_n 1, 1) := by decide +kernel
theorem dMO_smoothEdge_32 : decode cMO_smoothEdge 32 = .ok (.iconst 2, 1) := by decide +kernel
theorem dMO_smoothEdge_33 : decode cMO_smoothEdge 33 = .ok (.iload_n 2, 1) := by decide +kernel
theorem dMO_smoothEdge_34 : decode cMO_smoothEdge 34 = .ok (.imul, 1) := by decide +kernel
theorem dMO_smoothEdge_35 : decode cMO_smoothEdge 35 = .ok (.iadd, 1) := by decide +kernel
theorem dMO_smoothEdge_36 : decode cMO_smoothEdge 36 = .ok (.iaload, 1) := by decide +kernel
theorem dMO_smoothEdge_37 : decode cMO_smoothEdge 37 = .ok (.istore 6, 2) := by decide +kernel
theorem dMO_smoothEdge_39 : decode cMO_smoothEdge 39 = .ok (.bipush 9, 2) := by decide +kernel
theorem dMO_smoothEdge_41 : decode cMO_smoothEdge 41 = .ok (.iload 5, 2) := by decide +kernel
theorem dMO_smoothEdge_43 : decode cMO_smoothEdge 43 = .ok (.iload_n 3, 1) := by decide +kernel
theorem dMO_smoothEdge_44 : decode cMO_smoothEdge 44 = .ok (.isub, 1) := by decide +kernel
theorem dMO_smoothEdge_45 : decode cMO_smoothEdge 45 = .ok (.imul, 1) := by decide +kernel
theorem dMO_smoothEdge_46 : decode cMO_smoothEdge 46 = .ok (.iconst 3, 1) := by decide +kernel
theorem dMO_smoothEdge_47 : decode cMO_smoothEdge 47 = .ok (.iload 6, 2) := by decide +kernel
theorem dMO_smoothEdge_49 : decode cMO_smoothEdge 49 = .ok (.iload 4, 2) := by decide +kernel
theorem dMO_smoothEdge_51 : decode cMO_smoothEdge 51 = .ok (.isub, 1) := by decide +kernel
theorem dMO_smoothEdge_52 : decode cMO_smoothEdge 52 = .ok (.imul, 1) := by decide +kernel
theorem dMO_smoothEdge_53 : decode cMO_smoothEdge 53 = .ok (.isub, 1) := by decide +kernel
theorem dMO_smoothEdge_54 : decode cMO_smoothEdge 54 = .ok (.bipush 8, 2) := by decide +kernel
theorem dMO_smoothEdge_56 : decode cMO_smoothEdge 56 = .ok (.iadd, 1) := by decide +kernel
theorem dMO_smoothEdge_57 : decode cMO_smoothEdge 57 = .ok (.iconst 4, 1) := by decide +kernel
theorem dMO_smoothEdge_58 : decode cMO_smoothEdge 58 = .ok (.ishr, 1) := by decide +kernel
theorem dMO_smoothEdge_59 : decode cMO_smoothEdge 59 = .ok (.istore 7, 2) := by decide +kernel
theorem dMO_smoothEdge_61 : decode cMO_smoothEdge 61 = .ok (.iconst 1, 1) := by decide +kernel
theorem dMO_smoothEdge_62 : decode cMO_smoothEdge 62 = .ok (.aload_n 0, 1) := by decide +kernel
theorem dMO_smoothEdge_63 : decode cMO_smoothEdge 63 = .ok (.getfield 16, 3) := by decide +kernel
theorem dMO_smoothEdge_66 : decode cMO_smoothEdge 66 = .ok (.iconst 0, 1) := by decide +kernel
theorem dMO_smoothEdge_67 : decode cMO_smoothEdge 67 = .ok (.iaload, 1) := by decide +kernel
theorem dMO_smoothEdge_68 : decode cMO_smoothEdge 68 = .ok (.bipush 8, 2) := by decide +kernel
theorem dMO_smoothEdge_70 : decode cMO_smoothEdge 70 = .ok (.idiv, 1) := by decide +kernel
theorem dMO_smoothEdge_71 : decode cMO_smoothEdge 71 = .ok (.iadd, 1) := by decide +kernel
theorem dMO_smoothEdge_72 : decode cMO_smoothEdge 72 = .ok (.istore 8, 2) := by decide +kernel
theorem dMO_smoothEdge_74 : decode cMO_smoothEdge 74 = .ok (.iload 4, 2) := by decide +kernel
theorem dMO_smoothEdge_76 : decode cMO_smoothEdge 76 = .ok (.iload_n 3, 1) := by decide +kernel
theorem dMO_smoothEdge_77 : decode cMO_smoothEdge 77 = .ok (.isub, 1) := by decide +kernel
theorem dMO_smoothEdge_78 : decode cMO_smoothEdge 78 = .ok (.invokestatic 215, 3) := by decide +kernel
theorem dMO_smoothEdge_81 : decode cMO_smoothEdge 81 = .ok (.iload 6, 2) := by decide +kernel
theorem dMO_smoothEdge_83 : decode cMO_smoothEdge 83 = .ok (.iload 5, 2) := by decide +kernel
theorem dMO_smoothEdge_85 : decode cMO_smoothEdge 85 = .ok (.isub, 1) := by decide +kernel
theorem dMO_smoothEdge_86 : decode cMO_smoothEdge 86 = .ok (.invokestatic 215, 3) := by decide +kernel
theorem dMO_smoothEdge_89 : decode cMO_smoothEdge 89 = .ok (.iadd, 1) := by decide +kernel
theorem dMO_smoothEdge_90 : decode cMO_smoothEdge 90 = .ok (.aload_n 0, 1) := by decide +kernel
theorem dMO_smoothEdge_91 : decode cMO_smoothEdge 91 = .ok (.getfield 16, 3) := by decide +kernel
theorem dMO_smoothEdge_94 : decode cMO_smoothEdge 94 = .ok (.iconst 0, 1) := by decide +kernel
theorem dMO_smoothEdge_95 : decode cMO_smoothEdge 95 = .ok (.iaload, 1) := by decide +kernel
theorem dMO_smoothEdge_96 : decode cMO_smoothEdge 96 = .ok (.if_icmp .ge 16, 3) := by decide +kernel
theorem dMO_smoothEdge_99 : decode cMO_smoothEdge 99 = .ok (.iload 7, 2) := by decide +kernel
theorem dMO_smoothEdge_101 : decode cMO_smoothEdge 101 = .ok (.invokestatic 215, 3) := by decide +kernel
theorem dMO_smoothEdge_104 : decode cMO_smoothEdge 104 = .ok (.bipush 10, 2) := by decide +kernel
theorem dMO_smoothEdge_106 : decode cMO_smoothEdge 106 = .ok (.iload 8, 2) := by decide +kernel
theorem dMO_smoothEdge_108 : decode cMO_smoothEdge 108 = .ok (.imul, 1) := by decide +kernel
theorem dMO_smoothEdge_109 : decode cMO_smoothEdge 109 = .ok (.if_icmp .lt 4, 3) := by decide +kernel
theorem dMO_smoothEdge_112 : decode cMO_smoothEdge 112 = .ok (.return_, 1) := by decide +kernel
theorem dMO_smoothEdge_113 : decode cMO_smoothEdge 113 = .ok (.aload_n 0, 1) := by decide +kernel
theorem dMO_smoothEdge_114 : decode cMO_smoothEdge 114 = .ok (.getfield 59, 3) := by decide +kernel
theorem dMO_smoothEdge_117 : decode cMO_smoothEdge 117 = .ok (.iload_n 1, 1) := by decide +kernel
theorem dMO_smoothEdge_118 : decode cMO_smoothEdge 118 = .ok (.iload_n 3, 1) := by decide +kernel
theorem dMO_smoothEdge_119 : decode cMO_smoothEdge 119 = .ok (.iload 7, 2) := by decide +kernel
theorem dMO_smoothEdge_121 : decode cMO_smoothEdge 121 = .ok (.iload 8, 2) := by decide +kernel
theorem dMO_smoothEdge_123 : decode cMO_smoothEdge 123 = .ok (.ineg, 1) := by decide +kernel
theorem dMO_smoothEdge_124 : decode cMO_smoothEdge 124 = .ok (.iload 8, 2) := by decide +kernel
theorem dMO_smoothEdge_126 : decode cMO_smoothEdge 126 = .ok (.invokestatic 174, 3) := by decide +kernel
theorem dMO_smoothEdge_129 : decode cMO_smoothEdge 129 = .ok (.iadd, 1) := by decide +kernel
theorem dMO_smoothEdge_130 : decode cMO_smoothEdge 130 = .ok (.iconst 0, 1) := by decide +kernel
theorem dMO_smoothEdge_131 : decode cMO_smoothEdge 131 = .ok (.sipush 255, 3) := by decide +kernel
theorem dMO_smoothEdge_134 : decode cMO_smoothEdge 134 = .ok (.invokestatic 174, 3) := by decide +kernel
theorem dMO_smoothEdge_137 : decode cMO_smoothEdge 137 = .ok (.iastore, 1) := by decide +kernel
theorem dMO_smoothEdge_138 : decode cMO_smoothEdge 138 = .ok (.aload_n 0, 1) := by decide +kernel
theorem dMO_smoothEdge_139 : decode cMO_smoothEdge 139 = .ok (.getfield 59, 3) := by decide +kernel
theorem dMO_smoothEdge_142 : decode cMO_smoothEdge 142 = .ok (.iload_n 1, 1) := by decide +kernel
theorem dMO_smoothEdge_143 : decode cMO_smoothEdge 143 = .ok (.iload_n 2, 1) := by decide +kernel
theorem dMO_smoothEdge_144 : decode cMO_smoothEdge 144 = .ok (.iadd, 1) := by decide +kernel
theorem dMO_smoothEdge_145 : decode cMO_smoothEdge 145 = .ok (.iload 5, 2) := by decide +kernel
theorem dMO_smoothEdge_147 : decode cMO_smoothEdge 147 = .ok (.iload 7, 2) := by decide +kernel
theorem dMO_smoothEdge_149 : decode cMO_smoothEdge 149 = .ok (.iload 8, 2) := by decide +kernel
theorem dMO_smoothEdge_151 : decode cMO_smoothEdge 151 = .ok (.ineg, 1) := by decide +kernel
theorem dMO_smoothEdge_152 : decode cMO_smoothEdge 152 = .ok (.iload 8, 2) := by decide +kernel
theorem dMO_smoothEdge_154 : decode cMO_smoothEdge 154 = .ok (.invokestatic 174, 3) := by decide +kernel
theorem dMO_smoothEdge_157 : decode cMO_smoothEdge 157 = .ok (.isub, 1) := by decide +kernel
theorem dMO_smoothEdge_158 : decode cMO_smoothEdge 158 = .ok (.iconst 0, 1) := by decide +kernel
theorem dMO_smoothEdge_159 : decode cMO_smoothEdge 159 = .ok (.sipush 255, 3) := by decide +kernel
theorem dMO_smoothEdge_162 : decode cMO_smoothEdge 162 = .ok (.invokestatic 174, 3) := by decide +kernel
theorem dMO_smoothEdge_165 : decode cMO_smoothEdge 165 = .ok (.iastore, 1) := by decide +kernel
theorem dMO_smoothEdge_166 : decode cMO_smoothEdge 166 = .ok (.return_, 1) := by decide +kernel
abbrev cMO_sign : ByteArray := prog_14_method_38_code
def yMO_sign : MethodName := ⟨kR_MO, "sign", "(I)I"⟩
def wsMO_sign : List Cond := .code yMO_sign cMO_sign 1 (some .int) :: ipW
theorem dMO_sign_0 : decode cMO_sign 0 = .ok (.iload_n 0, 1) := by decide +kernel
theorem dMO_sign_1 : decode cMO_sign 1 = .ok (.ifCond .le 7, 3) := by decide +kernel
theorem dMO_sign_4 : decode cMO_sign 4 = .ok (.iconst 1, 1) := by decide +kernel
theorem dMO_sign_5 : decode cMO_sign 5 = .ok (.goto 12, 3) := by decide +kernel
theorem dMO_sign_8 : decode cMO_sign 8 = .ok (.iload_n 0, 1) := by decide +kernel
theorem dMO_sign_9 : decode cMO_sign 9 = .ok (.ifCond .ge 7, 3) := by decide +kernel
theorem dMO_sign_12 : decode cMO_sign 12 = .ok (.iconst (-1), 1) := by decide +kernel
theorem dMO_sign_13 : decode cMO_sign 13 = .ok (.goto 4, 3) := by decide +kernel
theorem dMO_sign_16 : decode cMO_sign 16 = .ok (.iconst 0, 1) := by decide +kernel
theorem dMO_sign_17 : decode cMO_sign 17 = .ok (.ireturn, 1) := by decide +kernel
abbrev cMO_offset : ByteArray := prog_14_method_39_code
def yMO_offset : MethodName := ⟨kR_MO, "offset", "(I)I"⟩
def wsMO_offset : List Cond := .code yMO_offset cMO_offset 6 (some .int) :: ipW
theorem dMO_offset_0 : decode cMO_offset 0 = .ok (.aload_n 0, 1) := by decide +kernel
theorem dMO_offset_1 : decode cMO_offset 1 = .ok (.getfield 62, 3) := by decide +kernel
theorem dMO_offset_4 : decode cMO_offset 4 = .ok (.iload_n 1, 1) := by decide +kernel
theorem dMO_offset_5 : decode cMO_offset 5 = .ok (.iaload, 1) := by decide +kernel
theorem dMO_offset_6 : decode cMO_offset 6 = .ok (.istore_n 2, 1) := by decide +kernel
theorem dMO_offset_7 : decode cMO_offset 7 = .ok (.aload_n 0, 1) := by decide +kernel
theorem dMO_offset_8 : decode cMO_offset 8 = .ok (.getfield 16, 3) := by decide +kernel
theorem dMO_offset_11 : decode cMO_offset 11 = .ok (.iconst 4, 1) := by decide +kernel
theorem dMO_offset_12 : decode cMO_offset 12 = .ok (.iaload, 1) := by decide +kernel
theorem dMO_offset_13 : decode cMO_offset 13 = .ok (.ifCond .ne 5, 3) := by decide +kernel
theorem dMO_offset_16 : decode cMO_offset 16 = .ok (.iconst 0, 1) := by decide +kernel
theorem dMO_offset_17 : decode cMO_offset 17 = .ok (.ireturn, 1) := by decide +kernel
theorem dMO_offset_18 : decode cMO_offset 18 = .ok (.aload_n 0, 1) := by decide +kernel
theorem dMO_offset_19 : decode cMO_offset 19 = .ok (.getfield 16, 3) := by decide +kernel
theorem dMO_offset_22 : decode cMO_offset 22 = .ok (.iconst 4, 1) := by decide +kernel
theorem dMO_offset_23 : decode cMO_offset 23 = .ok (.iaload, 1) := by decide +kernel
theorem dMO_offset_24 : decode cMO_offset 24 = .ok (.iconst 3, 1) := by decide +kernel
theorem dMO_offset_25 : decode cMO_offset 25 = .ok (.if_icmp .ne 36, 3) := by decide +kernel
theorem dMO_offset_28 : decode cMO_offset 28 = .ok (.iload_n 2, 1) := by decide +kernel
theorem dMO_offset_29 : decode cMO_offset 29 = .ok (.iconst 5, 1) := by decide +kernel
theorem dMO_offset_30 : decode cMO_offset 30 = .ok (.ishr, 1) := by decide +kernel
theorem dMO_offset_31 : decode cMO_offset 31 = .ok (.aload_n 0, 1) := by decide +kernel
theorem dMO_offset_32 : decode cMO_offset 32 = .ok (.getfield 16, 3) := by decide +kernel
theorem dMO_offset_35 : decode cMO_offset 35 = .ok (.bipush 9, 2) := by decide +kernel
theorem dMO_offset_37 : decode cMO_offset 37 = .ok (.iaload, 1) := by decide +kernel
theorem dMO_offset_38 : decode cMO_offset 38 = .ok (.isub, 1) := by decide +kernel
theorem dMO_offset_39 : decode cMO_offset 39 = .ok (.bipush 7, 2) := by decide +kernel
theorem dMO_offset_41 : decode cMO_offset 41 = .ok (.iand, 1) := by decide +kernel
theorem dMO_offset_42 : decode cMO_offset 42 = .ok (.istore_n 3, 1) := by decide +kernel
theorem dMO_offset_43 : decode cMO_offset 43 = .ok (.iload_n 3, 1) := by decide +kernel
theorem dMO_offset_44 : decode cMO_offset 44 = .ok (.iconst 4, 1) := by decide +kernel
theorem dMO_offset_45 : decode cMO_offset 45 = .ok (.if_icmp .ge 14, 3) := by decide +kernel
theorem dMO_offset_48 : decode cMO_offset 48 = .ok (.aload_n 0, 1) := by decide +kernel
theorem dMO_offset_49 : decode cMO_offset 49 = .ok (.getfield 16, 3) := by decide +kernel
theorem dMO_offset_52 : decode cMO_offset 52 = .ok (.iconst 5, 1) := by decide +kernel
theorem dMO_offset_53 : decode cMO_offset 53 = .ok (.iload_n 3, 1) := by decide +kernel
theorem dMO_offset_54 : decode cMO_offset 54 = .ok (.iadd, 1) := by decide +kernel
theorem dMO_offset_55 : decode cMO_offset 55 = .ok (.iaload, 1) := by decide +kernel
theorem dMO_offset_56 : decode cMO_offset 56 = .ok (.goto 4, 3) := by decide +kernel
theorem dMO_offset_59 : decode cMO_offset 59 = .ok (.iconst 0, 1) := by decide +kernel
theorem dMO_offset_60 : decode cMO_offset 60 = .ok (.ireturn, 1) := by decide +kernel
theorem dMO_offset_61 : decode cMO_offset 61 = .ok (.aload_n 0, 1) := by decide +kernel
theorem dMO_offset_62 : decode cMO_offset 62 = .ok (.getfield 16, 3) := by decide +kernel
theorem dMO_offset_65 : decode cMO_offset 65 = .ok (.iconst 4, 1) := by decide +kernel
theorem dMO_offset_66 : decode cMO_offset 66 = .ok (.iaload, 1) := by decide +kernel
theorem dMO_offset_67 : decode cMO_offset 67 = .ok (.iconst 1, 1) := by decide +kernel
theorem dMO_offset_68 : decode cMO_offset 68 = .ok (.if_icmp .ne 10, 3) := by decide +kernel
theorem dMO_offset_71 : decode cMO_offset 71 = .ok (.iload_n 1, 1) := by decide +kernel
theorem dMO_offset_72 : decode cMO_offset 72 = .ok (.bipush 16, 2) := by decide +kernel
theorem dMO_offset_74 : decode cMO_offset 74 = .ok (.irem, 1) := by decide +kernel
theorem dMO_offset_75 : decode cMO_offset 75 = .ok (.goto 7, 3) := by decide +kernel
theorem dMO_offset_78 : decode cMO_offset 78 = .ok (.iload_n 1, 1) := by decide +kernel
theorem dMO_offset_79 : decode cMO_offset 79 = .ok (.bipush 16, 2) := by decide +kernel
theorem dMO_offset_81 : decode cMO_offset 81 = .ok (.idiv, 1) := by decide +kernel
theorem dMO_offset_82 : decode cMO_offset 82 = .ok (.istore_n 3, 1) := by decide +kernel
theorem dMO_offset_83 : decode cMO_offset 83 = .ok (.aload_n 0, 1) := by decide +kernel
theorem dMO_offset_84 : decode cMO_offset 84 = .ok (.getfield 16, 3) := by decide +kernel
theorem dMO_offset_87 : decode cMO_offset 87 = .ok (.iconst 4, 1) := by decide +kernel
theorem dMO_offset_88 : decode cMO_offset 88 = .ok (.iaload, 1) := by decide +kernel
theorem dMO_offset_89 : decode cMO_offset 89 = .ok (.iconst 1, 1) := by decide +kernel
theorem dMO_offset_90 : decode cMO_offset 90 = .ok (.if_icmp .ne 7, 3) := by decide +kernel
theorem dMO_offset_93 : decode cMO_offset 93 = .ok (.iconst 1, 1) := by decide +kernel
theorem dMO_offset_94 : decode cMO_offset 94 = .ok (.goto 5, 3) := by decide +kernel
theorem dMO_offset_97 : decode cMO_offset 97 = .ok (.bipush 16, 2) := by decide +kernel
theorem dMO_offset_99 : decode cMO_offset 99 = .ok (.istore 4, 2) := by decide +kernel
theorem dMO_offset_101 : decode cMO_offset 101 = .ok (.iload_n 3, 1) := by decide +kernel
theorem dMO_offset_102 : decode cMO_offset 102 = .ok (.ifCond .eq 9, 3) := by decide +kernel
theorem dMO_offset_105 : decode cMO_offset 105 = .ok (.iload_n 3, 1) := by decide +kernel
theorem dMO_offset_106 : decode cMO_offset 106 = .ok (.bipush 15, 2) := by decide +kernel
theorem dMO_offset_108 : decode cMO_offset 108 = .ok (.if_icmp .ne 5, 3) := by decide +kernel
theorem dMO_offset_111 : decode cMO_offset 111 = .ok (.iconst 0, 1) := by decide +kernel
theorem dMO_offset_112 : decode cMO_offset 112 = .ok (.ireturn, 1) := by decide +kernel
theorem dMO_offset_113 : decode cMO_offset 113 = .ok (.aload_n 0, 1) := by decide +kernel
theorem dMO_offset_114 : decode cMO_offset 114 = .ok (.getfield 62, 3) := by decide +kernel
theorem dMO_offset_117 : decode cMO_offset 117 = .ok (.iload_n 1, 1) := by decide +kernel
theorem dMO_offset_118 : decode cMO_offset 118 = .ok (.iload 4, 2) := by decide +kernel
theorem dMO_offset_120 : decode cMO_offset 120 = .ok (.isub, 1) := by decide +kernel
theorem dMO_offset_121 : decode cMO_offset 121 = .ok (.iaload, 1) := by decide +kernel
theorem dMO_offset_122 : decode cMO_offset 122 = .ok (.iload_n 2, 1) := by decide +kernel
theorem dMO_offset_123 : decode cMO_offset 123 = .ok (.isub, 1) := by decide +kernel
theorem dMO_offset_124 : decode cMO_offset 124 = .ok (.invokestatic 218, 3) := by decide +kernel
theorem dMO_offset_127 : decode cMO_offset 127 = .ok (.aload_n 0, 1) := by decide +kernel
theorem dMO_offset_128 : decode cMO_offset 128 = .ok (.getfield 62, 3) := by decide +kernel
theorem dMO_offset_131 : decode cMO_offset 131 = .ok (.iload_n 1, 1) := by decide +kernel
theorem dMO_offset_132 : decode cMO_offset 132 = .ok (.iload 4, 2) := by decide +kernel
theorem dMO_offset_134 : decode cMO_offset 134 = .ok (.iadd, 1) := by decide +kernel
theorem dMO_offset_135 : decode cMO_offset 135 = .ok (.iaload, 1) := by decide +kernel
theorem dMO_offset_136 : decode cMO_offset 136 = .ok (.iload_n 2, 1) := by decide +kernel
theorem dMO_offset_137 : decode cMO_offset 137 = .ok (.isub, 1) := by decide +kernel
theorem dMO_offset_138 : decode cMO_offset 138 = .ok (.invokestatic 218, 3) := by decide +kernel
theorem dMO_offset_141 : decode cMO_offset 141 = .ok (.iadd, 1) := by decide +kernel
theorem dMO_offset_142 : decode cMO_offset 142 = .ok (.istore 5, 2) := by decide +kernel
theorem dMO_offset_144 : decode cMO_offset 144 = .ok (.iload 5, 2) := by decide +kernel
theorem dMO_offset_146 : decode cMO_offset 146 = .ok (.iconst 2, 1) := by decide +kernel
theorem dMO_offset_147 : decode cMO_offset 147 = .ok (.if_icmp .ne 12, 3) := by decide +kernel
theorem dMO_offset_150 : decode cMO_offset 150 = .ok (.aload_n 0, 1) := by decide +kernel
theorem dMO_offset_151 : decode cMO_offset 151 = .ok (.getfield 16, 3) := by decide +kernel
theorem dMO_offset_154 : decode cMO_offset 154 = .ok (.iconst 5, 1) := by decide +kernel
theorem dMO_offset_155 : decode cMO_offset 155 = .ok (.iaload, 1) := by decide +kernel
theorem dMO_offset_156 : decode cMO_offset 156 = .ok (.goto 53, 3) := by decide +kernel
theorem dMO_offset_159 : decode cMO_offset 159 = .ok (.iload 5, 2) := by decide +kernel
theorem dMO_offset_161 : decode cMO_offset 161 = .ok (.iconst 1, 1) := by decide +kernel
theorem dMO_offset_162 : decode cMO_offset 162 = .ok (.if_icmp .ne 13, 3) := by decide +kernel
theorem dMO_offset_165 : decode cMO_offset 165 = .ok (.aload_n 0, 1) := by decide +kernel
theorem dMO_offset_166 : decode cMO_offset 166 = .ok (.getfield 16, 3) := by decide +kernel
theorem dMO_offset_169 : decode cMO_offset 169 = .ok (.bipush 6, 2) := by decide +kernel
theorem dMO_offset_171 : decode cMO_offset 171 = .ok (.iaload, 1) := by decide +kernel
theorem dMO_offset_172 : decode cMO_offset 172 = .ok (.goto 37, 3) := by decide +kernel
theorem dMO_offset_175 : decode cMO_offset 175 = .ok (.iload 5, 2) := by decide +kernel
theorem dMO_offset_177 : decode cMO_offset 177 = .ok (.iconst (-1), 1) := by decide +kernel
theorem dMO_offset_178 : decode cMO_offset 178 = .ok (.if_icmp .ne 13, 3) := by decide +kernel
theorem dMO_offset_181 : decode cMO_offset 181 = .ok (.aload_n 0, 1) := by decide +kernel
theorem dMO_offset_182 : decode cMO_offset 182 = .ok (.getfield 16, 3) := by decide +kernel
theorem dMO_offset_185 : decode cMO_offset 185 = .ok (.bipush 7, 2) := by decide +kernel
theorem dMO_offset_187 : decode cMO_offset 187 = .ok (.iaload, 1) := by decide +kernel
theorem dMO_offset_188 : decode cMO_offset 188 = .ok (.goto 21, 3) := by decide +kernel
theorem dMO_offset_191 : decode cMO_offset 191 = .ok (.iload 5, 2) := by decide +kernel
theorem dMO_offset_193 : decode cMO_offset 193 = .ok (.bipush (-2), 2) := by decide +kernel
theorem dMO_offset_195 : decode cMO_offset 195 = .ok (.if_icmp .ne 13, 3) := by decide +kernel
theorem dMO_offset_198 : decode cMO_offset 198 = .ok (.aload_n 0, 1) := by decide +kernel
theorem dMO_offset_199 : decode cMO_offset 199 = .ok (.getfield 16, 3) := by decide +kernel
theorem dMO_offset_202 : decode cMO_offset 202 = .ok (.bipush 8, 2) := by decide +kernel
theorem dMO_offset_204 : decode cMO_offset 204 = .ok (.iaload, 1) := by decide +kernel
theorem dMO_offset_205 : decode cMO_offset 205 = .ok (.goto 4, 3) := by decide +kernel
theorem dMO_offset_208 : decode cMO_offset 208 = .ok (.iconst 0, 1) := by decide +kernel
theorem dMO_offset_209 : decode cMO_offset 209 = .ok (.ireturn, 1) := by decide +kernel
abbrev cMO_parameter : ByteArray := prog_14_method_40_code
def yMO_parameter : MethodName := ⟨kR_MO, "parameter", "(I)I"⟩
def wsMO_parameter : List Cond := .code yMO_parameter cMO_parameter 2 (some .int) :: ipW
theorem dMO_parameter_0 : decode cMO_parameter 0 = .ok (.aload_n 0, 1) := by decide +kernel
theorem dMO_parameter_1 : decode cMO_parameter 1 = .ok (.getfield 86, 3) := by decide +kernel
theorem dMO_parameter_4 : decode cMO_parameter 4 = .ok (.ifCond .eq 22, 3) := by decide +kernel
theorem dMO_parameter_7 : decode cMO_parameter 7 = .ok (.iload_n 1, 1) := by decide +kernel
theorem dMO_parameter_8 : decode cMO_parameter 8 = .ok (.ifCond .lt 18, 3) := by decide +kernel
theorem dMO_parameter_11 : decode cMO_parameter 11 = .ok (.iload_n 1, 1) := by decide +kernel
theorem dMO_parameter_12 : decode cMO_parameter 12 = .ok (.bipush 9, 2) := by decide +kernel
theorem dMO_parameter_14 : decode cMO_parameter 14 = .ok (.if_icmp .gt 12, 3) := by decide +kernel
theorem dMO_parameter_17 : decode cMO_parameter 17 = .ok (.aload_n 0, 1) := by decide +kernel
theorem dMO_parameter_18 : decode cMO_parameter 18 = .ok (.getfield 16, 3) := by decide +kernel
theorem dMO_parameter_21 : decode cMO_parameter 21 = .ok (.iload_n 1, 1) := by decide +kernel
theorem dMO_parameter_22 : decode cMO_parameter 22 = .ok (.iaload, 1) := by decide +kernel
theorem dMO_parameter_23 : decode cMO_parameter 23 = .ok (.goto 5, 3) := by decide +kernel
theorem dMO_parameter_26 : decode cMO_parameter 26 = .ok (.bipush (-100), 2) := by decide +kernel
theorem dMO_parameter_28 : decode cMO_parameter 28 = .ok (.ireturn, 1) := by decide +kernel
abbrev cMO_seen : ByteArray := prog_14_method_41_code
def yMO_seen : MethodName := ⟨kR_MO, "seen", "(II)Z"⟩
def wsMO_seen : List Cond := .code yMO_seen cMO_seen 3 (some .boolean) :: ipW
theorem dMO_seen_0 : decode cMO_seen 0 = .ok (.aload_n 0, 1) := by decide +kernel
theorem dMO_seen_1 : decode cMO_seen 1 = .ok (.getfield 90, 3) := by decide +kernel
theorem dMO_seen_4 : decode cMO_seen 4 = .ok (.ifCond .eq 27, 3) := by decide +kernel
theorem dMO_seen_7 : decode cMO_seen 7 = .ok (.iload_n 1, 1) := by decide +kernel
theorem dMO_seen_8 : decode cMO_seen 8 = .ok (.ifCond .lt 23, 3) := by decide +kernel
theorem dMO_seen_11 : decode cMO_seen 11 = .ok (.iload_n 1, 1) := by decide +kernel
theorem dMO_seen_12 : decode cMO_seen 12 = .ok (.bipush 15, 2) := by decide +kernel
theorem dMO_seen_14 : decode cMO_seen 14 = .ok (.if_icmp .gt 17, 3) := by decide +kernel
theorem dMO_seen_17 : decode cMO_seen 17 = .ok (.iload_n 2, 1) := by decide +kernel
theorem dMO_seen_18 : decode cMO_seen 18 = .ok (.ifCond .lt 13, 3) := by decide +kernel
theorem dMO_seen_21 : decode cMO_seen 21 = .ok (.iload_n 2, 1) := by decide +kernel
theorem dMO_seen_22 : decode cMO_seen 22 = .ok (.bipush 15, 2) := by decide +kernel
theorem dMO_seen_24 : decode cMO_seen 24 = .ok (.if_icmp .gt 7, 3) := by decide +kernel
theorem dMO_seen_27 : decode cMO_seen 27 = .ok (.iconst 1, 1) := by decide +kernel
theorem dMO_seen_28 : decode cMO_seen 28 = .ok (.goto 4, 3) := by decide +kernel
theorem dMO_seen_31 : decode cMO_seen 31 = .ok (.iconst 0, 1) := by decide +kernel
theorem dMO_seen_32 : decode cMO_seen 32 = .ok (.ireturn, 1) := by decide +kernel
abbrev cMO_sample : ByteArray := prog_14_method_42_code
def yMO_sample : MethodName := ⟨kR_MO, "sample", "(II)I"⟩
def wsMO_sample : List Cond := .code yMO_sample cMO_sample 3 (some .int) :: ipW
theorem dMO_sample_0 : decode cMO_sample 0 = .ok (.aload_n 0, 1) := by decide +kernel
theorem dMO_sample_1 : decode cMO_sample 1 = .ok (.iload_n 1, 1) := by decide +kernel
theorem dMO_sample_2 : decode cMO_sample 2 = .ok (.iload_n 2, 1) := by decide +kernel
theorem dMO_sample_3 : decode cMO_sample 3 = .ok (.invokevirtual 221, 3) := by decide +kernel
theorem dMO_sample_6 : decode cMO_sample 6 = .ok (.ifCond .eq 17, 3) := by decide +kernel
theorem dMO_sample_9 : decode cMO_sample 9 = .ok (.aload_n 0, 1) := by decide +kernel
theorem dMO_sample_10 : decode cMO_sample 10 = .ok (.getfield 59, 3) := by decide +kernel
theorem dMO_sample_13 : decode cMO_sample 13 = .ok (.bipush 16, 2) := by decide +kernel
theorem dMO_sample_15 : decode cMO_sample 15 = .ok (.iload_n 2, 1) := by decide +kernel
theorem dMO_sample_16 : decode cMO_sample 16 = .ok (.imul, 1) := by decide +kernel
theorem dMO_sample_17 : decode cMO_sample 17 = .ok (.iload_n 1, 1) := by decide +kernel
theorem dMO_sample_18 : decode cMO_sample 18 = .ok (.iadd, 1) := by decide +kernel
theorem dMO_sample_19 : decode cMO_sample 19 = .ok (.iaload, 1) := by decide +kernel
theorem dMO_sample_20 : decode cMO_sample 20 = .ok (.goto 4, 3) := by decide +kernel
theorem dMO_sample_23 : decode cMO_sample 23 = .ok (.iconst (-1), 1) := by decide +kernel
theorem dMO_sample_24 : decode cMO_sample 24 = .ok (.ireturn, 1) := by decide +kernel
abbrev cMO_plain : ByteArray := prog_14_method_43_code
def yMO_plain : MethodName := ⟨kR_MO, "plain", "(II)I"⟩
def wsMO_plain : List Cond := .code yMO_plain cMO_plain 3 (some .int) :: ipW
theorem dMO_plain_0 : decode cMO_plain 0 = .ok (.aload_n 0, 1) := by decide +kernel
theorem dMO_plain_1 : decode cMO_plain 1 = .ok (.iload_n 1, 1) := by decide +kernel
theorem dMO_plain_2 : decode cMO_plain 2 = .ok (.iload_n 2, 1) := by decide +kernel
theorem dMO_plain_3 : decode cMO_plain 3 = .ok (.invokevirtual 221, 3) := by decide +kernel
theorem dMO_plain_6 : decode cMO_plain 6 = .ok (.ifCond .eq 17, 3) := by decide +kernel
theorem dMO_plain_9 : decode cMO_plain 9 = .ok (.aload_n 0, 1) := by decide +kernel
theorem dMO_plain_10 : decode cMO_plain 10 = .ok (.getfield 56, 3) := by decide +kernel
theorem dMO_plain_13 : decode cMO_plain 13 = .ok (.bipush 16, 2) := by decide +kernel
theorem dMO_plain_15 : decode cMO_plain 15 = .ok (.iload_n 2, 1) := by decide +kernel
theorem dMO_plain_16 : decode cMO_plain 16 = .ok (.imul, 1) := by decide +kernel
theorem dMO_plain_17 : decode cMO_plain 17 = .ok (.iload_n 1, 1) := by decide +kernel
theorem dMO_plain_18 : decode cMO_plain 18 = .ok (.iadd, 1) := by decide +kernel
theorem dMO_plain_19 : decode cMO_plain 19 = .ok (.iaload, 1) := by decide +kernel
theorem dMO_plain_20 : decode cMO_plain 20 = .ok (.goto 4, 3) := by decide +kernel
theorem dMO_plain_23 : decode cMO_plain 23 = .ok (.iconst (-1), 1) := by decide +kernel
theorem dMO_plain_24 : decode cMO_plain 24 = .ok (.ireturn, 1) := by decide +kernel
abbrev cMO_predicted : ByteArray := prog_14_method_44_code
def yMO_predicted : MethodName := ⟨kR_MO, "predicted", "(II)I"⟩
def wsMO_predicted : List Cond := .code yMO_predicted cMO_predicted 3 (some .int) :: ipW
theorem dMO_predicted_0 : decode cMO_predicted 0 = .ok (.aload_n 0, 1) := by decide +kernel
theorem dMO_predicted_1 : decode cMO_predicted 1 = .ok (.iload_n 1, 1) := by decide +kernel
theorem dMO_predicted_2 : decode cMO_predicted 2 = .ok (.iload_n 2, 1) := by decide +kernel
theorem dMO_predicted_3 : decode cMO_predicted 3 = .ok (.invokevirtual 221, 3) := by decide +kernel
theorem dMO_predicted_6 : decode cMO_predicted 6 = .ok (.ifCond .eq 17, 3) := by decide +kernel
theorem dMO_predicted_9 : decode cMO_predicted 9 = .ok (.aload_n 0, 1) := by decide +kernel
theorem dMO_predicted_10 : decode cMO_predicted 10 = .ok (.getfield 53, 3) := by decide +kernel
theorem dMO_predicted_13 : decode cMO_predicted 13 = .ok (.bipush 16, 2) := by decide +kernel
theorem dMO_predicted_15 : decode cMO_predicted 15 = .ok (.iload_n 2, 1) := by decide +kernel
theorem dMO_predicted_16 : decode cMO_predicted 16 = .ok (.imul, 1) := by decide +kernel
theorem dMO_predicted_17 : decode cMO_predicted 17 = .ok (.iload_n 1, 1) := by decide +kernel
theorem dMO_predicted_18 : decode cMO_predicted 18 = .ok (.iadd, 1) := by decide +kernel
theorem dMO_predicted_19 : decode cMO_predicted 19 = .ok (.iaload, 1) := by decide +kernel
theorem dMO_predicted_20 : decode cMO_predicted 20 = .ok (.goto 4, 3) := by decide +kernel
theorem dMO_predicted_23 : decode cMO_predicted 23 = .ok (.iconst (-1), 1) := by decide +kernel
theorem dMO_predicted_24 : decode cMO_predicted 24 = .ok (.ireturn, 1) := by decide +kernel
abbrev cMO_level : ByteArray := prog_14_method_45_code
def yMO_level : MethodName := ⟨kR_MO, "level", "(II)I"⟩
def wsMO_level : List Cond := .code yMO_level cMO_level 3 (some .int) :: ipW
theorem dMO_level_0 : decode cMO_level 0 = .ok (.aload_n 0, 1) := by decide +kernel
theorem dMO_level_1 : decode cMO_level 1 = .ok (.iload_n 1, 1) := by decide +kernel
theorem dMO_level_2 : decode cMO_level 2 = .ok (.iload_n 2, 1) := by decide +kernel
theorem dMO_level_3 : decode cMO_level 3 = .ok (.invokevirtual 221, 3) := by decide +kernel
theorem dMO_level_6 : decode cMO_level 6 = .ok (.ifCond .eq 17, 3) := by decide +kernel
theorem dMO_level_9 : decode cMO_level 9 = .ok (.aload_n 0, 1) := by decide +kernel
theorem dMO_level_10 : decode cMO_level 10 = .ok (.getfield 47, 3) := by decide +kernel
theorem dMO_level_13 : decode cMO_level 13 = .ok (.bipush 16, 2) := by decide +kernel
theorem dMO_level_15 : decode cMO_level 15 = .ok (.iload_n 2, 1) := by decide +kernel
theorem dMO_level_16 : decode cMO_level 16 = .ok (.imul, 1) := by decide +kernel
theorem dMO_level_17 : decode cMO_level 17 = .ok (.iload_n 1, 1) := by decide +kernel
theorem dMO_level_18 : decode cMO_level 18 = .ok (.iadd, 1) := by decide +kernel
theorem dMO_level_19 : decode cMO_level 19 = .ok (.iaload, 1) := by decide +kernel
theorem dMO_level_20 : decode cMO_level 20 = .ok (.goto 6, 3) := by decide +kernel
theorem dMO_level_23 : decode cMO_level 23 = .ok (.sipush (-1000), 3) := by decide +kernel
theorem dMO_level_26 : decode cMO_level 26 = .ok (.ireturn, 1) := by decide +kernel
abbrev cMO_mode : ByteArray := prog_14_method_46_code
def yMO_mode : MethodName := ⟨kR_MO, "mode", "(II)I"⟩
def wsMO_mode : List Cond := .code yMO_mode cMO_mode 3 (some .int) :: ipW
theorem dMO_mode_0 : decode cMO_mode 0 = .ok (.aload_n 0, 1) := by decide +kernel
theorem dMO_mode_1 : decode cMO_mode 1 = .ok (.iload_n 1, 1) := by decide +kernel
theorem dMO_mode_2 : decode cMO_mode 2 = .ok (.iload_n 2, 1) := by decide +kernel
theorem dMO_mode_3 : decode cMO_mode 3 = .ok (.invokevirtual 221, 3) := by decide +kernel
theorem dMO_mode_6 : decode cMO_mode 6 = .ok (.ifCond .eq 22, 3) := by decide +kernel
theorem dMO_mode_9 : decode cMO_mode 9 = .ok (.aload_n 0, 1) := by decide +kernel
theorem dMO_mode_10 : decode cMO_mode 10 = .ok (.getfield 37, 3) := by decide +kernel
theorem dMO_mode_13 : decode cMO_mode 13 = .ok (.aload_n 0, 1) := by decide +kernel
theorem dMO_mode_14 : decode cMO_mode 14 = .ok (.getfield 44, 3) := by decide +kernel
theorem dMO_mode_17 : decode cMO_mode 17 = .ok (.bipush 16, 2) := by decide +kernel
theorem dMO_mode_19 : decode cMO_mode 19 = .ok (.iload_n 2, 1) := by decide +kernel
theorem dMO_mode_20 : decode cMO_mode 20 = .ok (.imul, 1) := by decide +kernel
theorem dMO_mode_21 : decode cMO_mode 21 = .ok (.iload_n 1, 1) := by decide +kernel
theorem dMO_mode_22 : decode cMO_mode 22 = .ok (.iadd, 1) := by decide +kernel
theorem dMO_mode_23 : decode cMO_mode 23 = .ok (.iaload, 1) := by decide +kernel
theorem dMO_mode_24 : decode cMO_mode 24 = .ok (.iaload, 1) := by decide +kernel
theorem dMO_mode_25 : decode cMO_mode 25 = .ok (.goto 4, 3) := by decide +kernel
theorem dMO_mode_28 : decode cMO_mode 28 = .ok (.iconst (-1), 1) := by decide +kernel
theorem dMO_mode_29 : decode cMO_mode 29 = .ok (.ireturn, 1) := by decide +kernel
abbrev cMO_side : ByteArray := prog_14_method_47_code
def yMO_side : MethodName := ⟨kR_MO, "side", "(II)I"⟩
def wsMO_side : List Cond := .code yMO_side cMO_side 3 (some .int) :: ipW
theorem dMO_side_0 : decode cMO_side 0 = .ok (.aload_n 0, 1) := by decide +kernel
theorem dMO_side_1 : decode cMO_side 1 = .ok (.iload_n 1, 1) := by decide +kernel
theorem dMO_side_2 : decode cMO_side 2 = .ok (.iload_n 2, 1) := by decide +kernel
theorem dMO_side_3 : decode cMO_side 3 = .ok (.invokevirtual 221, 3) := by decide +kernel
theorem dMO_side_6 : decode cMO_side 6 = .ok (.ifCond .eq 22, 3) := by decide +kernel
theorem dMO_side_9 : decode cMO_side 9 = .ok (.aload_n 0, 1) := by decide +kernel
theorem dMO_side_10 : decode cMO_side 10 = .ok (.getfield 34, 3) := by decide +kernel
theorem dMO_side_13 : decode cMO_side 13 = .ok (.aload_n 0, 1) := by decide +kernel
theorem dMO_side_14 : decode cMO_side 14 = .ok (.getfield 44, 3) := by decide +kernel
theorem dMO_side_17 : decode cMO_side 17 = .ok (.bipush 16, 2) := by decide +kernel
theorem dMO_side_19 : decode cMO_side 19 = .ok (.iload_n 2, 1) := by decide +kernel
theorem dMO_side_20 : decode cMO_side 20 = .ok (.imul, 1) := by decide +kernel
theorem dMO_side_21 : decode cMO_side 21 = .ok (.iload_n 1, 1) := by decide +kernel
theorem dMO_side_22 : decode cMO_side 22 = .ok (.iadd, 1) := by decide +kernel
theorem dMO_side_23 : decode cMO_side 23 = .ok (.iaload, 1) := by decide +kernel
theorem dMO_side_24 : decode cMO_side 24 = .ok (.iaload, 1) := by decide +kernel
theorem dMO_side_25 : decode cMO_side 25 = .ok (.goto 4, 3) := by decide +kernel
theorem dMO_side_28 : decode cMO_side 28 = .ok (.iconst (-1), 1) := by decide +kernel
theorem dMO_side_29 : decode cMO_side 29 = .ok (.ireturn, 1) := by decide +kernel
abbrev cMO_chance : ByteArray := prog_14_method_48_code
def yMO_chance : MethodName := ⟨kR_MO, "chance", "(I)I"⟩
def wsMO_chance : List Cond := .code yMO_chance cMO_chance 2 (some .int) :: ipW
theorem dMO_chance_0 : decode cMO_chance 0 = .ok (.aload_n 0, 1) := by decide +kernel
theorem dMO_chance_1 : decode cMO_chance 1 = .ok (.getfield 90, 3) := by decide +kernel
theorem dMO_chance_4 : decode cMO_chance 4 = .ok (.ifCond .eq 22, 3) := by decide +kernel
theorem dMO_chance_7 : decode cMO_chance 7 = .ok (.iload_n 1, 1) := by decide +kernel
theorem dMO_chance_8 : decode cMO_chance 8 = .ok (.ifCond .lt 18, 3) := by decide +kernel
theorem dMO_chance_11 : decode cMO_chance 11 = .ok (.iload_n 1, 1) := by decide +kernel
theorem dMO_chance_12 : decode cMO_chance 12 = .ok (.bipush 13, 2) := by decide +kernel
theorem dMO_chance_14 : decode cMO_chance 14 = .ok (.if_icmp .gt 12, 3) := by decide +kernel
theorem dMO_chance_17 : decode cMO_chance 17 = .ok (.aload_n 0, 1) := by decide +kernel
theorem dMO_chance_18 : decode cMO_chance 18 = .ok (.getfield 22, 3) := by decide +kernel
theorem dMO_chance_21 : decode cMO_chance 21 = .ok (.iload_n 1, 1) := by decide +kernel
theorem dMO_chance_22 : decode cMO_chance 22 = .ok (.iaload, 1) := by decide +kernel
theorem dMO_chance_23 : decode cMO_chance 23 = .ok (.goto 4, 3) := by decide +kernel
theorem dMO_chance_26 : decode cMO_chance 26 = .ok (.iconst (-1), 1) := by decide +kernel
theorem dMO_chance_27 : decode cMO_chance 27 = .ok (.ireturn, 1) := by decide +kernel
abbrev cMO_took : ByteArray := prog_14_method_49_code
def yMO_took : MethodName := ⟨kR_MO, "took", "(I)I"⟩
def wsMO_took : List Cond := .code yMO_took cMO_took 2 (some .int) :: ipW
theorem dMO_took_0 : decode cMO_took 0 = .ok (.aload_n 0, 1) := by decide +kernel
theorem dMO_took_1 : decode cMO_took 1 = .ok (.getfield 90, 3) := by decide +kernel
theorem dMO_took_4 : decode cMO_took 4 = .ok (.ifCond .eq 21, 3) := by decide +kernel
theorem dMO_took_7 : decode cMO_took 7 = .ok (.iload_n 1, 1) := by decide +kernel
theorem dMO_took_8 : decode cMO_took 8 = .ok (.ifCond .lt 17, 3) := by decide +kernel
theorem dMO_took_11 : decode cMO_took 11 = .ok (.iload_n 1, 1) := by decide +kernel
theorem dMO_took_12 : decode cMO_took 12 = .ok (.iconst 2, 1) := by decide +kernel
theorem dMO_took_13 : decode cMO_took 13 = .ok (.if_icmp .gt 12, 3) := by decide +kernel
theorem dMO_took_16 : decode cMO_took 16 = .ok (.aload_n 0, 1) := by decide +kernel
theorem dMO_took_17 : decode cMO_took 17 = .ok (.getfield 25, 3) := by decide +kernel
theorem dMO_took_20 : decode cMO_took 20 = .ok (.iload_n 1, 1) := by decide +kernel
theorem dMO_took_21 : decode cMO_took 21 = .ok (.iaload, 1) := by decide +kernel
theorem dMO_took_22 : decode cMO_took 22 = .ok (.goto 4, 3) := by decide +kernel
theorem dMO_took_25 : decode cMO_took 25 = .ok (.iconst (-1), 1) := by decide +kernel
theorem dMO_took_26 : decode cMO_took 26 = .ok (.ireturn, 1) := by decide +kernel
