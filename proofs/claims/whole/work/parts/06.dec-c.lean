theorem dX7_init_0 : decode cX7_init 0 = .ok (.aload_n 0, 1) := by decide +kernel
theorem dX7_init_1 : decode cX7_init 1 = .ok (.invokespecial 1, 3) := by decide +kernel
theorem dX7_init_4 : decode cX7_init 4 = .ok (.aload_n 0, 1) := by decide +kernel
theorem dX7_init_5 : decode cX7_init 5 = .ok (.sipush 8000, 3) := by decide +kernel
theorem dX7_init_8 : decode cX7_init 8 = .ok (.newarray .byte, 2) := by decide +kernel
theorem dX7_init_10 : decode cX7_init 10 = .ok (.putfield 7, 3) := by decide +kernel
theorem dX7_init_13 : decode cX7_init 13 = .ok (.aload_n 0, 1) := by decide +kernel
theorem dX7_init_14 : decode cX7_init 14 = .ok (.sipush 1600, 3) := by decide +kernel
theorem dX7_init_17 : decode cX7_init 17 = .ok (.newarray .byte, 2) := by decide +kernel
theorem dX7_init_19 : decode cX7_init 19 = .ok (.putfield 13, 3) := by decide +kernel
theorem dX7_init_22 : decode cX7_init 22 = .ok (.aload_n 0, 1) := by decide +kernel
theorem dX7_init_23 : decode cX7_init 23 = .ok (.sipush 160, 3) := by decide +kernel
theorem dX7_init_26 : decode cX7_init 26 = .ok (.newarray .int, 2) := by decide +kernel
theorem dX7_init_28 : decode cX7_init 28 = .ok (.putfield 16, 3) := by decide +kernel
theorem dX7_init_31 : decode cX7_init 31 = .ok (.aload_n 0, 1) := by decide +kernel
theorem dX7_init_32 : decode cX7_init 32 = .ok (.sipush 512, 3) := by decide +kernel
theorem dX7_init_35 : decode cX7_init 35 = .ok (.newarray .int, 2) := by decide +kernel
theorem dX7_init_37 : decode cX7_init 37 = .ok (.putfield 20, 3) := by decide +kernel
theorem dX7_init_40 : decode cX7_init 40 = .ok (.aload_n 0, 1) := by decide +kernel
theorem dX7_init_41 : decode cX7_init 41 = .ok (.sipush 512, 3) := by decide +kernel
theorem dX7_init_44 : decode cX7_init 44 = .ok (.newarray .int, 2) := by decide +kernel
theorem dX7_init_46 : decode cX7_init 46 = .ok (.putfield 23, 3) := by decide +kernel
theorem dX7_init_49 : decode cX7_init 49 = .ok (.aload_n 0, 1) := by decide +kernel
theorem dX7_init_50 : decode cX7_init 50 = .ok (.sipush 512, 3) := by decide +kernel
theorem dX7_init_53 : decode cX7_init 53 = .ok (.newarray .int, 2) := by decide +kernel
theorem dX7_init_55 : decode cX7_init 55 = .ok (.putfield 26, 3) := by decide +kernel
theorem dX7_init_58 : decode cX7_init 58 = .ok (.aload_n 0, 1) := by decide +kernel
theorem dX7_init_59 : decode cX7_init 59 = .ok (.sipush 1000, 3) := by decide +kernel
theorem dX7_init_62 : decode cX7_init 62 = .ok (.newarray .int, 2) := by decide +kernel
theorem dX7_init_64 : decode cX7_init 64 = .ok (.putfield 29, 3) := by decide +kernel
theorem dX7_init_67 : decode cX7_init 67 = .ok (.aload_n 0, 1) := by decide +kernel
theorem dX7_init_68 : decode cX7_init 68 = .ok (.sipush 1000, 3) := by decide +kernel
theorem dX7_init_71 : decode cX7_init 71 = .ok (.newarray .int, 2) := by decide +kernel
theorem dX7_init_73 : decode cX7_init 73 = .ok (.putfield 32, 3) := by decide +kernel
theorem dX7_init_76 : decode cX7_init 76 = .ok (.aload_n 0, 1) := by decide +kernel
theorem dX7_init_77 : decode cX7_init 77 = .ok (.sipush 1000, 3) := by decide +kernel
theorem dX7_init_80 : decode cX7_init 80 = .ok (.newarray .int, 2) := by decide +kernel
theorem dX7_init_82 : decode cX7_init 82 = .ok (.putfield 35, 3) := by decide +kernel
theorem dX7_init_85 : decode cX7_init 85 = .ok (.aload_n 0, 1) := by decide +kernel
theorem dX7_init_86 : decode cX7_init 86 = .ok (.sipush 1000, 3) := by decide +kernel
theorem dX7_init_89 : decode cX7_init 89 = .ok (.newarray .int, 2) := by decide +kernel
theorem dX7_init_91 : decode cX7_init 91 = .ok (.putfield 38, 3) := by decide +kernel
theorem dX7_init_94 : decode cX7_init 94 = .ok (.aload_n 0, 1) := by decide +kernel
theorem dX7_init_95 : decode cX7_init 95 = .ok (.sipush 1000, 3) := by decide +kernel
theorem dX7_init_98 : decode cX7_init 98 = .ok (.newarray .int, 2) := by decide +kernel
theorem dX7_init_100 : decode cX7_init 100 = .ok (.putfield 41, 3) := by decide +kernel
theorem dX7_init_103 : decode cX7_init 103 = .ok (.aload_n 0, 1) := by decide +kernel
theorem dX7_init_104 : decode cX7_init 104 = .ok (.sipush 1000, 3) := by decide +kernel
theorem dX7_init_107 : decode cX7_init 107 = .ok (.newarray .int, 2) := by decide +kernel
theorem dX7_init_109 : decode cX7_init 109 = .ok (.putfield 44, 3) := by decide +kernel
theorem dX7_init_112 : decode cX7_init 112 = .ok (.aload_n 0, 1) := by decide +kernel
theorem dX7_init_113 : decode cX7_init 113 = .ok (.bipush 40, 2) := by decide +kernel
theorem dX7_init_115 : decode cX7_init 115 = .ok (.newarray .int, 2) := by decide +kernel
theorem dX7_init_117 : decode cX7_init 117 = .ok (.putfield 47, 3) := by decide +kernel
theorem dX7_init_120 : decode cX7_init 120 = .ok (.aload_n 0, 1) := by decide +kernel
theorem dX7_init_121 : decode cX7_init 121 = .ok (.bipush 40, 2) := by decide +kernel
theorem dX7_init_123 : decode cX7_init 123 = .ok (.newarray .int, 2) := by decide +kernel
theorem dX7_init_125 : decode cX7_init 125 = .ok (.putfield 50, 3) := by decide +kernel
theorem dX7_init_128 : decode cX7_init 128 = .ok (.aload_n 0, 1) := by decide +kernel
theorem dX7_init_129 : decode cX7_init 129 = .ok (.bipush 40, 2) := by decide +kernel
theorem dX7_init_131 : decode cX7_init 131 = .ok (.newarray .int, 2) := by decide +kernel
theorem dX7_init_133 : decode cX7_init 133 = .ok (.putfield 53, 3) := by decide +kernel
theorem dX7_init_136 : decode cX7_init 136 = .ok (.aload_n 0, 1) := by decide +kernel
theorem dX7_init_137 : decode cX7_init 137 = .ok (.bipush 40, 2) := by decide +kernel
theorem dX7_init_139 : decode cX7_init 139 = .ok (.newarray .int, 2) := by decide +kernel
theorem dX7_init_141 : decode cX7_init 141 = .ok (.putfield 56, 3) := by decide +kernel
theorem dX7_init_144 : decode cX7_init 144 = .ok (.aload_n 0, 1) := by decide +kernel
theorem dX7_init_145 : decode cX7_init 145 = .ok (.sipush 3000, 3) := by decide +kernel
theorem dX7_init_148 : decode cX7_init 148 = .ok (.newarray .int, 2) := by decide +kernel
theorem dX7_init_150 : decode cX7_init 150 = .ok (.putfield 59, 3) := by decide +kernel
theorem dX7_init_153 : decode cX7_init 153 = .ok (.return_, 1) := by decide +kernel
theorem dX7_thrown_0 : decode cX7_thrown 0 = .ok (.aload_n 0, 1) := by decide +kernel
theorem dX7_thrown_1 : decode cX7_thrown 1 = .ok (.getfield 62, 3) := by decide +kernel
theorem dX7_thrown_4 : decode cX7_thrown 4 = .ok (.ireturn, 1) := by decide +kernel
theorem dX7_type_0 : decode cX7_type 0 = .ok (.aload_n 0, 1) := by decide +kernel
theorem dX7_type_1 : decode cX7_type 1 = .ok (.iload_n 3, 1) := by decide +kernel
theorem dX7_type_2 : decode cX7_type 2 = .ok (.iconst 1, 1) := by decide +kernel
theorem dX7_type_3 : decode cX7_type 3 = .ok (.if_icmp .lt 9, 3) := by decide +kernel
theorem dX7_type_6 : decode cX7_type 6 = .ok (.iload_n 3, 1) := by decide +kernel
theorem dX7_type_7 : decode cX7_type 7 = .ok (.bipush 8, 2) := by decide +kernel
theorem dX7_type_9 : decode cX7_type 9 = .ok (.if_icmp .le 7, 3) := by decide +kernel
theorem dX7_type_12 : decode cX7_type 12 = .ok (.iconst 1, 1) := by decide +kernel
theorem dX7_type_13 : decode cX7_type 13 = .ok (.goto 20, 3) := by decide +kernel
theorem dX7_type_16 : decode cX7_type 16 = .ok (.aload_n 0, 1) := by decide +kernel
theorem dX7_type_17 : decode cX7_type 17 = .ok (.getfield 66, 3) := by decide +kernel
theorem dX7_type_20 : decode cX7_type 20 = .ok (.iload_n 3, 1) := by decide +kernel
theorem dX7_type_21 : decode cX7_type 21 = .ok (.iadd, 1) := by decide +kernel
theorem dX7_type_22 : decode cX7_type 22 = .ok (.sipush 8000, 3) := by decide +kernel
theorem dX7_type_25 : decode cX7_type 25 = .ok (.if_icmp .le 7, 3) := by decide +kernel
theorem dX7_type_28 : decode cX7_type 28 = .ok (.iconst 2, 1) := by decide +kernel
theorem dX7_type_29 : decode cX7_type 29 = .ok (.goto 4, 3) := by decide +kernel
theorem dX7_type_32 : decode cX7_type 32 = .ok (.iconst 0, 1) := by decide +kernel
theorem dX7_type_33 : decode cX7_type 33 = .ok (.putfield 62, 3) := by decide +kernel
theorem dX7_type_36 : decode cX7_type 36 = .ok (.aload_n 0, 1) := by decide +kernel
theorem dX7_type_37 : decode cX7_type 37 = .ok (.getfield 62, 3) := by decide +kernel
theorem dX7_type_40 : decode cX7_type 40 = .ok (.ifCond .le 5, 3) := by decide +kernel
theorem dX7_type_43 : decode cX7_type 43 = .ok (.iconst 0, 1) := by decide +kernel
theorem dX7_type_44 : decode cX7_type 44 = .ok (.ireturn, 1) := by decide +kernel
theorem dX7_type_45 : decode cX7_type 45 = .ok (.iload_n 3, 1) := by decide +kernel
theorem dX7_type_46 : decode cX7_type 46 = .ok (.iconst 1, 1) := by decide +kernel
theorem dX7_type_47 : decode cX7_type 47 = .ok (.isub, 1) := by decide +kernel
theorem dX7_type_48 : decode cX7_type 48 = .ok (.istore 4, 2) := by decide +kernel
theorem dX7_type_50 : decode cX7_type 50 = .ok (.iload 4, 2) := by decide +kernel
theorem dX7_type_52 : decode cX7_type 52 = .ok (.ifCond .lt 37, 3) := by decide +kernel
theorem dX7_type_55 : decode cX7_type 55 = .ok (.aload_n 0, 1) := by decide +kernel
theorem dX7_type_56 : decode cX7_type 56 = .ok (.getfield 7, 3) := by decide +kernel
theorem dX7_type_59 : decode cX7_type 59 = .ok (.aload_n 0, 1) := by decide +kernel
theorem dX7_type_60 : decode cX7_type 60 = .ok (.getfield 66, 3) := by decide +kernel
theorem dX7_type_63 : decode cX7_type 63 = .ok (.lload_n 1, 1) := by decide +kernel
theorem dX7_type_64 : decode cX7_type 64 = .ok (.bipush 8, 2) := by decide +kernel
theorem dX7_type_66 : decode cX7_type 66 = .ok (.iload 4, 2) := by decide +kernel
theorem dX7_type_68 : decode cX7_type 68 = .ok (.imul, 1) := by decide +kernel
theorem dX7_type_69 : decode cX7_type 69 = .ok (.lshr, 1) := by decide +kernel
theorem dX7_type_70 : decode cX7_type 70 = .ok (.l2i, 1) := by decide +kernel
theorem dX7_type_71 : decode cX7_type 71 = .ok (.i2b, 1) := by decide +kernel
theorem dX7_type_72 : decode cX7_type 72 = .ok (.bastore, 1) := by decide +kernel
theorem dX7_type_73 : decode cX7_type 73 = .ok (.aload_n 0, 1) := by decide +kernel
theorem dX7_type_74 : decode cX7_type 74 = .ok (.dup, 1) := by decide +kernel
theorem dX7_type_75 : decode cX7_type 75 = .ok (.getfield 66, 3) := by decide +kernel
theorem dX7_type_78 : decode cX7_type 78 = .ok (.iconst 1, 1) := by decide +kernel
theorem dX7_type_79 : decode cX7_type 79 = .ok (.iadd, 1) := by decide +kernel
theorem dX7_type_80 : decode cX7_type 80 = .ok (.putfield 66, 3) := by decide +kernel
theorem dX7_type_83 : decode cX7_type 83 = .ok (.iinc 4 (-1), 3) := by decide +kernel
theorem dX7_type_86 : decode cX7_type 86 = .ok (.goto (-36), 3) := by decide +kernel
theorem dX7_type_89 : decode cX7_type 89 = .ok (.aload_n 0, 1) := by decide +kernel
theorem dX7_type_90 : decode cX7_type 90 = .ok (.getfield 66, 3) := by decide +kernel
theorem dX7_type_93 : decode cX7_type 93 = .ok (.ireturn, 1) := by decide +kernel
theorem dX7_keep_0 : decode cX7_keep 0 = .ok (.aload_n 0, 1) := by decide +kernel
theorem dX7_keep_1 : decode cX7_keep 1 = .ok (.iload_n 1, 1) := by decide +kernel
theorem dX7_keep_2 : decode cX7_keep 2 = .ok (.ifCond .lt 11, 3) := by decide +kernel
theorem dX7_keep_5 : decode cX7_keep 5 = .ok (.iload_n 1, 1) := by decide +kernel
theorem dX7_keep_6 : decode cX7_keep 6 = .ok (.aload_n 0, 1) := by decide +kernel
theorem dX7_keep_7 : decode cX7_keep 7 = .ok (.getfield 66, 3) := by decide +kernel
theorem dX7_keep_10 : decode cX7_keep 10 = .ok (.if_icmp .le 7, 3) := by decide +kernel
theorem dX7_keep_13 : decode cX7_keep 13 = .ok (.iconst 1, 1) := by decide +kernel
theorem dX7_keep_14 : decode cX7_keep 14 = .ok (.goto 4, 3) := by decide +kernel
theorem dX7_keep_17 : decode cX7_keep 17 = .ok (.iconst 0, 1) := by decide +kernel
theorem dX7_keep_18 : decode cX7_keep 18 = .ok (.putfield 62, 3) := by decide +kernel
theorem dX7_keep_21 : decode cX7_keep 21 = .ok (.aload_n 0, 1) := by decide +kernel
theorem dX7_keep_22 : decode cX7_keep 22 = .ok (.aload_n 0, 1) := by decide +kernel
theorem dX7_keep_23 : decode cX7_keep 23 = .ok (.getfield 62, 3) := by decide +kernel
theorem dX7_keep_26 : decode cX7_keep 26 = .ok (.ifCond .le 10, 3) := by decide +kernel
theorem dX7_keep_29 : decode cX7_keep 29 = .ok (.aload_n 0, 1) := by decide +kernel
theorem dX7_keep_30 : decode cX7_keep 30 = .ok (.getfield 66, 3) := by decide +kernel
theorem dX7_keep_33 : decode cX7_keep 33 = .ok (.goto 4, 3) := by decide +kernel
theorem dX7_keep_36 : decode cX7_keep 36 = .ok (.iload_n 1, 1) := by decide +kernel
theorem dX7_keep_37 : decode cX7_keep 37 = .ok (.putfield 66, 3) := by decide +kernel
theorem dX7_keep_40 : decode cX7_keep 40 = .ok (.return_, 1) := by decide +kernel
theorem dX7_look_0 : decode cX7_look 0 = .ok (.aload_n 0, 1) := by decide +kernel
theorem dX7_look_1 : decode cX7_look 1 = .ok (.getfield 69, 3) := by decide +kernel
theorem dX7_look_4 : decode cX7_look 4 = .ok (.aload_n 0, 1) := by decide +kernel
theorem dX7_look_5 : decode cX7_look 5 = .ok (.getfield 66, 3) := by decide +kernel
theorem dX7_look_8 : decode cX7_look 8 = .ok (.if_icmp .ge 72, 3) := by decide +kernel
theorem dX7_look_11 : decode cX7_look 11 = .ok (.aload_n 0, 1) := by decide +kernel
theorem dX7_look_12 : decode cX7_look 12 = .ok (.getfield 7, 3) := by decide +kernel
theorem dX7_look_15 : decode cX7_look 15 = .ok (.aload_n 0, 1) := by decide +kernel
theorem dX7_look_16 : decode cX7_look 16 = .ok (.getfield 69, 3) := by decide +kernel
theorem dX7_look_19 : decode cX7_look 19 = .ok (.baload, 1) := by decide +kernel
theorem dX7_look_20 : decode cX7_look 20 = .ok (.bipush 9, 2) := by decide +kernel
theorem dX7_look_22 : decode cX7_look 22 = .ok (.if_icmp .eq 45, 3) := by decide +kernel
theorem dX7_look_25 : decode cX7_look 25 = .ok (.aload_n 0, 1) := by decide +kernel
theorem dX7_look_26 : decode cX7_look 26 = .ok (.getfield 7, 3) := by decide +kernel
theorem dX7_look_29 : decode cX7_look 29 = .ok (.aload_n 0, 1) := by decide +kernel
theorem dX7_look_30 : decode cX7_look 30 = .ok (.getfield 69, 3) := by decide +kernel
theorem dX7_look_33 : decode cX7_look 33 = .ok (.baload, 1) := by decide +kernel
theorem dX7_look_34 : decode cX7_look 34 = .ok (.bipush 10, 2) := by decide +kernel
theorem dX7_look_36 : decode cX7_look 36 = .ok (.if_icmp .eq 31, 3) := by decide +kernel
theorem dX7_look_39 : decode cX7_look 39 = .ok (.aload_n 0, 1) := by decide +kernel
theorem dX7_look_40 : decode cX7_look 40 = .ok (.getfield 7, 3) := by decide +kernel
theorem dX7_look_43 : decode cX7_look 43 = .ok (.aload_n 0, 1) := by decide +kernel
theorem dX7_look_44 : decode cX7_look 44 = .ok (.getfield 69, 3) := by decide +kernel
theorem dX7_look_47 : decode cX7_look 47 = .ok (.baload, 1) := by decide +kernel
theorem dX7_look_48 : decode cX7_look 48 = .ok (.bipush 13, 2) := by decide +kernel
theorem dX7_look_50 : decode cX7_look 50 = .ok (.if_icmp .eq 17, 3) := by decide +kernel
theorem dX7_look_53 : decode cX7_look 53 = .ok (.aload_n 0, 1) := by decide +kernel
theorem dX7_look_54 : decode cX7_look 54 = .ok (.getfield 7, 3) := by decide +kernel
theorem dX7_look_57 : decode cX7_look 57 = .ok (.aload_n 0, 1) := by decide +kernel
theorem dX7_look_58 : decode cX7_look 58 = .ok (.getfield 69, 3) := by decide +kernel
theorem dX7_look_61 : decode cX7_look 61 = .ok (.baload, 1) := by decide +kernel
theorem dX7_look_62 : decode cX7_look 62 = .ok (.bipush 32, 2) := by decide +kernel
theorem dX7_look_64 : decode cX7_look 64 = .ok (.if_icmp .ne 16, 3) := by decide +kernel
theorem dX7_look_67 : decode cX7_look 67 = .ok (.aload_n 0, 1) := by decide +kernel
theorem dX7_look_68 : decode cX7_look 68 = .ok (.dup, 1) := by decide +kernel
theorem dX7_look_69 : decode cX7_look 69 = .ok (.getfield 69, 3) := by decide +kernel
theorem dX7_look_72 : decode cX7_look 72 = .ok (.iconst 1, 1) := by decide +kernel
theorem dX7_look_73 : decode cX7_look 73 = .ok (.iadd, 1) := by decide +kernel
theorem dX7_look_74 : decode cX7_look 74 = .ok (.putfield 69, 3) := by decide +kernel
theorem dX7_look_77 : decode cX7_look 77 = .ok (.goto (-77), 3) := by decide +kernel
theorem dX7_look_80 : decode cX7_look 80 = .ok (.aload_n 0, 1) := by decide +kernel
theorem dX7_look_81 : decode cX7_look 81 = .ok (.getfield 69, 3) := by decide +kernel
theorem dX7_look_84 : decode cX7_look 84 = .ok (.aload_n 0, 1) := by decide +kernel
theorem dX7_look_85 : decode cX7_look 85 = .ok (.getfield 66, 3) := by decide +kernel
theorem dX7_look_88 : decode cX7_look 88 = .ok (.if_icmp .ge 19, 3) := by decide +kernel
theorem dX7_look_91 : decode cX7_look 91 = .ok (.aload_n 0, 1) := by decide +kernel
theorem dX7_look_92 : decode cX7_look 92 = .ok (.getfield 7, 3) := by decide +kernel
theorem dX7_look_95 : decode cX7_look 95 = .ok (.aload_n 0, 1) := by decide +kernel
theorem dX7_look_96 : decode cX7_look 96 = .ok (.getfield 69, 3) := by decide +kernel
theorem dX7_look_99 : decode cX7_look 99 = .ok (.baload, 1) := by decide +kernel
theorem dX7_look_100 : decode cX7_look 100 = .ok (.sipush 255, 3) := by decide +kernel
theorem dX7_look_103 : decode cX7_look 103 = .ok (.iand, 1) := by decide +kernel
theorem dX7_look_104 : decode cX7_look 104 = .ok (.goto 4, 3) := by decide +kernel
theorem dX7_look_107 : decode cX7_look 107 = .ok (.iconst (-1), 1) := by decide +kernel
theorem dX7_look_108 : decode cX7_look 108 = .ok (.ireturn, 1) := by decide +kernel
theorem dX7_bad_0 : decode cX7_bad 0 = .ok (.aload_n 0, 1) := by decide +kernel
theorem dX7_bad_1 : decode cX7_bad 1 = .ok (.getfield 72, 3) := by decide +kernel
theorem dX7_bad_4 : decode cX7_bad 4 = .ok (.ifCond .ne 13, 3) := by decide +kernel
theorem dX7_bad_7 : decode cX7_bad 7 = .ok (.aload_n 0, 1) := by decide +kernel
theorem dX7_bad_8 : decode cX7_bad 8 = .ok (.iload_n 1, 1) := by decide +kernel
theorem dX7_bad_9 : decode cX7_bad 9 = .ok (.putfield 72, 3) := by decide +kernel
theorem dX7_bad_12 : decode cX7_bad 12 = .ok (.aload_n 0, 1) := by decide +kernel
theorem dX7_bad_13 : decode cX7_bad 13 = .ok (.iload_n 2, 1) := by decide +kernel
theorem dX7_bad_14 : decode cX7_bad 14 = .ok (.putfield 69, 3) := by decide +kernel
theorem dX7_bad_17 : decode cX7_bad 17 = .ok (.return_, 1) := by decide +kernel
theorem dX7_isLetter_0 : decode cX7_isLetter 0 = .ok (.iload_n 0, 1) := by decide +kernel
theorem dX7_isLetter_1 : decode cX7_isLetter 1 = .ok (.bipush 97, 2) := by decide +kernel
theorem dX7_isLetter_3 : decode cX7_isLetter 3 = .ok (.if_icmp .lt 13, 3) := by decide +kernel
theorem dX7_isLetter_6 : decode cX7_isLetter 6 = .ok (.iload_n 0, 1) := by decide +kernel
theorem dX7_isLetter_7 : decode cX7_isLetter 7 = .ok (.bipush 122, 2) := by decide +kernel
theorem dX7_isLetter_9 : decode cX7_isLetter 9 = .ok (.if_icmp .gt 7, 3) := by decide +kernel
theorem dX7_isLetter_12 : decode cX7_isLetter 12 = .ok (.iconst 1, 1) := by decide +kernel
theorem dX7_isLetter_13 : decode cX7_isLetter 13 = .ok (.goto 4, 3) := by decide +kernel
theorem dX7_isLetter_16 : decode cX7_isLetter 16 = .ok (.iconst 0, 1) := by decide +kernel
theorem dX7_isLetter_17 : decode cX7_isLetter 17 = .ok (.ireturn, 1) := by decide +kernel
theorem dX7_isDigit_0 : decode cX7_isDigit 0 = .ok (.iload_n 0, 1) := by decide +kernel
theorem dX7_isDigit_1 : decode cX7_isDigit 1 = .ok (.bipush 48, 2) := by decide +kernel
theorem dX7_isDigit_3 : decode cX7_isDigit 3 = .ok (.if_icmp .lt 13, 3) := by decide +kernel
theorem dX7_isDigit_6 : decode cX7_isDigit 6 = .ok (.iload_n 0, 1) := by decide +kernel
theorem dX7_isDigit_7 : decode cX7_isDigit 7 = .ok (.bipush 57, 2) := by decide +kernel
theorem dX7_isDigit_9 : decode cX7_isDigit 9 = .ok (.if_icmp .gt 7, 3) := by decide +kernel
theorem dX7_isDigit_12 : decode cX7_isDigit 12 = .ok (.iconst 1, 1) := by decide +kernel
theorem dX7_isDigit_13 : decode cX7_isDigit 13 = .ok (.goto 4, 3) := by decide +kernel
theorem dX7_isDigit_16 : decode cX7_isDigit 16 = .ok (.iconst 0, 1) := by decide +kernel
theorem dX7_isDigit_17 : decode cX7_isDigit 17 = .ok (.ireturn, 1) := by decide +kernel
theorem dX7_nameEnd_0 : decode cX7_nameEnd 0 = .ok (.aload_n 0, 1) := by decide +kernel
theorem dX7_nameEnd_1 : decode cX7_nameEnd 1 = .ok (.getfield 69, 3) := by decide +kernel
theorem dX7_nameEnd_4 : decode cX7_nameEnd 4 = .ok (.istore_n 1, 1) := by decide +kernel
theorem dX7_nameEnd_5 : decode cX7_nameEnd 5 = .ok (.aload_n 0, 1) := by decide +kernel
theorem dX7_nameEnd_6 : decode cX7_nameEnd 6 = .ok (.invokevirtual 75, 3) := by decide +kernel
theorem dX7_nameEnd_9 : decode cX7_nameEnd 9 = .ok (.invokestatic 79, 3) := by decide +kernel
theorem dX7_nameEnd_12 : decode cX7_nameEnd 12 = .ok (.ifCond .ne 17, 3) := by decide +kernel
theorem dX7_nameEnd_15 : decode cX7_nameEnd 15 = .ok (.aload_n 0, 1) := by decide +kernel
theorem dX7_nameEnd_16 : decode cX7_nameEnd 16 = .ok (.iconst 1, 1) := by decide +kernel
theorem dX7_nameEnd_17 : decode cX7_nameEnd 17 = .ok (.aload_n 0, 1) := by decide +kernel
theorem dX7_nameEnd_18 : decode cX7_nameEnd 18 = .ok (.getfield 69, 3) := by decide +kernel
theorem dX7_nameEnd_21 : decode cX7_nameEnd 21 = .ok (.invokevirtual 83, 3) := by decide +kernel
theorem dX7_nameEnd_24 : decode cX7_nameEnd 24 = .ok (.aload_n 0, 1) := by decide +kernel
theorem dX7_nameEnd_25 : decode cX7_nameEnd 25 = .ok (.getfield 69, 3) := by decide +kernel
theorem dX7_nameEnd_28 : decode cX7_nameEnd 28 = .ok (.ireturn, 1) := by decide +kernel
theorem dX7_nameEnd_29 : decode cX7_nameEnd 29 = .ok (.aload_n 0, 1) := by decide +kernel
theorem dX7_nameEnd_30 : decode cX7_nameEnd 30 = .ok (.getfield 69, 3) := by decide +kernel
theorem dX7_nameEnd_33 : decode cX7_nameEnd 33 = .ok (.istore_n 1, 1) := by decide +kernel
theorem dX7_nameEnd_34 : decode cX7_nameEnd 34 = .ok (.iload_n 1, 1) := by decide +kernel
theorem dX7_nameEnd_35 : decode cX7_nameEnd 35 = .ok (.istore_n 2, 1) := by decide +kernel
theorem dX7_nameEnd_36 : decode cX7_nameEnd 36 = .ok (.iload_n 2, 1) := by decide +kernel
theorem dX7_nameEnd_37 : decode cX7_nameEnd 37 = .ok (.aload_n 0, 1) := by decide +kernel
theorem dX7_nameEnd_38 : decode cX7_nameEnd 38 = .ok (.getfield 66, 3) := by decide +kernel
theorem dX7_nameEnd_41 : decode cX7_nameEnd 41 = .ok (.if_icmp .ge 33, 3) := by decide +kernel
theorem dX7_nameEnd_44 : decode cX7_nameEnd 44 = .ok (.aload_n 0, 1) := by decide +kernel
theorem dX7_nameEnd_45 : decode cX7_nameEnd 45 = .ok (.getfield 7, 3) := by decide +kernel
theorem dX7_nameEnd_48 : decode cX7_nameEnd 48 = .ok (.iload_n 2, 1) := by decide +kernel
theorem dX7_nameEnd_49 : decode cX7_nameEnd 49 = .ok (.baload, 1) := by decide +kernel
theorem dX7_nameEnd_50 : decode cX7_nameEnd 50 = .ok (.invokestatic 79, 3) := by decide +kernel
theorem dX7_nameEnd_53 : decode cX7_nameEnd 53 = .ok (.ifCond .ne 15, 3) := by decide +kernel
theorem dX7_nameEnd_56 : decode cX7_nameEnd 56 = .ok (.aload_n 0, 1) := by decide +kernel
theorem dX7_nameEnd_57 : decode cX7_nameEnd 57 = .ok (.getfield 7, 3) := by decide +kernel
theorem dX7_nameEnd_60 : decode cX7_nameEnd 60 = .ok (.iload_n 2, 1) := by decide +kernel
theorem dX7_nameEnd_61 : decode cX7_nameEnd 61 = .ok (.baload, 1) := by decide +kernel
theorem dX7_nameEnd_62 : decode cX7_nameEnd 62 = .ok (.invokestatic 87, 3) := by decide +kernel
theorem dX7_nameEnd_65 : decode cX7_nameEnd 65 = .ok (.ifCond .eq 9, 3) := by decide +kernel
theorem dX7_nameEnd_68 : decode cX7_nameEnd 68 = .ok (.iinc 2 1, 3) := by decide +kernel
theorem dX7_nameEnd_71 : decode cX7_nameEnd 71 = .ok (.goto (-35), 3) := by decide +kernel
theorem dX7_nameEnd_74 : decode cX7_nameEnd 74 = .ok (.iload_n 2, 1) := by decide +kernel
theorem dX7_nameEnd_75 : decode cX7_nameEnd 75 = .ok (.iload_n 1, 1) := by decide +kernel
theorem dX7_nameEnd_76 : decode cX7_nameEnd 76 = .ok (.isub, 1) := by decide +kernel
theorem dX7_nameEnd_77 : decode cX7_nameEnd 77 = .ok (.bipush 10, 2) := by decide +kernel
theorem dX7_nameEnd_79 : decode cX7_nameEnd 79 = .ok (.if_icmp .le 9, 3) := by decide +kernel
theorem dX7_nameEnd_82 : decode cX7_nameEnd 82 = .ok (.aload_n 0, 1) := by decide +kernel
theorem dX7_nameEnd_83 : decode cX7_nameEnd 83 = .ok (.iconst 1, 1) := by decide +kernel
theorem dX7_nameEnd_84 : decode cX7_nameEnd 84 = .ok (.iload_n 1, 1) := by decide +kernel
theorem dX7_nameEnd_85 : decode cX7_nameEnd 85 = .ok (.invokevirtual 83, 3) := by decide +kernel
theorem dX7_nameEnd_88 : decode cX7_nameEnd 88 = .ok (.iload_n 2, 1) := by decide +kernel
theorem dX7_nameEnd_89 : decode cX7_nameEnd 89 = .ok (.ireturn, 1) := by decide +kernel
theorem dX7_word_0 : decode cX7_word 0 = .ok (.aload_n 0, 1) := by decide +kernel
theorem dX7_word_1 : decode cX7_word 1 = .ok (.getfield 72, 3) := by decide +kernel
theorem dX7_word_4 : decode cX7_word 4 = .ok (.ifCond .le 4, 3) := by decide +kernel
theorem dX7_word_7 : decode cX7_word 7 = .ok (.return_, 1) := by decide +kernel
theorem dX7_word_8 : decode cX7_word 8 = .ok (.aload_n 0, 1) := by decide +kernel
theorem dX7_word_9 : decode cX7_word 9 = .ok (.invokevirtual 90, 3) := by decide +kernel
theorem dX7_word_12 : decode cX7_word 12 = .ok (.istore_n 3, 1) := by decide +kernel
theorem dX7_word_13 : decode cX7_word 13 = .ok (.aload_n 0, 1) := by decide +kernel
theorem dX7_word_14 : decode cX7_word 14 = .ok (.getfield 72, 3) := by decide +kernel
theorem dX7_word_17 : decode cX7_word 17 = .ok (.ifCond .ne 50, 3) := by decide +kernel
theorem dX7_word_20 : decode cX7_word 20 = .ok (.iload_n 3, 1) := by decide +kernel
theorem dX7_word_21 : decode cX7_word 21 = .ok (.aload_n 0, 1) := by decide +kernel
theorem dX7_word_22 : decode cX7_word 22 = .ok (.getfield 69, 3) := by decide +kernel
theorem dX7_word_25 : decode cX7_word 25 = .ok (.isub, 1) := by decide +kernel
theorem dX7_word_26 : decode cX7_word 26 = .ok (.iconst 2, 1) := by decide +kernel
theorem dX7_word_27 : decode cX7_word 27 = .ok (.if_icmp .ne 31, 3) := by decide +kernel
theorem dX7_word_30 : decode cX7_word 30 = .ok (.aload_n 0, 1) := by decide +kernel
theorem dX7_word_31 : decode cX7_word 31 = .ok (.getfield 7, 3) := by decide +kernel
theorem dX7_word_34 : decode cX7_word 34 = .ok (.aload_n 0, 1) := by decide +kernel
theorem dX7_word_35 : decode cX7_word 35 = .ok (.getfield 69, 3) := by decide +kernel
theorem dX7_word_38 : decode cX7_word 38 = .ok (.baload, 1) := by decide +kernel
theorem dX7_word_39 : decode cX7_word 39 = .ok (.iload_n 1, 1) := by decide +kernel
theorem dX7_word_40 : decode cX7_word 40 = .ok (.if_icmp .ne 18, 3) := by decide +kernel
theorem dX7_word_43 : decode cX7_word 43 = .ok (.aload_n 0, 1) := by decide +kernel
theorem dX7_word_44 : decode cX7_word 44 = .ok (.getfield 7, 3) := by decide +kernel
theorem dX7_word_47 : decode cX7_word 47 = .ok (.aload_n 0, 1) := by decide +kernel
theorem dX7_word_48 : decode cX7_word 48 = .ok (.getfield 69, 3) := by decide +kernel
theorem dX7_word_51 : decode cX7_word 51 = .ok (.iconst 1, 1) := by decide +kernel
theorem dX7_word_52 : decode cX7_word 52 = .ok (.iadd, 1) := by decide +kernel
theorem dX7_word_53 : decode cX7_word 53 = .ok (.baload, 1) := by decide +kernel
theorem dX7_word_54 : decode cX7_word 54 = .ok (.iload_n 2, 1) := by decide +kernel
theorem dX7_word_55 : decode cX7_word 55 = .ok (.if_icmp .eq 12, 3) := by decide +kernel
theorem dX7_word_58 : decode cX7_word 58 = .ok (.aload_n 0, 1) := by decide +kernel
theorem dX7_word_59 : decode cX7_word 59 = .ok (.iconst 1, 1) := by decide +kernel
theorem dX7_word_60 : decode cX7_word 60 = .ok (.aload_n 0, 1) := by decide +kernel
theorem dX7_word_61 : decode cX7_word 61 = .ok (.getfield 69, 3) := by decide +kernel
theorem dX7_word_64 : decode cX7_word 64 = .ok (.invokevirtual 83, 3) := by decide +kernel
theorem dX7_word_67 : decode cX7_word 67 = .ok (.aload_n 0, 1) := by decide +kernel
theorem dX7_word_68 : decode cX7_word 68 = .ok (.aload_n 0, 1) := by decide +kernel
theorem dX7_word_69 : decode cX7_word 69 = .ok (.getfield 72, 3) := by decide +kernel
theorem dX7_word_72 : decode cX7_word 72 = .ok (.ifCond .ne 7, 3) := by decide +kernel
theorem dX7_word_75 : decode cX7_word 75 = .ok (.iload_n 3, 1) := by decide +kernel
theorem dX7_word_76 : decode cX7_word 76 = .ok (.goto 7, 3) := by decide +kernel
theorem dX7_word_79 : decode cX7_word 79 = .ok (.aload_n 0, 1) := by decide +kernel
theorem dX7_word_80 : decode cX7_word 80 = .ok (.getfield 69, 3) := by decide +kernel
theorem dX7_word_83 : decode cX7_word 83 = .ok (.putfield 69, 3) := by decide +kernel
theorem dX7_word_86 : decode cX7_word 86 = .ok (.return_, 1) := by decide +kernel
theorem dX7_sign_0 : decode cX7_sign 0 = .ok (.aload_n 0, 1) := by decide +kernel
theorem dX7_sign_1 : decode cX7_sign 1 = .ok (.getfield 72, 3) := by decide +kernel
theorem dX7_sign_4 : decode cX7_sign 4 = .ok (.ifCond .ne 20, 3) := by decide +kernel
theorem dX7_sign_7 : decode cX7_sign 7 = .ok (.aload_n 0, 1) := by decide +kernel
theorem dX7_sign_8 : decode cX7_sign 8 = .ok (.invokevirtual 75, 3) := by decide +kernel
theorem dX7_sign_11 : decode cX7_sign 11 = .ok (.iload_n 1, 1) := by decide +kernel
theorem dX7_sign_12 : decode cX7_sign 12 = .ok (.if_icmp .eq 12, 3) := by decide +kernel
theorem dX7_sign_15 : decode cX7_sign 15 = .ok (.aload_n 0, 1) := by decide +kernel
theorem dX7_sign_16 : decode cX7_sign 16 = .ok (.iconst 1, 1) := by decide +kernel
theorem dX7_sign_17 : decode cX7_sign 17 = .ok (.aload_n 0, 1) := by decide +kernel
theorem dX7_sign_18 : decode cX7_sign 18 = .ok (.getfield 69, 3) := by decide +kernel
theorem dX7_sign_21 : decode cX7_sign 21 = .ok (.invokevirtual 83, 3) := by decide +kernel
theorem dX7_sign_24 : decode cX7_sign 24 = .ok (.aload_n 0, 1) := by decide +kernel
theorem dX7_sign_25 : decode cX7_sign 25 = .ok (.dup, 1) := by decide +kernel
theorem dX7_sign_26 : decode cX7_sign 26 = .ok (.getfield 69, 3) := by decide +kernel
theorem dX7_sign_29 : decode cX7_sign 29 = .ok (.aload_n 0, 1) := by decide +kernel
theorem dX7_sign_30 : decode cX7_sign 30 = .ok (.getfield 72, 3) := by decide +kernel
theorem dX7_sign_33 : decode cX7_sign 33 = .ok (.ifCond .ne 7, 3) := by decide +kernel
theorem dX7_sign_36 : decode cX7_sign 36 = .ok (.iconst 1, 1) := by decide +kernel
theorem dX7_sign_37 : decode cX7_sign 37 = .ok (.goto 4, 3) := by decide +kernel
theorem dX7_sign_40 : decode cX7_sign 40 = .ok (.iconst 0, 1) := by decide +kernel
theorem dX7_sign_41 : decode cX7_sign 41 = .ok (.iadd, 1) := by decide +kernel
theorem dX7_sign_42 : decode cX7_sign 42 = .ok (.putfield 69, 3) := by decide +kernel
theorem dX7_sign_45 : decode cX7_sign 45 = .ok (.return_, 1) := by decide +kernel
theorem dX7_find_0 : decode cX7_find 0 = .ok (.iload_n 1, 1) := by decide +kernel
theorem dX7_find_1 : decode cX7_find 1 = .ok (.istore 4, 2) := by decide +kernel
theorem dX7_find_3 : decode cX7_find 3 = .ok (.iload 4, 2) := by decide +kernel
theorem dX7_find_5 : decode cX7_find 5 = .ok (.iload_n 1, 1) := by decide +kernel
theorem dX7_find_6 : decode cX7_find 6 = .ok (.iload_n 2, 1) := by decide +kernel
theorem dX7_find_7 : decode cX7_find 7 = .ok (.iadd, 1) := by decide +kernel
theorem dX7_find_8 : decode cX7_find 8 = .ok (.if_icmp .ge 102, 3) := by decide +kernel
theorem dX7_find_11 : decode cX7_find 11 = .ok (.aload_n 0, 1) := by decide +kernel
theorem dX7_find_12 : decode cX7_find 12 = .ok (.getfield 16, 3) := by decide +kernel
theorem dX7_find_15 : decode cX7_find 15 = .ok (.iload 4, 2) := by decide +kernel
theorem dX7_find_17 : decode cX7_find 17 = .ok (.iaload, 1) := by decide +kernel
theorem dX7_find_18 : decode cX7_find 18 = .ok (.iload_n 3, 1) := by decide +kernel
theorem dX7_find_19 : decode cX7_find 19 = .ok (.aload_n 0, 1) := by decide +kernel
theorem dX7_find_20 : decode cX7_find 20 = .ok (.getfield 69, 3) := by decide +kernel
theorem dX7_find_23 : decode cX7_find 23 = .ok (.isub, 1) := by decide +kernel
theorem dX7_find_24 : decode cX7_find 24 = .ok (.if_icmp .ne 7, 3) := by decide +kernel
theorem dX7_find_27 : decode cX7_find 27 = .ok (.iconst 1, 1) := by decide +kernel
theorem dX7_find_28 : decode cX7_find 28 = .ok (.goto 4, 3) := by decide +kernel
theorem dX7_find_31 : decode cX7_find 31 = .ok (.iconst 0, 1) := by decide +kernel
theorem dX7_find_32 : decode cX7_find 32 = .ok (.istore 5, 2) := by decide +kernel
theorem dX7_find_34 : decode cX7_find 34 = .ok (.iconst 0, 1) := by decide +kernel
theorem dX7_find_35 : decode cX7_find 35 = .ok (.istore 6, 2) := by decide +kernel
theorem dX7_find_37 : decode cX7_find 37 = .ok (.iload 6, 2) := by decide +kernel
theorem dX7_find_39 : decode cX7_find 39 = .ok (.iload_n 3, 1) := by decide +kernel
theorem dX7_find_40 : decode cX7_find 40 = .ok (.aload_n 0, 1) := by decide +kernel
theorem dX7_find_41 : decode cX7_find 41 = .ok (.getfield 69, 3) := by decide +kernel
theorem dX7_find_44 : decode cX7_find 44 = .ok (.isub, 1) := by decide +kernel
theorem dX7_find_45 : decode cX7_find 45 = .ok (.if_icmp .ge 49, 3) := by decide +kernel
theorem dX7_find_48 : decode cX7_find 48 = .ok (.iload 5, 2) := by decide +kernel
theorem dX7_find_50 : decode cX7_find 50 = .ok (.ifCond .eq 44, 3) := by decide +kernel
theorem dX7_find_53 : decode cX7_find 53 = .ok (.aload_n 0, 1) := by decide +kernel
theorem dX7_find_54 : decode cX7_find 54 = .ok (.getfield 13, 3) := by decide +kernel
theorem dX7_find_57 : decode cX7_find 57 = .ok (.bipush 10, 2) := by decide +kernel
theorem dX7_find_59 : decode cX7_find 59 = .ok (.iload 4, 2) := by decide +kernel
theorem dX7_find_61 : decode cX7_find 61 = .ok (.imul, 1) := by decide +kernel
theorem dX7_find_62 : decode cX7_find 62 = .ok (.iload 6, 2) := by decide +kernel
theorem dX7_find_64 : decode cX7_find 64 = .ok (.iadd, 1) := by decide +kernel
theorem dX7_find_65 : decode cX7_find 65 = .ok (.baload, 1) := by decide +kernel
theorem dX7_find_66 : decode cX7_find 66 = .ok (.aload_n 0, 1) := by decide +kernel
theorem dX7_find_67 : decode cX7_find 67 = .ok (.getfield 7, 3) := by decide +kernel
theorem dX7_find_70 : decode cX7_find 70 = .ok (.aload_n 0, 1) := by decide +kernel
theorem dX7_find_71 : decode cX7_find 71 = .ok (.getfield 69, 3) := by decide +kernel
theorem dX7_find_74 : decode cX7_find 74 = .ok (.iload 6, 2) := by decide +kernel
theorem dX7_find_76 : decode cX7_find 76 = .ok (.iadd, 1) := by decide +kernel
theorem dX7_find_77 : decode cX7_find 77 = .ok (.baload, 1) := by decide +kernel
theorem dX7_find_78 : decode cX7_find 78 = .ok (.if_icmp .ne 7, 3) := by decide +kernel
theorem dX7_find_81 : decode cX7_find 81 = .ok (.iconst 1, 1) := by decide +kernel
theorem dX7_find_82 : decode cX7_find 82 = .ok (.goto 4, 3) := by decide +kernel
theorem dX7_find_85 : decode cX7_find 85 = .ok (.iconst 0, 1) := by decide +kernel
theorem dX7_find_86 : decode cX7_find 86 = .ok (.istore 5, 2) := by decide +kernel
theorem dX7_find_88 : decode cX7_find 88 = .ok (.iinc 6 1, 3) := by decide +kernel
theorem dX7_find_91 : decode cX7_find 91 = .ok (.goto (-54), 3) := by decide +kernel
theorem dX7_find_94 : decode cX7_find 94 = .ok (.iload 5, 2) := by decide +kernel
theorem dX7_find_96 : decode cX7_find 96 = .ok (.ifCond .eq 8, 3) := by decide +kernel
theorem dX7_find_99 : decode cX7_find 99 = .ok (.iload 4, 2) := by decide +kernel
theorem dX7_find_101 : decode cX7_find 101 = .ok (.iload_n 1, 1) := by decide +kernel
theorem dX7_find_102 : decode cX7_find 102 = .ok (.isub, 1) := by decide +kernel
theorem dX7_find_103 : decode cX7_find 103 = .ok (.ireturn, 1) := by decide +kernel
theorem dX7_find_104 : decode cX7_find 104 = .ok (.iinc 4 1, 3) := by decide +kernel
theorem dX7_find_107 : decode cX7_find 107 = .ok (.goto (-104), 3) := by decide +kernel
theorem dX7_find_110 : decode cX7_find 110 = .ok (.iconst (-1), 1) := by decide +kernel
theorem dX7_find_111 : decode cX7_find 111 = .ok (.ireturn, 1) := by decide +kernel
theorem dX7_store_0 : decode cX7_store 0 = .ok (.aload_n 0, 1) := by decide +kernel
theorem dX7_store_1 : decode cX7_store 1 = .ok (.getfield 16, 3) := by decide +kernel
theorem dX7_store_4 : decode cX7_store 4 = .ok (.iload_n 1, 1) := by decide +kernel
theorem dX7_store_5 : decode cX7_store 5 = .ok (.iload_n 2, 1) := by decide +kernel
theorem dX7_store_6 : decode cX7_store 6 = .ok (.aload_n 0, 1) := by decide +kernel
theorem dX7_store_7 : decode cX7_store 7 = .ok (.getfield 69, 3) := by decide +kernel
theorem dX7_store_10 : decode cX7_store 10 = .ok (.isub, 1) := by decide +kernel
theorem dX7_store_11 : decode cX7_store 11 = .ok (.iastore, 1) := by decide +kernel
theorem dX7_store_12 : decode cX7_store 12 = .ok (.iconst 0, 1) := by decide +kernel
theorem dX7_store_13 : decode cX7_store 13 = .ok (.istore_n 3, 1) := by decide +kernel
theorem dX7_store_14 : decode cX7_store 14 = .ok (.iload_n 3, 1) := by decide +kernel
theorem dX7_store_15 : decode cX7_store 15 = .ok (.iload_n 2, 1) := by decide +kernel
theorem dX7_store_16 : decode cX7_store 16 = .ok (.aload_n 0, 1) := by decide +kernel
theorem dX7_store_17 : decode cX7_store 17 = .ok (.getfield 69, 3) := by decide +kernel
theorem dX7_store_20 : decode cX7_store 20 = .ok (.isub, 1) := by decide +kernel
theorem dX7_store_21 : decode cX7_store 21 = .ok (.if_icmp .ge 31, 3) := by decide +kernel
theorem dX7_store_24 : decode cX7_store 24 = .ok (.aload_n 0, 1) := by decide +kernel
theorem dX7_store_25 : decode cX7_store 25 = .ok (.getfield 13, 3) := by decide +kernel
theorem dX7_store_28 : decode cX7_store 28 = .ok (.bipush 10, 2) := by decide +kernel
theorem dX7_store_30 : decode cX7_store 30 = .ok (.iload_n 1, 1) := by decide +kernel
theorem dX7_store_31 : decode cX7_store 31 = .ok (.imul, 1) := by decide +kernel
theorem dX7_store_32 : decode cX7_store 32 = .ok (.iload_n 3, 1) := by decide +kernel
theorem dX7_store_33 : decode cX7_store 33 = .ok (.iadd, 1) := by decide +kernel
theorem dX7_store_34 : decode cX7_store 34 = .ok (.aload_n 0, 1) := by decide +kernel
theorem dX7_store_35 : decode cX7_store 35 = .ok (.getfield 7, 3) := by decide +kernel
theorem dX7_store_38 : decode cX7_store 38 = .ok (.aload_n 0, 1) := by decide +kernel
theorem dX7_store_39 : decode cX7_store 39 = .ok (.getfield 69, 3) := by decide +kernel
theorem dX7_store_42 : decode cX7_store 42 = .ok (.iload_n 3, 1) := by decide +kernel
theorem dX7_store_43 : decode cX7_store 43 = .ok (.iadd, 1) := by decide +kernel
theorem dX7_store_44 : decode cX7_store 44 = .ok (.baload, 1) := by decide +kernel
theorem dX7_store_45 : decode cX7_store 45 = .ok (.bastore, 1) := by decide +kernel
theorem dX7_store_46 : decode cX7_store 46 = .ok (.iinc 3 1, 3) := by decide +kernel
theorem dX7_store_49 : decode cX7_store 49 = .ok (.goto (-35), 3) := by decide +kernel
theorem dX7_store_52 : decode cX7_store 52 = .ok (.return_, 1) := by decide +kernel
theorem dX7_readCondition_0 : decode cX7_readCondition 0 = .ok (.aload_n 0, 1) := by decide +kernel
theorem dX7_readCondition_1 : decode cX7_readCondition 1 = .ok (.invokevirtual 90, 3) := by decide +kernel
theorem dX7_readCondition_4 : decode cX7_readCondition 4 = .ok (.istore_n 1, 1) := by decide +kernel
theorem dX7_readCondition_5 : decode cX7_readCondition 5 = .ok (.aload_n 0, 1) := by decide +kernel
theorem dX7_readCondition_6 : decode cX7_readCondition 6 = .ok (.getfield 72, 3) := by decide +kernel
theorem dX7_readCondition_9 : decode cX7_readCondition 9 = .ok (.ifCond .ne 26, 3) := by decide +kernel
theorem dX7_readCondition_12 : decode cX7_readCondition 12 = .ok (.aload_n 0, 1) := by decide +kernel
theorem dX7_readCondition_13 : decode cX7_readCondition 13 = .ok (.bipush 80, 2) := by decide +kernel
theorem dX7_readCondition_15 : decode cX7_readCondition 15 = .ok (.aload_n 0, 1) := by decide +kernel
theorem dX7_readCondition_16 : decode cX7_readCondition 16 = .ok (.getfield 93, 3) := by decide +kernel
theorem dX7_readCondition_19 : decode cX7_readCondition 19 = .ok (.iload_n 1, 1) := by decide +kernel
theorem dX7_readCondition_20 : decode cX7_readCondition 20 = .ok (.invokevirtual 96, 3) := by decide +kernel
theorem dX7_readCondition_23 : decode cX7_readCondition 23 = .ok (.ifCond .lt 12, 3) := by decide +kernel
theorem dX7_readCondition_26 : decode cX7_readCondition 26 = .ok (.aload_n 0, 1) := by decide +kernel
theorem dX7_readCondition_27 : decode cX7_readCondition 27 = .ok (.iconst 2, 1) := by decide +kernel
theorem dX7_readCondition_28 : decode cX7_readCondition 28 = .ok (.aload_n 0, 1) := by decide +kernel
theorem dX7_readCondition_29 : decode cX7_readCondition 29 = .ok (.getfield 69, 3) := by decide +kernel
theorem dX7_readCondition_32 : decode cX7_readCondition 32 = .ok (.invokevirtual 83, 3) := by decide +kernel
theorem dX7_readCondition_35 : decode cX7_readCondition 35 = .ok (.aload_n 0, 1) := by decide +kernel
theorem dX7_readCondition_36 : decode cX7_readCondition 36 = .ok (.getfield 72, 3) := by decide +kernel
theorem dX7_readCondition_39 : decode cX7_readCondition 39 = .ok (.ifCond .ne 21, 3) := by decide +kernel
theorem dX7_readCondition_42 : decode cX7_readCondition 42 = .ok (.aload_n 0, 1) := by decide +kernel
theorem dX7_readCondition_43 : decode cX7_readCondition 43 = .ok (.getfield 93, 3) := by decide +kernel
theorem dX7_readCondition_46 : decode cX7_readCondition 46 = .ok (.bipush 16, 2) := by decide +kernel
theorem dX7_readCondition_48 : decode cX7_readCondition 48 = .ok (.if_icmp .ne 12, 3) := by decide +kernel
theorem dX7_readCondition_51 : decode cX7_readCondition 51 = .ok (.aload_n 0, 1) := by decide +kernel
theorem dX7_readCondition_52 : decode cX7_readCondition 52 = .ok (.iconst 3, 1) := by decide +kernel
theorem dX7_readCondition_53 : decode cX7_readCondition 53 = .ok (.aload_n 0, 1) := by decide +kernel
theorem dX7_readCondition_54 : decode cX7_readCondition 54 = .ok (.getfield 69, 3) := by decide +kernel
theorem dX7_readCondition_57 : decode cX7_readCondition 57 = .ok (.invokevirtual 83, 3) := by decide +kernel
theorem dX7_readCondition_60 : decode cX7_readCondition 60 = .ok (.aload_n 0, 1) := by decide +kernel
theorem dX7_readCondition_61 : decode cX7_readCondition 61 = .ok (.getfield 72, 3) := by decide +kernel
theorem dX7_readCondition_64 : decode cX7_readCondition 64 = .ok (.ifCond .ne 30, 3) := by decide +kernel
theorem dX7_readCondition_67 : decode cX7_readCondition 67 = .ok (.aload_n 0, 1) := by decide +kernel
theorem dX7_readCondition_68 : decode cX7_readCondition 68 = .ok (.bipush 80, 2) := by decide +kernel
theorem dX7_readCondition_70 : decode cX7_readCondition 70 = .ok (.aload_n 0, 1) := by decide +kernel
theorem dX7_readCondition_71 : decode cX7_readCondition 71 = .ok (.getfield 93, 3) := by decide +kernel
theorem dX7_readCondition_74 : decode cX7_readCondition 74 = .ok (.iadd, 1) := by decide +kernel
theorem dX7_readCondition_75 : decode cX7_readCondition 75 = .ok (.iload_n 1, 1) := by decide +kernel
theorem dX7_readCondition_76 : decode cX7_readCondition 76 = .ok (.invokevirtual 100, 3) := by decide +kernel
theorem dX7_readCondition_79 : decode cX7_readCondition 79 = .ok (.aload_n 0, 1) := by decide +kernel
theorem dX7_readCondition_80 : decode cX7_readCondition 80 = .ok (.dup, 1) := by decide +kernel
theorem dX7_readCondition_81 : decode cX7_readCondition 81 = .ok (.getfield 93, 3) := by decide +kernel
theorem dX7_readCondition_84 : decode cX7_readCondition 84 = .ok (.iconst 1, 1) := by decide +kernel
theorem dX7_readCondition_85 : decode cX7_readCondition 85 = .ok (.iadd, 1) := by decide +kernel
theorem dX7_readCondition_86 : decode cX7_readCondition 86 = .ok (.putfield 93, 3) := by decide +kernel
theorem dX7_readCondition_89 : decode cX7_readCondition 89 = .ok (.aload_n 0, 1) := by decide +kernel
theorem dX7_readCondition_90 : decode cX7_readCondition 90 = .ok (.iload_n 1, 1) := by decide +kernel
theorem dX7_readCondition_91 : decode cX7_readCondition 91 = .ok (.putfield 69, 3) := by decide +kernel
theorem dX7_readCondition_94 : decode cX7_readCondition 94 = .ok (.return_, 1) := by decide +kernel
theorem dX7_readRule_0 : decode cX7_readRule 0 = .ok (.sipush 256, 3) := by decide +kernel
theorem dX7_readRule_3 : decode cX7_readRule 3 = .ok (.aload_n 0, 1) := by decide +kernel
theorem dX7_readRule_4 : decode cX7_readRule 4 = .ok (.getfield 103, 3) := by decide +kernel
theorem dX7_readRule_7 : decode cX7_readRule 7 = .ok (.iadd, 1) := by decide +kernel
theorem dX7_readRule_8 : decode cX7_readRule 8 = .ok (.istore_n 1, 1) := by decide +kernel
theorem dX7_readRule_9 : decode cX7_readRule 9 = .ok (.iconst 0, 1) := by decide +kernel
theorem dX7_readRule_10 : decode cX7_readRule 10 = .ok (.istore_n 2, 1) := by decide +kernel
theorem dX7_readRule_11 : decode cX7_readRule 11 = .ok (.iload_n 2, 1) := by decide +kernel
theorem dX7_readRule_12 : decode cX7_readRule 12 = .ok (.aload_n 0, 1) := by decide +kernel
theorem dX7_readRule_13 : decode cX7_readRule 13 = .ok (.getfield 93, 3) := by decide +kernel
theorem dX7_readRule_16 : decode cX7_readRule 16 = .ok (.if_icmp .ge 151, 3) := by decide +kernel
theorem dX7_readRule_19 : decode cX7_readRule 19 = .ok (.aload_n 0, 1) := by decide +kernel
theorem dX7_readRule_20 : decode cX7_readRule 20 = .ok (.getfield 72, 3) := by decide +kernel
theorem dX7_readRule_23 : decode cX7_readRule 23 = .ok (.ifCond .ne 144, 3) := by decide +kernel
theorem dX7_readRule_26 : decode cX7_readRule 26 = .ok (.aload_n 0, 1) := by decide +kernel
theorem dX7_readRule_27 : decode cX7_readRule 27 = .ok (.invokevirtual 75, 3) := by decide +kernel
theorem dX7_readRule_30 : decode cX7_readRule 30 = .ok (.istore_n 3, 1) := by decide +kernel
theorem dX7_readRule_31 : decode cX7_readRule 31 = .ok (.iload_n 3, 1) := by decide +kernel
theorem dX7_readRule_32 : decode cX7_readRule 32 = .ok (.bipush 89, 2) := by decide +kernel
theorem dX7_readRule_34 : decode cX7_readRule 34 = .ok (.if_icmp .eq 27, 3) := by decide +kernel
theorem dX7_readRule_37 : decode cX7_readRule 37 = .ok (.iload_n 3, 1) := by decide +kernel
theorem dX7_readRule_38 : decode cX7_readRule 38 = .ok (.bipush 78, 2) := by decide +kernel
theorem dX7_readRule_40 : decode cX7_readRule 40 = .ok (.if_icmp .eq 21, 3) := by decide +kernel
theorem dX7_readRule_43 : decode cX7_readRule 43 = .ok (.iload_n 3, 1) := by decide +kernel
theorem dX7_readRule_44 : decode cX7_readRule 44 = .ok (.bipush 45, 2) := by decide +kernel
theorem dX7_readRule_46 : decode cX7_readRule 46 = .ok (.if_icmp .eq 15, 3) := by decide +kernel
theorem dX7_readRule_49 : decode cX7_readRule 49 = .ok (.aload_n 0, 1) := by decide +kernel
theorem dX7_readRule_50 : decode cX7_readRule 50 = .ok (.iconst 1, 1) := by decide +kernel
theorem dX7_readRule_51 : decode cX7_readRule 51 = .ok (.aload_n 0, 1) := by decide +kernel
theorem dX7_readRule_52 : decode cX7_readRule 52 = .ok (.getfield 69, 3) := by decide +kernel
theorem dX7_readRule_55 : decode cX7_readRule 55 = .ok (.invokevirtual 83, 3) := by decide +kernel
theorem dX7_readRule_58 : decode cX7_readRule 58 = .ok (.goto 103, 3) := by decide +kernel
theorem dX7_readRule_61 : decode cX7_readRule 61 = .ok (.aload_n 0, 1) := by decide +kernel
theorem dX7_readRule_62 : decode cX7_readRule 62 = .ok (.getfield 103, 3) := by decide +kernel
theorem dX7_readRule_65 : decode cX7_readRule 65 = .ok (.sipush 256, 3) := by decide +kernel
theorem dX7_readRule_68 : decode cX7_readRule 68 = .ok (.if_icmp .ne 15, 3) := by decide +kernel
theorem dX7_readRule_71 : decode cX7_readRule 71 = .ok (.aload_n 0, 1) := by decide +kernel
theorem dX7_readRule_72 : decode cX7_readRule 72 = .ok (.iconst 3, 1) := by decide +kernel
theorem dX7_readRule_73 : decode cX7_readRule 73 = .ok (.aload_n 0, 1) := by decide +kernel
theorem dX7_readRule_74 : decode cX7_readRule 74 = .ok (.getfield 69, 3) := by decide +kernel
theorem dX7_readRule_77 : decode cX7_readRule 77 = .ok (.invokevirtual 83, 3) := by decide +kernel
theorem dX7_readRule_80 : decode cX7_readRule 80 = .ok (.goto 81, 3) := by decide +kernel
theorem dX7_readRule_83 : decode cX7_readRule 83 = .ok (.aload_n 0, 1) := by decide +kernel
theorem dX7_readRule_84 : decode cX7_readRule 84 = .ok (.getfield 20, 3) := by decide +kernel
theorem dX7_readRule_87 : decode cX7_readRule 87 = .ok (.iload_n 1, 1) := by decide +kernel
theorem dX7_readRule_88 : decode cX7_readRule 88 = .ok (.iload_n 2, 1) := by decide +kernel
theorem dX7_readRule_89 : decode cX7_readRule 89 = .ok (.ifCond .ne 7, 3) := by decide +kernel
theorem dX7_readRule_92 : decode cX7_readRule 92 = .ok (.iconst 0, 1) := by decide +kernel
theorem dX7_readRule_93 : decode cX7_readRule 93 = .ok (.goto 9, 3) := by decide +kernel
theorem dX7_readRule_96 : decode cX7_readRule 96 = .ok (.aload_n 0, 1) := by decide +kernel
theorem dX7_readRule_97 : decode cX7_readRule 97 = .ok (.getfield 20, 3) := by decide +kernel
theorem dX7_readRule_100 : decode cX7_readRule 100 = .ok (.iload_n 1, 1) := by decide +kernel
theorem dX7_readRule_101 : decode cX7_readRule 101 = .ok (.iaload, 1) := by decide +kernel
theorem dX7_readRule_102 : decode cX7_readRule 102 = .ok (.iload_n 3, 1) := by decide +kernel
theorem dX7_readRule_103 : decode cX7_readRule 103 = .ok (.bipush 89, 2) := by decide +kernel
theorem dX7_readRule_105 : decode cX7_readRule 105 = .ok (.if_icmp .ne 9, 3) := by decide +kernel
theorem dX7_readRule_108 : decode cX7_readRule 108 = .ok (.iconst 1, 1) := by decide +kernel
theorem dX7_readRule_109 : decode cX7_readRule 109 = .ok (.iload_n 2, 1) := by decide +kernel
theorem dX7_readRule_110 : decode cX7_readRule 110 = .ok (.ishl, 1) := by decide +kernel
theorem dX7_readRule_111 : decode cX7_readRule 111 = .ok (.goto 4, 3) := by decide +kernel
theorem dX7_readRule_114 : decode cX7_readRule 114 = .ok (.iconst 0, 1) := by decide +kernel
theorem dX7_readRule_115 : decode cX7_readRule 115 = .ok (.ior, 1) := by decide +kernel
theorem dX7_readRule_116 : decode cX7_readRule 116 = .ok (.iastore, 1) := by decide +kernel
theorem dX7_readRule_117 : decode cX7_readRule 117 = .ok (.aload_n 0, 1) := by decide +kernel
theorem dX7_readRule_118 : decode cX7_readRule 118 = .ok (.getfield 23, 3) := by decide +kernel
theorem dX7_readRule_121 : decode cX7_readRule 121 = .ok (.iload_n 1, 1) := by decide +kernel
theorem dX7_readRule_122 : decode cX7_readRule 122 = .ok (.iload_n 2, 1) := by decide +kernel
theorem dX7_readRule_123 : decode cX7_readRule 123 = .ok (.ifCond .ne 7, 3) := by decide +kernel
theorem dX7_readRule_126 : decode cX7_readRule 126 = .ok (.iconst 0, 1) := by decide +kernel
theorem dX7_readRule_127 : decode cX7_readRule 127 = .ok (.goto 9, 3) := by decide +kernel
theorem dX7_readRule_130 : decode cX7_readRule 130 = .ok (.aload_n 0, 1) := by decide +kernel
theorem dX7_readRule_131 : decode cX7_readRule 131 = .ok (.getfield 23, 3) := by decide +kernel
theorem dX7_readRule_134 : decode cX7_readRule 134 = .ok (.iload_n 1, 1) := by decide +kernel
theorem dX7_readRule_135 : decode cX7_readRule 135 = .ok (.iaload, 1) := by decide +kernel
theorem dX7_readRule_136 : decode cX7_readRule 136 = .ok (.iload_n 3, 1) := by decide +kernel
theorem dX7_readRule_137 : decode cX7_readRule 137 = .ok (.bipush 78, 2) := by decide +kernel
theorem dX7_readRule_139 : decode cX7_readRule 139 = .ok (.if_icmp .ne 9, 3) := by decide +kernel
theorem dX7_readRule_142 : decode cX7_readRule 142 = .ok (.iconst 1, 1) := by decide +kernel
theorem dX7_readRule_143 : decode cX7_readRule 143 = .ok (.iload_n 2, 1) := by decide +kernel
theorem dX7_readRule_144 : decode cX7_readRule 144 = .ok (.ishl, 1) := by decide +kernel
theorem dX7_readRule_145 : decode cX7_readRule 145 = .ok (.goto 4, 3) := by decide +kernel
theorem dX7_readRule_148 : decode cX7_readRule 148 = .ok (.iconst 0, 1) := by decide +kernel
theorem dX7_readRule_149 : decode cX7_readRule 149 = .ok (.ior, 1) := by decide +kernel
theorem dX7_readRule_150 : decode cX7_readRule 150 = .ok (.iastore, 1) := by decide +kernel
theorem dX7_readRule_151 : decode cX7_readRule 151 = .ok (.aload_n 0, 1) := by decide +kernel
theorem dX7_readRule_152 : decode cX7_readRule 152 = .ok (.dup, 1) := by decide +kernel
theorem dX7_readRule_153 : decode cX7_readRule 153 = .ok (.getfield 69, 3) := by decide +kernel
theorem dX7_readRule_156 : decode cX7_readRule 156 = .ok (.iconst 1, 1) := by decide +kernel
theorem dX7_readRule_157 : decode cX7_readRule 157 = .ok (.iadd, 1) := by decide +kernel
theorem dX7_readRule_158 : decode cX7_readRule 158 = .ok (.putfield 69, 3) := by decide +kernel
theorem dX7_readRule_161 : decode cX7_readRule 161 = .ok (.iinc 2 1, 3) := by decide +kernel
theorem dX7_readRule_164 : decode cX7_readRule 164 = .ok (.goto (-153), 3) := by decide +kernel
theorem dX7_readRule_167 : decode cX7_readRule 167 = .ok (.aload_n 0, 1) := by decide +kernel
theorem dX7_readRule_168 : decode cX7_readRule 168 = .ok (.bipush 100, 2) := by decide +kernel
theorem dX7_readRule_170 : decode cX7_readRule 170 = .ok (.bipush 111, 2) := by decide +kernel
theorem dX7_readRule_172 : decode cX7_readRule 172 = .ok (.invokevirtual 106, 3) := by decide +kernel
theorem dX7_readRule_175 : decode cX7_readRule 175 = .ok (.aload_n 0, 1) := by decide +kernel
theorem dX7_readRule_176 : decode cX7_readRule 176 = .ok (.getfield 72, 3) := by decide +kernel
theorem dX7_readRule_179 : decode cX7_readRule 179 = .ok (.ifCond .ne 10, 3) := by decide +kernel
theorem dX7_readRule_182 : decode cX7_readRule 182 = .ok (.aload_n 0, 1) := by decide +kernel
theorem dX7_readRule_183 : decode cX7_readRule 183 = .ok (.invokevirtual 90, 3) := by decide +kernel
theorem dX7_readRule_186 : decode cX7_readRule 186 = .ok (.goto 4, 3) := by decide +kernel
theorem dX7_readRule_189 : decode cX7_readRule 189 = .ok (.iconst 0, 1) := by decide +kernel
theorem dX7_readRule_190 : decode cX7_readRule 190 = .ok (.istore_n 2, 1) := by decide +kernel
theorem dX7_readRule_191 : decode cX7_readRule 191 = .ok (.aload_n 0, 1) := by decide +kernel
theorem dX7_readRule_192 : decode cX7_readRule 192 = .ok (.getfield 72, 3) := by decide +kernel
theorem dX7_readRule_195 : decode cX7_readRule 195 = .ok (.ifCond .ne 17, 3) := by decide +kernel
theorem dX7_readRule_198 : decode cX7_readRule 198 = .ok (.aload_n 0, 1) := by decide +kernel
theorem dX7_readRule_199 : decode cX7_readRule 199 = .ok (.bipush 96, 2) := by decide +kernel
theorem dX7_readRule_201 : decode cX7_readRule 201 = .ok (.aload_n 0, 1) := by decide +kernel
theorem dX7_readRule_202 : decode cX7_readRule 202 = .ok (.getfield 109, 3) := by decide +kernel
theorem dX7_readRule_205 : decode cX7_readRule 205 = .ok (.iload_n 2, 1) := by decide +kernel
theorem dX7_readRule_206 : decode cX7_readRule 206 = .ok (.invokevirtual 96, 3) := by decide +kernel
theorem dX7_readRule_209 : decode cX7_readRule 209 = .ok (.goto 4, 3) := by decide +kernel
theorem dX7_readRule_212 : decode cX7_readRule 212 = .ok (.iconst 0, 1) := by decide +kernel
theorem dX7_readRule_213 : decode cX7_readRule 213 = .ok (.istore_n 3, 1) := by decide +kernel
theorem dX7_readRule_214 : decode cX7_readRule 214 = .ok (.aload_n 0, 1) := by decide +kernel
theorem dX7_readRule_215 : decode cX7_readRule 215 = .ok (.getfield 72, 3) := by decide +kernel
theorem dX7_readRule_218 : decode cX7_readRule 218 = .ok (.ifCond .ne 55, 3) := by decide +kernel
theorem dX7_readRule_221 : decode cX7_readRule 221 = .ok (.iload_n 3, 1) := by decide +kernel
theorem dX7_readRule_222 : decode cX7_readRule 222 = .ok (.ifCond .ge 51, 3) := by decide +kernel
theorem dX7_readRule_225 : decode cX7_readRule 225 = .ok (.aload_n 0, 1) := by decide +kernel
theorem dX7_readRule_226 : decode cX7_readRule 226 = .ok (.getfield 109, 3) := by decide +kernel
theorem dX7_readRule_229 : decode cX7_readRule 229 = .ok (.bipush 64, 2) := by decide +kernel
theorem dX7_readRule_231 : decode cX7_readRule 231 = .ok (.if_icmp .ne 15, 3) := by decide +kernel
theorem dX7_readRule_234 : decode cX7_readRule 234 = .ok (.aload_n 0, 1) := by decide +kernel
theorem dX7_readRule_235 : decode cX7_readRule 235 = .ok (.iconst 3, 1) := by decide +kernel
theorem dX7_readRule_236 : decode cX7_readRule 236 = .ok (.aload_n 0, 1) := by decide +kernel
theorem dX7_readRule_237 : decode cX7_readRule 237 = .ok (.getfield 69, 3) := by decide +kernel
theorem dX7_readRule_240 : decode cX7_readRule 240 = .ok (.invokevirtual 83, 3) := by decide +kernel
theorem dX7_readRule_243 : decode cX7_readRule 243 = .ok (.goto 30, 3) := by decide +kernel
theorem dX7_readRule_246 : decode cX7_readRule 246 = .ok (.aload_n 0, 1) := by decide +kernel
theorem dX7_readRule_247 : decode cX7_readRule 247 = .ok (.bipush 96, 2) := by decide +kernel
theorem dX7_readRule_249 : decode cX7_readRule 249 = .ok (.aload_n 0, 1) := by decide +kernel
theorem dX7_readRule_250 : decode cX7_readRule 250 = .ok (.getfield 109, 3) := by decide +kernel
theorem dX7_readRule_253 : decode cX7_readRule 253 = .ok (.iadd, 1) := by decide +kernel
theorem dX7_readRule_254 : decode cX7_readRule 254 = .ok (.iload_n 2, 1) := by decide +kernel
theorem dX7_readRule_255 : decode cX7_readRule 255 = .ok (.invokevirtual 100, 3) := by decide +kernel
theorem dX7_readRule_258 : decode cX7_readRule 258 = .ok (.aload_n 0, 1) := by decide +kernel
theorem dX7_readRule_259 : decode cX7_readRule 259 = .ok (.getfield 109, 3) := by decide +kernel
theorem dX7_readRule_262 : decode cX7_readRule 262 = .ok (.istore_n 3, 1) := by decide +kernel
theorem dX7_readRule_263 : decode cX7_readRule 263 = .ok (.aload_n 0, 1) := by decide +kernel
theorem dX7_readRule_264 : decode cX7_readRule 264 = .ok (.dup, 1) := by decide +kernel
theorem dX7_readRule_265 : decode cX7_readRule 265 = .ok (.getfield 109, 3) := by decide +kernel
theorem dX7_readRule_268 : decode cX7_readRule 268 = .ok (.iconst 1, 1) := by decide +kernel
theorem dX7_readRule_269 : decode cX7_readRule 269 = .ok (.iadd, 1) := by decide +kernel
theorem dX7_readRule_270 : decode cX7_readRule 270 = .ok (.putfield 109, 3) := by decide +kernel
theorem dX7_readRule_273 : decode cX7_readRule 273 = .ok (.aload_n 0, 1) := by decide +kernel
theorem dX7_readRule_274 : decode cX7_readRule 274 = .ok (.aload_n 0, 1) := by decide +kernel
theorem dX7_readRule_275 : decode cX7_readRule 275 = .ok (.getfield 72, 3) := by decide +kernel
theorem dX7_readRule_278 : decode cX7_readRule 278 = .ok (.ifCond .ne 7, 3) := by decide +kernel
theorem dX7_readRule_281 : decode cX7_readRule 281 = .ok (.iload_n 2, 1) := by decide +kernel
theorem dX7_readRule_282 : decode cX7_readRule 282 = .ok (.goto 7, 3) := by decide +kernel
theorem dX7_readRule_285 : decode cX7_readRule 285 = .ok (.aload_n 0, 1) := by decide +kernel
theorem dX7_readRule_286 : decode cX7_readRule 286 = .ok (.getfield 69, 3) := by decide +kernel
theorem dX7_readRule_289 : decode cX7_readRule 289 = .ok (.putfield 69, 3) := by decide +kernel
theorem dX7_readRule_292 : decode cX7_readRule 292 = .ok (.aload_n 0, 1) := by decide +kernel
theorem dX7_readRule_293 : decode cX7_readRule 293 = .ok (.bipush 59, 2) := by decide +kernel
theorem dX7_readRule_295 : decode cX7_readRule 295 = .ok (.invokevirtual 112, 3) := by decide +kernel
theorem dX7_readRule_298 : decode cX7_readRule 298 = .ok (.aload_n 0, 1) := by decide +kernel
theorem dX7_readRule_299 : decode cX7_readRule 299 = .ok (.getfield 72, 3) := by decide +kernel
theorem dX7_readRule_302 : decode cX7_readRule 302 = .ok (.ifCond .ne 20, 3) := by decide +kernel
theorem dX7_readRule_305 : decode cX7_readRule 305 = .ok (.aload_n 0, 1) := by decide +kernel
theorem dX7_readRule_306 : decode cX7_readRule 306 = .ok (.getfield 26, 3) := by decide +kernel
theorem dX7_readRule_309 : decode cX7_readRule 309 = .ok (.iload_n 1, 1) := by decide +kernel
theorem dX7_readRule_310 : decode cX7_readRule 310 = .ok (.iload_n 3, 1) := by decide +kernel
theorem dX7_readRule_311 : decode cX7_readRule 311 = .ok (.iastore, 1) := by decide +kernel
theorem dX7_readRule_312 : decode cX7_readRule 312 = .ok (.aload_n 0, 1) := by decide +kernel
theorem dX7_readRule_313 : decode cX7_readRule 313 = .ok (.dup, 1) := by decide +kernel
theorem dX7_readRule_314 : decode cX7_readRule 314 = .ok (.getfield 103, 3) := by decide +kernel
theorem dX7_readRule_317 : decode cX7_readRule 317 = .ok (.iconst 1, 1) := by decide +kernel
theorem dX7_readRule_318 : decode cX7_readRule 318 = .ok (.iadd, 1) := by decide +kernel
theorem dX7_readRule_319 : decode cX7_readRule 319 = .ok (.putfield 103, 3) := by decide +kernel
theorem dX7_readRule_322 : decode cX7_readRule 322 = .ok (.return_, 1) := by decide +kernel
theorem dX7_take_0 : decode cX7_take 0 = .ok (.aload_n 0, 1) := by decide +kernel
theorem dX7_take_1 : decode cX7_take 1 = .ok (.aload_n 0, 1) := by decide +kernel
theorem dX7_take_2 : decode cX7_take 2 = .ok (.getfield 93, 3) := by decide +kernel
theorem dX7_take_5 : decode cX7_take 5 = .ok (.putfield 116, 3) := by decide +kernel
theorem dX7_take_8 : decode cX7_take 8 = .ok (.aload_n 0, 1) := by decide +kernel
theorem dX7_take_9 : decode cX7_take 9 = .ok (.aload_n 0, 1) := by decide +kernel
theorem dX7_take_10 : decode cX7_take 10 = .ok (.getfield 103, 3) := by decide +kernel
theorem dX7_take_13 : decode cX7_take 13 = .ok (.putfield 119, 3) := by decide +kernel
theorem dX7_take_16 : decode cX7_take 16 = .ok (.aload_n 0, 1) := by decide +kernel
theorem dX7_take_17 : decode cX7_take 17 = .ok (.aload_n 0, 1) := by decide +kernel
theorem dX7_take_18 : decode cX7_take 18 = .ok (.getfield 109, 3) := by decide +kernel
theorem dX7_take_21 : decode cX7_take 21 = .ok (.putfield 122, 3) := by decide +kernel
theorem dX7_take_24 : decode cX7_take 24 = .ok (.iconst 0, 1) := by decide +kernel
theorem dX7_take_25 : decode cX7_take 25 = .ok (.istore_n 1, 1) := by decide +kernel
theorem dX7_take_26 : decode cX7_take 26 = .ok (.iload_n 1, 1) := by decide +kernel
theorem dX7_take_27 : decode cX7_take 27 = .ok (.bipush 80, 2) := by decide +kernel
theorem dX7_take_29 : decode cX7_take 29 = .ok (.if_icmp .ge 24, 3) := by decide +kernel
theorem dX7_take_32 : decode cX7_take 32 = .ok (.aload_n 0, 1) := by decide +kernel
theorem dX7_take_33 : decode cX7_take 33 = .ok (.getfield 16, 3) := by decide +kernel
theorem dX7_take_36 : decode cX7_take 36 = .ok (.iload_n 1, 1) := by decide +kernel
theorem dX7_take_37 : decode cX7_take 37 = .ok (.aload_n 0, 1) := by decide +kernel
theorem dX7_take_38 : decode cX7_take 38 = .ok (.getfield 16, 3) := by decide +kernel
theorem dX7_take_41 : decode cX7_take 41 = .ok (.bipush 80, 2) := by decide +kernel
theorem dX7_take_43 : decode cX7_take 43 = .ok (.iload_n 1, 1) := by decide +kernel
theorem dX7_take_44 : decode cX7_take 44 = .ok (.iadd, 1) := by decide +kernel
theorem dX7_take_45 : decode cX7_take 45 = .ok (.iaload, 1) := by decide +kernel
theorem dX7_take_46 : decode cX7_take 46 = .ok (.iastore, 1) := by decide +kernel
theorem dX7_take_47 : decode cX7_take 47 = .ok (.iinc 1 1, 3) := by decide +kernel
theorem dX7_take_50 : decode cX7_take 50 = .ok (.goto (-24), 3) := by decide +kernel
theorem dX7_take_53 : decode cX7_take 53 = .ok (.iconst 0, 1) := by decide +kernel
theorem dX7_take_54 : decode cX7_take 54 = .ok (.istore_n 1, 1) := by decide +kernel
theorem dX7_take_55 : decode cX7_take 55 = .ok (.iload_n 1, 1) := by decide +kernel
theorem dX7_take_56 : decode cX7_take 56 = .ok (.sipush 800, 3) := by decide +kernel
theorem dX7_take_59 : decode cX7_take 59 = .ok (.if_icmp .ge 25, 3) := by decide +kernel
theorem dX7_take_62 : decode cX7_take 62 = .ok (.aload_n 0, 1) := by decide +kernel
theorem dX7_take_63 : decode cX7_take 63 = .ok (.getfield 13, 3) := by decide +kernel
theorem dX7_take_66 : decode cX7_take 66 = .ok (.iload_n 1, 1) := by decide +kernel
theorem dX7_take_67 : decode cX7_take 67 = .ok (.aload_n 0, 1) := by decide +kernel
theorem dX7_take_68 : decode cX7_take 68 = .ok (.getfield 13, 3) := by decide +kernel
theorem dX7_take_71 : decode cX7_take 71 = .ok (.sipush 800, 3) := by decide +kernel
theorem dX7_take_74 : decode cX7_take 74 = .ok (.iload_n 1, 1) := by decide +kernel
theorem dX7_take_75 : decode cX7_take 75 = .ok (.iadd, 1) := by decide +kernel
theorem dX7_take_76 : decode cX7_take 76 = .ok (.baload, 1) := by decide +kernel
theorem dX7_take_77 : decode cX7_take 77 = .ok (.bastore, 1) := by decide +kernel
theorem dX7_take_78 : decode cX7_take 78 = .ok (.iinc 1 1, 3) := by decide +kernel
theorem dX7_take_81 : decode cX7_take 81 = .ok (.goto (-26), 3) := by decide +kernel
theorem dX7_take_84 : decode cX7_take 84 = .ok (.iconst 0, 1) := by decide +kernel
theorem dX7_take_85 : decode cX7_take 85 = .ok (.istore_n 1, 1) := by decide +kernel
theorem dX7_take_86 : decode cX7_take 86 = .ok (.iload_n 1, 1) := by decide +kernel
theorem dX7_take_87 : decode cX7_take 87 = .ok (.aload_n 0, 1) := by decide +kernel
theorem dX7_take_88 : decode cX7_take 88 = .ok (.getfield 119, 3) := by decide +kernel
theorem dX7_take_91 : decode cX7_take 91 = .ok (.if_icmp .ge 57, 3) := by decide +kernel
theorem dX7_take_94 : decode cX7_take 94 = .ok (.aload_n 0, 1) := by decide +kernel
theorem dX7_take_95 : decode cX7_take 95 = .ok (.getfield 20, 3) := by decide +kernel
theorem dX7_take_98 : decode cX7_take 98 = .ok (.iload_n 1, 1) := by decide +kernel
theorem dX7_take_99 : decode cX7_take 99 = .ok (.aload_n 0, 1) := by decide +kernel
theorem dX7_take_100 : decode cX7_take 100 = .ok (.getfield 20, 3) := by decide +kernel
theorem dX7_take_103 : decode cX7_take 103 = .ok (.sipush 256, 3) := by decide +kernel
theorem dX7_take_106 : decode cX7_take 106 = .ok (.iload_n 1, 1) := by decide +kernel
theorem dX7_take_107 : decode cX7_take 107 = .ok (.iadd, 1) := by decide +kernel
theorem dX7_take_108 : decode cX7_take 108 = .ok (.iaload, 1) := by decide +kernel
theorem dX7_take_109 : decode cX7_take 109 = .ok (.iastore, 1) := by decide +kernel
theorem dX7_take_110 : decode cX7_take 110 = .ok (.aload_n 0, 1) := by decide +kernel
theorem dX7_take_111 : decode cX7_take 111 = .ok (.getfield 23, 3) := by decide +kernel
theorem dX7_take_114 : decode cX7_take 114 = .ok (.iload_n 1, 1) := by decide +kernel
theorem dX7_take_115 : decode cX7_take 115 = .ok (.aload_n 0, 1) := by decide +kernel
theorem dX7_take_116 : decode cX7_take 116 = .ok (.getfield 23, 3) := by decide +kernel
theorem dX7_take_119 : decode cX7_take 119 = .ok (.sipush 256, 3) := by decide +kernel
theorem dX7_take_122 : decode cX7_take 122 = .ok (.iload_n 1, 1) := by decide +kernel
theorem dX7_take_123 : decode cX7_take 123 = .ok (.iadd, 1) := by decide +kernel
theorem dX7_take_124 : decode cX7_take 124 = .ok (.iaload, 1) := by decide +kernel
theorem dX7_take_125 : decode cX7_take 125 = .ok (.iastore, 1) := by decide +kernel
theorem dX7_take_126 : decode cX7_take 126 = .ok (.aload_n 0, 1) := by decide +kernel
theorem dX7_take_127 : decode cX7_take 127 = .ok (.getfield 26, 3) := by decide +kernel
theorem dX7_take_130 : decode cX7_take 130 = .ok (.iload_n 1, 1) := by decide +kernel
theorem dX7_take_131 : decode cX7_take 131 = .ok (.aload_n 0, 1) := by decide +kernel
theorem dX7_take_132 : decode cX7_take 132 = .ok (.getfield 26, 3) := by decide +kernel
theorem dX7_take_135 : decode cX7_take 135 = .ok (.sipush 256, 3) := by decide +kernel
theorem dX7_take_138 : decode cX7_take 138 = .ok (.iload_n 1, 1) := by decide +kernel
theorem dX7_take_139 : decode cX7_take 139 = .ok (.iadd, 1) := by decide +kernel
theorem dX7_take_140 : decode cX7_take 140 = .ok (.iaload, 1) := by decide +kernel
theorem dX7_take_141 : decode cX7_take 141 = .ok (.iastore, 1) := by decide +kernel
theorem dX7_take_142 : decode cX7_take 142 = .ok (.iinc 1 1, 3) := by decide +kernel
theorem dX7_take_145 : decode cX7_take 145 = .ok (.goto (-59), 3) := by decide +kernel
theorem dX7_take_148 : decode cX7_take 148 = .ok (.aload_n 0, 1) := by decide +kernel
theorem dX7_take_149 : decode cX7_take 149 = .ok (.iconst 1, 1) := by decide +kernel
theorem dX7_take_150 : decode cX7_take 150 = .ok (.putfield 125, 3) := by decide +kernel
theorem dX7_take_153 : decode cX7_take 153 = .ok (.return_, 1) := by decide +kernel
theorem dX7_read_0 : decode cX7_read 0 = .ok (.aload_n 0, 1) := by decide +kernel
theorem dX7_read_1 : decode cX7_read 1 = .ok (.iconst 0, 1) := by decide +kernel
theorem dX7_read_2 : decode cX7_read 2 = .ok (.putfield 62, 3) := by decide +kernel
theorem dX7_read_5 : decode cX7_read 5 = .ok (.aload_n 0, 1) := by decide +kernel
theorem dX7_read_6 : decode cX7_read 6 = .ok (.iconst 0, 1) := by decide +kernel
theorem dX7_read_7 : decode cX7_read 7 = .ok (.putfield 69, 3) := by decide +kernel
theorem dX7_read_10 : decode cX7_read 10 = .ok (.aload_n 0, 1) := by decide +kernel
theorem dX7_read_11 : decode cX7_read 11 = .ok (.iconst 0, 1) := by decide +kernel
theorem dX7_read_12 : decode cX7_read 12 = .ok (.putfield 72, 3) := by decide +kernel
theorem dX7_read_15 : decode cX7_read 15 = .ok (.aload_n 0, 1) := by decide +kernel
theorem dX7_read_16 : decode cX7_read 16 = .ok (.iconst 0, 1) := by decide +kernel
theorem dX7_read_17 : decode cX7_read 17 = .ok (.putfield 93, 3) := by decide +kernel
theorem dX7_read_20 : decode cX7_read 20 = .ok (.aload_n 0, 1) := by decide +kernel
theorem dX7_read_21 : decode cX7_read 21 = .ok (.iconst 0, 1) := by decide +kernel
theorem dX7_read_22 : decode cX7_read 22 = .ok (.putfield 103, 3) := by decide +kernel
theorem dX7_read_25 : decode cX7_read 25 = .ok (.aload_n 0, 1) := by decide +kernel
theorem dX7_read_26 : decode cX7_read 26 = .ok (.iconst 0, 1) := by decide +kernel
theorem dX7_read_27 : decode cX7_read 27 = .ok (.putfield 109, 3) := by decide +kernel
theorem dX7_read_30 : decode cX7_read 30 = .ok (.aload_n 0, 1) := by decide +kernel
theorem dX7_read_31 : decode cX7_read 31 = .ok (.bipush 105, 2) := by decide +kernel
theorem dX7_read_33 : decode cX7_read 33 = .ok (.bipush 102, 2) := by decide +kernel
theorem dX7_read_35 : decode cX7_read 35 = .ok (.invokevirtual 106, 3) := by decide +kernel
theorem dX7_read_38 : decode cX7_read 38 = .ok (.aload_n 0, 1) := by decide +kernel
theorem dX7_read_39 : decode cX7_read 39 = .ok (.getfield 72, 3) := by decide +kernel
theorem dX7_read_42 : decode cX7_read 42 = .ok (.ifCond .ne 7, 3) := by decide +kernel
theorem dX7_read_45 : decode cX7_read 45 = .ok (.aload_n 0, 1) := by decide +kernel
theorem dX7_read_46 : decode cX7_read 46 = .ok (.invokevirtual 129, 3) := by decide +kernel
theorem dX7_read_49 : decode cX7_read 49 = .ok (.aload_n 0, 1) := by decide +kernel
theorem dX7_read_50 : decode cX7_read 50 = .ok (.getfield 72, 3) := by decide +kernel
theorem dX7_read_53 : decode cX7_read 53 = .ok (.ifCond .ne 29, 3) := by decide +kernel
theorem dX7_read_56 : decode cX7_read 56 = .ok (.aload_n 0, 1) := by decide +kernel
theorem dX7_read_57 : decode cX7_read 57 = .ok (.invokevirtual 75, 3) := by decide +kernel
theorem dX7_read_60 : decode cX7_read 60 = .ok (.bipush 44, 2) := by decide +kernel
theorem dX7_read_62 : decode cX7_read 62 = .ok (.if_icmp .ne 20, 3) := by decide +kernel
theorem dX7_read_65 : decode cX7_read 65 = .ok (.aload_n 0, 1) := by decide +kernel
theorem dX7_read_66 : decode cX7_read 66 = .ok (.dup, 1) := by decide +kernel
theorem dX7_read_67 : decode cX7_read 67 = .ok (.getfield 69, 3) := by decide +kernel
theorem dX7_read_70 : decode cX7_read 70 = .ok (.iconst 1, 1) := by decide +kernel
theorem dX7_read_71 : decode cX7_read 71 = .ok (.iadd, 1) := by decide +kernel
theorem dX7_read_72 : decode cX7_read 72 = .ok (.putfield 69, 3) := by decide +kernel
theorem dX7_read_75 : decode cX7_read 75 = .ok (.aload_n 0, 1) := by decide +kernel
theorem dX7_read_76 : decode cX7_read 76 = .ok (.invokevirtual 129, 3) := by decide +kernel
theorem dX7_read_79 : decode cX7_read 79 = .ok (.goto (-30), 3) := by decide +kernel
theorem dX7_read_82 : decode cX7_read 82 = .ok (.aload_n 0, 1) := by decide +kernel
theorem dX7_read_83 : decode cX7_read 83 = .ok (.bipush 59, 2) := by decide +kernel
theorem dX7_read_85 : decode cX7_read 85 = .ok (.invokevirtual 112, 3) := by decide +kernel
theorem dX7_read_88 : decode cX7_read 88 = .ok (.aload_n 0, 1) := by decide +kernel
theorem dX7_read_89 : decode cX7_read 89 = .ok (.getfield 72, 3) := by decide +kernel
theorem dX7_read_92 : decode cX7_read 92 = .ok (.ifCond .ne 7, 3) := by decide +kernel
theorem dX7_read_95 : decode cX7_read 95 = .ok (.aload_n 0, 1) := by decide +kernel
theorem dX7_read_96 : decode cX7_read 96 = .ok (.invokevirtual 132, 3) := by decide +kernel
theorem dX7_read_99 : decode cX7_read 99 = .ok (.aload_n 0, 1) := by decide +kernel
theorem dX7_read_100 : decode cX7_read 100 = .ok (.getfield 72, 3) := by decide +kernel
theorem dX7_read_103 : decode cX7_read 103 = .ok (.ifCond .ne 18, 3) := by decide +kernel
theorem dX7_read_106 : decode cX7_read 106 = .ok (.aload_n 0, 1) := by decide +kernel
theorem dX7_read_107 : decode cX7_read 107 = .ok (.invokevirtual 75, 3) := by decide +kernel
theorem dX7_read_110 : decode cX7_read 110 = .ok (.iconst (-1), 1) := by decide +kernel
theorem dX7_read_111 : decode cX7_read 111 = .ok (.if_icmp .eq 10, 3) := by decide +kernel
theorem dX7_read_114 : decode cX7_read 114 = .ok (.aload_n 0, 1) := by decide +kernel
theorem dX7_read_115 : decode cX7_read 115 = .ok (.invokevirtual 132, 3) := by decide +kernel
theorem dX7_read_118 : decode cX7_read 118 = .ok (.goto (-19), 3) := by decide +kernel
theorem dX7_read_121 : decode cX7_read 121 = .ok (.aload_n 0, 1) := by decide +kernel
theorem dX7_read_122 : decode cX7_read 122 = .ok (.iconst 0, 1) := by decide +kernel
theorem dX7_read_123 : decode cX7_read 123 = .ok (.putfield 66, 3) := by decide +kernel
theorem dX7_read_126 : decode cX7_read 126 = .ok (.aload_n 0, 1) := by decide +kernel
theorem dX7_read_127 : decode cX7_read 127 = .ok (.getfield 72, 3) := by decide +kernel
theorem dX7_read_130 : decode cX7_read 130 = .ok (.ifCond .le 10, 3) := by decide +kernel
theorem dX7_read_133 : decode cX7_read 133 = .ok (.iconst (-1), 1) := by decide +kernel
theorem dX7_read_134 : decode cX7_read 134 = .ok (.aload_n 0, 1) := by decide +kernel
theorem dX7_read_135 : decode cX7_read 135 = .ok (.getfield 69, 3) := by decide +kernel
theorem dX7_read_138 : decode cX7_read 138 = .ok (.isub, 1) := by decide +kernel
theorem dX7_read_139 : decode cX7_read 139 = .ok (.ireturn, 1) := by decide +kernel
theorem dX7_read_140 : decode cX7_read 140 = .ok (.aload_n 0, 1) := by decide +kernel
theorem dX7_read_141 : decode cX7_read 141 = .ok (.invokevirtual 135, 3) := by decide +kernel
theorem dX7_read_144 : decode cX7_read 144 = .ok (.aload_n 0, 1) := by decide +kernel
theorem dX7_read_145 : decode cX7_read 145 = .ok (.invokevirtual 138, 3) := by decide +kernel
theorem dX7_read_148 : decode cX7_read 148 = .ok (.ireturn, 1) := by decide +kernel
theorem dX7_fault_0 : decode cX7_fault 0 = .ok (.aload_n 0, 1) := by decide +kernel
theorem dX7_fault_1 : decode cX7_fault 1 = .ok (.iconst 0, 1) := by decide +kernel
theorem dX7_fault_2 : decode cX7_fault 2 = .ok (.putfield 62, 3) := by decide +kernel
theorem dX7_fault_5 : decode cX7_fault 5 = .ok (.aload_n 0, 1) := by decide +kernel
theorem dX7_fault_6 : decode cX7_fault 6 = .ok (.getfield 72, 3) := by decide +kernel
theorem dX7_fault_9 : decode cX7_fault 9 = .ok (.ireturn, 1) := by decide +kernel
theorem dX7_allCases_0 : decode cX7_allCases 0 = .ok (.iconst 1, 1) := by decide +kernel
theorem dX7_allCases_1 : decode cX7_allCases 1 = .ok (.aload_n 0, 1) := by decide +kernel
theorem dX7_allCases_2 : decode cX7_allCases 2 = .ok (.getfield 116, 3) := by decide +kernel
theorem dX7_allCases_5 : decode cX7_allCases 5 = .ok (.ishl, 1) := by decide +kernel
theorem dX7_allCases_6 : decode cX7_allCases 6 = .ok (.ireturn, 1) := by decide +kernel
theorem dX7_isMet_0 : decode cX7_isMet 0 = .ok (.iload_n 2, 1) := by decide +kernel
theorem dX7_isMet_1 : decode cX7_isMet 1 = .ok (.aload_n 0, 1) := by decide +kernel
theorem dX7_isMet_2 : decode cX7_isMet 2 = .ok (.getfield 20, 3) := by decide +kernel
theorem dX7_isMet_5 : decode cX7_isMet 5 = .ok (.iload_n 1, 1) := by decide +kernel
theorem dX7_isMet_6 : decode cX7_isMet 6 = .ok (.iaload, 1) := by decide +kernel
theorem dX7_isMet_7 : decode cX7_isMet 7 = .ok (.iand, 1) := by decide +kernel
theorem dX7_isMet_8 : decode cX7_isMet 8 = .ok (.aload_n 0, 1) := by decide +kernel
theorem dX7_isMet_9 : decode cX7_isMet 9 = .ok (.getfield 20, 3) := by decide +kernel
theorem dX7_isMet_12 : decode cX7_isMet 12 = .ok (.iload_n 1, 1) := by decide +kernel
theorem dX7_isMet_13 : decode cX7_isMet 13 = .ok (.iaload, 1) := by decide +kernel
theorem dX7_isMet_14 : decode cX7_isMet 14 = .ok (.if_icmp .ne 18, 3) := by decide +kernel
theorem dX7_isMet_17 : decode cX7_isMet 17 = .ok (.iload_n 2, 1) := by decide +kernel
theorem dX7_isMet_18 : decode cX7_isMet 18 = .ok (.aload_n 0, 1) := by decide +kernel
theorem dX7_isMet_19 : decode cX7_isMet 19 = .ok (.getfield 23, 3) := by decide +kernel
theorem dX7_isMet_22 : decode cX7_isMet 22 = .ok (.iload_n 1, 1) := by decide +kernel
theorem dX7_isMet_23 : decode cX7_isMet 23 = .ok (.iaload, 1) := by decide +kernel
theorem dX7_isMet_24 : decode cX7_isMet 24 = .ok (.iand, 1) := by decide +kernel
theorem dX7_isMet_25 : decode cX7_isMet 25 = .ok (.ifCond .ne 7, 3) := by decide +kernel
theorem dX7_isMet_28 : decode cX7_isMet 28 = .ok (.iconst 1, 1) := by decide +kernel
theorem dX7_isMet_29 : decode cX7_isMet 29 = .ok (.goto 4, 3) := by decide +kernel
theorem dX7_isMet_32 : decode cX7_isMet 32 = .ok (.iconst 0, 1) := by decide +kernel
theorem dX7_isMet_33 : decode cX7_isMet 33 = .ok (.ireturn, 1) := by decide +kernel
theorem dX7_firstMet_0 : decode cX7_firstMet 0 = .ok (.iconst 0, 1) := by decide +kernel
theorem dX7_firstMet_1 : decode cX7_firstMet 1 = .ok (.istore_n 2, 1) := by decide +kernel
theorem dX7_firstMet_2 : decode cX7_firstMet 2 = .ok (.iload_n 2, 1) := by decide +kernel
theorem dX7_firstMet_3 : decode cX7_firstMet 3 = .ok (.aload_n 0, 1) := by decide +kernel
theorem dX7_firstMet_4 : decode cX7_firstMet 4 = .ok (.getfield 119, 3) := by decide +kernel
theorem dX7_firstMet_7 : decode cX7_firstMet 7 = .ok (.if_icmp .ge 18, 3) := by decide +kernel
theorem dX7_firstMet_10 : decode cX7_firstMet 10 = .ok (.aload_n 0, 1) := by decide +kernel
theorem dX7_firstMet_11 : decode cX7_firstMet 11 = .ok (.iload_n 2, 1) := by decide +kernel
theorem dX7_firstMet_12 : decode cX7_firstMet 12 = .ok (.iload_n 1, 1) := by decide +kernel
theorem dX7_firstMet_13 : decode cX7_firstMet 13 = .ok (.invokevirtual 141, 3) := by decide +kernel
theorem dX7_firstMet_16 : decode cX7_firstMet 16 = .ok (.ifCond .ne 9, 3) := by decide +kernel
theorem dX7_firstMet_19 : decode cX7_firstMet 19 = .ok (.iinc 2 1, 3) := by decide +kernel
theorem dX7_firstMet_22 : decode cX7_firstMet 22 = .ok (.goto (-20), 3) := by decide +kernel
theorem dX7_firstMet_25 : decode cX7_firstMet 25 = .ok (.iload_n 2, 1) := by decide +kernel
theorem dX7_firstMet_26 : decode cX7_firstMet 26 = .ok (.aload_n 0, 1) := by decide +kernel
theorem dX7_firstMet_27 : decode cX7_firstMet 27 = .ok (.getfield 119, 3) := by decide +kernel
theorem dX7_firstMet_30 : decode cX7_firstMet 30 = .ok (.if_icmp .ge 7, 3) := by decide +kernel
theorem dX7_firstMet_33 : decode cX7_firstMet 33 = .ok (.iload_n 2, 1) := by decide +kernel
theorem dX7_firstMet_34 : decode cX7_firstMet 34 = .ok (.goto 4, 3) := by decide +kernel
theorem dX7_firstMet_37 : decode cX7_firstMet 37 = .ok (.iconst (-1), 1) := by decide +kernel
theorem dX7_firstMet_38 : decode cX7_firstMet 38 = .ok (.ireturn, 1) := by decide +kernel
theorem dX7_judge_0 : decode cX7_judge 0 = .ok (.aload_n 0, 1) := by decide +kernel
theorem dX7_judge_1 : decode cX7_judge 1 = .ok (.iconst (-1), 1) := by decide +kernel
theorem dX7_judge_2 : decode cX7_judge 2 = .ok (.putfield 145, 3) := by decide +kernel
theorem dX7_judge_5 : decode cX7_judge 5 = .ok (.aload_n 0, 1) := by decide +kernel
theorem dX7_judge_6 : decode cX7_judge 6 = .ok (.iconst (-1), 1) := by decide +kernel
theorem dX7_judge_7 : decode cX7_judge 7 = .ok (.putfield 148, 3) := by decide +kernel
theorem dX7_judge_10 : decode cX7_judge 10 = .ok (.aload_n 0, 1) := by decide +kernel
theorem dX7_judge_11 : decode cX7_judge 11 = .ok (.iconst (-1), 1) := by decide +kernel
theorem dX7_judge_12 : decode cX7_judge 12 = .ok (.putfield 151, 3) := by decide +kernel
theorem dX7_judge_15 : decode cX7_judge 15 = .ok (.aload_n 0, 1) := by decide +kernel
theorem dX7_judge_16 : decode cX7_judge 16 = .ok (.iconst 0, 1) := by decide +kernel
theorem dX7_judge_17 : decode cX7_judge 17 = .ok (.putfield 154, 3) := by decide +kernel
theorem dX7_judge_20 : decode cX7_judge 20 = .ok (.aload_n 0, 1) := by decide +kernel
theorem dX7_judge_21 : decode cX7_judge 21 = .ok (.iconst 0, 1) := by decide +kernel
theorem dX7_judge_22 : decode cX7_judge 22 = .ok (.putfield 157, 3) := by decide +kernel
theorem dX7_judge_25 : decode cX7_judge 25 = .ok (.aload_n 0, 1) := by decide +kernel
theorem dX7_judge_26 : decode cX7_judge 26 = .ok (.iconst 0, 1) := by decide +kernel
theorem dX7_judge_27 : decode cX7_judge 27 = .ok (.putfield 160, 3) := by decide +kernel
theorem dX7_judge_30 : decode cX7_judge 30 = .ok (.iconst 0, 1) := by decide +kernel
theorem dX7_judge_31 : decode cX7_judge 31 = .ok (.istore_n 1, 1) := by decide +kernel
theorem dX7_judge_32 : decode cX7_judge 32 = .ok (.iload_n 1, 1) := by decide +kernel
theorem dX7_judge_33 : decode cX7_judge 33 = .ok (.aload_n 0, 1) := by decide +kernel
theorem dX7_judge_34 : decode cX7_judge 34 = .ok (.getfield 119, 3) := by decide +kernel
theorem dX7_judge_37 : decode cX7_judge 37 = .ok (.if_icmp .ge 103, 3) := by decide +kernel
theorem dX7_judge_40 : decode cX7_judge 40 = .ok (.iload_n 1, 1) := by decide +kernel
theorem dX7_judge_41 : decode cX7_judge 41 = .ok (.iconst 1, 1) := by decide +kernel
theorem dX7_judge_42 : decode cX7_judge 42 = .ok (.iadd, 1) := by decide +kernel
theorem dX7_judge_43 : decode cX7_judge 43 = .ok (.istore_n 2, 1) := by decide +kernel
theorem dX7_judge_44 : decode cX7_judge 44 = .ok (.iload_n 2, 1) := by decide +kernel
theorem dX7_judge_45 : decode cX7_judge 45 = .ok (.aload_n 0, 1) := by decide +kernel
theorem dX7_judge_46 : decode cX7_judge 46 = .ok (.getfield 119, 3) := by decide +kernel
theorem dX7_judge_49 : decode cX7_judge 49 = .ok (.if_icmp .ge 85, 3) := by decide +kernel
theorem dX7_judge_52 : decode cX7_judge 52 = .ok (.aload_n 0, 1) := by decide +kernel
theorem dX7_judge_53 : decode cX7_judge 53 = .ok (.getfield 26, 3) := by decide +kernel
theorem dX7_judge_56 : decode cX7_judge 56 = .ok (.iload_n 1, 1) := by decide +kernel
theorem dX7_judge_57 : decode cX7_judge 57 = .ok (.iaload, 1) := by decide +kernel
theorem dX7_judge_58 : decode cX7_judge 58 = .ok (.aload_n 0, 1) := by decide +kernel
theorem dX7_judge_59 : decode cX7_judge 59 = .ok (.getfield 26, 3) := by decide +kernel
theorem dX7_judge_62 : decode cX7_judge 62 = .ok (.iload_n 2, 1) := by decide +kernel
theorem dX7_judge_63 : decode cX7_judge 63 = .ok (.iaload, 1) := by decide +kernel
theorem dX7_judge_64 : decode cX7_judge 64 = .ok (.if_icmp .eq 64, 3) := by decide +kernel
theorem dX7_judge_67 : decode cX7_judge 67 = .ok (.aload_n 0, 1) := by decide +kernel
theorem dX7_judge_68 : decode cX7_judge 68 = .ok (.getfield 20, 3) := by decide +kernel
theorem dX7_judge_71 : decode cX7_judge 71 = .ok (.iload_n 1, 1) := by decide +kernel
theorem dX7_judge_72 : decode cX7_judge 72 = .ok (.iaload, 1) := by decide +kernel
theorem dX7_judge_73 : decode cX7_judge 73 = .ok (.aload_n 0, 1) := by decide +kernel
theorem dX7_judge_74 : decode cX7_judge 74 = .ok (.getfield 23, 3) := by decide +kernel
theorem dX7_judge_77 : decode cX7_judge 77 = .ok (.iload_n 2, 1) := by decide +kernel
theorem dX7_judge_78 : decode cX7_judge 78 = .ok (.iaload, 1) := by decide +kernel
theorem dX7_judge_79 : decode cX7_judge 79 = .ok (.iand, 1) := by decide +kernel
theorem dX7_judge_80 : decode cX7_judge 80 = .ok (.ifCond .ne 48, 3) := by decide +kernel
theorem dX7_judge_83 : decode cX7_judge 83 = .ok (.aload_n 0, 1) := by decide +kernel
theorem dX7_judge_84 : decode cX7_judge 84 = .ok (.getfield 23, 3) := by decide +kernel
theorem dX7_judge_87 : decode cX7_judge 87 = .ok (.iload_n 1, 1) := by decide +kernel
theorem dX7_judge_88 : decode cX7_judge 88 = .ok (.iaload, 1) := by decide +kernel
theorem dX7_judge_89 : decode cX7_judge 89 = .ok (.aload_n 0, 1) := by decide +kernel
theorem dX7_judge_90 : decode cX7_judge 90 = .ok (.getfield 20, 3) := by decide +kernel
theorem dX7_judge_93 : decode cX7_judge 93 = .ok (.iload_n 2, 1) := by decide +kernel
theorem dX7_judge_94 : decode cX7_judge 94 = .ok (.iaload, 1) := by decide +kernel
theorem dX7_judge_95 : decode cX7_judge 95 = .ok (.iand, 1) := by decide +kernel
theorem dX7_judge_96 : decode cX7_judge 96 = .ok (.ifCond .ne 32, 3) := by decide +kernel
theorem dX7_judge_99 : decode cX7_judge 99 = .ok (.aload_n 0, 1) := by decide +kernel
theorem dX7_judge_100 : decode cX7_judge 100 = .ok (.iload_n 1, 1) := by decide +kernel
theorem dX7_judge_101 : decode cX7_judge 101 = .ok (.putfield 145, 3) := by decide +kernel
theorem dX7_judge_104 : decode cX7_judge 104 = .ok (.aload_n 0, 1) := by decide +kernel
theorem dX7_judge_105 : decode cX7_judge 105 = .ok (.iload_n 2, 1) := by decide +kernel
theorem dX7_judge_106 : decode cX7_judge 106 = .ok (.putfield 148, 3) := by decide +kernel
theorem dX7_judge_109 : decode cX7_judge 109 = .ok (.aload_n 0, 1) := by decide +kernel
theorem dX7_judge_110 : decode cX7_judge 110 = .ok (.aload_n 0, 1) := by decide +kernel
theorem dX7_judge_111 : decode cX7_judge 111 = .ok (.getfield 20, 3) := by decide +kernel
theorem dX7_judge_114 : decode cX7_judge 114 = .ok (.iload_n 1, 1) := by decide +kernel
theorem dX7_judge_115 : decode cX7_judge 115 = .ok (.iaload, 1) := by decide +kernel
theorem dX7_judge_116 : decode cX7_judge 116 = .ok (.aload_n 0, 1) := by decide +kernel
theorem dX7_judge_117 : decode cX7_judge 117 = .ok (.getfield 20, 3) := by decide +kernel
theorem dX7_judge_120 : decode cX7_judge 120 = .ok (.iload_n 2, 1) := by decide +kernel
theorem dX7_judge_121 : decode cX7_judge 121 = .ok (.iaload, 1) := by decide +kernel
theorem dX7_judge_122 : decode cX7_judge 122 = .ok (.ior, 1) := by decide +kernel
theorem dX7_judge_123 : decode cX7_judge 123 = .ok (.putfield 151, 3) := by decide +kernel
theorem dX7_judge_126 : decode cX7_judge 126 = .ok (.iconst 1, 1) := by decide +kernel
theorem dX7_judge_127 : decode cX7_judge 127 = .ok (.ireturn, 1) := by decide +kernel
theorem dX7_judge_128 : decode cX7_judge 128 = .ok (.iinc 2 1, 3) := by decide +kernel
theorem dX7_judge_131 : decode cX7_judge 131 = .ok (.goto (-87), 3) := by decide +kernel
theorem dX7_judge_134 : decode cX7_judge 134 = .ok (.iinc 1 1, 3) := by decide +kernel
theorem dX7_judge_137 : decode cX7_judge 137 = .ok (.goto (-105), 3) := by decide +kernel
theorem dX7_judge_140 : decode cX7_judge 140 = .ok (.iconst 0, 1) := by decide +kernel
theorem dX7_judge_141 : decode cX7_judge 141 = .ok (.istore_n 1, 1) := by decide +kernel
theorem dX7_judge_142 : decode cX7_judge 142 = .ok (.iload_n 1, 1) := by decide +kernel
theorem dX7_judge_143 : decode cX7_judge 143 = .ok (.aload_n 0, 1) := by decide +kernel
theorem dX7_judge_144 : decode cX7_judge 144 = .ok (.invokevirtual 163, 3) := by decide +kernel
theorem dX7_judge_147 : decode cX7_judge 147 = .ok (.if_icmp .ge 24, 3) := by decide +kernel
theorem dX7_judge_150 : decode cX7_judge 150 = .ok (.aload_n 0, 1) := by decide +kernel
theorem dX7_judge_151 : decode cX7_judge 151 = .ok (.iload_n 1, 1) := by decide +kernel
theorem dX7_judge_152 : decode cX7_judge 152 = .ok (.invokevirtual 166, 3) := by decide +kernel
theorem dX7_judge_155 : decode cX7_judge 155 = .ok (.ifCond .ge 10, 3) := by decide +kernel
theorem dX7_judge_158 : decode cX7_judge 158 = .ok (.aload_n 0, 1) := by decide +kernel
theorem dX7_judge_159 : decode cX7_judge 159 = .ok (.iload_n 1, 1) := by decide +kernel
theorem dX7_judge_160 : decode cX7_judge 160 = .ok (.putfield 151, 3) := by decide +kernel
theorem dX7_judge_163 : decode cX7_judge 163 = .ok (.iconst 2, 1) := by decide +kernel
theorem dX7_judge_164 : decode cX7_judge 164 = .ok (.ireturn, 1) := by decide +kernel
theorem dX7_judge_165 : decode cX7_judge 165 = .ok (.iinc 1 1, 3) := by decide +kernel
theorem dX7_judge_168 : decode cX7_judge 168 = .ok (.goto (-26), 3) := by decide +kernel
theorem dX7_judge_171 : decode cX7_judge 171 = .ok (.aload_n 0, 1) := by decide +kernel
theorem dX7_judge_172 : decode cX7_judge 172 = .ok (.invokevirtual 170, 3) := by decide +kernel
theorem dX7_judge_175 : decode cX7_judge 175 = .ok (.aload_n 0, 1) := by decide +kernel
theorem dX7_judge_176 : decode cX7_judge 176 = .ok (.getfield 154, 3) := by decide +kernel
theorem dX7_judge_179 : decode cX7_judge 179 = .ok (.ifCond .eq 7, 3) := by decide +kernel
theorem dX7_judge_182 : decode cX7_judge 182 = .ok (.iconst 0, 1) := by decide +kernel
theorem dX7_judge_183 : decode cX7_judge 183 = .ok (.goto 4, 3) := by decide +kernel
theorem dX7_judge_186 : decode cX7_judge 186 = .ok (.iconst 3, 1) := by decide +kernel
theorem dX7_judge_187 : decode cX7_judge 187 = .ok (.ireturn, 1) := by decide +kernel
theorem dX7_bits_0 : decode cX7_bits 0 = .ok (.iconst 0, 1) := by decide +kernel
theorem dX7_bits_1 : decode cX7_bits 1 = .ok (.istore_n 1, 1) := by decide +kernel
theorem dX7_bits_2 : decode cX7_bits 2 = .ok (.iconst 0, 1) := by decide +kernel
theorem dX7_bits_3 : decode cX7_bits 3 = .ok (.istore_n 2, 1) := by decide +kernel
theorem dX7_bits_4 : decode cX7_bits 4 = .ok (.iload_n 2, 1) := by decide +kernel
theorem dX7_bits_5 : decode cX7_bits 5 = .ok (.bipush 16, 2) := by decide +kernel
theorem dX7_bits_7 : decode cX7_bits 7 = .ok (.if_icmp .ge 17, 3) := by decide +kernel
theorem dX7_bits_10 : decode cX7_bits 10 = .ok (.iload_n 1, 1) := by decide +kernel
theorem dX7_bits_11 : decode cX7_bits 11 = .ok (.iload_n 0, 1) := by decide +kernel
theorem dX7_bits_12 : decode cX7_bits 12 = .ok (.iload_n 2, 1) := by decide +kernel
theorem dX7_bits_13 : decode cX7_bits 13 = .ok (.ishr, 1) := by decide +kernel
theorem dX7_bits_14 : decode cX7_bits 14 = .ok (.iconst 1, 1) := by decide +kernel
theorem dX7_bits_15 : decode cX7_bits 15 = .ok (.iand, 1) := by decide +kernel
theorem dX7_bits_16 : decode cX7_bits 16 = .ok (.iadd, 1) := by decide +kernel
theorem dX7_bits_17 : decode cX7_bits 17 = .ok (.istore_n 1, 1) := by decide +kernel
theorem dX7_bits_18 : decode cX7_bits 18 = .ok (.iinc 2 1, 3) := by decide +kernel
theorem dX7_bits_21 : decode cX7_bits 21 = .ok (.goto (-17), 3) := by decide +kernel
theorem dX7_bits_24 : decode cX7_bits 24 = .ok (.iload_n 1, 1) := by decide +kernel
theorem dX7_bits_25 : decode cX7_bits 25 = .ok (.ireturn, 1) := by decide +kernel
theorem dX7_canMeet_0 : decode cX7_canMeet 0 = .ok (.aload_n 0, 1) := by decide +kernel
theorem dX7_canMeet_1 : decode cX7_canMeet 1 = .ok (.getfield 23, 3) := by decide +kernel
theorem dX7_canMeet_4 : decode cX7_canMeet 4 = .ok (.iload_n 1, 1) := by decide +kernel
theorem dX7_canMeet_5 : decode cX7_canMeet 5 = .ok (.iaload, 1) := by decide +kernel
theorem dX7_canMeet_6 : decode cX7_canMeet 6 = .ok (.iload_n 2, 1) := by decide +kernel
theorem dX7_canMeet_7 : decode cX7_canMeet 7 = .ok (.iand, 1) := by decide +kernel
theorem dX7_canMeet_8 : decode cX7_canMeet 8 = .ok (.ifCond .ne 18, 3) := by decide +kernel
theorem dX7_canMeet_11 : decode cX7_canMeet 11 = .ok (.aload_n 0, 1) := by decide +kernel
theorem dX7_canMeet_12 : decode cX7_canMeet 12 = .ok (.getfield 20, 3) := by decide +kernel
theorem dX7_canMeet_15 : decode cX7_canMeet 15 = .ok (.iload_n 1, 1) := by decide +kernel
theorem dX7_canMeet_16 : decode cX7_canMeet 16 = .ok (.iaload, 1) := by decide +kernel
theorem dX7_canMeet_17 : decode cX7_canMeet 17 = .ok (.iload_n 3, 1) := by decide +kernel
theorem dX7_canMeet_18 : decode cX7_canMeet 18 = .ok (.iand, 1) := by decide +kernel
theorem dX7_canMeet_19 : decode cX7_canMeet 19 = .ok (.ifCond .ne 7, 3) := by decide +kernel
theorem dX7_canMeet_22 : decode cX7_canMeet 22 = .ok (.iconst 1, 1) := by decide +kernel
theorem dX7_canMeet_23 : decode cX7_canMeet 23 = .ok (.goto 4, 3) := by decide +kernel
theorem dX7_canMeet_26 : decode cX7_canMeet 26 = .ok (.iconst 0, 1) := by decide +kernel
theorem dX7_canMeet_27 : decode cX7_canMeet 27 = .ok (.ireturn, 1) := by decide +kernel
theorem dX7_onlyAction_0 : decode cX7_onlyAction 0 = .ok (.iconst (-1), 1) := by decide +kernel
theorem dX7_onlyAction_1 : decode cX7_onlyAction 1 = .ok (.istore_n 3, 1) := by decide +kernel
theorem dX7_onlyAction_2 : decode cX7_onlyAction 2 = .ok (.iconst 0, 1) := by decide +kernel
theorem dX7_onlyAction_3 : decode cX7_onlyAction 3 = .ok (.istore 4, 2) := by decide +kernel
theorem dX7_onlyAction_5 : decode cX7_onlyAction 5 = .ok (.iload 4, 2) := by decide +kernel
theorem dX7_onlyAction_7 : decode cX7_onlyAction 7 = .ok (.aload_n 0, 1) := by decide +kernel
theorem dX7_onlyAction_8 : decode cX7_onlyAction 8 = .ok (.getfield 119, 3) := by decide +kernel
theorem dX7_onlyAction_11 : decode cX7_onlyAction 11 = .ok (.if_icmp .ge 45, 3) := by decide +kernel
theorem dX7_onlyAction_14 : decode cX7_onlyAction 14 = .ok (.aload_n 0, 1) := by decide +kernel
theorem dX7_onlyAction_15 : decode cX7_onlyAction 15 = .ok (.iload 4, 2) := by decide +kernel
theorem dX7_onlyAction_17 : decode cX7_onlyAction 17 = .ok (.iload_n 1, 1) := by decide +kernel
theorem dX7_onlyAction_18 : decode cX7_onlyAction 18 = .ok (.iload_n 2, 1) := by decide +kernel
theorem dX7_onlyAction_19 : decode cX7_onlyAction 19 = .ok (.invokevirtual 173, 3) := by decide +kernel
theorem dX7_onlyAction_22 : decode cX7_onlyAction 22 = .ok (.ifCond .eq 28, 3) := by decide +kernel
theorem dX7_onlyAction_25 : decode cX7_onlyAction 25 = .ok (.iload_n 3, 1) := by decide +kernel
theorem dX7_onlyAction_26 : decode cX7_onlyAction 26 = .ok (.ifCond .lt 16, 3) := by decide +kernel
theorem dX7_onlyAction_29 : decode cX7_onlyAction 29 = .ok (.iload_n 3, 1) := by decide +kernel
theorem dX7_onlyAction_30 : decode cX7_onlyAction 30 = .ok (.aload_n 0, 1) := by decide +kernel
theorem dX7_onlyAction_31 : decode cX7_onlyAction 31 = .ok (.getfield 26, 3) := by decide +kernel
theorem dX7_onlyAction_34 : decode cX7_onlyAction 34 = .ok (.iload 4, 2) := by decide +kernel
theorem dX7_onlyAction_36 : decode cX7_onlyAction 36 = .ok (.iaload, 1) := by decide +kernel
theorem dX7_onlyAction_37 : decode cX7_onlyAction 37 = .ok (.if_icmp .eq 5, 3) := by decide +kernel
theorem dX7_onlyAction_40 : decode cX7_onlyAction 40 = .ok (.iconst (-1), 1) := by decide +kernel
theorem dX7_onlyAction_41 : decode cX7_onlyAction 41 = .ok (.ireturn, 1) := by decide +kernel
theorem dX7_onlyAction_42 : decode cX7_onlyAction 42 = .ok (.aload_n 0, 1) := by decide +kernel
theorem dX7_onlyAction_43 : decode cX7_onlyAction 43 = .ok (.getfield 26, 3) := by decide +kernel
theorem dX7_onlyAction_46 : decode cX7_onlyAction 46 = .ok (.iload 4, 2) := by decide +kernel
theorem dX7_onlyAction_48 : decode cX7_onlyAction 48 = .ok (.iaload, 1) := by decide +kernel
theorem dX7_onlyAction_49 : decode cX7_onlyAction 49 = .ok (.istore_n 3, 1) := by decide +kernel
theorem dX7_onlyAction_50 : decode cX7_onlyAction 50 = .ok (.iinc 4 1, 3) := by decide +kernel
theorem dX7_onlyAction_53 : decode cX7_onlyAction 53 = .ok (.goto (-48), 3) := by decide +kernel
theorem dX7_onlyAction_56 : decode cX7_onlyAction 56 = .ok (.iload_n 3, 1) := by decide +kernel
theorem dX7_onlyAction_57 : decode cX7_onlyAction 57 = .ok (.ireturn, 1) := by decide +kernel
theorem dX7_bestCondition_0 : decode cX7_bestCondition 0 = .ok (.aload_n 0, 1) := by decide +kernel
theorem dX7_bestCondition_1 : decode cX7_bestCondition 1 = .ok (.invokevirtual 163, 3) := by decide +kernel
theorem dX7_bestCondition_4 : decode cX7_bestCondition 4 = .ok (.iconst 1, 1) := by decide +kernel
theorem dX7_bestCondition_5 : decode cX7_bestCondition 5 = .ok (.isub, 1) := by decide +kernel
theorem dX7_bestCondition_6 : decode cX7_bestCondition 6 = .ok (.iload_n 1, 1) := by decide +kernel
theorem dX7_bestCondition_7 : decode cX7_bestCondition 7 = .ok (.iload_n 2, 1) := by decide +kernel
theorem dX7_bestCondition_8 : decode cX7_bestCondition 8 = .ok (.ior, 1) := by decide +kernel
theorem dX7_bestCondition_9 : decode cX7_bestCondition 9 = .ok (.iconst (-1), 1) := by decide +kernel
theorem dX7_bestCondition_10 : decode cX7_bestCondition 10 = .ok (.ixor, 1) := by decide +kernel
theorem dX7_bestCondition_11 : decode cX7_bestCondition 11 = .ok (.iand, 1) := by decide +kernel
theorem dX7_bestCondition_12 : decode cX7_bestCondition 12 = .ok (.istore_n 3, 1) := by decide +kernel
theorem dX7_bestCondition_13 : decode cX7_bestCondition 13 = .ok (.iconst (-1), 1) := by decide +kernel
theorem dX7_bestCondition_14 : decode cX7_bestCondition 14 = .ok (.istore 4, 2) := by decide +kernel
theorem dX7_bestCondition_16 : decode cX7_bestCondition 16 = .ok (.lconst 0, 1) := by decide +kernel
theorem dX7_bestCondition_17 : decode cX7_bestCondition 17 = .ok (.lstore 5, 2) := by decide +kernel
theorem dX7_bestCondition_19 : decode cX7_bestCondition 19 = .ok (.lconst 0, 1) := by decide +kernel
theorem dX7_bestCondition_20 : decode cX7_bestCondition 20 = .ok (.lstore 7, 2) := by decide +kernel
theorem dX7_bestCondition_22 : decode cX7_bestCondition 22 = .ok (.iconst 0, 1) := by decide +kernel
theorem dX7_bestCondition_23 : decode cX7_bestCondition 23 = .ok (.istore 9, 2) := by decide +kernel
theorem dX7_bestCondition_25 : decode cX7_bestCondition 25 = .ok (.iload 9, 2) := by decide +kernel
theorem dX7_bestCondition_27 : decode cX7_bestCondition 27 = .ok (.aload_n 0, 1) := by decide +kernel
theorem dX7_bestCondition_28 : decode cX7_bestCondition 28 = .ok (.getfield 116, 3) := by decide +kernel
theorem dX7_bestCondition_31 : decode cX7_bestCondition 31 = .ok (.if_icmp .ge 199, 3) := by decide +kernel
theorem dX7_bestCondition_34 : decode cX7_bestCondition 34 = .ok (.iload_n 3, 1) := by decide +kernel
theorem dX7_bestCondition_35 : decode cX7_bestCondition 35 = .ok (.iload 9, 2) := by decide +kernel
theorem dX7_bestCondition_37 : decode cX7_bestCondition 37 = .ok (.ishr, 1) := by decide +kernel
theorem dX7_bestCondition_38 : decode cX7_bestCondition 38 = .ok (.iconst 1, 1) := by decide +kernel
theorem dX7_bestCondition_39 : decode cX7_bestCondition 39 = .ok (.iand, 1) := by decide +kernel
theorem dX7_bestCondition_40 : decode cX7_bestCondition 40 = .ok (.ifCond .ne 6, 3) := by decide +kernel
theorem dX7_bestCondition_43 : decode cX7_bestCondition 43 = .ok (.goto 181, 3) := by decide +kernel
theorem dX7_bestCondition_46 : decode cX7_bestCondition 46 = .ok (.lconst 0, 1) := by decide +kernel
theorem dX7_bestCondition_47 : decode cX7_bestCondition 47 = .ok (.lstore 10, 2) := by decide +kernel
theorem dX7_bestCondition_49 : decode cX7_bestCondition 49 = .ok (.lconst 0, 1) := by decide +kernel
theorem dX7_bestCondition_50 : decode cX7_bestCondition 50 = .ok (.lstore 12, 2) := by decide +kernel
theorem dX7_bestCondition_52 : decode cX7_bestCondition 52 = .ok (.iconst 0, 1) := by decide +kernel
theorem dX7_bestCondition_53 : decode cX7_bestCondition 53 = .ok (.istore 14, 2) := by decide +kernel
theorem dX7_bestCondition_55 : decode cX7_bestCondition 55 = .ok (.iload 14, 2) := by decide +kernel
theorem dX7_bestCondition_57 : decode cX7_bestCondition 57 = .ok (.aload_n 0, 1) := by decide +kernel
theorem dX7_bestCondition_58 : decode cX7_bestCondition 58 = .ok (.getfield 119, 3) := by decide +kernel
theorem dX7_bestCondition_61 : decode cX7_bestCondition 61 = .ok (.if_icmp .ge 105, 3) := by decide +kernel
theorem dX7_bestCondition_64 : decode cX7_bestCondition 64 = .ok (.aload_n 0, 1) := by decide +kernel
theorem dX7_bestCondition_65 : decode cX7_bestCondition 65 = .ok (.iload 14, 2) := by decide +kernel
theorem dX7_bestCondition_67 : decode cX7_bestCondition 67 = .ok (.iload_n 1, 1) := by decide +kernel
theorem dX7_bestCondition_68 : decode cX7_bestCondition 68 = .ok (.iload_n 2, 1) := by decide +kernel
theorem dX7_bestCondition_69 : decode cX7_bestCondition 69 = .ok (.invokevirtual 173, 3) := by decide +kernel
theorem dX7_bestCondition_72 : decode cX7_bestCondition 72 = .ok (.ifCond .eq 88, 3) := by decide +kernel
theorem dX7_bestCondition_75 : decode cX7_bestCondition 75 = .ok (.lconst 1, 1) := by decide +kernel
theorem dX7_bestCondition_76 : decode cX7_bestCondition 76 = .ok (.iload_n 3, 1) := by decide +kernel
theorem dX7_bestCondition_77 : decode cX7_bestCondition 77 = .ok (.aload_n 0, 1) := by decide +kernel
theorem dX7_bestCondition_78 : decode cX7_bestCondition 78 = .ok (.getfield 20, 3) := by decide +kernel
theorem dX7_bestCondition_81 : decode cX7_bestCondition 81 = .ok (.iload 14, 2) := by decide +kernel
theorem dX7_bestCondition_83 : decode cX7_bestCondition 83 = .ok (.iaload, 1) := by decide +kernel
theorem dX7_bestCondition_84 : decode cX7_bestCondition 84 = .ok (.aload_n 0, 1) := by decide +kernel
theorem dX7_bestCondition_85 : decode cX7_bestCondition 85 = .ok (.getfield 23, 3) := by decide +kernel
theorem dX7_bestCondition_88 : decode cX7_bestCondition 88 = .ok (.iload 14, 2) := by decide +kernel
theorem dX7_bestCondition_90 : decode cX7_bestCondition 90 = .ok (.iaload, 1) := by decide +kernel
theorem dX7_bestCondition_91 : decode cX7_bestCondition 91 = .ok (.ior, 1) := by decide +kernel
theorem dX7_bestCondition_92 : decode cX7_bestCondition 92 = .ok (.iconst (-1), 1) := by decide +kernel
theorem dX7_bestCondition_93 : decode cX7_bestCondition 93 = .ok (.ixor, 1) := by decide +kernel
theorem dX7_bestCondition_94 : decode cX7_bestCondition 94 = .ok (.iand, 1) := by decide +kernel
theorem dX7_bestCondition_95 : decode cX7_bestCondition 95 = .ok (.invokestatic 177, 3) := by decide +kernel
theorem dX7_bestCondition_98 : decode cX7_bestCondition 98 = .ok (.lshl, 1) := by decide +kernel
theorem dX7_bestCondition_99 : decode cX7_bestCondition 99 = .ok (.lstore 15, 2) := by decide +kernel
theorem dX7_bestCondition_101 : decode cX7_bestCondition 101 = .ok (.aload_n 0, 1) := by decide +kernel
theorem dX7_bestCondition_102 : decode cX7_bestCondition 102 = .ok (.getfield 20, 3) := by decide +kernel
theorem dX7_bestCondition_105 : decode cX7_bestCondition 105 = .ok (.iload 14, 2) := by decide +kernel
theorem dX7_bestCondition_107 : decode cX7_bestCondition 107 = .ok (.iaload, 1) := by decide +kernel
theorem dX7_bestCondition_108 : decode cX7_bestCondition 108 = .ok (.iload 9, 2) := by decide +kernel
theorem dX7_bestCondition_110 : decode cX7_bestCondition 110 = .ok (.ishr, 1) := by decide +kernel
theorem dX7_bestCondition_111 : decode cX7_bestCondition 111 = .ok (.iconst 1, 1) := by decide +kernel
theorem dX7_bestCondition_112 : decode cX7_bestCondition 112 = .ok (.iand, 1) := by decide +kernel
theorem dX7_bestCondition_113 : decode cX7_bestCondition 113 = .ok (.iconst 1, 1) := by decide +kernel
theorem dX7_bestCondition_114 : decode cX7_bestCondition 114 = .ok (.if_icmp .ne 13, 3) := by decide +kernel
theorem dX7_bestCondition_117 : decode cX7_bestCondition 117 = .ok (.lload 12, 2) := by decide +kernel
theorem dX7_bestCondition_119 : decode cX7_bestCondition 119 = .ok (.lload 15, 2) := by decide +kernel
theorem dX7_bestCondition_121 : decode cX7_bestCondition 121 = .ok (.ladd, 1) := by decide +kernel
theorem dX7_bestCondition_122 : decode cX7_bestCondition 122 = .ok (.lstore 12, 2) := by decide +kernel
theorem dX7_bestCondition_124 : decode cX7_bestCondition 124 = .ok (.goto 36, 3) := by decide +kernel
theorem dX7_bestCondition_127 : decode cX7_bestCondition 127 = .ok (.aload_n 0, 1) := by decide +kernel
theorem dX7_bestCondition_128 : decode cX7_bestCondition 128 = .ok (.getfield 23, 3) := by decide +kernel
theorem dX7_bestCondition_131 : decode cX7_bestCondition 131 = .ok (.iload 14, 2) := by decide +kernel
theorem dX7_bestCondition_133 : decode cX7_bestCondition 133 = .ok (.iaload, 1) := by decide +kernel
theorem dX7_bestCondition_134 : decode cX7_bestCondition 134 = .ok (.iload 9, 2) := by decide +kernel
theorem dX7_bestCondition_136 : decode cX7_bestCondition 136 = .ok (.ishr, 1) := by decide +kernel
theorem dX7_bestCondition_137 : decode cX7_bestCondition 137 = .ok (.iconst 1, 1) := by decide +kernel
theorem dX7_bestCondition_138 : decode cX7_bestCondition 138 = .ok (.iand, 1) := by decide +kernel
theorem dX7_bestCondition_139 : decode cX7_bestCondition 139 = .ok (.iconst 1, 1) := by decide +kernel
theorem dX7_bestCondition_140 : decode cX7_bestCondition 140 = .ok (.if_icmp .ne 13, 3) := by decide +kernel
theorem dX7_bestCondition_143 : decode cX7_bestCondition 143 = .ok (.lload 12, 2) := by decide +kernel
theorem dX7_bestCondition_145 : decode cX7_bestCondition 145 = .ok (.lload 15, 2) := by decide +kernel
theorem dX7_bestCondition_147 : decode cX7_bestCondition 147 = .ok (.lsub, 1) := by decide +kernel
theorem dX7_bestCondition_148 : decode cX7_bestCondition 148 = .ok (.lstore 12, 2) := by decide +kernel
theorem dX7_bestCondition_150 : decode cX7_bestCondition 150 = .ok (.goto 10, 3) := by decide +kernel
theorem dX7_bestCondition_153 : decode cX7_bestCondition 153 = .ok (.lload 10, 2) := by decide +kernel
theorem dX7_bestCondition_155 : decode cX7_bestCondition 155 = .ok (.lload 15, 2) := by decide +kernel
theorem dX7_bestCondition_157 : decode cX7_bestCondition 157 = .ok (.ladd, 1) := by decide +kernel
theorem dX7_bestCondition_158 : decode cX7_bestCondition 158 = .ok (.lstore 10, 2) := by decide +kernel
theorem dX7_bestCondition_160 : decode cX7_bestCondition 160 = .ok (.iinc 14 1, 3) := by decide +kernel
theorem dX7_bestCondition_163 : decode cX7_bestCondition 163 = .ok (.goto (-108), 3) := by decide +kernel
theorem dX7_bestCondition_166 : decode cX7_bestCondition 166 = .ok (.lload 12, 2) := by decide +kernel
theorem dX7_bestCondition_168 : decode cX7_bestCondition 168 = .ok (.lconst 0, 1) := by decide +kernel
theorem dX7_bestCondition_169 : decode cX7_bestCondition 169 = .ok (.lcmp, 1) := by decide +kernel
theorem dX7_bestCondition_170 : decode cX7_bestCondition 170 = .ok (.ifCond .ge 9, 3) := by decide +kernel
theorem dX7_bestCondition_173 : decode cX7_bestCondition 173 = .ok (.lload 12, 2) := by decide +kernel
theorem dX7_bestCondition_175 : decode cX7_bestCondition 175 = .ok (.lneg, 1) := by decide +kernel
theorem dX7_bestCondition_176 : decode cX7_bestCondition 176 = .ok (.goto 5, 3) := by decide +kernel
theorem dX7_bestCondition_179 : decode cX7_bestCondition 179 = .ok (.lload 12, 2) := by decide +kernel
theorem dX7_bestCondition_181 : decode cX7_bestCondition 181 = .ok (.lstore 12, 2) := by decide +kernel
theorem dX7_bestCondition_183 : decode cX7_bestCondition 183 = .ok (.iload 4, 2) := by decide +kernel
theorem dX7_bestCondition_185 : decode cX7_bestCondition 185 = .ok (.ifCond .lt 27, 3) := by decide +kernel
theorem dX7_bestCondition_188 : decode cX7_bestCondition 188 = .ok (.lload 10, 2) := by decide +kernel
theorem dX7_bestCondition_190 : decode cX7_bestCondition 190 = .ok (.lload 5, 2) := by decide +kernel
theorem dX7_bestCondition_192 : decode cX7_bestCondition 192 = .ok (.lcmp, 1) := by decide +kernel
theorem dX7_bestCondition_193 : decode cX7_bestCondition 193 = .ok (.ifCond .lt 19, 3) := by decide +kernel
theorem dX7_bestCondition_196 : decode cX7_bestCondition 196 = .ok (.lload 10, 2) := by decide +kernel
theorem dX7_bestCondition_198 : decode cX7_bestCondition 198 = .ok (.lload 5, 2) := by decide +kernel
theorem dX7_bestCondition_200 : decode cX7_bestCondition 200 = .ok (.lcmp, 1) := by decide +kernel
theorem dX7_bestCondition_201 : decode cX7_bestCondition 201 = .ok (.ifCond .ne 23, 3) := by decide +kernel
theorem dX7_bestCondition_204 : decode cX7_bestCondition 204 = .ok (.lload 12, 2) := by decide +kernel
theorem dX7_bestCondition_206 : decode cX7_bestCondition 206 = .ok (.lload 7, 2) := by decide +kernel
theorem dX7_bestCondition_208 : decode cX7_bestCondition 208 = .ok (.lcmp, 1) := by decide +kernel
theorem dX7_bestCondition_209 : decode cX7_bestCondition 209 = .ok (.ifCond .le 15, 3) := by decide +kernel
theorem dX7_bestCondition_212 : decode cX7_bestCondition 212 = .ok (.iload 9, 2) := by decide +kernel
theorem dX7_bestCondition_214 : decode cX7_bestCondition 214 = .ok (.istore 4, 2) := by decide +kernel
theorem dX7_bestCondition_216 : decode cX7_bestCondition 216 = .ok (.lload 10, 2) := by decide +kernel
theorem dX7_bestCondition_218 : decode cX7_bestCondition 218 = .ok (.lstore 5, 2) := by decide +kernel
theorem dX7_bestCondition_220 : decode cX7_bestCondition 220 = .ok (.lload 12, 2) := by decide +kernel
theorem dX7_bestCondition_222 : decode cX7_bestCondition 222 = .ok (.lstore 7, 2) := by decide +kernel
theorem dX7_bestCondition_224 : decode cX7_bestCondition 224 = .ok (.iinc 9 1, 3) := by decide +kernel
theorem dX7_bestCondition_227 : decode cX7_bestCondition 227 = .ok (.goto (-202), 3) := by decide +kernel
theorem dX7_bestCondition_230 : decode cX7_bestCondition 230 = .ok (.iload 4, 2) := by decide +kernel
theorem dX7_bestCondition_232 : decode cX7_bestCondition 232 = .ok (.ireturn, 1) := by decide +kernel
theorem dX7_grow_0 : decode cX7_grow 0 = .ok (.iconst 1, 1) := by decide +kernel
theorem dX7_grow_1 : decode cX7_grow 1 = .ok (.istore_n 1, 1) := by decide +kernel
theorem dX7_grow_2 : decode cX7_grow 2 = .ok (.aload_n 0, 1) := by decide +kernel
theorem dX7_grow_3 : decode cX7_grow 3 = .ok (.getfield 47, 3) := by decide +kernel
theorem dX7_grow_6 : decode cX7_grow 6 = .ok (.iconst 0, 1) := by decide +kernel
theorem dX7_grow_7 : decode cX7_grow 7 = .ok (.iconst 0, 1) := by decide +kernel
theorem dX7_grow_8 : decode cX7_grow 8 = .ok (.iastore, 1) := by decide +kernel
theorem dX7_grow_9 : decode cX7_grow 9 = .ok (.aload_n 0, 1) := by decide +kernel
theorem dX7_grow_10 : decode cX7_grow 10 = .ok (.getfield 50, 3) := by decide +kernel
theorem dX7_grow_13 : decode cX7_grow 13 = .ok (.iconst 0, 1) := by decide +kernel
theorem dX7_grow_14 : decode cX7_grow 14 = .ok (.iconst 0, 1) := by decide +kernel
theorem dX7_grow_15 : decode cX7_grow 15 = .ok (.iastore, 1) := by decide +kernel
theorem dX7_grow_16 : decode cX7_grow 16 = .ok (.aload_n 0, 1) := by decide +kernel
theorem dX7_grow_17 : decode cX7_grow 17 = .ok (.getfield 53, 3) := by decide +kernel
theorem dX7_grow_20 : decode cX7_grow 20 = .ok (.iconst 0, 1) := by decide +kernel
theorem dX7_grow_21 : decode cX7_grow 21 = .ok (.iconst (-1), 1) := by decide +kernel
theorem dX7_grow_22 : decode cX7_grow 22 = .ok (.iastore, 1) := by decide +kernel
theorem dX7_grow_23 : decode cX7_grow 23 = .ok (.aload_n 0, 1) := by decide +kernel
theorem dX7_grow_24 : decode cX7_grow 24 = .ok (.getfield 56, 3) := by decide +kernel
theorem dX7_grow_27 : decode cX7_grow 27 = .ok (.iconst 0, 1) := by decide +kernel
theorem dX7_grow_28 : decode cX7_grow 28 = .ok (.iconst 0, 1) := by decide +kernel
theorem dX7_grow_29 : decode cX7_grow 29 = .ok (.iastore, 1) := by decide +kernel
theorem dX7_grow_30 : decode cX7_grow 30 = .ok (.aload_n 0, 1) := by decide +kernel
theorem dX7_grow_31 : decode cX7_grow 31 = .ok (.iconst 1, 1) := by decide +kernel
theorem dX7_grow_32 : decode cX7_grow 32 = .ok (.putfield 154, 3) := by decide +kernel
theorem dX7_grow_35 : decode cX7_grow 35 = .ok (.iload_n 1, 1) := by decide +kernel
theorem dX7_grow_36 : decode cX7_grow 36 = .ok (.ifCond .le 289, 3) := by decide +kernel
theorem dX7_grow_39 : decode cX7_grow 39 = .ok (.aload_n 0, 1) := by decide +kernel
theorem dX7_grow_40 : decode cX7_grow 40 = .ok (.getfield 154, 3) := by decide +kernel
theorem dX7_grow_43 : decode cX7_grow 43 = .ok (.ifCond .eq 282, 3) := by decide +kernel
theorem dX7_grow_46 : decode cX7_grow 46 = .ok (.iinc 1 (-1), 3) := by decide +kernel
theorem dX7_grow_49 : decode cX7_grow 49 = .ok (.aload_n 0, 1) := by decide +kernel
theorem dX7_grow_50 : decode cX7_grow 50 = .ok (.getfield 157, 3) := by decide +kernel
theorem dX7_grow_53 : decode cX7_grow 53 = .ok (.sipush 1000, 3) := by decide +kernel
theorem dX7_grow_56 : decode cX7_grow 56 = .ok (.if_icmp .ne 16, 3) := by decide +kernel
theorem dX7_grow_59 : decode cX7_grow 59 = .ok (.aload_n 0, 1) := by decide +kernel
theorem dX7_grow_60 : decode cX7_grow 60 = .ok (.iconst 0, 1) := by decide +kernel
theorem dX7_grow_61 : decode cX7_grow 61 = .ok (.putfield 154, 3) := by decide +kernel
theorem dX7_grow_64 : decode cX7_grow 64 = .ok (.aload_n 0, 1) := by decide +kernel
theorem dX7_grow_65 : decode cX7_grow 65 = .ok (.iconst 0, 1) := by decide +kernel
theorem dX7_grow_66 : decode cX7_grow 66 = .ok (.putfield 157, 3) := by decide +kernel
theorem dX7_grow_69 : decode cX7_grow 69 = .ok (.goto (-34), 3) := by decide +kernel
theorem dX7_grow_72 : decode cX7_grow 72 = .ok (.aload_n 0, 1) := by decide +kernel
theorem dX7_grow_73 : decode cX7_grow 73 = .ok (.getfield 47, 3) := by decide +kernel
theorem dX7_grow_76 : decode cX7_grow 76 = .ok (.iload_n 1, 1) := by decide +kernel
theorem dX7_grow_77 : decode cX7_grow 77 = .ok (.iaload, 1) := by decide +kernel
theorem dX7_grow_78 : decode cX7_grow 78 = .ok (.istore_n 2, 1) := by decide +kernel
theorem dX7_grow_79 : decode cX7_grow 79 = .ok (.aload_n 0, 1) := by decide +kernel
theorem dX7_grow_80 : decode cX7_grow 80 = .ok (.getfield 50, 3) := by decide +kernel
theorem dX7_grow_83 : decode cX7_grow 83 = .ok (.iload_n 1, 1) := by decide +kernel
theorem dX7_grow_84 : decode cX7_grow 84 = .ok (.iaload, 1) := by decide +kernel
theorem dX7_grow_85 : decode cX7_grow 85 = .ok (.istore_n 3, 1) := by decide +kernel
theorem dX7_grow_86 : decode cX7_grow 86 = .ok (.aload_n 0, 1) := by decide +kernel
theorem dX7_grow_87 : decode cX7_grow 87 = .ok (.getfield 56, 3) := by decide +kernel
theorem dX7_grow_90 : decode cX7_grow 90 = .ok (.iload_n 1, 1) := by decide +kernel
theorem dX7_grow_91 : decode cX7_grow 91 = .ok (.iaload, 1) := by decide +kernel
theorem dX7_grow_92 : decode cX7_grow 92 = .ok (.istore 4, 2) := by decide +kernel
theorem dX7_grow_94 : decode cX7_grow 94 = .ok (.aload_n 0, 1) := by decide +kernel
theorem dX7_grow_95 : decode cX7_grow 95 = .ok (.getfield 53, 3) := by decide +kernel
theorem dX7_grow_98 : decode cX7_grow 98 = .ok (.iload_n 1, 1) := by decide +kernel
theorem dX7_grow_99 : decode cX7_grow 99 = .ok (.iaload, 1) := by decide +kernel
theorem dX7_grow_100 : decode cX7_grow 100 = .ok (.istore 5, 2) := by decide +kernel
theorem dX7_grow_102 : decode cX7_grow 102 = .ok (.aload_n 0, 1) := by decide +kernel
theorem dX7_grow_103 : decode cX7_grow 103 = .ok (.getfield 157, 3) := by decide +kernel
theorem dX7_grow_106 : decode cX7_grow 106 = .ok (.istore 6, 2) := by decide +kernel
theorem dX7_grow_108 : decode cX7_grow 108 = .ok (.aload_n 0, 1) := by decide +kernel
theorem dX7_grow_109 : decode cX7_grow 109 = .ok (.dup, 1) := by decide +kernel
theorem dX7_grow_110 : decode cX7_grow 110 = .ok (.getfield 157, 3) := by decide +kernel
theorem dX7_grow_113 : decode cX7_grow 113 = .ok (.iconst 1, 1) := by decide +kernel
theorem dX7_grow_114 : decode cX7_grow 114 = .ok (.iadd, 1) := by decide +kernel
theorem dX7_grow_115 : decode cX7_grow 115 = .ok (.putfield 157, 3) := by decide +kernel
theorem dX7_grow_118 : decode cX7_grow 118 = .ok (.iload 5, 2) := by decide +kernel
theorem dX7_grow_120 : decode cX7_grow 120 = .ok (.ifCond .lt 24, 3) := by decide +kernel
theorem dX7_grow_123 : decode cX7_grow 123 = .ok (.iload 6, 2) := by decide +kernel
theorem dX7_grow_125 : decode cX7_grow 125 = .ok (.iload 5, 2) := by decide +kernel
theorem dX7_grow_127 : decode cX7_grow 127 = .ok (.iconst 1, 1) := by decide +kernel
theorem dX7_grow_128 : decode cX7_grow 128 = .ok (.iadd, 1) := by decide +kernel
theorem dX7_grow_129 : decode cX7_grow 129 = .ok (.if_icmp .ne 15, 3) := by decide +kernel
theorem dX7_grow_132 : decode cX7_grow 132 = .ok (.aload_n 0, 1) := by decide +kernel
theorem dX7_grow_133 : decode cX7_grow 133 = .ok (.getfield 32, 3) := by decide +kernel
theorem dX7_grow_136 : decode cX7_grow 136 = .ok (.iload 5, 2) := by decide +kernel
theorem dX7_grow_138 : decode cX7_grow 138 = .ok (.iload 6, 2) := by decide +kernel
theorem dX7_grow_140 : decode cX7_grow 140 = .ok (.iastore, 1) := by decide +kernel
theorem dX7_grow_141 : decode cX7_grow 141 = .ok (.goto 17, 3) := by decide +kernel
theorem dX7_grow_144 : decode cX7_grow 144 = .ok (.iload 5, 2) := by decide +kernel
theorem dX7_grow_146 : decode cX7_grow 146 = .ok (.ifCond .lt 12, 3) := by decide +kernel
theorem dX7_grow_149 : decode cX7_grow 149 = .ok (.aload_n 0, 1) := by decide +kernel
theorem dX7_grow_150 : decode cX7_grow 150 = .ok (.getfield 35, 3) := by decide +kernel
theorem dX7_grow_153 : decode cX7_grow 153 = .ok (.iload 5, 2) := by decide +kernel
theorem dX7_grow_155 : decode cX7_grow 155 = .ok (.iload 6, 2) := by decide +kernel
theorem dX7_grow_157 : decode cX7_grow 157 = .ok (.iastore, 1) := by decide +kernel
theorem dX7_grow_158 : decode cX7_grow 158 = .ok (.aload_n 0, 1) := by decide +kernel
theorem dX7_grow_159 : decode cX7_grow 159 = .ok (.getfield 41, 3) := by decide +kernel
theorem dX7_grow_162 : decode cX7_grow 162 = .ok (.iload 6, 2) := by decide +kernel
theorem dX7_grow_164 : decode cX7_grow 164 = .ok (.iload 4, 2) := by decide +kernel
theorem dX7_grow_166 : decode cX7_grow 166 = .ok (.iastore, 1) := by decide +kernel
theorem dX7_grow_167 : decode cX7_grow 167 = .ok (.aload_n 0, 1) := by decide +kernel
theorem dX7_grow_168 : decode cX7_grow 168 = .ok (.getfield 38, 3) := by decide +kernel
theorem dX7_grow_171 : decode cX7_grow 171 = .ok (.iload 6, 2) := by decide +kernel
theorem dX7_grow_173 : decode cX7_grow 173 = .ok (.aload_n 0, 1) := by decide +kernel
theorem dX7_grow_174 : decode cX7_grow 174 = .ok (.iload_n 2, 1) := by decide +kernel
theorem dX7_grow_175 : decode cX7_grow 175 = .ok (.iload_n 3, 1) := by decide +kernel
theorem dX7_grow_176 : decode cX7_grow 176 = .ok (.invokevirtual 180, 3) := by decide +kernel
theorem dX7_grow_179 : decode cX7_grow 179 = .ok (.iastore, 1) := by decide +kernel
theorem dX7_grow_180 : decode cX7_grow 180 = .ok (.aload_n 0, 1) := by decide +kernel
theorem dX7_grow_181 : decode cX7_grow 181 = .ok (.getfield 29, 3) := by decide +kernel
theorem dX7_grow_184 : decode cX7_grow 184 = .ok (.iload 6, 2) := by decide +kernel
theorem dX7_grow_186 : decode cX7_grow 186 = .ok (.aload_n 0, 1) := by decide +kernel
theorem dX7_grow_187 : decode cX7_grow 187 = .ok (.getfield 38, 3) := by decide +kernel
theorem dX7_grow_190 : decode cX7_grow 190 = .ok (.iload 6, 2) := by decide +kernel
theorem dX7_grow_192 : decode cX7_grow 192 = .ok (.iaload, 1) := by decide +kernel
theorem dX7_grow_193 : decode cX7_grow 193 = .ok (.ifCond .ge 12, 3) := by decide +kernel
theorem dX7_grow_196 : decode cX7_grow 196 = .ok (.aload_n 0, 1) := by decide +kernel
theorem dX7_grow_197 : decode cX7_grow 197 = .ok (.iload_n 2, 1) := by decide +kernel
theorem dX7_grow_198 : decode cX7_grow 198 = .ok (.iload_n 3, 1) := by decide +kernel
theorem dX7_grow_199 : decode cX7_grow 199 = .ok (.invokevirtual 184, 3) := by decide +kernel
theorem dX7_grow_202 : decode cX7_grow 202 = .ok (.goto 4, 3) := by decide +kernel
theorem dX7_grow_205 : decode cX7_grow 205 = .ok (.iconst (-1), 1) := by decide +kernel
theorem dX7_grow_206 : decode cX7_grow 206 = .ok (.iastore, 1) := by decide +kernel
theorem dX7_grow_207 : decode cX7_grow 207 = .ok (.aload_n 0, 1) := by decide +kernel
theorem dX7_grow_208 : decode cX7_grow 208 = .ok (.getfield 32, 3) := by decide +kernel
theorem dX7_grow_211 : decode cX7_grow 211 = .ok (.iload 6, 2) := by decide +kernel
theorem dX7_grow_213 : decode cX7_grow 213 = .ok (.iconst (-1), 1) := by decide +kernel
theorem dX7_grow_214 : decode cX7_grow 214 = .ok (.iastore, 1) := by decide +kernel
theorem dX7_grow_215 : decode cX7_grow 215 = .ok (.aload_n 0, 1) := by decide +kernel
theorem dX7_grow_216 : decode cX7_grow 216 = .ok (.getfield 35, 3) := by decide +kernel
theorem dX7_grow_219 : decode cX7_grow 219 = .ok (.iload 6, 2) := by decide +kernel
theorem dX7_grow_221 : decode cX7_grow 221 = .ok (.iconst (-1), 1) := by decide +kernel
theorem dX7_grow_222 : decode cX7_grow 222 = .ok (.iastore, 1) := by decide +kernel
theorem dX7_grow_223 : decode cX7_grow 223 = .ok (.aload_n 0, 1) := by decide +kernel
theorem dX7_grow_224 : decode cX7_grow 224 = .ok (.getfield 29, 3) := by decide +kernel
theorem dX7_grow_227 : decode cX7_grow 227 = .ok (.iload 6, 2) := by decide +kernel
theorem dX7_grow_229 : decode cX7_grow 229 = .ok (.iaload, 1) := by decide +kernel
theorem dX7_grow_230 : decode cX7_grow 230 = .ok (.ifCond .lt 92, 3) := by decide +kernel
theorem dX7_grow_233 : decode cX7_grow 233 = .ok (.iconst 1, 1) := by decide +kernel
theorem dX7_grow_234 : decode cX7_grow 234 = .ok (.aload_n 0, 1) := by decide +kernel
theorem dX7_grow_235 : decode cX7_grow 235 = .ok (.getfield 29, 3) := by decide +kernel
theorem dX7_grow_238 : decode cX7_grow 238 = .ok (.iload 6, 2) := by decide +kernel
theorem dX7_grow_240 : decode cX7_grow 240 = .ok (.iaload, 1) := by decide +kernel
theorem dX7_grow_241 : decode cX7_grow 241 = .ok (.ishl, 1) := by decide +kernel
theorem dX7_grow_242 : decode cX7_grow 242 = .ok (.istore 7, 2) := by decide +kernel
theorem dX7_grow_244 : decode cX7_grow 244 = .ok (.aload_n 0, 1) := by decide +kernel
theorem dX7_grow_245 : decode cX7_grow 245 = .ok (.getfield 47, 3) := by decide +kernel
theorem dX7_grow_248 : decode cX7_grow 248 = .ok (.iload_n 1, 1) := by decide +kernel
theorem dX7_grow_249 : decode cX7_grow 249 = .ok (.iload_n 2, 1) := by decide +kernel
theorem dX7_grow_250 : decode cX7_grow 250 = .ok (.iastore, 1) := by decide +kernel
theorem dX7_grow_251 : decode cX7_grow 251 = .ok (.aload_n 0, 1) := by decide +kernel
theorem dX7_grow_252 : decode cX7_grow 252 = .ok (.getfield 50, 3) := by decide +kernel
theorem dX7_grow_255 : decode cX7_grow 255 = .ok (.iload_n 1, 1) := by decide +kernel
theorem dX7_grow_256 : decode cX7_grow 256 = .ok (.iload_n 3, 1) := by decide +kernel
theorem dX7_grow_257 : decode cX7_grow 257 = .ok (.iload 7, 2) := by decide +kernel
theorem dX7_grow_259 : decode cX7_grow 259 = .ok (.ior, 1) := by decide +kernel
theorem dX7_grow_260 : decode cX7_grow 260 = .ok (.iastore, 1) := by decide +kernel
theorem dX7_grow_261 : decode cX7_grow 261 = .ok (.aload_n 0, 1) := by decide +kernel
theorem dX7_grow_262 : decode cX7_grow 262 = .ok (.getfield 47, 3) := by decide +kernel
theorem dX7_grow_265 : decode cX7_grow 265 = .ok (.iload_n 1, 1) := by decide +kernel
theorem dX7_grow_266 : decode cX7_grow 266 = .ok (.iconst 1, 1) := by decide +kernel
theorem dX7_grow_267 : decode cX7_grow 267 = .ok (.iadd, 1) := by decide +kernel
theorem dX7_grow_268 : decode cX7_grow 268 = .ok (.iload_n 2, 1) := by decide +kernel
theorem dX7_grow_269 : decode cX7_grow 269 = .ok (.iload 7, 2) := by decide +kernel
theorem dX7_grow_271 : decode cX7_grow 271 = .ok (.ior, 1) := by decide +kernel
theorem dX7_grow_272 : decode cX7_grow 272 = .ok (.iastore, 1) := by decide +kernel
theorem dX7_grow_273 : decode cX7_grow 273 = .ok (.aload_n 0, 1) := by decide +kernel
theorem dX7_grow_274 : decode cX7_grow 274 = .ok (.getfield 50, 3) := by decide +kernel
theorem dX7_grow_277 : decode cX7_grow 277 = .ok (.iload_n 1, 1) := by decide +kernel
theorem dX7_grow_278 : decode cX7_grow 278 = .ok (.iconst 1, 1) := by decide +kernel
theorem dX7_grow_279 : decode cX7_grow 279 = .ok (.iadd, 1) := by decide +kernel
theorem dX7_grow_280 : decode cX7_grow 280 = .ok (.iload_n 3, 1) := by decide +kernel
theorem dX7_grow_281 : decode cX7_grow 281 = .ok (.iastore, 1) := by decide +kernel
theorem dX7_grow_282 : decode cX7_grow 282 = .ok (.iload_n 1, 1) := by decide +kernel
theorem dX7_grow_283 : decode cX7_grow 283 = .ok (.istore 8, 2) := by decide +kernel
theorem dX7_grow_285 : decode cX7_grow 285 = .ok (.iload 8, 2) := by decide +kernel
theorem dX7_grow_287 : decode cX7_grow 287 = .ok (.iload_n 1, 1) := by decide +kernel
theorem dX7_grow_288 : decode cX7_grow 288 = .ok (.iconst 2, 1) := by decide +kernel
theorem dX7_grow_289 : decode cX7_grow 289 = .ok (.iadd, 1) := by decide +kernel
theorem dX7_grow_290 : decode cX7_grow 290 = .ok (.if_icmp .ge 29, 3) := by decide +kernel
theorem dX7_grow_293 : decode cX7_grow 293 = .ok (.aload_n 0, 1) := by decide +kernel
theorem dX7_grow_294 : decode cX7_grow 294 = .ok (.getfield 53, 3) := by decide +kernel
theorem dX7_grow_297 : decode cX7_grow 297 = .ok (.iload 8, 2) := by decide +kernel
theorem dX7_grow_299 : decode cX7_grow 299 = .ok (.iload 6, 2) := by decide +kernel
theorem dX7_grow_301 : decode cX7_grow 301 = .ok (.iastore, 1) := by decide +kernel
theorem dX7_grow_302 : decode cX7_grow 302 = .ok (.aload_n 0, 1) := by decide +kernel
theorem dX7_grow_303 : decode cX7_grow 303 = .ok (.getfield 56, 3) := by decide +kernel
theorem dX7_grow_306 : decode cX7_grow 306 = .ok (.iload 8, 2) := by decide +kernel
theorem dX7_grow_308 : decode cX7_grow 308 = .ok (.iload 4, 2) := by decide +kernel
theorem dX7_grow_310 : decode cX7_grow 310 = .ok (.iconst 1, 1) := by decide +kernel
theorem dX7_grow_311 : decode cX7_grow 311 = .ok (.iadd, 1) := by decide +kernel
theorem dX7_grow_312 : decode cX7_grow 312 = .ok (.iastore, 1) := by decide +kernel
theorem dX7_grow_313 : decode cX7_grow 313 = .ok (.iinc 8 1, 3) := by decide +kernel
theorem dX7_grow_316 : decode cX7_grow 316 = .ok (.goto (-31), 3) := by decide +kernel
theorem dX7_grow_319 : decode cX7_grow 319 = .ok (.iinc 1 2, 3) := by decide +kernel
theorem dX7_grow_322 : decode cX7_grow 322 = .ok (.goto (-287), 3) := by decide +kernel
theorem dX7_grow_325 : decode cX7_grow 325 = .ok (.aload_n 0, 1) := by decide +kernel
theorem dX7_grow_326 : decode cX7_grow 326 = .ok (.getfield 154, 3) := by decide +kernel
theorem dX7_grow_329 : decode cX7_grow 329 = .ok (.ifCond .eq 7, 3) := by decide +kernel
theorem dX7_grow_332 : decode cX7_grow 332 = .ok (.aload_n 0, 1) := by decide +kernel
theorem dX7_grow_333 : decode cX7_grow 333 = .ok (.invokevirtual 187, 3) := by decide +kernel
theorem dX7_grow_336 : decode cX7_grow 336 = .ok (.return_, 1) := by decide +kernel
theorem dX7_write_0 : decode cX7_write 0 = .ok (.iconst 0, 1) := by decide +kernel
theorem dX7_write_1 : decode cX7_write 1 = .ok (.istore_n 1, 1) := by decide +kernel
theorem dX7_write_2 : decode cX7_write 2 = .ok (.iconst 0, 1) := by decide +kernel
theorem dX7_write_3 : decode cX7_write 3 = .ok (.istore_n 2, 1) := by decide +kernel
theorem dX7_write_4 : decode cX7_write 4 = .ok (.iload_n 2, 1) := by decide +kernel
theorem dX7_write_5 : decode cX7_write 5 = .ok (.aload_n 0, 1) := by decide +kernel
theorem dX7_write_6 : decode cX7_write 6 = .ok (.getfield 157, 3) := by decide +kernel
theorem dX7_write_9 : decode cX7_write 9 = .ok (.if_icmp .ge 33, 3) := by decide +kernel
theorem dX7_write_12 : decode cX7_write 12 = .ok (.aload_n 0, 1) := by decide +kernel
theorem dX7_write_13 : decode cX7_write 13 = .ok (.getfield 44, 3) := by decide +kernel
theorem dX7_write_16 : decode cX7_write 16 = .ok (.iload_n 2, 1) := by decide +kernel
theorem dX7_write_17 : decode cX7_write 17 = .ok (.iload_n 1, 1) := by decide +kernel
theorem dX7_write_18 : decode cX7_write 18 = .ok (.iastore, 1) := by decide +kernel
theorem dX7_write_19 : decode cX7_write 19 = .ok (.iload_n 1, 1) := by decide +kernel
theorem dX7_write_20 : decode cX7_write 20 = .ok (.aload_n 0, 1) := by decide +kernel
theorem dX7_write_21 : decode cX7_write 21 = .ok (.getfield 29, 3) := by decide +kernel
theorem dX7_write_24 : decode cX7_write 24 = .ok (.iload_n 2, 1) := by decide +kernel
theorem dX7_write_25 : decode cX7_write 25 = .ok (.iaload, 1) := by decide +kernel
theorem dX7_write_26 : decode cX7_write 26 = .ok (.ifCond .ge 7, 3) := by decide +kernel
theorem dX7_write_29 : decode cX7_write 29 = .ok (.iconst 1, 1) := by decide +kernel
theorem dX7_write_30 : decode cX7_write 30 = .ok (.goto 4, 3) := by decide +kernel
theorem dX7_write_33 : decode cX7_write 33 = .ok (.iconst 3, 1) := by decide +kernel
theorem dX7_write_34 : decode cX7_write 34 = .ok (.iadd, 1) := by decide +kernel
theorem dX7_write_35 : decode cX7_write 35 = .ok (.istore_n 1, 1) := by decide +kernel
theorem dX7_write_36 : decode cX7_write 36 = .ok (.iinc 2 1, 3) := by decide +kernel
theorem dX7_write_39 : decode cX7_write 39 = .ok (.goto (-35), 3) := by decide +kernel
theorem dX7_write_42 : decode cX7_write 42 = .ok (.aload_n 0, 1) := by decide +kernel
theorem dX7_write_43 : decode cX7_write 43 = .ok (.iload_n 1, 1) := by decide +kernel
theorem dX7_write_44 : decode cX7_write 44 = .ok (.putfield 160, 3) := by decide +kernel
theorem dX7_write_47 : decode cX7_write 47 = .ok (.iconst 0, 1) := by decide +kernel
theorem dX7_write_48 : decode cX7_write 48 = .ok (.istore_n 2, 1) := by decide +kernel
theorem dX7_write_49 : decode cX7_write 49 = .ok (.iload_n 2, 1) := by decide +kernel
theorem dX7_write_50 : decode cX7_write 50 = .ok (.aload_n 0, 1) := by decide +kernel
theorem dX7_write_51 : decode cX7_write 51 = .ok (.getfield 157, 3) := by decide +kernel
theorem dX7_write_54 : decode cX7_write 54 = .ok (.if_icmp .ge 101, 3) := by decide +kernel
theorem dX7_write_57 : decode cX7_write 57 = .ok (.aload_n 0, 1) := by decide +kernel
theorem dX7_write_58 : decode cX7_write 58 = .ok (.getfield 44, 3) := by decide +kernel
theorem dX7_write_61 : decode cX7_write 61 = .ok (.iload_n 2, 1) := by decide +kernel
theorem dX7_write_62 : decode cX7_write 62 = .ok (.iaload, 1) := by decide +kernel
theorem dX7_write_63 : decode cX7_write 63 = .ok (.istore_n 3, 1) := by decide +kernel
theorem dX7_write_64 : decode cX7_write 64 = .ok (.aload_n 0, 1) := by decide +kernel
theorem dX7_write_65 : decode cX7_write 65 = .ok (.getfield 29, 3) := by decide +kernel
theorem dX7_write_68 : decode cX7_write 68 = .ok (.iload_n 2, 1) := by decide +kernel
theorem dX7_write_69 : decode cX7_write 69 = .ok (.iaload, 1) := by decide +kernel
theorem dX7_write_70 : decode cX7_write 70 = .ok (.ifCond .ge 22, 3) := by decide +kernel
theorem dX7_write_73 : decode cX7_write 73 = .ok (.aload_n 0, 1) := by decide +kernel
theorem dX7_write_74 : decode cX7_write 74 = .ok (.getfield 59, 3) := by decide +kernel
theorem dX7_write_77 : decode cX7_write 77 = .ok (.iload_n 3, 1) := by decide +kernel
theorem dX7_write_78 : decode cX7_write 78 = .ok (.sipush 128, 3) := by decide +kernel
theorem dX7_write_81 : decode cX7_write 81 = .ok (.aload_n 0, 1) := by decide +kernel
theorem dX7_write_82 : decode cX7_write 82 = .ok (.getfield 38, 3) := by decide +kernel
theorem dX7_write_85 : decode cX7_write 85 = .ok (.iload_n 2, 1) := by decide +kernel
theorem dX7_write_86 : decode cX7_write 86 = .ok (.iaload, 1) := by decide +kernel
theorem dX7_write_87 : decode cX7_write 87 = .ok (.iadd, 1) := by decide +kernel
theorem dX7_write_88 : decode cX7_write 88 = .ok (.iastore, 1) := by decide +kernel
theorem dX7_write_89 : decode cX7_write 89 = .ok (.goto 60, 3) := by decide +kernel
theorem dX7_write_92 : decode cX7_write 92 = .ok (.aload_n 0, 1) := by decide +kernel
theorem dX7_write_93 : decode cX7_write 93 = .ok (.getfield 59, 3) := by decide +kernel
theorem dX7_write_96 : decode cX7_write 96 = .ok (.iload_n 3, 1) := by decide +kernel
theorem dX7_write_97 : decode cX7_write 97 = .ok (.aload_n 0, 1) := by decide +kernel
theorem dX7_write_98 : decode cX7_write 98 = .ok (.getfield 29, 3) := by decide +kernel
theorem dX7_write_101 : decode cX7_write 101 = .ok (.iload_n 2, 1) := by decide +kernel
theorem dX7_write_102 : decode cX7_write 102 = .ok (.iaload, 1) := by decide +kernel
theorem dX7_write_103 : decode cX7_write 103 = .ok (.iastore, 1) := by decide +kernel
theorem dX7_write_104 : decode cX7_write 104 = .ok (.aload_n 0, 1) := by decide +kernel
theorem dX7_write_105 : decode cX7_write 105 = .ok (.getfield 59, 3) := by decide +kernel
theorem dX7_write_108 : decode cX7_write 108 = .ok (.iload_n 3, 1) := by decide +kernel
theorem dX7_write_109 : decode cX7_write 109 = .ok (.iconst 1, 1) := by decide +kernel
theorem dX7_write_110 : decode cX7_write 110 = .ok (.iadd, 1) := by decide +kernel
theorem dX7_write_111 : decode cX7_write 111 = .ok (.aload_n 0, 1) := by decide +kernel
theorem dX7_write_112 : decode cX7_write 112 = .ok (.getfield 44, 3) := by decide +kernel
theorem dX7_write_115 : decode cX7_write 115 = .ok (.aload_n 0, 1) := by decide +kernel
theorem dX7_write_116 : decode cX7_write 116 = .ok (.getfield 35, 3) := by decide +kernel
theorem dX7_write_119 : decode cX7_write 119 = .ok (.iload_n 2, 1) := by decide +kernel
theorem dX7_write_120 : decode cX7_write 120 = .ok (.iaload, 1) := by decide +kernel
theorem dX7_write_121 : decode cX7_write 121 = .ok (.iaload, 1) := by decide +kernel
theorem dX7_write_122 : decode cX7_write 122 = .ok (.bipush 8, 2) := by decide +kernel
theorem dX7_write_124 : decode cX7_write 124 = .ok (.ishr, 1) := by decide +kernel
theorem dX7_write_125 : decode cX7_write 125 = .ok (.iastore, 1) := by decide +kernel
theorem dX7_write_126 : decode cX7_write 126 = .ok (.aload_n 0, 1) := by decide +kernel
theorem dX7_write_127 : decode cX7_write 127 = .ok (.getfield 59, 3) := by decide +kernel
theorem dX7_write_130 : decode cX7_write 130 = .ok (.iload_n 3, 1) := by decide +kernel
theorem dX7_write_131 : decode cX7_write 131 = .ok (.iconst 2, 1) := by decide +kernel
theorem dX7_write_132 : decode cX7_write 132 = .ok (.iadd, 1) := by decide +kernel
theorem dX7_write_133 : decode cX7_write 133 = .ok (.aload_n 0, 1) := by decide +kernel
theorem dX7_write_134 : decode cX7_write 134 = .ok (.getfield 44, 3) := by decide +kernel
theorem dX7_write_137 : decode cX7_write 137 = .ok (.aload_n 0, 1) := by decide +kernel
theorem dX7_write_138 : decode cX7_write 138 = .ok (.getfield 35, 3) := by decide +kernel
theorem dX7_write_141 : decode cX7_write 141 = .ok (.iload_n 2, 1) := by decide +kernel
theorem dX7_write_142 : decode cX7_write 142 = .ok (.iaload, 1) := by decide +kernel
theorem dX7_write_143 : decode cX7_write 143 = .ok (.iaload, 1) := by decide +kernel
theorem dX7_write_144 : decode cX7_write 144 = .ok (.sipush 255, 3) := by decide +kernel
theorem dX7_write_147 : decode cX7_write 147 = .ok (.iand, 1) := by decide +kernel
theorem dX7_write_148 : decode cX7_write 148 = .ok (.iastore, 1) := by decide +kernel
theorem dX7_write_149 : decode cX7_write 149 = .ok (.iinc 2 1, 3) := by decide +kernel
theorem dX7_write_152 : decode cX7_write 152 = .ok (.goto (-103), 3) := by decide +kernel
theorem dX7_write_155 : decode cX7_write 155 = .ok (.return_, 1) := by decide +kernel
theorem dX7_amiss_0 : decode cX7_amiss 0 = .ok (.aload_n 0, 1) := by decide +kernel
theorem dX7_amiss_1 : decode cX7_amiss 1 = .ok (.aload_n 0, 1) := by decide +kernel
theorem dX7_amiss_2 : decode cX7_amiss 2 = .ok (.getfield 125, 3) := by decide +kernel
theorem dX7_amiss_5 : decode cX7_amiss 5 = .ok (.ifCond .ne 7, 3) := by decide +kernel
theorem dX7_amiss_8 : decode cX7_amiss 8 = .ok (.iconst 1, 1) := by decide +kernel
theorem dX7_amiss_9 : decode cX7_amiss 9 = .ok (.goto 17, 3) := by decide +kernel
theorem dX7_amiss_12 : decode cX7_amiss 12 = .ok (.iload_n 1, 1) := by decide +kernel
theorem dX7_amiss_13 : decode cX7_amiss 13 = .ok (.ifCond .lt 8, 3) := by decide +kernel
theorem dX7_amiss_16 : decode cX7_amiss 16 = .ok (.iload_n 1, 1) := by decide +kernel
theorem dX7_amiss_17 : decode cX7_amiss 17 = .ok (.iconst 2, 1) := by decide +kernel
theorem dX7_amiss_18 : decode cX7_amiss 18 = .ok (.if_icmp .le 7, 3) := by decide +kernel
theorem dX7_amiss_21 : decode cX7_amiss 21 = .ok (.iconst 2, 1) := by decide +kernel
theorem dX7_amiss_22 : decode cX7_amiss 22 = .ok (.goto 4, 3) := by decide +kernel
theorem dX7_amiss_25 : decode cX7_amiss 25 = .ok (.iconst 0, 1) := by decide +kernel
theorem dX7_amiss_26 : decode cX7_amiss 26 = .ok (.putfield 62, 3) := by decide +kernel
theorem dX7_amiss_29 : decode cX7_amiss 29 = .ok (.aload_n 0, 1) := by decide +kernel
theorem dX7_amiss_30 : decode cX7_amiss 30 = .ok (.getfield 62, 3) := by decide +kernel
theorem dX7_amiss_33 : decode cX7_amiss 33 = .ok (.ifCond .le 7, 3) := by decide +kernel
theorem dX7_amiss_36 : decode cX7_amiss 36 = .ok (.iconst 0, 1) := by decide +kernel
theorem dX7_amiss_37 : decode cX7_amiss 37 = .ok (.goto 30, 3) := by decide +kernel
theorem dX7_amiss_40 : decode cX7_amiss 40 = .ok (.iload_n 1, 1) := by decide +kernel
theorem dX7_amiss_41 : decode cX7_amiss 41 = .ok (.ifCond .ne 10, 3) := by decide +kernel
theorem dX7_amiss_44 : decode cX7_amiss 44 = .ok (.aload_n 0, 1) := by decide +kernel
theorem dX7_amiss_45 : decode cX7_amiss 45 = .ok (.getfield 145, 3) := by decide +kernel
theorem dX7_amiss_48 : decode cX7_amiss 48 = .ok (.goto 19, 3) := by decide +kernel
theorem dX7_amiss_51 : decode cX7_amiss 51 = .ok (.iload_n 1, 1) := by decide +kernel
theorem dX7_amiss_52 : decode cX7_amiss 52 = .ok (.iconst 1, 1) := by decide +kernel
theorem dX7_amiss_53 : decode cX7_amiss 53 = .ok (.if_icmp .ne 10, 3) := by decide +kernel
theorem dX7_amiss_56 : decode cX7_amiss 56 = .ok (.aload_n 0, 1) := by decide +kernel
theorem dX7_amiss_57 : decode cX7_amiss 57 = .ok (.getfield 148, 3) := by decide +kernel
theorem dX7_amiss_60 : decode cX7_amiss 60 = .ok (.goto 7, 3) := by decide +kernel
theorem dX7_amiss_63 : decode cX7_amiss 63 = .ok (.aload_n 0, 1) := by decide +kernel
theorem dX7_amiss_64 : decode cX7_amiss 64 = .ok (.getfield 151, 3) := by decide +kernel
theorem dX7_amiss_67 : decode cX7_amiss 67 = .ok (.ireturn, 1) := by decide +kernel
theorem dX7_count_0 : decode cX7_count 0 = .ok (.aload_n 0, 1) := by decide +kernel
theorem dX7_count_1 : decode cX7_count 1 = .ok (.iload_n 1, 1) := by decide +kernel
theorem dX7_count_2 : decode cX7_count 2 = .ok (.ifCond .lt 9, 3) := by decide +kernel
theorem dX7_count_5 : decode cX7_count 5 = .ok (.iload_n 1, 1) := by decide +kernel
theorem dX7_count_6 : decode cX7_count 6 = .ok (.bipush 7, 2) := by decide +kernel
theorem dX7_count_8 : decode cX7_count 8 = .ok (.if_icmp .le 7, 3) := by decide +kernel
theorem dX7_count_11 : decode cX7_count 11 = .ok (.iconst 1, 1) := by decide +kernel
theorem dX7_count_12 : decode cX7_count 12 = .ok (.goto 4, 3) := by decide +kernel
theorem dX7_count_15 : decode cX7_count 15 = .ok (.iconst 0, 1) := by decide +kernel
theorem dX7_count_16 : decode cX7_count 16 = .ok (.putfield 62, 3) := by decide +kernel
theorem dX7_count_19 : decode cX7_count 19 = .ok (.iload_n 1, 1) := by decide +kernel
theorem dX7_count_20 : decode cX7_count 20 = .ok (.bipush 7, 2) := by decide +kernel
theorem dX7_count_22 : decode cX7_count 22 = .ok (.if_icmp .ne 8, 3) := by decide +kernel
theorem dX7_count_25 : decode cX7_count 25 = .ok (.aload_n 0, 1) := by decide +kernel
theorem dX7_count_26 : decode cX7_count 26 = .ok (.getfield 66, 3) := by decide +kernel
theorem dX7_count_29 : decode cX7_count 29 = .ok (.ireturn, 1) := by decide +kernel
theorem dX7_count_30 : decode cX7_count 30 = .ok (.aload_n 0, 1) := by decide +kernel
theorem dX7_count_31 : decode cX7_count 31 = .ok (.getfield 62, 3) := by decide +kernel
theorem dX7_count_34 : decode cX7_count 34 = .ok (.ifCond .gt 10, 3) := by decide +kernel
theorem dX7_count_37 : decode cX7_count 37 = .ok (.aload_n 0, 1) := by decide +kernel
theorem dX7_count_38 : decode cX7_count 38 = .ok (.getfield 125, 3) := by decide +kernel
theorem dX7_count_41 : decode cX7_count 41 = .ok (.ifCond .ne 5, 3) := by decide +kernel
theorem dX7_count_44 : decode cX7_count 44 = .ok (.iconst 0, 1) := by decide +kernel
theorem dX7_count_45 : decode cX7_count 45 = .ok (.ireturn, 1) := by decide +kernel
theorem dX7_count_46 : decode cX7_count 46 = .ok (.iconst 0, 1) := by decide +kernel
theorem dX7_count_47 : decode cX7_count 47 = .ok (.istore_n 2, 1) := by decide +kernel
theorem dX7_count_48 : decode cX7_count 48 = .ok (.iload_n 1, 1) := by decide +kernel
theorem dX7_count_49 : decode cX7_count 49 = .ok (.tableswitch 99 0 5 #[39, 44, 49, 54, 59, 94], 39) := by decide +kernel
theorem dX7_count_88 : decode cX7_count 88 = .ok (.aload_n 0, 1) := by decide +kernel
theorem dX7_count_89 : decode cX7_count 89 = .ok (.getfield 116, 3) := by decide +kernel
theorem dX7_count_92 : decode cX7_count 92 = .ok (.ireturn, 1) := by decide +kernel
theorem dX7_count_93 : decode cX7_count 93 = .ok (.aload_n 0, 1) := by decide +kernel
theorem dX7_count_94 : decode cX7_count 94 = .ok (.getfield 119, 3) := by decide +kernel
theorem dX7_count_97 : decode cX7_count 97 = .ok (.ireturn, 1) := by decide +kernel
theorem dX7_count_98 : decode cX7_count 98 = .ok (.aload_n 0, 1) := by decide +kernel
theorem dX7_count_99 : decode cX7_count 99 = .ok (.getfield 122, 3) := by decide +kernel
theorem dX7_count_102 : decode cX7_count 102 = .ok (.ireturn, 1) := by decide +kernel
theorem dX7_count_103 : decode cX7_count 103 = .ok (.aload_n 0, 1) := by decide +kernel
theorem dX7_count_104 : decode cX7_count 104 = .ok (.getfield 157, 3) := by decide +kernel
theorem dX7_count_107 : decode cX7_count 107 = .ok (.ireturn, 1) := by decide +kernel
theorem dX7_count_108 : decode cX7_count 108 = .ok (.iconst 0, 1) := by decide +kernel
theorem dX7_count_109 : decode cX7_count 109 = .ok (.istore_n 3, 1) := by decide +kernel
theorem dX7_count_110 : decode cX7_count 110 = .ok (.iload_n 3, 1) := by decide +kernel
theorem dX7_count_111 : decode cX7_count 111 = .ok (.aload_n 0, 1) := by decide +kernel
theorem dX7_count_112 : decode cX7_count 112 = .ok (.getfield 157, 3) := by decide +kernel
theorem dX7_count_115 : decode cX7_count 115 = .ok (.if_icmp .ge 26, 3) := by decide +kernel
theorem dX7_count_118 : decode cX7_count 118 = .ok (.iload_n 2, 1) := by decide +kernel
theorem dX7_count_119 : decode cX7_count 119 = .ok (.aload_n 0, 1) := by decide +kernel
theorem dX7_count_120 : decode cX7_count 120 = .ok (.getfield 29, 3) := by decide +kernel
theorem dX7_count_123 : decode cX7_count 123 = .ok (.iload_n 3, 1) := by decide +kernel
theorem dX7_count_124 : decode cX7_count 124 = .ok (.iaload, 1) := by decide +kernel
theorem dX7_count_125 : decode cX7_count 125 = .ok (.ifCond .ge 7, 3) := by decide +kernel
theorem dX7_count_128 : decode cX7_count 128 = .ok (.iconst 1, 1) := by decide +kernel
theorem dX7_count_129 : decode cX7_count 129 = .ok (.goto 4, 3) := by decide +kernel
theorem dX7_count_132 : decode cX7_count 132 = .ok (.iconst 0, 1) := by decide +kernel
theorem dX7_count_133 : decode cX7_count 133 = .ok (.iadd, 1) := by decide +kernel
theorem dX7_count_134 : decode cX7_count 134 = .ok (.istore_n 2, 1) := by decide +kernel
theorem dX7_count_135 : decode cX7_count 135 = .ok (.iinc 3 1, 3) := by decide +kernel
theorem dX7_count_138 : decode cX7_count 138 = .ok (.goto (-28), 3) := by decide +kernel
theorem dX7_count_141 : decode cX7_count 141 = .ok (.iload_n 2, 1) := by decide +kernel
theorem dX7_count_142 : decode cX7_count 142 = .ok (.ireturn, 1) := by decide +kernel
theorem dX7_count_143 : decode cX7_count 143 = .ok (.aload_n 0, 1) := by decide +kernel
theorem dX7_count_144 : decode cX7_count 144 = .ok (.getfield 160, 3) := by decide +kernel
theorem dX7_count_147 : decode cX7_count 147 = .ok (.ireturn, 1) := by decide +kernel
theorem dX7_count_148 : decode cX7_count 148 = .ok (.iconst 0, 1) := by decide +kernel
theorem dX7_count_149 : decode cX7_count 149 = .ok (.istore_n 3, 1) := by decide +kernel
theorem dX7_count_150 : decode cX7_count 150 = .ok (.iload_n 3, 1) := by decide +kernel
theorem dX7_count_151 : decode cX7_count 151 = .ok (.aload_n 0, 1) := by decide +kernel
theorem dX7_count_152 : decode cX7_count 152 = .ok (.getfield 157, 3) := by decide +kernel
theorem dX7_count_155 : decode cX7_count 155 = .ok (.if_icmp .ge 30, 3) := by decide +kernel
theorem dX7_count_158 : decode cX7_count 158 = .ok (.aload_n 0, 1) := by decide +kernel
theorem dX7_count_159 : decode cX7_count 159 = .ok (.getfield 41, 3) := by decide +kernel
theorem dX7_count_162 : decode cX7_count 162 = .ok (.iload_n 3, 1) := by decide +kernel
theorem dX7_count_163 : decode cX7_count 163 = .ok (.iaload, 1) := by decide +kernel
theorem dX7_count_164 : decode cX7_count 164 = .ok (.iload_n 2, 1) := by decide +kernel
theorem dX7_count_165 : decode cX7_count 165 = .ok (.if_icmp .le 12, 3) := by decide +kernel
theorem dX7_count_168 : decode cX7_count 168 = .ok (.aload_n 0, 1) := by decide +kernel
theorem dX7_count_169 : decode cX7_count 169 = .ok (.getfield 41, 3) := by decide +kernel
theorem dX7_count_172 : decode cX7_count 172 = .ok (.iload_n 3, 1) := by decide +kernel
theorem dX7_count_173 : decode cX7_count 173 = .ok (.iaload, 1) := by decide +kernel
theorem dX7_count_174 : decode cX7_count 174 = .ok (.goto 4, 3) := by decide +kernel
theorem dX7_count_177 : decode cX7_count 177 = .ok (.iload_n 2, 1) := by decide +kernel
theorem dX7_count_178 : decode cX7_count 178 = .ok (.istore_n 2, 1) := by decide +kernel
theorem dX7_count_179 : decode cX7_count 179 = .ok (.iinc 3 1, 3) := by decide +kernel
theorem dX7_count_182 : decode cX7_count 182 = .ok (.goto (-32), 3) := by decide +kernel
theorem dX7_count_185 : decode cX7_count 185 = .ok (.iload_n 2, 1) := by decide +kernel
theorem dX7_count_186 : decode cX7_count 186 = .ok (.ireturn, 1) := by decide +kernel
theorem dX7_rule_0 : decode cX7_rule 0 = .ok (.aload_n 0, 1) := by decide +kernel
theorem dX7_rule_1 : decode cX7_rule 1 = .ok (.aload_n 0, 1) := by decide +kernel
theorem dX7_rule_2 : decode cX7_rule 2 = .ok (.getfield 125, 3) := by decide +kernel
theorem dX7_rule_5 : decode cX7_rule 5 = .ok (.ifCond .eq 28, 3) := by decide +kernel
theorem dX7_rule_8 : decode cX7_rule 8 = .ok (.iload_n 1, 1) := by decide +kernel
theorem dX7_rule_9 : decode cX7_rule 9 = .ok (.ifCond .lt 24, 3) := by decide +kernel
theorem dX7_rule_12 : decode cX7_rule 12 = .ok (.iload_n 1, 1) := by decide +kernel
theorem dX7_rule_13 : decode cX7_rule 13 = .ok (.aload_n 0, 1) := by decide +kernel
theorem dX7_rule_14 : decode cX7_rule 14 = .ok (.getfield 119, 3) := by decide +kernel
theorem dX7_rule_17 : decode cX7_rule 17 = .ok (.if_icmp .ge 16, 3) := by decide +kernel
theorem dX7_rule_20 : decode cX7_rule 20 = .ok (.iload_n 2, 1) := by decide +kernel
theorem dX7_rule_21 : decode cX7_rule 21 = .ok (.iconst (-1), 1) := by decide +kernel
theorem dX7_rule_22 : decode cX7_rule 22 = .ok (.if_icmp .lt 11, 3) := by decide +kernel
theorem dX7_rule_25 : decode cX7_rule 25 = .ok (.iload_n 2, 1) := by decide +kernel
theorem dX7_rule_26 : decode cX7_rule 26 = .ok (.aload_n 0, 1) := by decide +kernel
theorem dX7_rule_27 : decode cX7_rule 27 = .ok (.getfield 116, 3) := by decide +kernel
theorem dX7_rule_30 : decode cX7_rule 30 = .ok (.if_icmp .lt 7, 3) := by decide +kernel
theorem dX7_rule_33 : decode cX7_rule 33 = .ok (.iconst 1, 1) := by decide +kernel
theorem dX7_rule_34 : decode cX7_rule 34 = .ok (.goto 4, 3) := by decide +kernel
theorem dX7_rule_37 : decode cX7_rule 37 = .ok (.iconst 0, 1) := by decide +kernel
theorem dX7_rule_38 : decode cX7_rule 38 = .ok (.putfield 62, 3) := by decide +kernel
theorem dX7_rule_41 : decode cX7_rule 41 = .ok (.aload_n 0, 1) := by decide +kernel
theorem dX7_rule_42 : decode cX7_rule 42 = .ok (.getfield 62, 3) := by decide +kernel
theorem dX7_rule_45 : decode cX7_rule 45 = .ok (.ifCond .le 5, 3) := by decide +kernel
theorem dX7_rule_48 : decode cX7_rule 48 = .ok (.iconst 0, 1) := by decide +kernel
theorem dX7_rule_49 : decode cX7_rule 49 = .ok (.ireturn, 1) := by decide +kernel
theorem dX7_rule_50 : decode cX7_rule 50 = .ok (.iload_n 2, 1) := by decide +kernel
theorem dX7_rule_51 : decode cX7_rule 51 = .ok (.iconst (-1), 1) := by decide +kernel
theorem dX7_rule_52 : decode cX7_rule 52 = .ok (.if_icmp .ne 12, 3) := by decide +kernel
theorem dX7_rule_55 : decode cX7_rule 55 = .ok (.aload_n 0, 1) := by decide +kernel
theorem dX7_rule_56 : decode cX7_rule 56 = .ok (.getfield 26, 3) := by decide +kernel
theorem dX7_rule_59 : decode cX7_rule 59 = .ok (.iload_n 1, 1) := by decide +kernel
theorem dX7_rule_60 : decode cX7_rule 60 = .ok (.iaload, 1) := by decide +kernel
theorem dX7_rule_61 : decode cX7_rule 61 = .ok (.goto 40, 3) := by decide +kernel
theorem dX7_rule_64 : decode cX7_rule 64 = .ok (.aload_n 0, 1) := by decide +kernel
theorem dX7_rule_65 : decode cX7_rule 65 = .ok (.getfield 20, 3) := by decide +kernel
theorem dX7_rule_68 : decode cX7_rule 68 = .ok (.iload_n 1, 1) := by decide +kernel
theorem dX7_rule_69 : decode cX7_rule 69 = .ok (.iaload, 1) := by decide +kernel
theorem dX7_rule_70 : decode cX7_rule 70 = .ok (.iload_n 2, 1) := by decide +kernel
theorem dX7_rule_71 : decode cX7_rule 71 = .ok (.ishr, 1) := by decide +kernel
theorem dX7_rule_72 : decode cX7_rule 72 = .ok (.iconst 1, 1) := by decide +kernel
theorem dX7_rule_73 : decode cX7_rule 73 = .ok (.iand, 1) := by decide +kernel
theorem dX7_rule_74 : decode cX7_rule 74 = .ok (.iconst 1, 1) := by decide +kernel
theorem dX7_rule_75 : decode cX7_rule 75 = .ok (.if_icmp .ne 7, 3) := by decide +kernel
theorem dX7_rule_78 : decode cX7_rule 78 = .ok (.iconst 1, 1) := by decide +kernel
theorem dX7_rule_79 : decode cX7_rule 79 = .ok (.goto 22, 3) := by decide +kernel
theorem dX7_rule_82 : decode cX7_rule 82 = .ok (.aload_n 0, 1) := by decide +kernel
theorem dX7_rule_83 : decode cX7_rule 83 = .ok (.getfield 23, 3) := by decide +kernel
theorem dX7_rule_86 : decode cX7_rule 86 = .ok (.iload_n 1, 1) := by decide +kernel
theorem dX7_rule_87 : decode cX7_rule 87 = .ok (.iaload, 1) := by decide +kernel
theorem dX7_rule_88 : decode cX7_rule 88 = .ok (.iload_n 2, 1) := by decide +kernel
theorem dX7_rule_89 : decode cX7_rule 89 = .ok (.ishr, 1) := by decide +kernel
theorem dX7_rule_90 : decode cX7_rule 90 = .ok (.iconst 1, 1) := by decide +kernel
theorem dX7_rule_91 : decode cX7_rule 91 = .ok (.iand, 1) := by decide +kernel
theorem dX7_rule_92 : decode cX7_rule 92 = .ok (.iconst 1, 1) := by decide +kernel
theorem dX7_rule_93 : decode cX7_rule 93 = .ok (.if_icmp .ne 7, 3) := by decide +kernel
theorem dX7_rule_96 : decode cX7_rule 96 = .ok (.iconst 0, 1) := by decide +kernel
theorem dX7_rule_97 : decode cX7_rule 97 = .ok (.goto 4, 3) := by decide +kernel
theorem dX7_rule_100 : decode cX7_rule 100 = .ok (.iconst 2, 1) := by decide +kernel
theorem dX7_rule_101 : decode cX7_rule 101 = .ok (.ireturn, 1) := by decide +kernel
theorem dX7_name_0 : decode cX7_name 0 = .ok (.iload_n 1, 1) := by decide +kernel
theorem dX7_name_1 : decode cX7_name 1 = .ok (.ifCond .eq 10, 3) := by decide +kernel
theorem dX7_name_4 : decode cX7_name 4 = .ok (.bipush 16, 2) := by decide +kernel
theorem dX7_name_6 : decode cX7_name 6 = .ok (.iload_n 2, 1) := by decide +kernel
theorem dX7_name_7 : decode cX7_name 7 = .ok (.iadd, 1) := by decide +kernel
theorem dX7_name_8 : decode cX7_name 8 = .ok (.goto 4, 3) := by decide +kernel
theorem dX7_name_11 : decode cX7_name 11 = .ok (.iload_n 2, 1) := by decide +kernel
theorem dX7_name_12 : decode cX7_name 12 = .ok (.istore 4, 2) := by decide +kernel
theorem dX7_name_14 : decode cX7_name 14 = .ok (.aload_n 0, 1) := by decide +kernel
theorem dX7_name_15 : decode cX7_name 15 = .ok (.aload_n 0, 1) := by decide +kernel
theorem dX7_name_16 : decode cX7_name 16 = .ok (.getfield 125, 3) := by decide +kernel
theorem dX7_name_19 : decode cX7_name 19 = .ok (.ifCond .eq 42, 3) := by decide +kernel
theorem dX7_name_22 : decode cX7_name 22 = .ok (.iload_n 2, 1) := by decide +kernel
theorem dX7_name_23 : decode cX7_name 23 = .ok (.ifCond .lt 38, 3) := by decide +kernel
theorem dX7_name_26 : decode cX7_name 26 = .ok (.iload_n 2, 1) := by decide +kernel
theorem dX7_name_27 : decode cX7_name 27 = .ok (.iload_n 1, 1) := by decide +kernel
theorem dX7_name_28 : decode cX7_name 28 = .ok (.ifCond .eq 10, 3) := by decide +kernel
theorem dX7_name_31 : decode cX7_name 31 = .ok (.aload_n 0, 1) := by decide +kernel
theorem dX7_name_32 : decode cX7_name 32 = .ok (.getfield 122, 3) := by decide +kernel
theorem dX7_name_35 : decode cX7_name 35 = .ok (.goto 7, 3) := by decide +kernel
theorem dX7_name_38 : decode cX7_name 38 = .ok (.aload_n 0, 1) := by decide +kernel
theorem dX7_name_39 : decode cX7_name 39 = .ok (.getfield 116, 3) := by decide +kernel
theorem dX7_name_42 : decode cX7_name 42 = .ok (.if_icmp .ge 19, 3) := by decide +kernel
theorem dX7_name_45 : decode cX7_name 45 = .ok (.iload_n 3, 1) := by decide +kernel
theorem dX7_name_46 : decode cX7_name 46 = .ok (.iconst (-1), 1) := by decide +kernel
theorem dX7_name_47 : decode cX7_name 47 = .ok (.if_icmp .lt 14, 3) := by decide +kernel
theorem dX7_name_50 : decode cX7_name 50 = .ok (.iload_n 3, 1) := by decide +kernel
theorem dX7_name_51 : decode cX7_name 51 = .ok (.aload_n 0, 1) := by decide +kernel
theorem dX7_name_52 : decode cX7_name 52 = .ok (.getfield 16, 3) := by decide +kernel
theorem dX7_name_55 : decode cX7_name 55 = .ok (.iload 4, 2) := by decide +kernel
theorem dX7_name_57 : decode cX7_name 57 = .ok (.iaload, 1) := by decide +kernel
theorem dX7_name_58 : decode cX7_name 58 = .ok (.if_icmp .lt 7, 3) := by decide +kernel
theorem dX7_name_61 : decode cX7_name 61 = .ok (.iconst 1, 1) := by decide +kernel
theorem dX7_name_62 : decode cX7_name 62 = .ok (.goto 4, 3) := by decide +kernel
theorem dX7_name_65 : decode cX7_name 65 = .ok (.iconst 0, 1) := by decide +kernel
theorem dX7_name_66 : decode cX7_name 66 = .ok (.putfield 62, 3) := by decide +kernel
theorem dX7_name_69 : decode cX7_name 69 = .ok (.aload_n 0, 1) := by decide +kernel
theorem dX7_name_70 : decode cX7_name 70 = .ok (.getfield 62, 3) := by decide +kernel
theorem dX7_name_73 : decode cX7_name 73 = .ok (.ifCond .le 7, 3) := by decide +kernel
theorem dX7_name_76 : decode cX7_name 76 = .ok (.iconst 0, 1) := by decide +kernel
theorem dX7_name_77 : decode cX7_name 77 = .ok (.goto 30, 3) := by decide +kernel
theorem dX7_name_80 : decode cX7_name 80 = .ok (.iload_n 3, 1) := by decide +kernel
theorem dX7_name_81 : decode cX7_name 81 = .ok (.iconst (-1), 1) := by decide +kernel
theorem dX7_name_82 : decode cX7_name 82 = .ok (.if_icmp .ne 13, 3) := by decide +kernel
theorem dX7_name_85 : decode cX7_name 85 = .ok (.aload_n 0, 1) := by decide +kernel
theorem dX7_name_86 : decode cX7_name 86 = .ok (.getfield 16, 3) := by decide +kernel
theorem dX7_name_89 : decode cX7_name 89 = .ok (.iload 4, 2) := by decide +kernel
theorem dX7_name_91 : decode cX7_name 91 = .ok (.iaload, 1) := by decide +kernel
theorem dX7_name_92 : decode cX7_name 92 = .ok (.goto 15, 3) := by decide +kernel
theorem dX7_name_95 : decode cX7_name 95 = .ok (.aload_n 0, 1) := by decide +kernel
theorem dX7_name_96 : decode cX7_name 96 = .ok (.getfield 13, 3) := by decide +kernel
theorem dX7_name_99 : decode cX7_name 99 = .ok (.bipush 10, 2) := by decide +kernel
theorem dX7_name_101 : decode cX7_name 101 = .ok (.iload 4, 2) := by decide +kernel
theorem dX7_name_103 : decode cX7_name 103 = .ok (.imul, 1) := by decide +kernel
theorem dX7_name_104 : decode cX7_name 104 = .ok (.iload_n 3, 1) := by decide +kernel
theorem dX7_name_105 : decode cX7_name 105 = .ok (.iadd, 1) := by decide +kernel
theorem dX7_name_106 : decode cX7_name 106 = .ok (.baload, 1) := by decide +kernel
theorem dX7_name_107 : decode cX7_name 107 = .ok (.ireturn, 1) := by decide +kernel
theorem dX7_isCase_0 : decode cX7_isCase 0 = .ok (.iload_n 1, 1) := by decide +kernel
theorem dX7_isCase_1 : decode cX7_isCase 1 = .ok (.ifCond .lt 15, 3) := by decide +kernel
theorem dX7_isCase_4 : decode cX7_isCase 4 = .ok (.iload_n 1, 1) := by decide +kernel
theorem dX7_isCase_5 : decode cX7_isCase 5 = .ok (.aload_n 0, 1) := by decide +kernel
theorem dX7_isCase_6 : decode cX7_isCase 6 = .ok (.invokevirtual 163, 3) := by decide +kernel
theorem dX7_isCase_9 : decode cX7_isCase 9 = .ok (.if_icmp .ge 7, 3) := by decide +kernel
theorem dX7_isCase_12 : decode cX7_isCase 12 = .ok (.iconst 1, 1) := by decide +kernel
theorem dX7_isCase_13 : decode cX7_isCase 13 = .ok (.goto 4, 3) := by decide +kernel
theorem dX7_isCase_16 : decode cX7_isCase 16 = .ok (.iconst 0, 1) := by decide +kernel
theorem dX7_isCase_17 : decode cX7_isCase 17 = .ok (.ireturn, 1) := by decide +kernel
theorem dX7_meets_0 : decode cX7_meets 0 = .ok (.aload_n 0, 1) := by decide +kernel
theorem dX7_meets_1 : decode cX7_meets 1 = .ok (.aload_n 0, 1) := by decide +kernel
theorem dX7_meets_2 : decode cX7_meets 2 = .ok (.getfield 125, 3) := by decide +kernel
theorem dX7_meets_5 : decode cX7_meets 5 = .ok (.ifCond .ne 7, 3) := by decide +kernel
theorem dX7_meets_8 : decode cX7_meets 8 = .ok (.iconst 1, 1) := by decide +kernel
theorem dX7_meets_9 : decode cX7_meets 9 = .ok (.goto 16, 3) := by decide +kernel
theorem dX7_meets_12 : decode cX7_meets 12 = .ok (.aload_n 0, 1) := by decide +kernel
theorem dX7_meets_13 : decode cX7_meets 13 = .ok (.iload_n 1, 1) := by decide +kernel
theorem dX7_meets_14 : decode cX7_meets 14 = .ok (.invokevirtual 190, 3) := by decide +kernel
theorem dX7_meets_17 : decode cX7_meets 17 = .ok (.ifCond .ne 7, 3) := by decide +kernel
theorem dX7_meets_20 : decode cX7_meets 20 = .ok (.iconst 2, 1) := by decide +kernel
theorem dX7_meets_21 : decode cX7_meets 21 = .ok (.goto 4, 3) := by decide +kernel
theorem dX7_meets_24 : decode cX7_meets 24 = .ok (.iconst 0, 1) := by decide +kernel
theorem dX7_meets_25 : decode cX7_meets 25 = .ok (.putfield 62, 3) := by decide +kernel
theorem dX7_meets_28 : decode cX7_meets 28 = .ok (.aload_n 0, 1) := by decide +kernel
theorem dX7_meets_29 : decode cX7_meets 29 = .ok (.getfield 62, 3) := by decide +kernel
theorem dX7_meets_32 : decode cX7_meets 32 = .ok (.ifCond .le 7, 3) := by decide +kernel
theorem dX7_meets_35 : decode cX7_meets 35 = .ok (.iconst 0, 1) := by decide +kernel
theorem dX7_meets_36 : decode cX7_meets 36 = .ok (.goto 8, 3) := by decide +kernel
theorem dX7_meets_39 : decode cX7_meets 39 = .ok (.aload_n 0, 1) := by decide +kernel
theorem dX7_meets_40 : decode cX7_meets 40 = .ok (.iload_n 1, 1) := by decide +kernel
theorem dX7_meets_41 : decode cX7_meets 41 = .ok (.invokevirtual 166, 3) := by decide +kernel
theorem dX7_meets_44 : decode cX7_meets 44 = .ok (.ireturn, 1) := by decide +kernel
theorem dX7_cases_0 : decode cX7_cases 0 = .ok (.aload_n 0, 1) := by decide +kernel
theorem dX7_cases_1 : decode cX7_cases 1 = .ok (.aload_n 0, 1) := by decide +kernel
theorem dX7_cases_2 : decode cX7_cases 2 = .ok (.getfield 125, 3) := by decide +kernel
theorem dX7_cases_5 : decode cX7_cases 5 = .ok (.ifCond .ne 7, 3) := by decide +kernel
theorem dX7_cases_8 : decode cX7_cases 8 = .ok (.iconst 1, 1) := by decide +kernel
theorem dX7_cases_9 : decode cX7_cases 9 = .ok (.goto 21, 3) := by decide +kernel
theorem dX7_cases_12 : decode cX7_cases 12 = .ok (.iload_n 1, 1) := by decide +kernel
theorem dX7_cases_13 : decode cX7_cases 13 = .ok (.iconst (-1), 1) := by decide +kernel
theorem dX7_cases_14 : decode cX7_cases 14 = .ok (.if_icmp .lt 11, 3) := by decide +kernel
theorem dX7_cases_17 : decode cX7_cases 17 = .ok (.iload_n 1, 1) := by decide +kernel
theorem dX7_cases_18 : decode cX7_cases 18 = .ok (.aload_n 0, 1) := by decide +kernel
theorem dX7_cases_19 : decode cX7_cases 19 = .ok (.getfield 122, 3) := by decide +kernel
theorem dX7_cases_22 : decode cX7_cases 22 = .ok (.if_icmp .lt 7, 3) := by decide +kernel
theorem dX7_cases_25 : decode cX7_cases 25 = .ok (.iconst 2, 1) := by decide +kernel
theorem dX7_cases_26 : decode cX7_cases 26 = .ok (.goto 4, 3) := by decide +kernel
theorem dX7_cases_29 : decode cX7_cases 29 = .ok (.iconst 0, 1) := by decide +kernel
theorem dX7_cases_30 : decode cX7_cases 30 = .ok (.putfield 62, 3) := by decide +kernel
theorem dX7_cases_33 : decode cX7_cases 33 = .ok (.aload_n 0, 1) := by decide +kernel
theorem dX7_cases_34 : decode cX7_cases 34 = .ok (.getfield 62, 3) := by decide +kernel
theorem dX7_cases_37 : decode cX7_cases 37 = .ok (.ifCond .le 5, 3) := by decide +kernel
theorem dX7_cases_40 : decode cX7_cases 40 = .ok (.iconst 0, 1) := by decide +kernel
theorem dX7_cases_41 : decode cX7_cases 41 = .ok (.ireturn, 1) := by decide +kernel
theorem dX7_cases_42 : decode cX7_cases 42 = .ok (.iconst 0, 1) := by decide +kernel
theorem dX7_cases_43 : decode cX7_cases 43 = .ok (.istore_n 2, 1) := by decide +kernel
theorem dX7_cases_44 : decode cX7_cases 44 = .ok (.iconst 0, 1) := by decide +kernel
theorem dX7_cases_45 : decode cX7_cases 45 = .ok (.istore_n 3, 1) := by decide +kernel
theorem dX7_cases_46 : decode cX7_cases 46 = .ok (.iload_n 3, 1) := by decide +kernel
theorem dX7_cases_47 : decode cX7_cases 47 = .ok (.aload_n 0, 1) := by decide +kernel
theorem dX7_cases_48 : decode cX7_cases 48 = .ok (.invokevirtual 163, 3) := by decide +kernel
theorem dX7_cases_51 : decode cX7_cases 51 = .ok (.if_icmp .ge 98, 3) := by decide +kernel
theorem dX7_cases_54 : decode cX7_cases 54 = .ok (.iload_n 1, 1) := by decide +kernel
theorem dX7_cases_55 : decode cX7_cases 55 = .ok (.iconst (-1), 1) := by decide +kernel
theorem dX7_cases_56 : decode cX7_cases 56 = .ok (.if_icmp .ne 15, 3) := by decide +kernel
theorem dX7_cases_59 : decode cX7_cases 59 = .ok (.aload_n 0, 1) := by decide +kernel
theorem dX7_cases_60 : decode cX7_cases 60 = .ok (.iload_n 3, 1) := by decide +kernel
theorem dX7_cases_61 : decode cX7_cases 61 = .ok (.invokevirtual 166, 3) := by decide +kernel
theorem dX7_cases_64 : decode cX7_cases 64 = .ok (.ifCond .ge 7, 3) := by decide +kernel
theorem dX7_cases_67 : decode cX7_cases 67 = .ok (.iconst 1, 1) := by decide +kernel
theorem dX7_cases_68 : decode cX7_cases 68 = .ok (.goto 4, 3) := by decide +kernel
theorem dX7_cases_71 : decode cX7_cases 71 = .ok (.iconst 0, 1) := by decide +kernel
theorem dX7_cases_72 : decode cX7_cases 72 = .ok (.istore 4, 2) := by decide +kernel
theorem dX7_cases_74 : decode cX7_cases 74 = .ok (.iconst 0, 1) := by decide +kernel
theorem dX7_cases_75 : decode cX7_cases 75 = .ok (.istore 5, 2) := by decide +kernel
theorem dX7_cases_77 : decode cX7_cases 77 = .ok (.iload 5, 2) := by decide +kernel
theorem dX7_cases_79 : decode cX7_cases 79 = .ok (.aload_n 0, 1) := by decide +kernel
theorem dX7_cases_80 : decode cX7_cases 80 = .ok (.getfield 119, 3) := by decide +kernel
theorem dX7_cases_83 : decode cX7_cases 83 = .ok (.if_icmp .ge 47, 3) := by decide +kernel
theorem dX7_cases_86 : decode cX7_cases 86 = .ok (.iload 4, 2) := by decide +kernel
theorem dX7_cases_88 : decode cX7_cases 88 = .ok (.ifCond .ne 42, 3) := by decide +kernel
theorem dX7_cases_91 : decode cX7_cases 91 = .ok (.iload_n 1, 1) := by decide +kernel
theorem dX7_cases_92 : decode cX7_cases 92 = .ok (.iconst (-1), 1) := by decide +kernel
theorem dX7_cases_93 : decode cX7_cases 93 = .ok (.if_icmp .eq 37, 3) := by decide +kernel
theorem dX7_cases_96 : decode cX7_cases 96 = .ok (.aload_n 0, 1) := by decide +kernel
theorem dX7_cases_97 : decode cX7_cases 97 = .ok (.getfield 26, 3) := by decide +kernel
theorem dX7_cases_100 : decode cX7_cases 100 = .ok (.iload 5, 2) := by decide +kernel
theorem dX7_cases_102 : decode cX7_cases 102 = .ok (.iaload, 1) := by decide +kernel
theorem dX7_cases_103 : decode cX7_cases 103 = .ok (.iload_n 1, 1) := by decide +kernel
theorem dX7_cases_104 : decode cX7_cases 104 = .ok (.if_icmp .ne 17, 3) := by decide +kernel
theorem dX7_cases_107 : decode cX7_cases 107 = .ok (.aload_n 0, 1) := by decide +kernel
theorem dX7_cases_108 : decode cX7_cases 108 = .ok (.iload 5, 2) := by decide +kernel
theorem dX7_cases_110 : decode cX7_cases 110 = .ok (.iload_n 3, 1) := by decide +kernel
theorem dX7_cases_111 : decode cX7_cases 111 = .ok (.invokevirtual 141, 3) := by decide +kernel
theorem dX7_cases_114 : decode cX7_cases 114 = .ok (.ifCond .eq 7, 3) := by decide +kernel
theorem dX7_cases_117 : decode cX7_cases 117 = .ok (.iconst 1, 1) := by decide +kernel
theorem dX7_cases_118 : decode cX7_cases 118 = .ok (.goto 4, 3) := by decide +kernel
theorem dX7_cases_121 : decode cX7_cases 121 = .ok (.iconst 0, 1) := by decide +kernel
theorem dX7_cases_122 : decode cX7_cases 122 = .ok (.istore 4, 2) := by decide +kernel
theorem dX7_cases_124 : decode cX7_cases 124 = .ok (.iinc 5 1, 3) := by decide +kernel
theorem dX7_cases_127 : decode cX7_cases 127 = .ok (.goto (-50), 3) := by decide +kernel
theorem dX7_cases_130 : decode cX7_cases 130 = .ok (.iload_n 2, 1) := by decide +kernel
theorem dX7_cases_131 : decode cX7_cases 131 = .ok (.iload 4, 2) := by decide +kernel
theorem dX7_cases_133 : decode cX7_cases 133 = .ok (.ifCond .eq 7, 3) := by decide +kernel
theorem dX7_cases_136 : decode cX7_cases 136 = .ok (.iconst 1, 1) := by decide +kernel
theorem dX7_cases_137 : decode cX7_cases 137 = .ok (.goto 4, 3) := by decide +kernel
theorem dX7_cases_140 : decode cX7_cases 140 = .ok (.iconst 0, 1) := by decide +kernel
theorem dX7_cases_141 : decode cX7_cases 141 = .ok (.iadd, 1) := by decide +kernel
theorem dX7_cases_142 : decode cX7_cases 142 = .ok (.istore_n 2, 1) := by decide +kernel
theorem dX7_cases_143 : decode cX7_cases 143 = .ok (.iinc 3 1, 3) := by decide +kernel
theorem dX7_cases_146 : decode cX7_cases 146 = .ok (.goto (-100), 3) := by decide +kernel
theorem dX7_cases_149 : decode cX7_cases 149 = .ok (.iload_n 2, 1) := by decide +kernel
theorem dX7_cases_150 : decode cX7_cases 150 = .ok (.ireturn, 1) := by decide +kernel
theorem dX7_node_0 : decode cX7_node 0 = .ok (.aload_n 0, 1) := by decide +kernel
theorem dX7_node_1 : decode cX7_node 1 = .ok (.aload_n 0, 1) := by decide +kernel
theorem dX7_node_2 : decode cX7_node 2 = .ok (.getfield 154, 3) := by decide +kernel
theorem dX7_node_5 : decode cX7_node 5 = .ok (.ifCond .ne 7, 3) := by decide +kernel
theorem dX7_node_8 : decode cX7_node 8 = .ok (.iconst 1, 1) := by decide +kernel
theorem dX7_node_9 : decode cX7_node 9 = .ok (.goto 29, 3) := by decide +kernel
theorem dX7_node_12 : decode cX7_node 12 = .ok (.iload_n 1, 1) := by decide +kernel
theorem dX7_node_13 : decode cX7_node 13 = .ok (.ifCond .lt 20, 3) := by decide +kernel
theorem dX7_node_16 : decode cX7_node 16 = .ok (.iload_n 1, 1) := by decide +kernel
theorem dX7_node_17 : decode cX7_node 17 = .ok (.aload_n 0, 1) := by decide +kernel
theorem dX7_node_18 : decode cX7_node 18 = .ok (.getfield 157, 3) := by decide +kernel
theorem dX7_node_21 : decode cX7_node 21 = .ok (.if_icmp .ge 12, 3) := by decide +kernel
theorem dX7_node_24 : decode cX7_node 24 = .ok (.iload_n 2, 1) := by decide +kernel
theorem dX7_node_25 : decode cX7_node 25 = .ok (.ifCond .lt 8, 3) := by decide +kernel
theorem dX7_node_28 : decode cX7_node 28 = .ok (.iload_n 2, 1) := by decide +kernel
theorem dX7_node_29 : decode cX7_node 29 = .ok (.iconst 3, 1) := by decide +kernel
theorem dX7_node_30 : decode cX7_node 30 = .ok (.if_icmp .le 7, 3) := by decide +kernel
theorem dX7_node_33 : decode cX7_node 33 = .ok (.iconst 2, 1) := by decide +kernel
theorem dX7_node_34 : decode cX7_node 34 = .ok (.goto 4, 3) := by decide +kernel
theorem dX7_node_37 : decode cX7_node 37 = .ok (.iconst 0, 1) := by decide +kernel
theorem dX7_node_38 : decode cX7_node 38 = .ok (.putfield 62, 3) := by decide +kernel
theorem dX7_node_41 : decode cX7_node 41 = .ok (.aload_n 0, 1) := by decide +kernel
theorem dX7_node_42 : decode cX7_node 42 = .ok (.getfield 62, 3) := by decide +kernel
theorem dX7_node_45 : decode cX7_node 45 = .ok (.ifCond .le 7, 3) := by decide +kernel
theorem dX7_node_48 : decode cX7_node 48 = .ok (.iconst 0, 1) := by decide +kernel
theorem dX7_node_49 : decode cX7_node 49 = .ok (.goto 50, 3) := by decide +kernel
theorem dX7_node_52 : decode cX7_node 52 = .ok (.iload_n 2, 1) := by decide +kernel
theorem dX7_node_53 : decode cX7_node 53 = .ok (.ifCond .ne 12, 3) := by decide +kernel
theorem dX7_node_56 : decode cX7_node 56 = .ok (.aload_n 0, 1) := by decide +kernel
theorem dX7_node_57 : decode cX7_node 57 = .ok (.getfield 29, 3) := by decide +kernel
theorem dX7_node_60 : decode cX7_node 60 = .ok (.iload_n 1, 1) := by decide +kernel
theorem dX7_node_61 : decode cX7_node 61 = .ok (.iaload, 1) := by decide +kernel
theorem dX7_node_62 : decode cX7_node 62 = .ok (.goto 37, 3) := by decide +kernel
theorem dX7_node_65 : decode cX7_node 65 = .ok (.iload_n 2, 1) := by decide +kernel
theorem dX7_node_66 : decode cX7_node 66 = .ok (.iconst 1, 1) := by decide +kernel
theorem dX7_node_67 : decode cX7_node 67 = .ok (.if_icmp .ne 12, 3) := by decide +kernel
theorem dX7_node_70 : decode cX7_node 70 = .ok (.aload_n 0, 1) := by decide +kernel
theorem dX7_node_71 : decode cX7_node 71 = .ok (.getfield 32, 3) := by decide +kernel
theorem dX7_node_74 : decode cX7_node 74 = .ok (.iload_n 1, 1) := by decide +kernel
theorem dX7_node_75 : decode cX7_node 75 = .ok (.iaload, 1) := by decide +kernel
theorem dX7_node_76 : decode cX7_node 76 = .ok (.goto 23, 3) := by decide +kernel
theorem dX7_node_79 : decode cX7_node 79 = .ok (.iload_n 2, 1) := by decide +kernel
theorem dX7_node_80 : decode cX7_node 80 = .ok (.iconst 2, 1) := by decide +kernel
theorem dX7_node_81 : decode cX7_node 81 = .ok (.if_icmp .ne 12, 3) := by decide +kernel
theorem dX7_node_84 : decode cX7_node 84 = .ok (.aload_n 0, 1) := by decide +kernel
theorem dX7_node_85 : decode cX7_node 85 = .ok (.getfield 35, 3) := by decide +kernel
theorem dX7_node_88 : decode cX7_node 88 = .ok (.iload_n 1, 1) := by decide +kernel
theorem dX7_node_89 : decode cX7_node 89 = .ok (.iaload, 1) := by decide +kernel
theorem dX7_node_90 : decode cX7_node 90 = .ok (.goto 9, 3) := by decide +kernel
theorem dX7_node_93 : decode cX7_node 93 = .ok (.aload_n 0, 1) := by decide +kernel
theorem dX7_node_94 : decode cX7_node 94 = .ok (.getfield 38, 3) := by decide +kernel
theorem dX7_node_97 : decode cX7_node 97 = .ok (.iload_n 1, 1) := by decide +kernel
theorem dX7_node_98 : decode cX7_node 98 = .ok (.iaload, 1) := by decide +kernel
theorem dX7_node_99 : decode cX7_node 99 = .ok (.ireturn, 1) := by decide +kernel
theorem dX7_code_0 : decode cX7_code 0 = .ok (.aload_n 0, 1) := by decide +kernel
theorem dX7_code_1 : decode cX7_code 1 = .ok (.aload_n 0, 1) := by decide +kernel
theorem dX7_code_2 : decode cX7_code 2 = .ok (.getfield 154, 3) := by decide +kernel
theorem dX7_code_5 : decode cX7_code 5 = .ok (.ifCond .ne 7, 3) := by decide +kernel
theorem dX7_code_8 : decode cX7_code 8 = .ok (.iconst 1, 1) := by decide +kernel
theorem dX7_code_9 : decode cX7_code 9 = .ok (.goto 20, 3) := by decide +kernel
theorem dX7_code_12 : decode cX7_code 12 = .ok (.iload_n 1, 1) := by decide +kernel
theorem dX7_code_13 : decode cX7_code 13 = .ok (.ifCond .lt 11, 3) := by decide +kernel
theorem dX7_code_16 : decode cX7_code 16 = .ok (.iload_n 1, 1) := by decide +kernel
theorem dX7_code_17 : decode cX7_code 17 = .ok (.aload_n 0, 1) := by decide +kernel
theorem dX7_code_18 : decode cX7_code 18 = .ok (.getfield 160, 3) := by decide +kernel
theorem dX7_code_21 : decode cX7_code 21 = .ok (.if_icmp .lt 7, 3) := by decide +kernel
theorem dX7_code_24 : decode cX7_code 24 = .ok (.iconst 2, 1) := by decide +kernel
theorem dX7_code_25 : decode cX7_code 25 = .ok (.goto 4, 3) := by decide +kernel
theorem dX7_code_28 : decode cX7_code 28 = .ok (.iconst 0, 1) := by decide +kernel
theorem dX7_code_29 : decode cX7_code 29 = .ok (.putfield 62, 3) := by decide +kernel
theorem dX7_code_32 : decode cX7_code 32 = .ok (.aload_n 0, 1) := by decide +kernel
theorem dX7_code_33 : decode cX7_code 33 = .ok (.getfield 62, 3) := by decide +kernel
theorem dX7_code_36 : decode cX7_code 36 = .ok (.ifCond .le 7, 3) := by decide +kernel
theorem dX7_code_39 : decode cX7_code 39 = .ok (.iconst 0, 1) := by decide +kernel
theorem dX7_code_40 : decode cX7_code 40 = .ok (.goto 9, 3) := by decide +kernel
theorem dX7_code_43 : decode cX7_code 43 = .ok (.aload_n 0, 1) := by decide +kernel
theorem dX7_code_44 : decode cX7_code 44 = .ok (.getfield 59, 3) := by decide +kernel
theorem dX7_code_47 : decode cX7_code 47 = .ok (.iload_n 1, 1) := by decide +kernel
theorem dX7_code_48 : decode cX7_code 48 = .ok (.iaload, 1) := by decide +kernel
theorem dX7_code_49 : decode cX7_code 49 = .ok (.ireturn, 1) := by decide +kernel
theorem dX7_run_0 : decode cX7_run 0 = .ok (.aload_n 0, 1) := by decide +kernel
theorem dX7_run_1 : decode cX7_run 1 = .ok (.aload_n 0, 1) := by decide +kernel
theorem dX7_run_2 : decode cX7_run 2 = .ok (.getfield 154, 3) := by decide +kernel
theorem dX7_run_5 : decode cX7_run 5 = .ok (.ifCond .ne 7, 3) := by decide +kernel
theorem dX7_run_8 : decode cX7_run 8 = .ok (.iconst 1, 1) := by decide +kernel
theorem dX7_run_9 : decode cX7_run 9 = .ok (.goto 16, 3) := by decide +kernel
theorem dX7_run_12 : decode cX7_run 12 = .ok (.aload_n 0, 1) := by decide +kernel
theorem dX7_run_13 : decode cX7_run 13 = .ok (.iload_n 1, 1) := by decide +kernel
theorem dX7_run_14 : decode cX7_run 14 = .ok (.invokevirtual 190, 3) := by decide +kernel
theorem dX7_run_17 : decode cX7_run 17 = .ok (.ifCond .ne 7, 3) := by decide +kernel
theorem dX7_run_20 : decode cX7_run 20 = .ok (.iconst 2, 1) := by decide +kernel
theorem dX7_run_21 : decode cX7_run 21 = .ok (.goto 4, 3) := by decide +kernel
theorem dX7_run_24 : decode cX7_run 24 = .ok (.iconst 0, 1) := by decide +kernel
theorem dX7_run_25 : decode cX7_run 25 = .ok (.putfield 62, 3) := by decide +kernel
theorem dX7_run_28 : decode cX7_run 28 = .ok (.aload_n 0, 1) := by decide +kernel
theorem dX7_run_29 : decode cX7_run 29 = .ok (.getfield 62, 3) := by decide +kernel
theorem dX7_run_32 : decode cX7_run 32 = .ok (.ifCond .le 5, 3) := by decide +kernel
theorem dX7_run_35 : decode cX7_run 35 = .ok (.iconst 0, 1) := by decide +kernel
theorem dX7_run_36 : decode cX7_run 36 = .ok (.ireturn, 1) := by decide +kernel
theorem dX7_run_37 : decode cX7_run 37 = .ok (.iconst 0, 1) := by decide +kernel
theorem dX7_run_38 : decode cX7_run 38 = .ok (.istore_n 3, 1) := by decide +kernel
theorem dX7_run_39 : decode cX7_run 39 = .ok (.iconst 0, 1) := by decide +kernel
theorem dX7_run_40 : decode cX7_run 40 = .ok (.istore 4, 2) := by decide +kernel
theorem dX7_run_42 : decode cX7_run 42 = .ok (.aload_n 0, 1) := by decide +kernel
theorem dX7_run_43 : decode cX7_run 43 = .ok (.getfield 59, 3) := by decide +kernel
theorem dX7_run_46 : decode cX7_run 46 = .ok (.iload_n 3, 1) := by decide +kernel
theorem dX7_run_47 : decode cX7_run 47 = .ok (.iaload, 1) := by decide +kernel
theorem dX7_run_48 : decode cX7_run 48 = .ok (.sipush 128, 3) := by decide +kernel
theorem dX7_run_51 : decode cX7_run 51 = .ok (.if_icmp .ge 50, 3) := by decide +kernel
theorem dX7_run_54 : decode cX7_run 54 = .ok (.iload_n 1, 1) := by decide +kernel
theorem dX7_run_55 : decode cX7_run 55 = .ok (.aload_n 0, 1) := by decide +kernel
theorem dX7_run_56 : decode cX7_run 56 = .ok (.getfield 59, 3) := by decide +kernel
theorem dX7_run_59 : decode cX7_run 59 = .ok (.iload_n 3, 1) := by decide +kernel
theorem dX7_run_60 : decode cX7_run 60 = .ok (.iaload, 1) := by decide +kernel
theorem dX7_run_61 : decode cX7_run 61 = .ok (.ishr, 1) := by decide +kernel
theorem dX7_run_62 : decode cX7_run 62 = .ok (.iconst 1, 1) := by decide +kernel
theorem dX7_run_63 : decode cX7_run 63 = .ok (.iand, 1) := by decide +kernel
theorem dX7_run_64 : decode cX7_run 64 = .ok (.iconst 1, 1) := by decide +kernel
theorem dX7_run_65 : decode cX7_run 65 = .ok (.if_icmp .ne 9, 3) := by decide +kernel
theorem dX7_run_68 : decode cX7_run 68 = .ok (.iload_n 3, 1) := by decide +kernel
theorem dX7_run_69 : decode cX7_run 69 = .ok (.iconst 3, 1) := by decide +kernel
theorem dX7_run_70 : decode cX7_run 70 = .ok (.iadd, 1) := by decide +kernel
theorem dX7_run_71 : decode cX7_run 71 = .ok (.goto 23, 3) := by decide +kernel
theorem dX7_run_74 : decode cX7_run 74 = .ok (.aload_n 0, 1) := by decide +kernel
theorem dX7_run_75 : decode cX7_run 75 = .ok (.getfield 59, 3) := by decide +kernel
theorem dX7_run_78 : decode cX7_run 78 = .ok (.iload_n 3, 1) := by decide +kernel
theorem dX7_run_79 : decode cX7_run 79 = .ok (.iconst 1, 1) := by decide +kernel
theorem dX7_run_80 : decode cX7_run 80 = .ok (.iadd, 1) := by decide +kernel
theorem dX7_run_81 : decode cX7_run 81 = .ok (.iaload, 1) := by decide +kernel
theorem dX7_run_82 : decode cX7_run 82 = .ok (.bipush 8, 2) := by decide +kernel
theorem dX7_run_84 : decode cX7_run 84 = .ok (.ishl, 1) := by decide +kernel
theorem dX7_run_85 : decode cX7_run 85 = .ok (.aload_n 0, 1) := by decide +kernel
theorem dX7_run_86 : decode cX7_run 86 = .ok (.getfield 59, 3) := by decide +kernel
theorem dX7_run_89 : decode cX7_run 89 = .ok (.iload_n 3, 1) := by decide +kernel
theorem dX7_run_90 : decode cX7_run 90 = .ok (.iconst 2, 1) := by decide +kernel
theorem dX7_run_91 : decode cX7_run 91 = .ok (.iadd, 1) := by decide +kernel
theorem dX7_run_92 : decode cX7_run 92 = .ok (.iaload, 1) := by decide +kernel
theorem dX7_run_93 : decode cX7_run 93 = .ok (.ior, 1) := by decide +kernel
theorem dX7_run_94 : decode cX7_run 94 = .ok (.istore_n 3, 1) := by decide +kernel
theorem dX7_run_95 : decode cX7_run 95 = .ok (.iinc 4 1, 3) := by decide +kernel
theorem dX7_run_98 : decode cX7_run 98 = .ok (.goto (-56), 3) := by decide +kernel
theorem dX7_run_101 : decode cX7_run 101 = .ok (.iload_n 2, 1) := by decide +kernel
theorem dX7_run_102 : decode cX7_run 102 = .ok (.ifCond .eq 8, 3) := by decide +kernel
theorem dX7_run_105 : decode cX7_run 105 = .ok (.iload 4, 2) := by decide +kernel
theorem dX7_run_107 : decode cX7_run 107 = .ok (.goto 13, 3) := by decide +kernel
theorem dX7_run_110 : decode cX7_run 110 = .ok (.aload_n 0, 1) := by decide +kernel
theorem dX7_run_111 : decode cX7_run 111 = .ok (.getfield 59, 3) := by decide +kernel
theorem dX7_run_114 : decode cX7_run 114 = .ok (.iload_n 3, 1) := by decide +kernel
theorem dX7_run_115 : decode cX7_run 115 = .ok (.iaload, 1) := by decide +kernel
theorem dX7_run_116 : decode cX7_run 116 = .ok (.sipush 128, 3) := by decide +kernel
theorem dX7_run_119 : decode cX7_run 119 = .ok (.isub, 1) := by decide +kernel
theorem dX7_run_120 : decode cX7_run 120 = .ok (.ireturn, 1) := by decide +kernel
theorem dX7_tests_0 : decode cX7_tests 0 = .ok (.aload_n 0, 1) := by decide +kernel
theorem dX7_tests_1 : decode cX7_tests 1 = .ok (.aload_n 0, 1) := by decide +kernel
theorem dX7_tests_2 : decode cX7_tests 2 = .ok (.getfield 154, 3) := by decide +kernel
theorem dX7_tests_5 : decode cX7_tests 5 = .ok (.ifCond .ne 7, 3) := by decide +kernel
theorem dX7_tests_8 : decode cX7_tests 8 = .ok (.iconst 1, 1) := by decide +kernel
theorem dX7_tests_9 : decode cX7_tests 9 = .ok (.goto 4, 3) := by decide +kernel
theorem dX7_tests_12 : decode cX7_tests 12 = .ok (.iconst 0, 1) := by decide +kernel
theorem dX7_tests_13 : decode cX7_tests 13 = .ok (.putfield 62, 3) := by decide +kernel
theorem dX7_tests_16 : decode cX7_tests 16 = .ok (.lconst 0, 1) := by decide +kernel
theorem dX7_tests_17 : decode cX7_tests 17 = .ok (.lstore_n 1, 1) := by decide +kernel
theorem dX7_tests_18 : decode cX7_tests 18 = .ok (.iconst 0, 1) := by decide +kernel
theorem dX7_tests_19 : decode cX7_tests 19 = .ok (.istore_n 3, 1) := by decide +kernel
theorem dX7_tests_20 : decode cX7_tests 20 = .ok (.iload_n 3, 1) := by decide +kernel
theorem dX7_tests_21 : decode cX7_tests 21 = .ok (.aload_n 0, 1) := by decide +kernel
theorem dX7_tests_22 : decode cX7_tests 22 = .ok (.getfield 157, 3) := by decide +kernel
theorem dX7_tests_25 : decode cX7_tests 25 = .ok (.if_icmp .ge 51, 3) := by decide +kernel
theorem dX7_tests_28 : decode cX7_tests 28 = .ok (.aload_n 0, 1) := by decide +kernel
theorem dX7_tests_29 : decode cX7_tests 29 = .ok (.getfield 62, 3) := by decide +kernel
theorem dX7_tests_32 : decode cX7_tests 32 = .ok (.ifCond .ne 44, 3) := by decide +kernel
theorem dX7_tests_35 : decode cX7_tests 35 = .ok (.lload_n 1, 1) := by decide +kernel
theorem dX7_tests_36 : decode cX7_tests 36 = .ok (.aload_n 0, 1) := by decide +kernel
theorem dX7_tests_37 : decode cX7_tests 37 = .ok (.getfield 29, 3) := by decide +kernel
theorem dX7_tests_40 : decode cX7_tests 40 = .ok (.iload_n 3, 1) := by decide +kernel
theorem dX7_tests_41 : decode cX7_tests 41 = .ok (.iaload, 1) := by decide +kernel
theorem dX7_tests_42 : decode cX7_tests 42 = .ok (.ifCond .ge 25, 3) := by decide +kernel
theorem dX7_tests_45 : decode cX7_tests 45 = .ok (.aload_n 0, 1) := by decide +kernel
theorem dX7_tests_46 : decode cX7_tests 46 = .ok (.getfield 41, 3) := by decide +kernel
theorem dX7_tests_49 : decode cX7_tests 49 = .ok (.iload_n 3, 1) := by decide +kernel
theorem dX7_tests_50 : decode cX7_tests 50 = .ok (.iaload, 1) := by decide +kernel
theorem dX7_tests_51 : decode cX7_tests 51 = .ok (.i2l, 1) := by decide +kernel
theorem dX7_tests_52 : decode cX7_tests 52 = .ok (.aload_n 0, 1) := by decide +kernel
theorem dX7_tests_53 : decode cX7_tests 53 = .ok (.getfield 116, 3) := by decide +kernel
theorem dX7_tests_56 : decode cX7_tests 56 = .ok (.aload_n 0, 1) := by decide +kernel
theorem dX7_tests_57 : decode cX7_tests 57 = .ok (.getfield 41, 3) := by decide +kernel
theorem dX7_tests_60 : decode cX7_tests 60 = .ok (.iload_n 3, 1) := by decide +kernel
theorem dX7_tests_61 : decode cX7_tests 61 = .ok (.iaload, 1) := by decide +kernel
theorem dX7_tests_62 : decode cX7_tests 62 = .ok (.isub, 1) := by decide +kernel
theorem dX7_tests_63 : decode cX7_tests 63 = .ok (.lshl, 1) := by decide +kernel
theorem dX7_tests_64 : decode cX7_tests 64 = .ok (.goto 4, 3) := by decide +kernel
theorem dX7_tests_67 : decode cX7_tests 67 = .ok (.lconst 0, 1) := by decide +kernel
theorem dX7_tests_68 : decode cX7_tests 68 = .ok (.ladd, 1) := by decide +kernel
theorem dX7_tests_69 : decode cX7_tests 69 = .ok (.lstore_n 1, 1) := by decide +kernel
theorem dX7_tests_70 : decode cX7_tests 70 = .ok (.iinc 3 1, 3) := by decide +kernel
theorem dX7_tests_73 : decode cX7_tests 73 = .ok (.goto (-53), 3) := by decide +kernel
theorem dX7_tests_76 : decode cX7_tests 76 = .ok (.lload_n 1, 1) := by decide +kernel
theorem dX7_tests_77 : decode cX7_tests 77 = .ok (.lreturn, 1) := by decide +kernel
