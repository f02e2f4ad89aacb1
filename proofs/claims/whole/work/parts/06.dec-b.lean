theorem dX4_init_0 : decode cX4_init 0 = .ok (.aload_n 0, 1) := by decide +kernel
theorem dX4_init_1 : decode cX4_init 1 = .ok (.invokespecial 3, 3) := by decide +kernel
theorem dX4_init_4 : decode cX4_init 4 = .ok (.aload_n 0, 1) := by decide +kernel
theorem dX4_init_5 : decode cX4_init 5 = .ok (.sipush 1000, 3) := by decide +kernel
theorem dX4_init_8 : decode cX4_init 8 = .ok (.newarray .int, 2) := by decide +kernel
theorem dX4_init_10 : decode cX4_init 10 = .ok (.putfield 9, 3) := by decide +kernel
theorem dX4_init_13 : decode cX4_init 13 = .ok (.aload_n 0, 1) := by decide +kernel
theorem dX4_init_14 : decode cX4_init 14 = .ok (.sipush 1000, 3) := by decide +kernel
theorem dX4_init_17 : decode cX4_init 17 = .ok (.newarray .int, 2) := by decide +kernel
theorem dX4_init_19 : decode cX4_init 19 = .ok (.putfield 15, 3) := by decide +kernel
theorem dX4_init_22 : decode cX4_init 22 = .ok (.return_, 1) := by decide +kernel
theorem dX4_clear_0 : decode cX4_clear 0 = .ok (.aload_n 0, 1) := by decide +kernel
theorem dX4_clear_1 : decode cX4_clear 1 = .ok (.iconst 0, 1) := by decide +kernel
theorem dX4_clear_2 : decode cX4_clear 2 = .ok (.putfield 18, 3) := by decide +kernel
theorem dX4_clear_5 : decode cX4_clear 5 = .ok (.aload_n 0, 1) := by decide +kernel
theorem dX4_clear_6 : decode cX4_clear 6 = .ok (.iconst 0, 1) := by decide +kernel
theorem dX4_clear_7 : decode cX4_clear 7 = .ok (.putfield 22, 3) := by decide +kernel
theorem dX4_clear_10 : decode cX4_clear 10 = .ok (.aload_n 0, 1) := by decide +kernel
theorem dX4_clear_11 : decode cX4_clear 11 = .ok (.iconst 0, 1) := by decide +kernel
theorem dX4_clear_12 : decode cX4_clear 12 = .ok (.putfield 25, 3) := by decide +kernel
theorem dX4_clear_15 : decode cX4_clear 15 = .ok (.aload_n 0, 1) := by decide +kernel
theorem dX4_clear_16 : decode cX4_clear 16 = .ok (.lconst 0, 1) := by decide +kernel
theorem dX4_clear_17 : decode cX4_clear 17 = .ok (.putfield 28, 3) := by decide +kernel
theorem dX4_clear_20 : decode cX4_clear 20 = .ok (.aload_n 0, 1) := by decide +kernel
theorem dX4_clear_21 : decode cX4_clear 21 = .ok (.iconst 0, 1) := by decide +kernel
theorem dX4_clear_22 : decode cX4_clear 22 = .ok (.putfield 32, 3) := by decide +kernel
theorem dX4_clear_25 : decode cX4_clear 25 = .ok (.return_, 1) := by decide +kernel
theorem dX4_isLeaf_0 : decode cX4_isLeaf 0 = .ok (.aload_n 0, 1) := by decide +kernel
theorem dX4_isLeaf_1 : decode cX4_isLeaf 1 = .ok (.getfield 15, 3) := by decide +kernel
theorem dX4_isLeaf_4 : decode cX4_isLeaf 4 = .ok (.iload_n 1, 1) := by decide +kernel
theorem dX4_isLeaf_5 : decode cX4_isLeaf 5 = .ok (.iaload, 1) := by decide +kernel
theorem dX4_isLeaf_6 : decode cX4_isLeaf 6 = .ok (.iconst (-1), 1) := by decide +kernel
theorem dX4_isLeaf_7 : decode cX4_isLeaf 7 = .ok (.if_icmp .ne 7, 3) := by decide +kernel
theorem dX4_isLeaf_10 : decode cX4_isLeaf 10 = .ok (.iconst 1, 1) := by decide +kernel
theorem dX4_isLeaf_11 : decode cX4_isLeaf 11 = .ok (.goto 4, 3) := by decide +kernel
theorem dX4_isLeaf_14 : decode cX4_isLeaf 14 = .ok (.iconst 0, 1) := by decide +kernel
theorem dX4_isLeaf_15 : decode cX4_isLeaf 15 = .ok (.ireturn, 1) := by decide +kernel
theorem dX4_build_0 : decode cX4_build 0 = .ok (.aload_n 0, 1) := by decide +kernel
theorem dX4_build_1 : decode cX4_build 1 = .ok (.aload_n 1, 1) := by decide +kernel
theorem dX4_build_2 : decode cX4_build 2 = .ok (.iconst 0, 1) := by decide +kernel
theorem dX4_build_3 : decode cX4_build 3 = .ok (.aload_n 1, 1) := by decide +kernel
theorem dX4_build_4 : decode cX4_build 4 = .ok (.getfield 36, 3) := by decide +kernel
theorem dX4_build_7 : decode cX4_build 7 = .ok (.invokestatic 41, 3) := by decide +kernel
theorem dX4_build_10 : decode cX4_build 10 = .ok (.aload_n 0, 1) := by decide +kernel
theorem dX4_build_11 : decode cX4_build 11 = .ok (.getfield 32, 3) := by decide +kernel
theorem dX4_build_14 : decode cX4_build 14 = .ok (.ifCond .eq 7, 3) := by decide +kernel
theorem dX4_build_17 : decode cX4_build 17 = .ok (.aload_n 0, 1) := by decide +kernel
theorem dX4_build_18 : decode cX4_build 18 = .ok (.invokevirtual 45, 3) := by decide +kernel
theorem dX4_build_21 : decode cX4_build 21 = .ok (.return_, 1) := by decide +kernel
theorem dX4_grow_0 : decode cX4_grow 0 = .ok (.aload_n 0, 1) := by decide +kernel
theorem dX4_grow_1 : decode cX4_grow 1 = .ok (.getfield 32, 3) := by decide +kernel
theorem dX4_grow_4 : decode cX4_grow 4 = .ok (.ifCond .ne 13, 3) := by decide +kernel
theorem dX4_grow_7 : decode cX4_grow 7 = .ok (.aload_n 0, 1) := by decide +kernel
theorem dX4_grow_8 : decode cX4_grow 8 = .ok (.getfield 18, 3) := by decide +kernel
theorem dX4_grow_11 : decode cX4_grow 11 = .ok (.sipush 1000, 3) := by decide +kernel
theorem dX4_grow_14 : decode cX4_grow 14 = .ok (.if_icmp .lt 9, 3) := by decide +kernel
theorem dX4_grow_17 : decode cX4_grow 17 = .ok (.aload_n 0, 1) := by decide +kernel
theorem dX4_grow_18 : decode cX4_grow 18 = .ok (.iconst 1, 1) := by decide +kernel
theorem dX4_grow_19 : decode cX4_grow 19 = .ok (.putfield 32, 3) := by decide +kernel
theorem dX4_grow_22 : decode cX4_grow 22 = .ok (.return_, 1) := by decide +kernel
theorem dX4_grow_23 : decode cX4_grow 23 = .ok (.aload_n 1, 1) := by decide +kernel
theorem dX4_grow_24 : decode cX4_grow 24 = .ok (.iload_n 2, 1) := by decide +kernel
theorem dX4_grow_25 : decode cX4_grow 25 = .ok (.invokevirtual 48, 3) := by decide +kernel
theorem dX4_grow_28 : decode cX4_grow 28 = .ok (.istore 4, 2) := by decide +kernel
theorem dX4_grow_30 : decode cX4_grow 30 = .ok (.iload 4, 2) := by decide +kernel
theorem dX4_grow_32 : decode cX4_grow 32 = .ok (.iconst (-1), 1) := by decide +kernel
theorem dX4_grow_33 : decode cX4_grow 33 = .ok (.if_icmp .ne 13, 3) := by decide +kernel
theorem dX4_grow_36 : decode cX4_grow 36 = .ok (.iload_n 3, 1) := by decide +kernel
theorem dX4_grow_37 : decode cX4_grow 37 = .ok (.ifCond .eq 9, 3) := by decide +kernel
theorem dX4_grow_40 : decode cX4_grow 40 = .ok (.iload_n 2, 1) := by decide +kernel
theorem dX4_grow_41 : decode cX4_grow 41 = .ok (.bipush 16, 2) := by decide +kernel
theorem dX4_grow_43 : decode cX4_grow 43 = .ok (.if_icmp .lt 11, 3) := by decide +kernel
theorem dX4_grow_46 : decode cX4_grow 46 = .ok (.aload_n 0, 1) := by decide +kernel
theorem dX4_grow_47 : decode cX4_grow 47 = .ok (.iload 4, 2) := by decide +kernel
theorem dX4_grow_49 : decode cX4_grow 49 = .ok (.iload_n 2, 1) := by decide +kernel
theorem dX4_grow_50 : decode cX4_grow 50 = .ok (.invokevirtual 52, 3) := by decide +kernel
theorem dX4_grow_53 : decode cX4_grow 53 = .ok (.return_, 1) := by decide +kernel
theorem dX4_grow_54 : decode cX4_grow 54 = .ok (.aload_n 1, 1) := by decide +kernel
theorem dX4_grow_55 : decode cX4_grow 55 = .ok (.iload_n 2, 1) := by decide +kernel
theorem dX4_grow_56 : decode cX4_grow 56 = .ok (.iload_n 3, 1) := by decide +kernel
theorem dX4_grow_57 : decode cX4_grow 57 = .ok (.invokevirtual 56, 3) := by decide +kernel
theorem dX4_grow_60 : decode cX4_grow 60 = .ok (.istore 5, 2) := by decide +kernel
theorem dX4_grow_62 : decode cX4_grow 62 = .ok (.iconst 1, 1) := by decide +kernel
theorem dX4_grow_63 : decode cX4_grow 63 = .ok (.iload 5, 2) := by decide +kernel
theorem dX4_grow_65 : decode cX4_grow 65 = .ok (.ishl, 1) := by decide +kernel
theorem dX4_grow_66 : decode cX4_grow 66 = .ok (.istore 6, 2) := by decide +kernel
theorem dX4_grow_68 : decode cX4_grow 68 = .ok (.aload_n 0, 1) := by decide +kernel
theorem dX4_grow_69 : decode cX4_grow 69 = .ok (.getfield 18, 3) := by decide +kernel
theorem dX4_grow_72 : decode cX4_grow 72 = .ok (.istore 7, 2) := by decide +kernel
theorem dX4_grow_74 : decode cX4_grow 74 = .ok (.aload_n 0, 1) := by decide +kernel
theorem dX4_grow_75 : decode cX4_grow 75 = .ok (.iload 5, 2) := by decide +kernel
theorem dX4_grow_77 : decode cX4_grow 77 = .ok (.invokevirtual 60, 3) := by decide +kernel
theorem dX4_grow_80 : decode cX4_grow 80 = .ok (.aload_n 0, 1) := by decide +kernel
theorem dX4_grow_81 : decode cX4_grow 81 = .ok (.dup, 1) := by decide +kernel
theorem dX4_grow_82 : decode cX4_grow 82 = .ok (.getfield 28, 3) := by decide +kernel
theorem dX4_grow_85 : decode cX4_grow 85 = .ok (.lconst 1, 1) := by decide +kernel
theorem dX4_grow_86 : decode cX4_grow 86 = .ok (.iload_n 3, 1) := by decide +kernel
theorem dX4_grow_87 : decode cX4_grow 87 = .ok (.invokestatic 64, 3) := by decide +kernel
theorem dX4_grow_90 : decode cX4_grow 90 = .ok (.lshl, 1) := by decide +kernel
theorem dX4_grow_91 : decode cX4_grow 91 = .ok (.ladd, 1) := by decide +kernel
theorem dX4_grow_92 : decode cX4_grow 92 = .ok (.putfield 28, 3) := by decide +kernel
theorem dX4_grow_95 : decode cX4_grow 95 = .ok (.aload_n 1, 1) := by decide +kernel
theorem dX4_grow_96 : decode cX4_grow 96 = .ok (.iload_n 2, 1) := by decide +kernel
theorem dX4_grow_97 : decode cX4_grow 97 = .ok (.iload 6, 2) := by decide +kernel
theorem dX4_grow_99 : decode cX4_grow 99 = .ok (.iconst 1, 1) := by decide +kernel
theorem dX4_grow_100 : decode cX4_grow 100 = .ok (.invokevirtual 69, 3) := by decide +kernel
theorem dX4_grow_103 : decode cX4_grow 103 = .ok (.aload_n 0, 1) := by decide +kernel
theorem dX4_grow_104 : decode cX4_grow 104 = .ok (.aload_n 1, 1) := by decide +kernel
theorem dX4_grow_105 : decode cX4_grow 105 = .ok (.iload_n 2, 1) := by decide +kernel
theorem dX4_grow_106 : decode cX4_grow 106 = .ok (.iconst 1, 1) := by decide +kernel
theorem dX4_grow_107 : decode cX4_grow 107 = .ok (.iadd, 1) := by decide +kernel
theorem dX4_grow_108 : decode cX4_grow 108 = .ok (.iload_n 3, 1) := by decide +kernel
theorem dX4_grow_109 : decode cX4_grow 109 = .ok (.iload 6, 2) := by decide +kernel
theorem dX4_grow_111 : decode cX4_grow 111 = .ok (.iconst (-1), 1) := by decide +kernel
theorem dX4_grow_112 : decode cX4_grow 112 = .ok (.ixor, 1) := by decide +kernel
theorem dX4_grow_113 : decode cX4_grow 113 = .ok (.iand, 1) := by decide +kernel
theorem dX4_grow_114 : decode cX4_grow 114 = .ok (.invokestatic 41, 3) := by decide +kernel
theorem dX4_grow_117 : decode cX4_grow 117 = .ok (.aload_n 0, 1) := by decide +kernel
theorem dX4_grow_118 : decode cX4_grow 118 = .ok (.getfield 15, 3) := by decide +kernel
theorem dX4_grow_121 : decode cX4_grow 121 = .ok (.iload 7, 2) := by decide +kernel
theorem dX4_grow_123 : decode cX4_grow 123 = .ok (.aload_n 0, 1) := by decide +kernel
theorem dX4_grow_124 : decode cX4_grow 124 = .ok (.getfield 18, 3) := by decide +kernel
theorem dX4_grow_127 : decode cX4_grow 127 = .ok (.iastore, 1) := by decide +kernel
theorem dX4_grow_128 : decode cX4_grow 128 = .ok (.aload_n 1, 1) := by decide +kernel
theorem dX4_grow_129 : decode cX4_grow 129 = .ok (.iload_n 2, 1) := by decide +kernel
theorem dX4_grow_130 : decode cX4_grow 130 = .ok (.iload 6, 2) := by decide +kernel
theorem dX4_grow_132 : decode cX4_grow 132 = .ok (.iconst 0, 1) := by decide +kernel
theorem dX4_grow_133 : decode cX4_grow 133 = .ok (.invokevirtual 69, 3) := by decide +kernel
theorem dX4_grow_136 : decode cX4_grow 136 = .ok (.aload_n 0, 1) := by decide +kernel
theorem dX4_grow_137 : decode cX4_grow 137 = .ok (.aload_n 1, 1) := by decide +kernel
theorem dX4_grow_138 : decode cX4_grow 138 = .ok (.iload_n 2, 1) := by decide +kernel
theorem dX4_grow_139 : decode cX4_grow 139 = .ok (.iconst 1, 1) := by decide +kernel
theorem dX4_grow_140 : decode cX4_grow 140 = .ok (.iadd, 1) := by decide +kernel
theorem dX4_grow_141 : decode cX4_grow 141 = .ok (.iload_n 3, 1) := by decide +kernel
theorem dX4_grow_142 : decode cX4_grow 142 = .ok (.iload 6, 2) := by decide +kernel
theorem dX4_grow_144 : decode cX4_grow 144 = .ok (.iconst (-1), 1) := by decide +kernel
theorem dX4_grow_145 : decode cX4_grow 145 = .ok (.ixor, 1) := by decide +kernel
theorem dX4_grow_146 : decode cX4_grow 146 = .ok (.iand, 1) := by decide +kernel
theorem dX4_grow_147 : decode cX4_grow 147 = .ok (.invokestatic 41, 3) := by decide +kernel
theorem dX4_grow_150 : decode cX4_grow 150 = .ok (.return_, 1) := by decide +kernel
theorem dX4_addLeaf_0 : decode cX4_addLeaf 0 = .ok (.aload_n 0, 1) := by decide +kernel
theorem dX4_addLeaf_1 : decode cX4_addLeaf 1 = .ok (.sipush 128, 3) := by decide +kernel
theorem dX4_addLeaf_4 : decode cX4_addLeaf 4 = .ok (.iload_n 1, 1) := by decide +kernel
theorem dX4_addLeaf_5 : decode cX4_addLeaf 5 = .ok (.iadd, 1) := by decide +kernel
theorem dX4_addLeaf_6 : decode cX4_addLeaf 6 = .ok (.invokevirtual 60, 3) := by decide +kernel
theorem dX4_addLeaf_9 : decode cX4_addLeaf 9 = .ok (.aload_n 0, 1) := by decide +kernel
theorem dX4_addLeaf_10 : decode cX4_addLeaf 10 = .ok (.dup, 1) := by decide +kernel
theorem dX4_addLeaf_11 : decode cX4_addLeaf 11 = .ok (.getfield 22, 3) := by decide +kernel
theorem dX4_addLeaf_14 : decode cX4_addLeaf 14 = .ok (.iconst 1, 1) := by decide +kernel
theorem dX4_addLeaf_15 : decode cX4_addLeaf 15 = .ok (.iadd, 1) := by decide +kernel
theorem dX4_addLeaf_16 : decode cX4_addLeaf 16 = .ok (.putfield 22, 3) := by decide +kernel
theorem dX4_addLeaf_19 : decode cX4_addLeaf 19 = .ok (.aload_n 0, 1) := by decide +kernel
theorem dX4_addLeaf_20 : decode cX4_addLeaf 20 = .ok (.aload_n 0, 1) := by decide +kernel
theorem dX4_addLeaf_21 : decode cX4_addLeaf 21 = .ok (.getfield 25, 3) := by decide +kernel
theorem dX4_addLeaf_24 : decode cX4_addLeaf 24 = .ok (.iload_n 2, 1) := by decide +kernel
theorem dX4_addLeaf_25 : decode cX4_addLeaf 25 = .ok (.invokestatic 73, 3) := by decide +kernel
theorem dX4_addLeaf_28 : decode cX4_addLeaf 28 = .ok (.putfield 25, 3) := by decide +kernel
theorem dX4_addLeaf_31 : decode cX4_addLeaf 31 = .ok (.return_, 1) := by decide +kernel
theorem dX4_addNode_0 : decode cX4_addNode 0 = .ok (.aload_n 0, 1) := by decide +kernel
theorem dX4_addNode_1 : decode cX4_addNode 1 = .ok (.getfield 9, 3) := by decide +kernel
theorem dX4_addNode_4 : decode cX4_addNode 4 = .ok (.aload_n 0, 1) := by decide +kernel
theorem dX4_addNode_5 : decode cX4_addNode 5 = .ok (.getfield 18, 3) := by decide +kernel
theorem dX4_addNode_8 : decode cX4_addNode 8 = .ok (.iload_n 1, 1) := by decide +kernel
theorem dX4_addNode_9 : decode cX4_addNode 9 = .ok (.iastore, 1) := by decide +kernel
theorem dX4_addNode_10 : decode cX4_addNode 10 = .ok (.aload_n 0, 1) := by decide +kernel
theorem dX4_addNode_11 : decode cX4_addNode 11 = .ok (.getfield 15, 3) := by decide +kernel
theorem dX4_addNode_14 : decode cX4_addNode 14 = .ok (.aload_n 0, 1) := by decide +kernel
theorem dX4_addNode_15 : decode cX4_addNode 15 = .ok (.getfield 18, 3) := by decide +kernel
theorem dX4_addNode_18 : decode cX4_addNode 18 = .ok (.iconst (-1), 1) := by decide +kernel
theorem dX4_addNode_19 : decode cX4_addNode 19 = .ok (.iastore, 1) := by decide +kernel
theorem dX4_addNode_20 : decode cX4_addNode 20 = .ok (.aload_n 0, 1) := by decide +kernel
theorem dX4_addNode_21 : decode cX4_addNode 21 = .ok (.dup, 1) := by decide +kernel
theorem dX4_addNode_22 : decode cX4_addNode 22 = .ok (.getfield 18, 3) := by decide +kernel
theorem dX4_addNode_25 : decode cX4_addNode 25 = .ok (.iconst 1, 1) := by decide +kernel
theorem dX4_addNode_26 : decode cX4_addNode 26 = .ok (.iadd, 1) := by decide +kernel
theorem dX4_addNode_27 : decode cX4_addNode 27 = .ok (.putfield 18, 3) := by decide +kernel
theorem dX4_addNode_30 : decode cX4_addNode 30 = .ok (.return_, 1) := by decide +kernel
theorem dX5_init_0 : decode cX5_init 0 = .ok (.aload_n 0, 1) := by decide +kernel
theorem dX5_init_1 : decode cX5_init 1 = .ok (.invokespecial 3, 3) := by decide +kernel
theorem dX5_init_4 : decode cX5_init 4 = .ok (.aload_n 0, 1) := by decide +kernel
theorem dX5_init_5 : decode cX5_init 5 = .ok (.sipush 256, 3) := by decide +kernel
theorem dX5_init_8 : decode cX5_init 8 = .ok (.newarray .int, 2) := by decide +kernel
theorem dX5_init_10 : decode cX5_init 10 = .ok (.putfield 9, 3) := by decide +kernel
theorem dX5_init_13 : decode cX5_init 13 = .ok (.aload_n 0, 1) := by decide +kernel
theorem dX5_init_14 : decode cX5_init 14 = .ok (.sipush 256, 3) := by decide +kernel
theorem dX5_init_17 : decode cX5_init 17 = .ok (.newarray .int, 2) := by decide +kernel
theorem dX5_init_19 : decode cX5_init 19 = .ok (.putfield 15, 3) := by decide +kernel
theorem dX5_init_22 : decode cX5_init 22 = .ok (.aload_n 0, 1) := by decide +kernel
theorem dX5_init_23 : decode cX5_init 23 = .ok (.sipush 256, 3) := by decide +kernel
theorem dX5_init_26 : decode cX5_init 26 = .ok (.newarray .int, 2) := by decide +kernel
theorem dX5_init_28 : decode cX5_init 28 = .ok (.putfield 18, 3) := by decide +kernel
theorem dX5_init_31 : decode cX5_init 31 = .ok (.aload_n 0, 1) := by decide +kernel
theorem dX5_init_32 : decode cX5_init 32 = .ok (.bipush 17, 2) := by decide +kernel
theorem dX5_init_34 : decode cX5_init 34 = .ok (.sipush 256, 3) := by decide +kernel
theorem dX5_init_37 : decode cX5_init 37 = .ok (.multianewarray 21 2, 4) := by decide +kernel
theorem dX5_init_41 : decode cX5_init 41 = .ok (.putfield 23, 3) := by decide +kernel
theorem dX5_init_44 : decode cX5_init 44 = .ok (.aload_n 0, 1) := by decide +kernel
theorem dX5_init_45 : decode cX5_init 45 = .ok (.bipush 17, 2) := by decide +kernel
theorem dX5_init_47 : decode cX5_init 47 = .ok (.newarray .int, 2) := by decide +kernel
theorem dX5_init_49 : decode cX5_init 49 = .ok (.putfield 26, 3) := by decide +kernel
theorem dX5_init_52 : decode cX5_init 52 = .ok (.aload_n 0, 1) := by decide +kernel
theorem dX5_init_53 : decode cX5_init 53 = .ok (.bipush 16, 2) := by decide +kernel
theorem dX5_init_55 : decode cX5_init 55 = .ok (.newarray .int, 2) := by decide +kernel
theorem dX5_init_57 : decode cX5_init 57 = .ok (.putfield 29, 3) := by decide +kernel
theorem dX5_init_60 : decode cX5_init 60 = .ok (.aload_n 0, 1) := by decide +kernel
theorem dX5_init_61 : decode cX5_init 61 = .ok (.bipush 16, 2) := by decide +kernel
theorem dX5_init_63 : decode cX5_init 63 = .ok (.newarray .int, 2) := by decide +kernel
theorem dX5_init_65 : decode cX5_init 65 = .ok (.putfield 32, 3) := by decide +kernel
theorem dX5_init_68 : decode cX5_init 68 = .ok (.return_, 1) := by decide +kernel
theorem dX5_start_0 : decode cX5_start 0 = .ok (.aload_n 0, 1) := by decide +kernel
theorem dX5_start_1 : decode cX5_start 1 = .ok (.aload_n 1, 1) := by decide +kernel
theorem dX5_start_2 : decode cX5_start 2 = .ok (.invokevirtual 35, 3) := by decide +kernel
theorem dX5_start_5 : decode cX5_start 5 = .ok (.iconst 1, 1) := by decide +kernel
theorem dX5_start_6 : decode cX5_start 6 = .ok (.isub, 1) := by decide +kernel
theorem dX5_start_7 : decode cX5_start 7 = .ok (.putfield 41, 3) := by decide +kernel
theorem dX5_start_10 : decode cX5_start 10 = .ok (.iconst 0, 1) := by decide +kernel
theorem dX5_start_11 : decode cX5_start 11 = .ok (.istore_n 3, 1) := by decide +kernel
theorem dX5_start_12 : decode cX5_start 12 = .ok (.iconst 0, 1) := by decide +kernel
theorem dX5_start_13 : decode cX5_start 13 = .ok (.istore 4, 2) := by decide +kernel
theorem dX5_start_15 : decode cX5_start 15 = .ok (.iload 4, 2) := by decide +kernel
theorem dX5_start_17 : decode cX5_start 17 = .ok (.aload_n 1, 1) := by decide +kernel
theorem dX5_start_18 : decode cX5_start 18 = .ok (.getfield 45, 3) := by decide +kernel
theorem dX5_start_21 : decode cX5_start 21 = .ok (.if_icmp .ge 76, 3) := by decide +kernel
theorem dX5_start_24 : decode cX5_start 24 = .ok (.iload_n 2, 1) := by decide +kernel
theorem dX5_start_25 : decode cX5_start 25 = .ok (.iconst (-1), 1) := by decide +kernel
theorem dX5_start_26 : decode cX5_start 26 = .ok (.if_icmp .eq 14, 3) := by decide +kernel
theorem dX5_start_29 : decode cX5_start 29 = .ok (.aload_n 1, 1) := by decide +kernel
theorem dX5_start_30 : decode cX5_start 30 = .ok (.getfield 48, 3) := by decide +kernel
theorem dX5_start_33 : decode cX5_start 33 = .ok (.iload 4, 2) := by decide +kernel
theorem dX5_start_35 : decode cX5_start 35 = .ok (.iaload, 1) := by decide +kernel
theorem dX5_start_36 : decode cX5_start 36 = .ok (.iload_n 2, 1) := by decide +kernel
theorem dX5_start_37 : decode cX5_start 37 = .ok (.if_icmp .ne 54, 3) := by decide +kernel
theorem dX5_start_40 : decode cX5_start 40 = .ok (.aload_n 0, 1) := by decide +kernel
theorem dX5_start_41 : decode cX5_start 41 = .ok (.getfield 9, 3) := by decide +kernel
theorem dX5_start_44 : decode cX5_start 44 = .ok (.iload_n 3, 1) := by decide +kernel
theorem dX5_start_45 : decode cX5_start 45 = .ok (.aload_n 1, 1) := by decide +kernel
theorem dX5_start_46 : decode cX5_start 46 = .ok (.getfield 49, 3) := by decide +kernel
theorem dX5_start_49 : decode cX5_start 49 = .ok (.iload 4, 2) := by decide +kernel
theorem dX5_start_51 : decode cX5_start 51 = .ok (.iaload, 1) := by decide +kernel
theorem dX5_start_52 : decode cX5_start 52 = .ok (.iastore, 1) := by decide +kernel
theorem dX5_start_53 : decode cX5_start 53 = .ok (.aload_n 0, 1) := by decide +kernel
theorem dX5_start_54 : decode cX5_start 54 = .ok (.getfield 15, 3) := by decide +kernel
theorem dX5_start_57 : decode cX5_start 57 = .ok (.iload_n 3, 1) := by decide +kernel
theorem dX5_start_58 : decode cX5_start 58 = .ok (.aload_n 1, 1) := by decide +kernel
theorem dX5_start_59 : decode cX5_start 59 = .ok (.getfield 50, 3) := by decide +kernel
theorem dX5_start_62 : decode cX5_start 62 = .ok (.iload 4, 2) := by decide +kernel
theorem dX5_start_64 : decode cX5_start 64 = .ok (.iaload, 1) := by decide +kernel
theorem dX5_start_65 : decode cX5_start 65 = .ok (.iastore, 1) := by decide +kernel
theorem dX5_start_66 : decode cX5_start 66 = .ok (.aload_n 0, 1) := by decide +kernel
theorem dX5_start_67 : decode cX5_start 67 = .ok (.getfield 18, 3) := by decide +kernel
theorem dX5_start_70 : decode cX5_start 70 = .ok (.iload_n 3, 1) := by decide +kernel
theorem dX5_start_71 : decode cX5_start 71 = .ok (.aload_n 1, 1) := by decide +kernel
theorem dX5_start_72 : decode cX5_start 72 = .ok (.getfield 48, 3) := by decide +kernel
theorem dX5_start_75 : decode cX5_start 75 = .ok (.iload 4, 2) := by decide +kernel
theorem dX5_start_77 : decode cX5_start 77 = .ok (.iaload, 1) := by decide +kernel
theorem dX5_start_78 : decode cX5_start 78 = .ok (.iastore, 1) := by decide +kernel
theorem dX5_start_79 : decode cX5_start 79 = .ok (.aload_n 0, 1) := by decide +kernel
theorem dX5_start_80 : decode cX5_start 80 = .ok (.getfield 23, 3) := by decide +kernel
theorem dX5_start_83 : decode cX5_start 83 = .ok (.iconst 0, 1) := by decide +kernel
theorem dX5_start_84 : decode cX5_start 84 = .ok (.aaload, 1) := by decide +kernel
theorem dX5_start_85 : decode cX5_start 85 = .ok (.iload_n 3, 1) := by decide +kernel
theorem dX5_start_86 : decode cX5_start 86 = .ok (.iload_n 3, 1) := by decide +kernel
theorem dX5_start_87 : decode cX5_start 87 = .ok (.iastore, 1) := by decide +kernel
theorem dX5_start_88 : decode cX5_start 88 = .ok (.iinc 3 1, 3) := by decide +kernel
theorem dX5_start_91 : decode cX5_start 91 = .ok (.iinc 4 1, 3) := by decide +kernel
theorem dX5_start_94 : decode cX5_start 94 = .ok (.goto (-79), 3) := by decide +kernel
theorem dX5_start_97 : decode cX5_start 97 = .ok (.aload_n 0, 1) := by decide +kernel
theorem dX5_start_98 : decode cX5_start 98 = .ok (.getfield 26, 3) := by decide +kernel
theorem dX5_start_101 : decode cX5_start 101 = .ok (.iconst 0, 1) := by decide +kernel
theorem dX5_start_102 : decode cX5_start 102 = .ok (.iload_n 3, 1) := by decide +kernel
theorem dX5_start_103 : decode cX5_start 103 = .ok (.iastore, 1) := by decide +kernel
theorem dX5_start_104 : decode cX5_start 104 = .ok (.return_, 1) := by decide +kernel
theorem dX5_step_0 : decode cX5_step 0 = .ok (.aload_n 0, 1) := by decide +kernel
theorem dX5_step_1 : decode cX5_step 1 = .ok (.getfield 23, 3) := by decide +kernel
theorem dX5_step_4 : decode cX5_step 4 = .ok (.iload_n 1, 1) := by decide +kernel
theorem dX5_step_5 : decode cX5_step 5 = .ok (.aaload, 1) := by decide +kernel
theorem dX5_step_6 : decode cX5_step 6 = .ok (.astore 4, 2) := by decide +kernel
theorem dX5_step_8 : decode cX5_step 8 = .ok (.aload_n 0, 1) := by decide +kernel
theorem dX5_step_9 : decode cX5_step 9 = .ok (.getfield 23, 3) := by decide +kernel
theorem dX5_step_12 : decode cX5_step 12 = .ok (.iload_n 1, 1) := by decide +kernel
theorem dX5_step_13 : decode cX5_step 13 = .ok (.iconst 1, 1) := by decide +kernel
theorem dX5_step_14 : decode cX5_step 14 = .ok (.iadd, 1) := by decide +kernel
theorem dX5_step_15 : decode cX5_step 15 = .ok (.aaload, 1) := by decide +kernel
theorem dX5_step_16 : decode cX5_step 16 = .ok (.astore 5, 2) := by decide +kernel
theorem dX5_step_18 : decode cX5_step 18 = .ok (.iload_n 3, 1) := by decide +kernel
theorem dX5_step_19 : decode cX5_step 19 = .ok (.ifCond .eq 10, 3) := by decide +kernel
theorem dX5_step_22 : decode cX5_step 22 = .ok (.aload_n 0, 1) := by decide +kernel
theorem dX5_step_23 : decode cX5_step 23 = .ok (.getfield 15, 3) := by decide +kernel
theorem dX5_step_26 : decode cX5_step 26 = .ok (.goto 7, 3) := by decide +kernel
theorem dX5_step_29 : decode cX5_step 29 = .ok (.aload_n 0, 1) := by decide +kernel
theorem dX5_step_30 : decode cX5_step 30 = .ok (.getfield 9, 3) := by decide +kernel
theorem dX5_step_33 : decode cX5_step 33 = .ok (.astore 6, 2) := by decide +kernel
theorem dX5_step_35 : decode cX5_step 35 = .ok (.iconst 0, 1) := by decide +kernel
theorem dX5_step_36 : decode cX5_step 36 = .ok (.istore 7, 2) := by decide +kernel
theorem dX5_step_38 : decode cX5_step 38 = .ok (.iconst 0, 1) := by decide +kernel
theorem dX5_step_39 : decode cX5_step 39 = .ok (.istore 8, 2) := by decide +kernel
theorem dX5_step_41 : decode cX5_step 41 = .ok (.iload 8, 2) := by decide +kernel
theorem dX5_step_43 : decode cX5_step 43 = .ok (.aload_n 0, 1) := by decide +kernel
theorem dX5_step_44 : decode cX5_step 44 = .ok (.getfield 26, 3) := by decide +kernel
theorem dX5_step_47 : decode cX5_step 47 = .ok (.iload_n 1, 1) := by decide +kernel
theorem dX5_step_48 : decode cX5_step 48 = .ok (.iaload, 1) := by decide +kernel
theorem dX5_step_49 : decode cX5_step 49 = .ok (.if_icmp .ge 35, 3) := by decide +kernel
theorem dX5_step_52 : decode cX5_step 52 = .ok (.aload 6, 2) := by decide +kernel
theorem dX5_step_54 : decode cX5_step 54 = .ok (.aload 4, 2) := by decide +kernel
theorem dX5_step_56 : decode cX5_step 56 = .ok (.iload 8, 2) := by decide +kernel
theorem dX5_step_58 : decode cX5_step 58 = .ok (.iaload, 1) := by decide +kernel
theorem dX5_step_59 : decode cX5_step 59 = .ok (.iaload, 1) := by decide +kernel
theorem dX5_step_60 : decode cX5_step 60 = .ok (.iload_n 2, 1) := by decide +kernel
theorem dX5_step_61 : decode cX5_step 61 = .ok (.iand, 1) := by decide +kernel
theorem dX5_step_62 : decode cX5_step 62 = .ok (.ifCond .ne 16, 3) := by decide +kernel
theorem dX5_step_65 : decode cX5_step 65 = .ok (.aload 5, 2) := by decide +kernel
theorem dX5_step_67 : decode cX5_step 67 = .ok (.iload 7, 2) := by decide +kernel
theorem dX5_step_69 : decode cX5_step 69 = .ok (.aload 4, 2) := by decide +kernel
theorem dX5_step_71 : decode cX5_step 71 = .ok (.iload 8, 2) := by decide +kernel
theorem dX5_step_73 : decode cX5_step 73 = .ok (.iaload, 1) := by decide +kernel
theorem dX5_step_74 : decode cX5_step 74 = .ok (.iastore, 1) := by decide +kernel
theorem dX5_step_75 : decode cX5_step 75 = .ok (.iinc 7 1, 3) := by decide +kernel
theorem dX5_step_78 : decode cX5_step 78 = .ok (.iinc 8 1, 3) := by decide +kernel
theorem dX5_step_81 : decode cX5_step 81 = .ok (.goto (-40), 3) := by decide +kernel
theorem dX5_step_84 : decode cX5_step 84 = .ok (.aload_n 0, 1) := by decide +kernel
theorem dX5_step_85 : decode cX5_step 85 = .ok (.getfield 26, 3) := by decide +kernel
theorem dX5_step_88 : decode cX5_step 88 = .ok (.iload_n 1, 1) := by decide +kernel
theorem dX5_step_89 : decode cX5_step 89 = .ok (.iconst 1, 1) := by decide +kernel
theorem dX5_step_90 : decode cX5_step 90 = .ok (.iadd, 1) := by decide +kernel
theorem dX5_step_91 : decode cX5_step 91 = .ok (.iload 7, 2) := by decide +kernel
theorem dX5_step_93 : decode cX5_step 93 = .ok (.iastore, 1) := by decide +kernel
theorem dX5_step_94 : decode cX5_step 94 = .ok (.return_, 1) := by decide +kernel
theorem dX5_splittingBit_0 : decode cX5_splittingBit 0 = .ok (.iconst 0, 1) := by decide +kernel
theorem dX5_splittingBit_1 : decode cX5_splittingBit 1 = .ok (.istore_n 3, 1) := by decide +kernel
theorem dX5_splittingBit_2 : decode cX5_splittingBit 2 = .ok (.iconst 0, 1) := by decide +kernel
theorem dX5_splittingBit_3 : decode cX5_splittingBit 3 = .ok (.istore 4, 2) := by decide +kernel
theorem dX5_splittingBit_5 : decode cX5_splittingBit 5 = .ok (.iload 4, 2) := by decide +kernel
theorem dX5_splittingBit_7 : decode cX5_splittingBit 7 = .ok (.aload_n 0, 1) := by decide +kernel
theorem dX5_splittingBit_8 : decode cX5_splittingBit 8 = .ok (.getfield 26, 3) := by decide +kernel
theorem dX5_splittingBit_11 : decode cX5_splittingBit 11 = .ok (.iload_n 1, 1) := by decide +kernel
theorem dX5_splittingBit_12 : decode cX5_splittingBit 12 = .ok (.iaload, 1) := by decide +kernel
theorem dX5_splittingBit_13 : decode cX5_splittingBit 13 = .ok (.if_icmp .ge 51, 3) := by decide +kernel
theorem dX5_splittingBit_16 : decode cX5_splittingBit 16 = .ok (.aload_n 0, 1) := by decide +kernel
theorem dX5_splittingBit_17 : decode cX5_splittingBit 17 = .ok (.getfield 23, 3) := by decide +kernel
theorem dX5_splittingBit_20 : decode cX5_splittingBit 20 = .ok (.iload_n 1, 1) := by decide +kernel
theorem dX5_splittingBit_21 : decode cX5_splittingBit 21 = .ok (.aaload, 1) := by decide +kernel
theorem dX5_splittingBit_22 : decode cX5_splittingBit 22 = .ok (.iload 4, 2) := by decide +kernel
theorem dX5_splittingBit_24 : decode cX5_splittingBit 24 = .ok (.iaload, 1) := by decide +kernel
theorem dX5_splittingBit_25 : decode cX5_splittingBit 25 = .ok (.istore 5, 2) := by decide +kernel
theorem dX5_splittingBit_27 : decode cX5_splittingBit 27 = .ok (.aload_n 0, 1) := by decide +kernel
theorem dX5_splittingBit_28 : decode cX5_splittingBit 28 = .ok (.getfield 9, 3) := by decide +kernel
theorem dX5_splittingBit_31 : decode cX5_splittingBit 31 = .ok (.iload 5, 2) := by decide +kernel
theorem dX5_splittingBit_33 : decode cX5_splittingBit 33 = .ok (.iaload, 1) := by decide +kernel
theorem dX5_splittingBit_34 : decode cX5_splittingBit 34 = .ok (.aload_n 0, 1) := by decide +kernel
theorem dX5_splittingBit_35 : decode cX5_splittingBit 35 = .ok (.getfield 15, 3) := by decide +kernel
theorem dX5_splittingBit_38 : decode cX5_splittingBit 38 = .ok (.iload 5, 2) := by decide +kernel
theorem dX5_splittingBit_40 : decode cX5_splittingBit 40 = .ok (.iaload, 1) := by decide +kernel
theorem dX5_splittingBit_41 : decode cX5_splittingBit 41 = .ok (.ior, 1) := by decide +kernel
theorem dX5_splittingBit_42 : decode cX5_splittingBit 42 = .ok (.iload_n 2, 1) := by decide +kernel
theorem dX5_splittingBit_43 : decode cX5_splittingBit 43 = .ok (.iand, 1) := by decide +kernel
theorem dX5_splittingBit_44 : decode cX5_splittingBit 44 = .ok (.istore 6, 2) := by decide +kernel
theorem dX5_splittingBit_46 : decode cX5_splittingBit 46 = .ok (.iload 6, 2) := by decide +kernel
theorem dX5_splittingBit_48 : decode cX5_splittingBit 48 = .ok (.ifCond .ne 5, 3) := by decide +kernel
theorem dX5_splittingBit_51 : decode cX5_splittingBit 51 = .ok (.iconst 0, 1) := by decide +kernel
theorem dX5_splittingBit_52 : decode cX5_splittingBit 52 = .ok (.ireturn, 1) := by decide +kernel
theorem dX5_splittingBit_53 : decode cX5_splittingBit 53 = .ok (.iload_n 3, 1) := by decide +kernel
theorem dX5_splittingBit_54 : decode cX5_splittingBit 54 = .ok (.iload 6, 2) := by decide +kernel
theorem dX5_splittingBit_56 : decode cX5_splittingBit 56 = .ok (.ior, 1) := by decide +kernel
theorem dX5_splittingBit_57 : decode cX5_splittingBit 57 = .ok (.istore_n 3, 1) := by decide +kernel
theorem dX5_splittingBit_58 : decode cX5_splittingBit 58 = .ok (.iinc 4 1, 3) := by decide +kernel
theorem dX5_splittingBit_61 : decode cX5_splittingBit 61 = .ok (.goto (-56), 3) := by decide +kernel
theorem dX5_splittingBit_64 : decode cX5_splittingBit 64 = .ok (.ldc 51, 2) := by decide +kernel
theorem dX5_splittingBit_66 : decode cX5_splittingBit 66 = .ok (.istore 4, 2) := by decide +kernel
theorem dX5_splittingBit_68 : decode cX5_splittingBit 68 = .ok (.iload 4, 2) := by decide +kernel
theorem dX5_splittingBit_70 : decode cX5_splittingBit 70 = .ok (.ifCond .le 19, 3) := by decide +kernel
theorem dX5_splittingBit_73 : decode cX5_splittingBit 73 = .ok (.iload_n 3, 1) := by decide +kernel
theorem dX5_splittingBit_74 : decode cX5_splittingBit 74 = .ok (.iload 4, 2) := by decide +kernel
theorem dX5_splittingBit_76 : decode cX5_splittingBit 76 = .ok (.iand, 1) := by decide +kernel
theorem dX5_splittingBit_77 : decode cX5_splittingBit 77 = .ok (.ifCond .ne 12, 3) := by decide +kernel
theorem dX5_splittingBit_80 : decode cX5_splittingBit 80 = .ok (.iload 4, 2) := by decide +kernel
theorem dX5_splittingBit_82 : decode cX5_splittingBit 82 = .ok (.iconst 1, 1) := by decide +kernel
theorem dX5_splittingBit_83 : decode cX5_splittingBit 83 = .ok (.ishr, 1) := by decide +kernel
theorem dX5_splittingBit_84 : decode cX5_splittingBit 84 = .ok (.istore 4, 2) := by decide +kernel
theorem dX5_splittingBit_86 : decode cX5_splittingBit 86 = .ok (.goto (-18), 3) := by decide +kernel
theorem dX5_splittingBit_89 : decode cX5_splittingBit 89 = .ok (.iload 4, 2) := by decide +kernel
theorem dX5_splittingBit_91 : decode cX5_splittingBit 91 = .ok (.ireturn, 1) := by decide +kernel
theorem dX5_leastGap_0 : decode cX5_leastGap 0 = .ok (.aload_n 0, 1) := by decide +kernel
theorem dX5_leastGap_1 : decode cX5_leastGap 1 = .ok (.iconst 0, 1) := by decide +kernel
theorem dX5_leastGap_2 : decode cX5_leastGap 2 = .ok (.aload_n 0, 1) := by decide +kernel
theorem dX5_leastGap_3 : decode cX5_leastGap 3 = .ok (.getfield 41, 3) := by decide +kernel
theorem dX5_leastGap_6 : decode cX5_leastGap 6 = .ok (.iconst 0, 1) := by decide +kernel
theorem dX5_leastGap_7 : decode cX5_leastGap 7 = .ok (.invokestatic 52, 3) := by decide +kernel
theorem dX5_leastGap_10 : decode cX5_leastGap 10 = .ok (.ireturn, 1) := by decide +kernel
theorem dX5_leastGapFrom_0 : decode cX5_leastGapFrom 0 = .ok (.aload_n 0, 1) := by decide +kernel
theorem dX5_leastGapFrom_1 : decode cX5_leastGapFrom 1 = .ok (.getfield 26, 3) := by decide +kernel
theorem dX5_leastGapFrom_4 : decode cX5_leastGapFrom 4 = .ok (.iload_n 1, 1) := by decide +kernel
theorem dX5_leastGapFrom_5 : decode cX5_leastGapFrom 5 = .ok (.iaload, 1) := by decide +kernel
theorem dX5_leastGapFrom_6 : decode cX5_leastGapFrom 6 = .ok (.ifCond .ne 5, 3) := by decide +kernel
theorem dX5_leastGapFrom_9 : decode cX5_leastGapFrom 9 = .ok (.iload_n 3, 1) := by decide +kernel
theorem dX5_leastGapFrom_10 : decode cX5_leastGapFrom 10 = .ok (.ireturn, 1) := by decide +kernel
theorem dX5_leastGapFrom_11 : decode cX5_leastGapFrom 11 = .ok (.aload_n 0, 1) := by decide +kernel
theorem dX5_leastGapFrom_12 : decode cX5_leastGapFrom 12 = .ok (.iload_n 1, 1) := by decide +kernel
theorem dX5_leastGapFrom_13 : decode cX5_leastGapFrom 13 = .ok (.iload_n 2, 1) := by decide +kernel
theorem dX5_leastGapFrom_14 : decode cX5_leastGapFrom 14 = .ok (.invokevirtual 56, 3) := by decide +kernel
theorem dX5_leastGapFrom_17 : decode cX5_leastGapFrom 17 = .ok (.istore 4, 2) := by decide +kernel
theorem dX5_leastGapFrom_19 : decode cX5_leastGapFrom 19 = .ok (.iload 4, 2) := by decide +kernel
theorem dX5_leastGapFrom_21 : decode cX5_leastGapFrom 21 = .ok (.ifCond .eq 9, 3) := by decide +kernel
theorem dX5_leastGapFrom_24 : decode cX5_leastGapFrom 24 = .ok (.iload_n 1, 1) := by decide +kernel
theorem dX5_leastGapFrom_25 : decode cX5_leastGapFrom 25 = .ok (.bipush 16, 2) := by decide +kernel
theorem dX5_leastGapFrom_27 : decode cX5_leastGapFrom 27 = .ok (.if_icmp .lt 5, 3) := by decide +kernel
theorem dX5_leastGapFrom_30 : decode cX5_leastGapFrom 30 = .ok (.iconst (-1), 1) := by decide +kernel
theorem dX5_leastGapFrom_31 : decode cX5_leastGapFrom 31 = .ok (.ireturn, 1) := by decide +kernel
theorem dX5_leastGapFrom_32 : decode cX5_leastGapFrom 32 = .ok (.aload_n 0, 1) := by decide +kernel
theorem dX5_leastGapFrom_33 : decode cX5_leastGapFrom 33 = .ok (.iload_n 1, 1) := by decide +kernel
theorem dX5_leastGapFrom_34 : decode cX5_leastGapFrom 34 = .ok (.iload 4, 2) := by decide +kernel
theorem dX5_leastGapFrom_36 : decode cX5_leastGapFrom 36 = .ok (.iconst 0, 1) := by decide +kernel
theorem dX5_leastGapFrom_37 : decode cX5_leastGapFrom 37 = .ok (.invokevirtual 60, 3) := by decide +kernel
theorem dX5_leastGapFrom_40 : decode cX5_leastGapFrom 40 = .ok (.aload_n 0, 1) := by decide +kernel
theorem dX5_leastGapFrom_41 : decode cX5_leastGapFrom 41 = .ok (.iload_n 1, 1) := by decide +kernel
theorem dX5_leastGapFrom_42 : decode cX5_leastGapFrom 42 = .ok (.iconst 1, 1) := by decide +kernel
theorem dX5_leastGapFrom_43 : decode cX5_leastGapFrom 43 = .ok (.iadd, 1) := by decide +kernel
theorem dX5_leastGapFrom_44 : decode cX5_leastGapFrom 44 = .ok (.iload_n 2, 1) := by decide +kernel
theorem dX5_leastGapFrom_45 : decode cX5_leastGapFrom 45 = .ok (.iload 4, 2) := by decide +kernel
theorem dX5_leastGapFrom_47 : decode cX5_leastGapFrom 47 = .ok (.iconst (-1), 1) := by decide +kernel
theorem dX5_leastGapFrom_48 : decode cX5_leastGapFrom 48 = .ok (.ixor, 1) := by decide +kernel
theorem dX5_leastGapFrom_49 : decode cX5_leastGapFrom 49 = .ok (.iand, 1) := by decide +kernel
theorem dX5_leastGapFrom_50 : decode cX5_leastGapFrom 50 = .ok (.iload_n 3, 1) := by decide +kernel
theorem dX5_leastGapFrom_51 : decode cX5_leastGapFrom 51 = .ok (.invokestatic 52, 3) := by decide +kernel
theorem dX5_leastGapFrom_54 : decode cX5_leastGapFrom 54 = .ok (.istore 5, 2) := by decide +kernel
theorem dX5_leastGapFrom_56 : decode cX5_leastGapFrom 56 = .ok (.iload 5, 2) := by decide +kernel
theorem dX5_leastGapFrom_58 : decode cX5_leastGapFrom 58 = .ok (.iconst (-1), 1) := by decide +kernel
theorem dX5_leastGapFrom_59 : decode cX5_leastGapFrom 59 = .ok (.if_icmp .eq 6, 3) := by decide +kernel
theorem dX5_leastGapFrom_62 : decode cX5_leastGapFrom 62 = .ok (.iload 5, 2) := by decide +kernel
theorem dX5_leastGapFrom_64 : decode cX5_leastGapFrom 64 = .ok (.ireturn, 1) := by decide +kernel
theorem dX5_leastGapFrom_65 : decode cX5_leastGapFrom 65 = .ok (.aload_n 0, 1) := by decide +kernel
theorem dX5_leastGapFrom_66 : decode cX5_leastGapFrom 66 = .ok (.iload_n 1, 1) := by decide +kernel
theorem dX5_leastGapFrom_67 : decode cX5_leastGapFrom 67 = .ok (.iload 4, 2) := by decide +kernel
theorem dX5_leastGapFrom_69 : decode cX5_leastGapFrom 69 = .ok (.iconst 1, 1) := by decide +kernel
theorem dX5_leastGapFrom_70 : decode cX5_leastGapFrom 70 = .ok (.invokevirtual 60, 3) := by decide +kernel
theorem dX5_leastGapFrom_73 : decode cX5_leastGapFrom 73 = .ok (.aload_n 0, 1) := by decide +kernel
theorem dX5_leastGapFrom_74 : decode cX5_leastGapFrom 74 = .ok (.iload_n 1, 1) := by decide +kernel
theorem dX5_leastGapFrom_75 : decode cX5_leastGapFrom 75 = .ok (.iconst 1, 1) := by decide +kernel
theorem dX5_leastGapFrom_76 : decode cX5_leastGapFrom 76 = .ok (.iadd, 1) := by decide +kernel
theorem dX5_leastGapFrom_77 : decode cX5_leastGapFrom 77 = .ok (.iload_n 2, 1) := by decide +kernel
theorem dX5_leastGapFrom_78 : decode cX5_leastGapFrom 78 = .ok (.iload 4, 2) := by decide +kernel
theorem dX5_leastGapFrom_80 : decode cX5_leastGapFrom 80 = .ok (.iconst (-1), 1) := by decide +kernel
theorem dX5_leastGapFrom_81 : decode cX5_leastGapFrom 81 = .ok (.ixor, 1) := by decide +kernel
theorem dX5_leastGapFrom_82 : decode cX5_leastGapFrom 82 = .ok (.iand, 1) := by decide +kernel
theorem dX5_leastGapFrom_83 : decode cX5_leastGapFrom 83 = .ok (.iload_n 3, 1) := by decide +kernel
theorem dX5_leastGapFrom_84 : decode cX5_leastGapFrom 84 = .ok (.iload 4, 2) := by decide +kernel
theorem dX5_leastGapFrom_86 : decode cX5_leastGapFrom 86 = .ok (.ior, 1) := by decide +kernel
theorem dX5_leastGapFrom_87 : decode cX5_leastGapFrom 87 = .ok (.invokestatic 52, 3) := by decide +kernel
theorem dX5_leastGapFrom_90 : decode cX5_leastGapFrom 90 = .ok (.ireturn, 1) := by decide +kernel
theorem dX5_casesMet_0 : decode cX5_casesMet 0 = .ok (.aload_n 0, 1) := by decide +kernel
theorem dX5_casesMet_1 : decode cX5_casesMet 1 = .ok (.iconst 0, 1) := by decide +kernel
theorem dX5_casesMet_2 : decode cX5_casesMet 2 = .ok (.aload_n 0, 1) := by decide +kernel
theorem dX5_casesMet_3 : decode cX5_casesMet 3 = .ok (.getfield 41, 3) := by decide +kernel
theorem dX5_casesMet_6 : decode cX5_casesMet 6 = .ok (.invokestatic 64, 3) := by decide +kernel
theorem dX5_casesMet_9 : decode cX5_casesMet 9 = .ok (.ireturn, 1) := by decide +kernel
theorem dX5_casesMetFrom_0 : decode cX5_casesMetFrom 0 = .ok (.aload_n 0, 1) := by decide +kernel
theorem dX5_casesMetFrom_1 : decode cX5_casesMetFrom 1 = .ok (.getfield 26, 3) := by decide +kernel
theorem dX5_casesMetFrom_4 : decode cX5_casesMetFrom 4 = .ok (.iload_n 1, 1) := by decide +kernel
theorem dX5_casesMetFrom_5 : decode cX5_casesMetFrom 5 = .ok (.iaload, 1) := by decide +kernel
theorem dX5_casesMetFrom_6 : decode cX5_casesMetFrom 6 = .ok (.ifCond .ne 5, 3) := by decide +kernel
theorem dX5_casesMetFrom_9 : decode cX5_casesMetFrom 9 = .ok (.iconst 0, 1) := by decide +kernel
theorem dX5_casesMetFrom_10 : decode cX5_casesMetFrom 10 = .ok (.ireturn, 1) := by decide +kernel
theorem dX5_casesMetFrom_11 : decode cX5_casesMetFrom 11 = .ok (.aload_n 0, 1) := by decide +kernel
theorem dX5_casesMetFrom_12 : decode cX5_casesMetFrom 12 = .ok (.iload_n 1, 1) := by decide +kernel
theorem dX5_casesMetFrom_13 : decode cX5_casesMetFrom 13 = .ok (.iload_n 2, 1) := by decide +kernel
theorem dX5_casesMetFrom_14 : decode cX5_casesMetFrom 14 = .ok (.invokevirtual 56, 3) := by decide +kernel
theorem dX5_casesMetFrom_17 : decode cX5_casesMetFrom 17 = .ok (.istore_n 3, 1) := by decide +kernel
theorem dX5_casesMetFrom_18 : decode cX5_casesMetFrom 18 = .ok (.iload_n 3, 1) := by decide +kernel
theorem dX5_casesMetFrom_19 : decode cX5_casesMetFrom 19 = .ok (.ifCond .eq 9, 3) := by decide +kernel
theorem dX5_casesMetFrom_22 : decode cX5_casesMetFrom 22 = .ok (.iload_n 1, 1) := by decide +kernel
theorem dX5_casesMetFrom_23 : decode cX5_casesMetFrom 23 = .ok (.bipush 16, 2) := by decide +kernel
theorem dX5_casesMetFrom_25 : decode cX5_casesMetFrom 25 = .ok (.if_icmp .lt 10, 3) := by decide +kernel
theorem dX5_casesMetFrom_28 : decode cX5_casesMetFrom 28 = .ok (.iconst 1, 1) := by decide +kernel
theorem dX5_casesMetFrom_29 : decode cX5_casesMetFrom 29 = .ok (.iload_n 2, 1) := by decide +kernel
theorem dX5_casesMetFrom_30 : decode cX5_casesMetFrom 30 = .ok (.invokestatic 68, 3) := by decide +kernel
theorem dX5_casesMetFrom_33 : decode cX5_casesMetFrom 33 = .ok (.ishl, 1) := by decide +kernel
theorem dX5_casesMetFrom_34 : decode cX5_casesMetFrom 34 = .ok (.ireturn, 1) := by decide +kernel
theorem dX5_casesMetFrom_35 : decode cX5_casesMetFrom 35 = .ok (.aload_n 0, 1) := by decide +kernel
theorem dX5_casesMetFrom_36 : decode cX5_casesMetFrom 36 = .ok (.iload_n 1, 1) := by decide +kernel
theorem dX5_casesMetFrom_37 : decode cX5_casesMetFrom 37 = .ok (.iload_n 3, 1) := by decide +kernel
theorem dX5_casesMetFrom_38 : decode cX5_casesMetFrom 38 = .ok (.iconst 1, 1) := by decide +kernel
theorem dX5_casesMetFrom_39 : decode cX5_casesMetFrom 39 = .ok (.invokevirtual 60, 3) := by decide +kernel
theorem dX5_casesMetFrom_42 : decode cX5_casesMetFrom 42 = .ok (.aload_n 0, 1) := by decide +kernel
theorem dX5_casesMetFrom_43 : decode cX5_casesMetFrom 43 = .ok (.iload_n 1, 1) := by decide +kernel
theorem dX5_casesMetFrom_44 : decode cX5_casesMetFrom 44 = .ok (.iconst 1, 1) := by decide +kernel
theorem dX5_casesMetFrom_45 : decode cX5_casesMetFrom 45 = .ok (.iadd, 1) := by decide +kernel
theorem dX5_casesMetFrom_46 : decode cX5_casesMetFrom 46 = .ok (.iload_n 2, 1) := by decide +kernel
theorem dX5_casesMetFrom_47 : decode cX5_casesMetFrom 47 = .ok (.iload_n 3, 1) := by decide +kernel
theorem dX5_casesMetFrom_48 : decode cX5_casesMetFrom 48 = .ok (.iconst (-1), 1) := by decide +kernel
theorem dX5_casesMetFrom_49 : decode cX5_casesMetFrom 49 = .ok (.ixor, 1) := by decide +kernel
theorem dX5_casesMetFrom_50 : decode cX5_casesMetFrom 50 = .ok (.iand, 1) := by decide +kernel
theorem dX5_casesMetFrom_51 : decode cX5_casesMetFrom 51 = .ok (.invokestatic 64, 3) := by decide +kernel
theorem dX5_casesMetFrom_54 : decode cX5_casesMetFrom 54 = .ok (.istore 4, 2) := by decide +kernel
theorem dX5_casesMetFrom_56 : decode cX5_casesMetFrom 56 = .ok (.aload_n 0, 1) := by decide +kernel
theorem dX5_casesMetFrom_57 : decode cX5_casesMetFrom 57 = .ok (.iload_n 1, 1) := by decide +kernel
theorem dX5_casesMetFrom_58 : decode cX5_casesMetFrom 58 = .ok (.iload_n 3, 1) := by decide +kernel
theorem dX5_casesMetFrom_59 : decode cX5_casesMetFrom 59 = .ok (.iconst 0, 1) := by decide +kernel
theorem dX5_casesMetFrom_60 : decode cX5_casesMetFrom 60 = .ok (.invokevirtual 60, 3) := by decide +kernel
theorem dX5_casesMetFrom_63 : decode cX5_casesMetFrom 63 = .ok (.iload 4, 2) := by decide +kernel
theorem dX5_casesMetFrom_65 : decode cX5_casesMetFrom 65 = .ok (.aload_n 0, 1) := by decide +kernel
theorem dX5_casesMetFrom_66 : decode cX5_casesMetFrom 66 = .ok (.iload_n 1, 1) := by decide +kernel
theorem dX5_casesMetFrom_67 : decode cX5_casesMetFrom 67 = .ok (.iconst 1, 1) := by decide +kernel
theorem dX5_casesMetFrom_68 : decode cX5_casesMetFrom 68 = .ok (.iadd, 1) := by decide +kernel
theorem dX5_casesMetFrom_69 : decode cX5_casesMetFrom 69 = .ok (.iload_n 2, 1) := by decide +kernel
theorem dX5_casesMetFrom_70 : decode cX5_casesMetFrom 70 = .ok (.iload_n 3, 1) := by decide +kernel
theorem dX5_casesMetFrom_71 : decode cX5_casesMetFrom 71 = .ok (.iconst (-1), 1) := by decide +kernel
theorem dX5_casesMetFrom_72 : decode cX5_casesMetFrom 72 = .ok (.ixor, 1) := by decide +kernel
theorem dX5_casesMetFrom_73 : decode cX5_casesMetFrom 73 = .ok (.iand, 1) := by decide +kernel
theorem dX5_casesMetFrom_74 : decode cX5_casesMetFrom 74 = .ok (.invokestatic 64, 3) := by decide +kernel
theorem dX5_casesMetFrom_77 : decode cX5_casesMetFrom 77 = .ok (.iadd, 1) := by decide +kernel
theorem dX5_casesMetFrom_78 : decode cX5_casesMetFrom 78 = .ok (.ireturn, 1) := by decide +kernel
theorem dX5_oneAction_0 : decode cX5_oneAction 0 = .ok (.aload_n 0, 1) := by decide +kernel
theorem dX5_oneAction_1 : decode cX5_oneAction 1 = .ok (.getfield 18, 3) := by decide +kernel
theorem dX5_oneAction_4 : decode cX5_oneAction 4 = .ok (.aload_n 0, 1) := by decide +kernel
theorem dX5_oneAction_5 : decode cX5_oneAction 5 = .ok (.getfield 23, 3) := by decide +kernel
theorem dX5_oneAction_8 : decode cX5_oneAction 8 = .ok (.iload_n 1, 1) := by decide +kernel
theorem dX5_oneAction_9 : decode cX5_oneAction 9 = .ok (.aaload, 1) := by decide +kernel
theorem dX5_oneAction_10 : decode cX5_oneAction 10 = .ok (.iconst 0, 1) := by decide +kernel
theorem dX5_oneAction_11 : decode cX5_oneAction 11 = .ok (.iaload, 1) := by decide +kernel
theorem dX5_oneAction_12 : decode cX5_oneAction 12 = .ok (.iaload, 1) := by decide +kernel
theorem dX5_oneAction_13 : decode cX5_oneAction 13 = .ok (.istore_n 2, 1) := by decide +kernel
theorem dX5_oneAction_14 : decode cX5_oneAction 14 = .ok (.iconst 1, 1) := by decide +kernel
theorem dX5_oneAction_15 : decode cX5_oneAction 15 = .ok (.istore_n 3, 1) := by decide +kernel
theorem dX5_oneAction_16 : decode cX5_oneAction 16 = .ok (.iload_n 3, 1) := by decide +kernel
theorem dX5_oneAction_17 : decode cX5_oneAction 17 = .ok (.aload_n 0, 1) := by decide +kernel
theorem dX5_oneAction_18 : decode cX5_oneAction 18 = .ok (.getfield 26, 3) := by decide +kernel
theorem dX5_oneAction_21 : decode cX5_oneAction 21 = .ok (.iload_n 1, 1) := by decide +kernel
theorem dX5_oneAction_22 : decode cX5_oneAction 22 = .ok (.iaload, 1) := by decide +kernel
theorem dX5_oneAction_23 : decode cX5_oneAction 23 = .ok (.if_icmp .ge 28, 3) := by decide +kernel
theorem dX5_oneAction_26 : decode cX5_oneAction 26 = .ok (.aload_n 0, 1) := by decide +kernel
theorem dX5_oneAction_27 : decode cX5_oneAction 27 = .ok (.getfield 18, 3) := by decide +kernel
theorem dX5_oneAction_30 : decode cX5_oneAction 30 = .ok (.aload_n 0, 1) := by decide +kernel
theorem dX5_oneAction_31 : decode cX5_oneAction 31 = .ok (.getfield 23, 3) := by decide +kernel
theorem dX5_oneAction_34 : decode cX5_oneAction 34 = .ok (.iload_n 1, 1) := by decide +kernel
theorem dX5_oneAction_35 : decode cX5_oneAction 35 = .ok (.aaload, 1) := by decide +kernel
theorem dX5_oneAction_36 : decode cX5_oneAction 36 = .ok (.iload_n 3, 1) := by decide +kernel
theorem dX5_oneAction_37 : decode cX5_oneAction 37 = .ok (.iaload, 1) := by decide +kernel
theorem dX5_oneAction_38 : decode cX5_oneAction 38 = .ok (.iaload, 1) := by decide +kernel
theorem dX5_oneAction_39 : decode cX5_oneAction 39 = .ok (.iload_n 2, 1) := by decide +kernel
theorem dX5_oneAction_40 : decode cX5_oneAction 40 = .ok (.if_icmp .eq 5, 3) := by decide +kernel
theorem dX5_oneAction_43 : decode cX5_oneAction 43 = .ok (.iconst (-1), 1) := by decide +kernel
theorem dX5_oneAction_44 : decode cX5_oneAction 44 = .ok (.ireturn, 1) := by decide +kernel
theorem dX5_oneAction_45 : decode cX5_oneAction 45 = .ok (.iinc 3 1, 3) := by decide +kernel
theorem dX5_oneAction_48 : decode cX5_oneAction 48 = .ok (.goto (-32), 3) := by decide +kernel
theorem dX5_oneAction_51 : decode cX5_oneAction 51 = .ok (.iload_n 2, 1) := by decide +kernel
theorem dX5_oneAction_52 : decode cX5_oneAction 52 = .ok (.ireturn, 1) := by decide +kernel
theorem dX5_choose_0 : decode cX5_choose 0 = .ok (.aload_n 0, 1) := by decide +kernel
theorem dX5_choose_1 : decode cX5_choose 1 = .ok (.iload_n 1, 1) := by decide +kernel
theorem dX5_choose_2 : decode cX5_choose 2 = .ok (.iload_n 2, 1) := by decide +kernel
theorem dX5_choose_3 : decode cX5_choose 3 = .ok (.invokevirtual 74, 3) := by decide +kernel
theorem dX5_choose_6 : decode cX5_choose 6 = .ok (.iconst (-1), 1) := by decide +kernel
theorem dX5_choose_7 : decode cX5_choose 7 = .ok (.istore_n 3, 1) := by decide +kernel
theorem dX5_choose_8 : decode cX5_choose 8 = .ok (.iconst 0, 1) := by decide +kernel
theorem dX5_choose_9 : decode cX5_choose 9 = .ok (.istore 4, 2) := by decide +kernel
theorem dX5_choose_11 : decode cX5_choose 11 = .ok (.iload 4, 2) := by decide +kernel
theorem dX5_choose_13 : decode cX5_choose 13 = .ok (.bipush 16, 2) := by decide +kernel
theorem dX5_choose_15 : decode cX5_choose 15 = .ok (.if_icmp .ge 36, 3) := by decide +kernel
theorem dX5_choose_18 : decode cX5_choose 18 = .ok (.iload_n 2, 1) := by decide +kernel
theorem dX5_choose_19 : decode cX5_choose 19 = .ok (.iconst 1, 1) := by decide +kernel
theorem dX5_choose_20 : decode cX5_choose 20 = .ok (.iload 4, 2) := by decide +kernel
theorem dX5_choose_22 : decode cX5_choose 22 = .ok (.ishl, 1) := by decide +kernel
theorem dX5_choose_23 : decode cX5_choose 23 = .ok (.iand, 1) := by decide +kernel
theorem dX5_choose_24 : decode cX5_choose 24 = .ok (.ifCond .eq 21, 3) := by decide +kernel
theorem dX5_choose_27 : decode cX5_choose 27 = .ok (.iload_n 3, 1) := by decide +kernel
theorem dX5_choose_28 : decode cX5_choose 28 = .ok (.iconst (-1), 1) := by decide +kernel
theorem dX5_choose_29 : decode cX5_choose 29 = .ok (.if_icmp .eq 13, 3) := by decide +kernel
theorem dX5_choose_32 : decode cX5_choose 32 = .ok (.aload_n 0, 1) := by decide +kernel
theorem dX5_choose_33 : decode cX5_choose 33 = .ok (.iload 4, 2) := by decide +kernel
theorem dX5_choose_35 : decode cX5_choose 35 = .ok (.iload_n 3, 1) := by decide +kernel
theorem dX5_choose_36 : decode cX5_choose 36 = .ok (.invokevirtual 78, 3) := by decide +kernel
theorem dX5_choose_39 : decode cX5_choose 39 = .ok (.ifCond .eq 6, 3) := by decide +kernel
theorem dX5_choose_42 : decode cX5_choose 42 = .ok (.iload 4, 2) := by decide +kernel
theorem dX5_choose_44 : decode cX5_choose 44 = .ok (.istore_n 3, 1) := by decide +kernel
theorem dX5_choose_45 : decode cX5_choose 45 = .ok (.iinc 4 1, 3) := by decide +kernel
theorem dX5_choose_48 : decode cX5_choose 48 = .ok (.goto (-37), 3) := by decide +kernel
theorem dX5_choose_51 : decode cX5_choose 51 = .ok (.iload_n 3, 1) := by decide +kernel
theorem dX5_choose_52 : decode cX5_choose 52 = .ok (.ireturn, 1) := by decide +kernel
theorem dX5_isBetter_0 : decode cX5_isBetter 0 = .ok (.aload_n 0, 1) := by decide +kernel
theorem dX5_isBetter_1 : decode cX5_isBetter 1 = .ok (.getfield 29, 3) := by decide +kernel
theorem dX5_isBetter_4 : decode cX5_isBetter 4 = .ok (.iload_n 1, 1) := by decide +kernel
theorem dX5_isBetter_5 : decode cX5_isBetter 5 = .ok (.iaload, 1) := by decide +kernel
theorem dX5_isBetter_6 : decode cX5_isBetter 6 = .ok (.aload_n 0, 1) := by decide +kernel
theorem dX5_isBetter_7 : decode cX5_isBetter 7 = .ok (.getfield 29, 3) := by decide +kernel
theorem dX5_isBetter_10 : decode cX5_isBetter 10 = .ok (.iload_n 2, 1) := by decide +kernel
theorem dX5_isBetter_11 : decode cX5_isBetter 11 = .ok (.iaload, 1) := by decide +kernel
theorem dX5_isBetter_12 : decode cX5_isBetter 12 = .ok (.if_icmp .eq 24, 3) := by decide +kernel
theorem dX5_isBetter_15 : decode cX5_isBetter 15 = .ok (.aload_n 0, 1) := by decide +kernel
theorem dX5_isBetter_16 : decode cX5_isBetter 16 = .ok (.getfield 29, 3) := by decide +kernel
theorem dX5_isBetter_19 : decode cX5_isBetter 19 = .ok (.iload_n 1, 1) := by decide +kernel
theorem dX5_isBetter_20 : decode cX5_isBetter 20 = .ok (.iaload, 1) := by decide +kernel
theorem dX5_isBetter_21 : decode cX5_isBetter 21 = .ok (.aload_n 0, 1) := by decide +kernel
theorem dX5_isBetter_22 : decode cX5_isBetter 22 = .ok (.getfield 29, 3) := by decide +kernel
theorem dX5_isBetter_25 : decode cX5_isBetter 25 = .ok (.iload_n 2, 1) := by decide +kernel
theorem dX5_isBetter_26 : decode cX5_isBetter 26 = .ok (.iaload, 1) := by decide +kernel
theorem dX5_isBetter_27 : decode cX5_isBetter 27 = .ok (.if_icmp .ge 7, 3) := by decide +kernel
theorem dX5_isBetter_30 : decode cX5_isBetter 30 = .ok (.iconst 1, 1) := by decide +kernel
theorem dX5_isBetter_31 : decode cX5_isBetter 31 = .ok (.goto 4, 3) := by decide +kernel
theorem dX5_isBetter_34 : decode cX5_isBetter 34 = .ok (.iconst 0, 1) := by decide +kernel
theorem dX5_isBetter_35 : decode cX5_isBetter 35 = .ok (.ireturn, 1) := by decide +kernel
theorem dX5_isBetter_36 : decode cX5_isBetter 36 = .ok (.aload_n 0, 1) := by decide +kernel
theorem dX5_isBetter_37 : decode cX5_isBetter 37 = .ok (.getfield 32, 3) := by decide +kernel
theorem dX5_isBetter_40 : decode cX5_isBetter 40 = .ok (.iload_n 1, 1) := by decide +kernel
theorem dX5_isBetter_41 : decode cX5_isBetter 41 = .ok (.iaload, 1) := by decide +kernel
theorem dX5_isBetter_42 : decode cX5_isBetter 42 = .ok (.invokestatic 82, 3) := by decide +kernel
theorem dX5_isBetter_45 : decode cX5_isBetter 45 = .ok (.aload_n 0, 1) := by decide +kernel
theorem dX5_isBetter_46 : decode cX5_isBetter 46 = .ok (.getfield 32, 3) := by decide +kernel
theorem dX5_isBetter_49 : decode cX5_isBetter 49 = .ok (.iload_n 2, 1) := by decide +kernel
theorem dX5_isBetter_50 : decode cX5_isBetter 50 = .ok (.iaload, 1) := by decide +kernel
theorem dX5_isBetter_51 : decode cX5_isBetter 51 = .ok (.invokestatic 82, 3) := by decide +kernel
theorem dX5_isBetter_54 : decode cX5_isBetter 54 = .ok (.if_icmp .le 7, 3) := by decide +kernel
theorem dX5_isBetter_57 : decode cX5_isBetter 57 = .ok (.iconst 1, 1) := by decide +kernel
theorem dX5_isBetter_58 : decode cX5_isBetter 58 = .ok (.goto 4, 3) := by decide +kernel
theorem dX5_isBetter_61 : decode cX5_isBetter 61 = .ok (.iconst 0, 1) := by decide +kernel
theorem dX5_isBetter_62 : decode cX5_isBetter 62 = .ok (.ireturn, 1) := by decide +kernel
theorem dX5_weigh_0 : decode cX5_weigh 0 = .ok (.iconst 0, 1) := by decide +kernel
theorem dX5_weigh_1 : decode cX5_weigh 1 = .ok (.istore_n 3, 1) := by decide +kernel
theorem dX5_weigh_2 : decode cX5_weigh 2 = .ok (.iload_n 3, 1) := by decide +kernel
theorem dX5_weigh_3 : decode cX5_weigh 3 = .ok (.bipush 16, 2) := by decide +kernel
theorem dX5_weigh_5 : decode cX5_weigh 5 = .ok (.if_icmp .ge 23, 3) := by decide +kernel
theorem dX5_weigh_8 : decode cX5_weigh 8 = .ok (.aload_n 0, 1) := by decide +kernel
theorem dX5_weigh_9 : decode cX5_weigh 9 = .ok (.getfield 29, 3) := by decide +kernel
theorem dX5_weigh_12 : decode cX5_weigh 12 = .ok (.iload_n 3, 1) := by decide +kernel
theorem dX5_weigh_13 : decode cX5_weigh 13 = .ok (.iconst 0, 1) := by decide +kernel
theorem dX5_weigh_14 : decode cX5_weigh 14 = .ok (.iastore, 1) := by decide +kernel
theorem dX5_weigh_15 : decode cX5_weigh 15 = .ok (.aload_n 0, 1) := by decide +kernel
theorem dX5_weigh_16 : decode cX5_weigh 16 = .ok (.getfield 32, 3) := by decide +kernel
theorem dX5_weigh_19 : decode cX5_weigh 19 = .ok (.iload_n 3, 1) := by decide +kernel
theorem dX5_weigh_20 : decode cX5_weigh 20 = .ok (.iconst 0, 1) := by decide +kernel
theorem dX5_weigh_21 : decode cX5_weigh 21 = .ok (.iastore, 1) := by decide +kernel
theorem dX5_weigh_22 : decode cX5_weigh 22 = .ok (.iinc 3 1, 3) := by decide +kernel
theorem dX5_weigh_25 : decode cX5_weigh 25 = .ok (.goto (-23), 3) := by decide +kernel
theorem dX5_weigh_28 : decode cX5_weigh 28 = .ok (.iconst 0, 1) := by decide +kernel
theorem dX5_weigh_29 : decode cX5_weigh 29 = .ok (.istore_n 3, 1) := by decide +kernel
theorem dX5_weigh_30 : decode cX5_weigh 30 = .ok (.iload_n 3, 1) := by decide +kernel
theorem dX5_weigh_31 : decode cX5_weigh 31 = .ok (.aload_n 0, 1) := by decide +kernel
theorem dX5_weigh_32 : decode cX5_weigh 32 = .ok (.getfield 26, 3) := by decide +kernel
theorem dX5_weigh_35 : decode cX5_weigh 35 = .ok (.iload_n 1, 1) := by decide +kernel
theorem dX5_weigh_36 : decode cX5_weigh 36 = .ok (.iaload, 1) := by decide +kernel
theorem dX5_weigh_37 : decode cX5_weigh 37 = .ok (.if_icmp .ge 49, 3) := by decide +kernel
theorem dX5_weigh_40 : decode cX5_weigh 40 = .ok (.aload_n 0, 1) := by decide +kernel
theorem dX5_weigh_41 : decode cX5_weigh 41 = .ok (.getfield 23, 3) := by decide +kernel
theorem dX5_weigh_44 : decode cX5_weigh 44 = .ok (.iload_n 1, 1) := by decide +kernel
theorem dX5_weigh_45 : decode cX5_weigh 45 = .ok (.aaload, 1) := by decide +kernel
theorem dX5_weigh_46 : decode cX5_weigh 46 = .ok (.iload_n 3, 1) := by decide +kernel
theorem dX5_weigh_47 : decode cX5_weigh 47 = .ok (.iaload, 1) := by decide +kernel
theorem dX5_weigh_48 : decode cX5_weigh 48 = .ok (.istore 4, 2) := by decide +kernel
theorem dX5_weigh_50 : decode cX5_weigh 50 = .ok (.aload_n 0, 1) := by decide +kernel
theorem dX5_weigh_51 : decode cX5_weigh 51 = .ok (.iload 4, 2) := by decide +kernel
theorem dX5_weigh_53 : decode cX5_weigh 53 = .ok (.iconst 1, 1) := by decide +kernel
theorem dX5_weigh_54 : decode cX5_weigh 54 = .ok (.iload_n 2, 1) := by decide +kernel
theorem dX5_weigh_55 : decode cX5_weigh 55 = .ok (.aload_n 0, 1) := by decide +kernel
theorem dX5_weigh_56 : decode cX5_weigh 56 = .ok (.getfield 9, 3) := by decide +kernel
theorem dX5_weigh_59 : decode cX5_weigh 59 = .ok (.iload 4, 2) := by decide +kernel
theorem dX5_weigh_61 : decode cX5_weigh 61 = .ok (.iaload, 1) := by decide +kernel
theorem dX5_weigh_62 : decode cX5_weigh 62 = .ok (.aload_n 0, 1) := by decide +kernel
theorem dX5_weigh_63 : decode cX5_weigh 63 = .ok (.getfield 15, 3) := by decide +kernel
theorem dX5_weigh_66 : decode cX5_weigh 66 = .ok (.iload 4, 2) := by decide +kernel
theorem dX5_weigh_68 : decode cX5_weigh 68 = .ok (.iaload, 1) := by decide +kernel
theorem dX5_weigh_69 : decode cX5_weigh 69 = .ok (.ior, 1) := by decide +kernel
theorem dX5_weigh_70 : decode cX5_weigh 70 = .ok (.iconst (-1), 1) := by decide +kernel
theorem dX5_weigh_71 : decode cX5_weigh 71 = .ok (.ixor, 1) := by decide +kernel
theorem dX5_weigh_72 : decode cX5_weigh 72 = .ok (.iand, 1) := by decide +kernel
theorem dX5_weigh_73 : decode cX5_weigh 73 = .ok (.invokestatic 68, 3) := by decide +kernel
theorem dX5_weigh_76 : decode cX5_weigh 76 = .ok (.ishl, 1) := by decide +kernel
theorem dX5_weigh_77 : decode cX5_weigh 77 = .ok (.invokevirtual 87, 3) := by decide +kernel
theorem dX5_weigh_80 : decode cX5_weigh 80 = .ok (.iinc 3 1, 3) := by decide +kernel
theorem dX5_weigh_83 : decode cX5_weigh 83 = .ok (.goto (-53), 3) := by decide +kernel
theorem dX5_weigh_86 : decode cX5_weigh 86 = .ok (.return_, 1) := by decide +kernel
theorem dX5_addWeight_0 : decode cX5_addWeight 0 = .ok (.iconst 0, 1) := by decide +kernel
theorem dX5_addWeight_1 : decode cX5_addWeight 1 = .ok (.istore_n 3, 1) := by decide +kernel
theorem dX5_addWeight_2 : decode cX5_addWeight 2 = .ok (.iload_n 3, 1) := by decide +kernel
theorem dX5_addWeight_3 : decode cX5_addWeight 3 = .ok (.bipush 16, 2) := by decide +kernel
theorem dX5_addWeight_5 : decode cX5_addWeight 5 = .ok (.if_icmp .ge 74, 3) := by decide +kernel
theorem dX5_addWeight_8 : decode cX5_addWeight 8 = .ok (.iconst 1, 1) := by decide +kernel
theorem dX5_addWeight_9 : decode cX5_addWeight 9 = .ok (.iload_n 3, 1) := by decide +kernel
theorem dX5_addWeight_10 : decode cX5_addWeight 10 = .ok (.ishl, 1) := by decide +kernel
theorem dX5_addWeight_11 : decode cX5_addWeight 11 = .ok (.istore 4, 2) := by decide +kernel
theorem dX5_addWeight_13 : decode cX5_addWeight 13 = .ok (.aload_n 0, 1) := by decide +kernel
theorem dX5_addWeight_14 : decode cX5_addWeight 14 = .ok (.getfield 9, 3) := by decide +kernel
theorem dX5_addWeight_17 : decode cX5_addWeight 17 = .ok (.iload_n 1, 1) := by decide +kernel
theorem dX5_addWeight_18 : decode cX5_addWeight 18 = .ok (.iaload, 1) := by decide +kernel
theorem dX5_addWeight_19 : decode cX5_addWeight 19 = .ok (.iload 4, 2) := by decide +kernel
theorem dX5_addWeight_21 : decode cX5_addWeight 21 = .ok (.iand, 1) := by decide +kernel
theorem dX5_addWeight_22 : decode cX5_addWeight 22 = .ok (.ifCond .eq 16, 3) := by decide +kernel
theorem dX5_addWeight_25 : decode cX5_addWeight 25 = .ok (.aload_n 0, 1) := by decide +kernel
theorem dX5_addWeight_26 : decode cX5_addWeight 26 = .ok (.getfield 32, 3) := by decide +kernel
theorem dX5_addWeight_29 : decode cX5_addWeight 29 = .ok (.iload_n 3, 1) := by decide +kernel
theorem dX5_addWeight_30 : decode cX5_addWeight 30 = .ok (.dup2, 1) := by decide +kernel
theorem dX5_addWeight_31 : decode cX5_addWeight 31 = .ok (.iaload, 1) := by decide +kernel
theorem dX5_addWeight_32 : decode cX5_addWeight 32 = .ok (.iload_n 2, 1) := by decide +kernel
theorem dX5_addWeight_33 : decode cX5_addWeight 33 = .ok (.iadd, 1) := by decide +kernel
theorem dX5_addWeight_34 : decode cX5_addWeight 34 = .ok (.iastore, 1) := by decide +kernel
theorem dX5_addWeight_35 : decode cX5_addWeight 35 = .ok (.goto 38, 3) := by decide +kernel
theorem dX5_addWeight_38 : decode cX5_addWeight 38 = .ok (.aload_n 0, 1) := by decide +kernel
theorem dX5_addWeight_39 : decode cX5_addWeight 39 = .ok (.getfield 15, 3) := by decide +kernel
theorem dX5_addWeight_42 : decode cX5_addWeight 42 = .ok (.iload_n 1, 1) := by decide +kernel
theorem dX5_addWeight_43 : decode cX5_addWeight 43 = .ok (.iaload, 1) := by decide +kernel
theorem dX5_addWeight_44 : decode cX5_addWeight 44 = .ok (.iload 4, 2) := by decide +kernel
theorem dX5_addWeight_46 : decode cX5_addWeight 46 = .ok (.iand, 1) := by decide +kernel
theorem dX5_addWeight_47 : decode cX5_addWeight 47 = .ok (.ifCond .eq 16, 3) := by decide +kernel
theorem dX5_addWeight_50 : decode cX5_addWeight 50 = .ok (.aload_n 0, 1) := by decide +kernel
theorem dX5_addWeight_51 : decode cX5_addWeight 51 = .ok (.getfield 32, 3) := by decide +kernel
theorem dX5_addWeight_54 : decode cX5_addWeight 54 = .ok (.iload_n 3, 1) := by decide +kernel
theorem dX5_addWeight_55 : decode cX5_addWeight 55 = .ok (.dup2, 1) := by decide +kernel
theorem dX5_addWeight_56 : decode cX5_addWeight 56 = .ok (.iaload, 1) := by decide +kernel
theorem dX5_addWeight_57 : decode cX5_addWeight 57 = .ok (.iload_n 2, 1) := by decide +kernel
theorem dX5_addWeight_58 : decode cX5_addWeight 58 = .ok (.isub, 1) := by decide +kernel
theorem dX5_addWeight_59 : decode cX5_addWeight 59 = .ok (.iastore, 1) := by decide +kernel
theorem dX5_addWeight_60 : decode cX5_addWeight 60 = .ok (.goto 13, 3) := by decide +kernel
theorem dX5_addWeight_63 : decode cX5_addWeight 63 = .ok (.aload_n 0, 1) := by decide +kernel
theorem dX5_addWeight_64 : decode cX5_addWeight 64 = .ok (.getfield 29, 3) := by decide +kernel
theorem dX5_addWeight_67 : decode cX5_addWeight 67 = .ok (.iload_n 3, 1) := by decide +kernel
theorem dX5_addWeight_68 : decode cX5_addWeight 68 = .ok (.dup2, 1) := by decide +kernel
theorem dX5_addWeight_69 : decode cX5_addWeight 69 = .ok (.iaload, 1) := by decide +kernel
theorem dX5_addWeight_70 : decode cX5_addWeight 70 = .ok (.iload_n 2, 1) := by decide +kernel
theorem dX5_addWeight_71 : decode cX5_addWeight 71 = .ok (.iadd, 1) := by decide +kernel
theorem dX5_addWeight_72 : decode cX5_addWeight 72 = .ok (.iastore, 1) := by decide +kernel
theorem dX5_addWeight_73 : decode cX5_addWeight 73 = .ok (.iinc 3 1, 3) := by decide +kernel
theorem dX5_addWeight_76 : decode cX5_addWeight 76 = .ok (.goto (-74), 3) := by decide +kernel
theorem dX5_addWeight_79 : decode cX5_addWeight 79 = .ok (.return_, 1) := by decide +kernel
theorem dX6_init_0 : decode cX6_init 0 = .ok (.aload_n 0, 1) := by decide +kernel
theorem dX6_init_1 : decode cX6_init 1 = .ok (.invokespecial 3, 3) := by decide +kernel
theorem dX6_init_4 : decode cX6_init 4 = .ok (.aload_n 0, 1) := by decide +kernel
theorem dX6_init_5 : decode cX6_init 5 = .ok (.new 9, 3) := by decide +kernel
theorem dX6_init_8 : decode cX6_init 8 = .ok (.dup, 1) := by decide +kernel
theorem dX6_init_9 : decode cX6_init 9 = .ok (.invokespecial 11, 3) := by decide +kernel
theorem dX6_init_12 : decode cX6_init 12 = .ok (.putfield 12, 3) := by decide +kernel
theorem dX6_init_15 : decode cX6_init 15 = .ok (.aload_n 0, 1) := by decide +kernel
theorem dX6_init_16 : decode cX6_init 16 = .ok (.new 16, 3) := by decide +kernel
theorem dX6_init_19 : decode cX6_init 19 = .ok (.dup, 1) := by decide +kernel
theorem dX6_init_20 : decode cX6_init 20 = .ok (.invokespecial 18, 3) := by decide +kernel
theorem dX6_init_23 : decode cX6_init 23 = .ok (.putfield 19, 3) := by decide +kernel
theorem dX6_init_26 : decode cX6_init 26 = .ok (.aload_n 0, 1) := by decide +kernel
theorem dX6_init_27 : decode cX6_init 27 = .ok (.new 16, 3) := by decide +kernel
theorem dX6_init_30 : decode cX6_init 30 = .ok (.dup, 1) := by decide +kernel
theorem dX6_init_31 : decode cX6_init 31 = .ok (.invokespecial 18, 3) := by decide +kernel
theorem dX6_init_34 : decode cX6_init 34 = .ok (.putfield 23, 3) := by decide +kernel
theorem dX6_init_37 : decode cX6_init 37 = .ok (.aload_n 0, 1) := by decide +kernel
theorem dX6_init_38 : decode cX6_init 38 = .ok (.new 26, 3) := by decide +kernel
theorem dX6_init_41 : decode cX6_init 41 = .ok (.dup, 1) := by decide +kernel
theorem dX6_init_42 : decode cX6_init 42 = .ok (.invokespecial 28, 3) := by decide +kernel
theorem dX6_init_45 : decode cX6_init 45 = .ok (.putfield 29, 3) := by decide +kernel
theorem dX6_init_48 : decode cX6_init 48 = .ok (.aload_n 0, 1) := by decide +kernel
theorem dX6_init_49 : decode cX6_init 49 = .ok (.new 33, 3) := by decide +kernel
theorem dX6_init_52 : decode cX6_init 52 = .ok (.dup, 1) := by decide +kernel
theorem dX6_init_53 : decode cX6_init 53 = .ok (.invokespecial 35, 3) := by decide +kernel
theorem dX6_init_56 : decode cX6_init 56 = .ok (.putfield 36, 3) := by decide +kernel
theorem dX6_init_59 : decode cX6_init 59 = .ok (.aload_n 0, 1) := by decide +kernel
theorem dX6_init_60 : decode cX6_init 60 = .ok (.new 40, 3) := by decide +kernel
theorem dX6_init_63 : decode cX6_init 63 = .ok (.dup, 1) := by decide +kernel
theorem dX6_init_64 : decode cX6_init 64 = .ok (.invokespecial 42, 3) := by decide +kernel
theorem dX6_init_67 : decode cX6_init 67 = .ok (.putfield 43, 3) := by decide +kernel
theorem dX6_init_70 : decode cX6_init 70 = .ok (.return_, 1) := by decide +kernel
theorem dX6_type_0 : decode cX6_type 0 = .ok (.iload_n 3, 1) := by decide +kernel
theorem dX6_type_1 : decode cX6_type 1 = .ok (.iconst 1, 1) := by decide +kernel
theorem dX6_type_2 : decode cX6_type 2 = .ok (.if_icmp .lt 9, 3) := by decide +kernel
theorem dX6_type_5 : decode cX6_type 5 = .ok (.iload_n 3, 1) := by decide +kernel
theorem dX6_type_6 : decode cX6_type 6 = .ok (.bipush 8, 2) := by decide +kernel
theorem dX6_type_8 : decode cX6_type 8 = .ok (.if_icmp .le 13, 3) := by decide +kernel
theorem dX6_type_11 : decode cX6_type 11 = .ok (.new 47, 3) := by decide +kernel
theorem dX6_type_14 : decode cX6_type 14 = .ok (.dup, 1) := by decide +kernel
theorem dX6_type_15 : decode cX6_type 15 = .ok (.ldc 49, 2) := by decide +kernel
theorem dX6_type_17 : decode cX6_type 17 = .ok (.invokespecial 51, 3) := by decide +kernel
theorem dX6_type_20 : decode cX6_type 20 = .ok (.athrow, 1) := by decide +kernel
theorem dX6_type_21 : decode cX6_type 21 = .ok (.aload_n 0, 1) := by decide +kernel
theorem dX6_type_22 : decode cX6_type 22 = .ok (.getfield 12, 3) := by decide +kernel
theorem dX6_type_25 : decode cX6_type 25 = .ok (.getfield 54, 3) := by decide +kernel
theorem dX6_type_28 : decode cX6_type 28 = .ok (.iload_n 3, 1) := by decide +kernel
theorem dX6_type_29 : decode cX6_type 29 = .ok (.iadd, 1) := by decide +kernel
theorem dX6_type_30 : decode cX6_type 30 = .ok (.sipush 8000, 3) := by decide +kernel
theorem dX6_type_33 : decode cX6_type 33 = .ok (.if_icmp .le 13, 3) := by decide +kernel
theorem dX6_type_36 : decode cX6_type 36 = .ok (.new 58, 3) := by decide +kernel
theorem dX6_type_39 : decode cX6_type 39 = .ok (.dup, 1) := by decide +kernel
theorem dX6_type_40 : decode cX6_type 40 = .ok (.ldc 60, 2) := by decide +kernel
theorem dX6_type_42 : decode cX6_type 42 = .ok (.invokespecial 62, 3) := by decide +kernel
theorem dX6_type_45 : decode cX6_type 45 = .ok (.athrow, 1) := by decide +kernel
theorem dX6_type_46 : decode cX6_type 46 = .ok (.iload_n 3, 1) := by decide +kernel
theorem dX6_type_47 : decode cX6_type 47 = .ok (.iconst 1, 1) := by decide +kernel
theorem dX6_type_48 : decode cX6_type 48 = .ok (.isub, 1) := by decide +kernel
theorem dX6_type_49 : decode cX6_type 49 = .ok (.istore 4, 2) := by decide +kernel
theorem dX6_type_51 : decode cX6_type 51 = .ok (.iload 4, 2) := by decide +kernel
theorem dX6_type_53 : decode cX6_type 53 = .ok (.ifCond .lt 28, 3) := by decide +kernel
theorem dX6_type_56 : decode cX6_type 56 = .ok (.aload_n 0, 1) := by decide +kernel
theorem dX6_type_57 : decode cX6_type 57 = .ok (.getfield 12, 3) := by decide +kernel
theorem dX6_type_60 : decode cX6_type 60 = .ok (.lload_n 1, 1) := by decide +kernel
theorem dX6_type_61 : decode cX6_type 61 = .ok (.bipush 8, 2) := by decide +kernel
theorem dX6_type_63 : decode cX6_type 63 = .ok (.iload 4, 2) := by decide +kernel
theorem dX6_type_65 : decode cX6_type 65 = .ok (.imul, 1) := by decide +kernel
theorem dX6_type_66 : decode cX6_type 66 = .ok (.lushr, 1) := by decide +kernel
theorem dX6_type_67 : decode cX6_type 67 = .ok (.l2i, 1) := by decide +kernel
theorem dX6_type_68 : decode cX6_type 68 = .ok (.sipush 255, 3) := by decide +kernel
theorem dX6_type_71 : decode cX6_type 71 = .ok (.iand, 1) := by decide +kernel
theorem dX6_type_72 : decode cX6_type 72 = .ok (.invokevirtual 63, 3) := by decide +kernel
theorem dX6_type_75 : decode cX6_type 75 = .ok (.iinc 4 (-1), 3) := by decide +kernel
theorem dX6_type_78 : decode cX6_type 78 = .ok (.goto (-27), 3) := by decide +kernel
theorem dX6_type_81 : decode cX6_type 81 = .ok (.aload_n 0, 1) := by decide +kernel
theorem dX6_type_82 : decode cX6_type 82 = .ok (.getfield 12, 3) := by decide +kernel
theorem dX6_type_85 : decode cX6_type 85 = .ok (.getfield 54, 3) := by decide +kernel
theorem dX6_type_88 : decode cX6_type 88 = .ok (.ireturn, 1) := by decide +kernel
theorem dX6_keep_0 : decode cX6_keep 0 = .ok (.iload_n 1, 1) := by decide +kernel
theorem dX6_keep_1 : decode cX6_keep 1 = .ok (.ifCond .lt 14, 3) := by decide +kernel
theorem dX6_keep_4 : decode cX6_keep 4 = .ok (.iload_n 1, 1) := by decide +kernel
theorem dX6_keep_5 : decode cX6_keep 5 = .ok (.aload_n 0, 1) := by decide +kernel
theorem dX6_keep_6 : decode cX6_keep 6 = .ok (.getfield 12, 3) := by decide +kernel
theorem dX6_keep_9 : decode cX6_keep 9 = .ok (.getfield 54, 3) := by decide +kernel
theorem dX6_keep_12 : decode cX6_keep 12 = .ok (.if_icmp .le 13, 3) := by decide +kernel
theorem dX6_keep_15 : decode cX6_keep 15 = .ok (.new 47, 3) := by decide +kernel
theorem dX6_keep_18 : decode cX6_keep 18 = .ok (.dup, 1) := by decide +kernel
theorem dX6_keep_19 : decode cX6_keep 19 = .ok (.ldc 67, 2) := by decide +kernel
theorem dX6_keep_21 : decode cX6_keep 21 = .ok (.invokespecial 51, 3) := by decide +kernel
theorem dX6_keep_24 : decode cX6_keep 24 = .ok (.athrow, 1) := by decide +kernel
theorem dX6_keep_25 : decode cX6_keep 25 = .ok (.aload_n 0, 1) := by decide +kernel
theorem dX6_keep_26 : decode cX6_keep 26 = .ok (.getfield 12, 3) := by decide +kernel
theorem dX6_keep_29 : decode cX6_keep 29 = .ok (.iload_n 1, 1) := by decide +kernel
theorem dX6_keep_30 : decode cX6_keep 30 = .ok (.putfield 54, 3) := by decide +kernel
theorem dX6_keep_33 : decode cX6_keep 33 = .ok (.return_, 1) := by decide +kernel
theorem dX6_read_0 : decode cX6_read 0 = .ok (.aload_n 0, 1) := by decide +kernel
theorem dX6_read_1 : decode cX6_read 1 = .ok (.getfield 12, 3) := by decide +kernel
theorem dX6_read_4 : decode cX6_read 4 = .ok (.aload_n 0, 1) := by decide +kernel
theorem dX6_read_5 : decode cX6_read 5 = .ok (.getfield 23, 3) := by decide +kernel
theorem dX6_read_8 : decode cX6_read 8 = .ok (.invokevirtual 69, 3) := by decide +kernel
theorem dX6_read_11 : decode cX6_read 11 = .ok (.istore_n 1, 1) := by decide +kernel
theorem dX6_read_12 : decode cX6_read 12 = .ok (.aload_n 0, 1) := by decide +kernel
theorem dX6_read_13 : decode cX6_read 13 = .ok (.getfield 12, 3) := by decide +kernel
theorem dX6_read_16 : decode cX6_read 16 = .ok (.iconst 0, 1) := by decide +kernel
theorem dX6_read_17 : decode cX6_read 17 = .ok (.putfield 54, 3) := by decide +kernel
theorem dX6_read_20 : decode cX6_read 20 = .ok (.aload_n 0, 1) := by decide +kernel
theorem dX6_read_21 : decode cX6_read 21 = .ok (.aload_n 0, 1) := by decide +kernel
theorem dX6_read_22 : decode cX6_read 22 = .ok (.getfield 12, 3) := by decide +kernel
theorem dX6_read_25 : decode cX6_read 25 = .ok (.getfield 73, 3) := by decide +kernel
theorem dX6_read_28 : decode cX6_read 28 = .ok (.putfield 76, 3) := by decide +kernel
theorem dX6_read_31 : decode cX6_read 31 = .ok (.iload_n 1, 1) := by decide +kernel
theorem dX6_read_32 : decode cX6_read 32 = .ok (.ifCond .ne 13, 3) := by decide +kernel
theorem dX6_read_35 : decode cX6_read 35 = .ok (.iconst (-1), 1) := by decide +kernel
theorem dX6_read_36 : decode cX6_read 36 = .ok (.aload_n 0, 1) := by decide +kernel
theorem dX6_read_37 : decode cX6_read 37 = .ok (.getfield 12, 3) := by decide +kernel
theorem dX6_read_40 : decode cX6_read 40 = .ok (.getfield 79, 3) := by decide +kernel
theorem dX6_read_43 : decode cX6_read 43 = .ok (.isub, 1) := by decide +kernel
theorem dX6_read_44 : decode cX6_read 44 = .ok (.ireturn, 1) := by decide +kernel
theorem dX6_read_45 : decode cX6_read 45 = .ok (.aload_n 0, 1) := by decide +kernel
theorem dX6_read_46 : decode cX6_read 46 = .ok (.getfield 19, 3) := by decide +kernel
theorem dX6_read_49 : decode cX6_read 49 = .ok (.astore_n 2, 1) := by decide +kernel
theorem dX6_read_50 : decode cX6_read 50 = .ok (.aload_n 0, 1) := by decide +kernel
theorem dX6_read_51 : decode cX6_read 51 = .ok (.aload_n 0, 1) := by decide +kernel
theorem dX6_read_52 : decode cX6_read 52 = .ok (.getfield 23, 3) := by decide +kernel
theorem dX6_read_55 : decode cX6_read 55 = .ok (.putfield 19, 3) := by decide +kernel
theorem dX6_read_58 : decode cX6_read 58 = .ok (.aload_n 0, 1) := by decide +kernel
theorem dX6_read_59 : decode cX6_read 59 = .ok (.aload_n 2, 1) := by decide +kernel
theorem dX6_read_60 : decode cX6_read 60 = .ok (.putfield 23, 3) := by decide +kernel
theorem dX6_read_63 : decode cX6_read 63 = .ok (.aload_n 0, 1) := by decide +kernel
theorem dX6_read_64 : decode cX6_read 64 = .ok (.iconst 1, 1) := by decide +kernel
theorem dX6_read_65 : decode cX6_read 65 = .ok (.putfield 82, 3) := by decide +kernel
theorem dX6_read_68 : decode cX6_read 68 = .ok (.aload_n 0, 1) := by decide +kernel
theorem dX6_read_69 : decode cX6_read 69 = .ok (.invokevirtual 86, 3) := by decide +kernel
theorem dX6_read_72 : decode cX6_read 72 = .ok (.ireturn, 1) := by decide +kernel
theorem dX6_fault_0 : decode cX6_fault 0 = .ok (.aload_n 0, 1) := by decide +kernel
theorem dX6_fault_1 : decode cX6_fault 1 = .ok (.getfield 76, 3) := by decide +kernel
theorem dX6_fault_4 : decode cX6_fault 4 = .ok (.ireturn, 1) := by decide +kernel
theorem dX6_amiss_0 : decode cX6_amiss 0 = .ok (.aload_n 0, 1) := by decide +kernel
theorem dX6_amiss_1 : decode cX6_amiss 1 = .ok (.invokevirtual 90, 3) := by decide +kernel
theorem dX6_amiss_4 : decode cX6_amiss 4 = .ok (.iload_n 1, 1) := by decide +kernel
theorem dX6_amiss_5 : decode cX6_amiss 5 = .ok (.tableswitch 42 0 2 #[27, 32, 37], 27) := by decide +kernel
theorem dX6_amiss_32 : decode cX6_amiss 32 = .ok (.aload_n 0, 1) := by decide +kernel
theorem dX6_amiss_33 : decode cX6_amiss 33 = .ok (.getfield 93, 3) := by decide +kernel
theorem dX6_amiss_36 : decode cX6_amiss 36 = .ok (.ireturn, 1) := by decide +kernel
theorem dX6_amiss_37 : decode cX6_amiss 37 = .ok (.aload_n 0, 1) := by decide +kernel
theorem dX6_amiss_38 : decode cX6_amiss 38 = .ok (.getfield 96, 3) := by decide +kernel
theorem dX6_amiss_41 : decode cX6_amiss 41 = .ok (.ireturn, 1) := by decide +kernel
theorem dX6_amiss_42 : decode cX6_amiss 42 = .ok (.aload_n 0, 1) := by decide +kernel
theorem dX6_amiss_43 : decode cX6_amiss 43 = .ok (.getfield 99, 3) := by decide +kernel
theorem dX6_amiss_46 : decode cX6_amiss 46 = .ok (.ireturn, 1) := by decide +kernel
theorem dX6_amiss_47 : decode cX6_amiss 47 = .ok (.new 102, 3) := by decide +kernel
theorem dX6_amiss_50 : decode cX6_amiss 50 = .ok (.dup, 1) := by decide +kernel
theorem dX6_amiss_51 : decode cX6_amiss 51 = .ok (.ldc 104, 2) := by decide +kernel
theorem dX6_amiss_53 : decode cX6_amiss 53 = .ok (.invokespecial 106, 3) := by decide +kernel
theorem dX6_amiss_56 : decode cX6_amiss 56 = .ok (.athrow, 1) := by decide +kernel
theorem dX6_count_0 : decode cX6_count 0 = .ok (.iload_n 1, 1) := by decide +kernel
theorem dX6_count_1 : decode cX6_count 1 = .ok (.tableswitch 150 0 7 #[47, 69, 88, 110, 118, 126, 134, 142], 47) := by decide +kernel
theorem dX6_count_48 : decode cX6_count 48 = .ok (.aload_n 0, 1) := by decide +kernel
theorem dX6_count_49 : decode cX6_count 49 = .ok (.getfield 82, 3) := by decide +kernel
theorem dX6_count_52 : decode cX6_count 52 = .ok (.ifCond .eq 16, 3) := by decide +kernel
theorem dX6_count_55 : decode cX6_count 55 = .ok (.aload_n 0, 1) := by decide +kernel
theorem dX6_count_56 : decode cX6_count 56 = .ok (.getfield 19, 3) := by decide +kernel
theorem dX6_count_59 : decode cX6_count 59 = .ok (.getfield 107, 3) := by decide +kernel
theorem dX6_count_62 : decode cX6_count 62 = .ok (.getfield 111, 3) := by decide +kernel
theorem dX6_count_65 : decode cX6_count 65 = .ok (.goto 4, 3) := by decide +kernel
theorem dX6_count_68 : decode cX6_count 68 = .ok (.iconst 0, 1) := by decide +kernel
theorem dX6_count_69 : decode cX6_count 69 = .ok (.ireturn, 1) := by decide +kernel
theorem dX6_count_70 : decode cX6_count 70 = .ok (.aload_n 0, 1) := by decide +kernel
theorem dX6_count_71 : decode cX6_count 71 = .ok (.getfield 82, 3) := by decide +kernel
theorem dX6_count_74 : decode cX6_count 74 = .ok (.ifCond .eq 13, 3) := by decide +kernel
theorem dX6_count_77 : decode cX6_count 77 = .ok (.aload_n 0, 1) := by decide +kernel
theorem dX6_count_78 : decode cX6_count 78 = .ok (.getfield 19, 3) := by decide +kernel
theorem dX6_count_81 : decode cX6_count 81 = .ok (.getfield 116, 3) := by decide +kernel
theorem dX6_count_84 : decode cX6_count 84 = .ok (.goto 4, 3) := by decide +kernel
theorem dX6_count_87 : decode cX6_count 87 = .ok (.iconst 0, 1) := by decide +kernel
theorem dX6_count_88 : decode cX6_count 88 = .ok (.ireturn, 1) := by decide +kernel
theorem dX6_count_89 : decode cX6_count 89 = .ok (.aload_n 0, 1) := by decide +kernel
theorem dX6_count_90 : decode cX6_count 90 = .ok (.getfield 82, 3) := by decide +kernel
theorem dX6_count_93 : decode cX6_count 93 = .ok (.ifCond .eq 16, 3) := by decide +kernel
theorem dX6_count_96 : decode cX6_count 96 = .ok (.aload_n 0, 1) := by decide +kernel
theorem dX6_count_97 : decode cX6_count 97 = .ok (.getfield 19, 3) := by decide +kernel
theorem dX6_count_100 : decode cX6_count 100 = .ok (.getfield 119, 3) := by decide +kernel
theorem dX6_count_103 : decode cX6_count 103 = .ok (.getfield 111, 3) := by decide +kernel
theorem dX6_count_106 : decode cX6_count 106 = .ok (.goto 4, 3) := by decide +kernel
theorem dX6_count_109 : decode cX6_count 109 = .ok (.iconst 0, 1) := by decide +kernel
theorem dX6_count_110 : decode cX6_count 110 = .ok (.ireturn, 1) := by decide +kernel
theorem dX6_count_111 : decode cX6_count 111 = .ok (.aload_n 0, 1) := by decide +kernel
theorem dX6_count_112 : decode cX6_count 112 = .ok (.getfield 36, 3) := by decide +kernel
theorem dX6_count_115 : decode cX6_count 115 = .ok (.getfield 122, 3) := by decide +kernel
theorem dX6_count_118 : decode cX6_count 118 = .ok (.ireturn, 1) := by decide +kernel
theorem dX6_count_119 : decode cX6_count 119 = .ok (.aload_n 0, 1) := by decide +kernel
theorem dX6_count_120 : decode cX6_count 120 = .ok (.getfield 36, 3) := by decide +kernel
theorem dX6_count_123 : decode cX6_count 123 = .ok (.getfield 123, 3) := by decide +kernel
theorem dX6_count_126 : decode cX6_count 126 = .ok (.ireturn, 1) := by decide +kernel
theorem dX6_count_127 : decode cX6_count 127 = .ok (.aload_n 0, 1) := by decide +kernel
theorem dX6_count_128 : decode cX6_count 128 = .ok (.getfield 43, 3) := by decide +kernel
theorem dX6_count_131 : decode cX6_count 131 = .ok (.getfield 126, 3) := by decide +kernel
theorem dX6_count_134 : decode cX6_count 134 = .ok (.ireturn, 1) := by decide +kernel
theorem dX6_count_135 : decode cX6_count 135 = .ok (.aload_n 0, 1) := by decide +kernel
theorem dX6_count_136 : decode cX6_count 136 = .ok (.getfield 36, 3) := by decide +kernel
theorem dX6_count_139 : decode cX6_count 139 = .ok (.getfield 127, 3) := by decide +kernel
theorem dX6_count_142 : decode cX6_count 142 = .ok (.ireturn, 1) := by decide +kernel
theorem dX6_count_143 : decode cX6_count 143 = .ok (.aload_n 0, 1) := by decide +kernel
theorem dX6_count_144 : decode cX6_count 144 = .ok (.getfield 12, 3) := by decide +kernel
theorem dX6_count_147 : decode cX6_count 147 = .ok (.getfield 54, 3) := by decide +kernel
theorem dX6_count_150 : decode cX6_count 150 = .ok (.ireturn, 1) := by decide +kernel
theorem dX6_count_151 : decode cX6_count 151 = .ok (.new 102, 3) := by decide +kernel
theorem dX6_count_154 : decode cX6_count 154 = .ok (.dup, 1) := by decide +kernel
theorem dX6_count_155 : decode cX6_count 155 = .ok (.ldc 104, 2) := by decide +kernel
theorem dX6_count_157 : decode cX6_count 157 = .ok (.invokespecial 106, 3) := by decide +kernel
theorem dX6_count_160 : decode cX6_count 160 = .ok (.athrow, 1) := by decide +kernel
theorem dX6_rule_0 : decode cX6_rule 0 = .ok (.aload_n 0, 1) := by decide +kernel
theorem dX6_rule_1 : decode cX6_rule 1 = .ok (.getfield 82, 3) := by decide +kernel
theorem dX6_rule_4 : decode cX6_rule 4 = .ok (.ifCond .eq 18, 3) := by decide +kernel
theorem dX6_rule_7 : decode cX6_rule 7 = .ok (.iload_n 1, 1) := by decide +kernel
theorem dX6_rule_8 : decode cX6_rule 8 = .ok (.ifCond .lt 14, 3) := by decide +kernel
theorem dX6_rule_11 : decode cX6_rule 11 = .ok (.iload_n 1, 1) := by decide +kernel
theorem dX6_rule_12 : decode cX6_rule 12 = .ok (.aload_n 0, 1) := by decide +kernel
theorem dX6_rule_13 : decode cX6_rule 13 = .ok (.getfield 19, 3) := by decide +kernel
theorem dX6_rule_16 : decode cX6_rule 16 = .ok (.getfield 116, 3) := by decide +kernel
theorem dX6_rule_19 : decode cX6_rule 19 = .ok (.if_icmp .lt 13, 3) := by decide +kernel
theorem dX6_rule_22 : decode cX6_rule 22 = .ok (.new 102, 3) := by decide +kernel
theorem dX6_rule_25 : decode cX6_rule 25 = .ok (.dup, 1) := by decide +kernel
theorem dX6_rule_26 : decode cX6_rule 26 = .ok (.ldc 130, 2) := by decide +kernel
theorem dX6_rule_28 : decode cX6_rule 28 = .ok (.invokespecial 106, 3) := by decide +kernel
theorem dX6_rule_31 : decode cX6_rule 31 = .ok (.athrow, 1) := by decide +kernel
theorem dX6_rule_32 : decode cX6_rule 32 = .ok (.iload_n 2, 1) := by decide +kernel
theorem dX6_rule_33 : decode cX6_rule 33 = .ok (.iconst (-1), 1) := by decide +kernel
theorem dX6_rule_34 : decode cX6_rule 34 = .ok (.if_icmp .ne 13, 3) := by decide +kernel
theorem dX6_rule_37 : decode cX6_rule 37 = .ok (.aload_n 0, 1) := by decide +kernel
theorem dX6_rule_38 : decode cX6_rule 38 = .ok (.getfield 19, 3) := by decide +kernel
theorem dX6_rule_41 : decode cX6_rule 41 = .ok (.getfield 132, 3) := by decide +kernel
theorem dX6_rule_44 : decode cX6_rule 44 = .ok (.iload_n 1, 1) := by decide +kernel
theorem dX6_rule_45 : decode cX6_rule 45 = .ok (.iaload, 1) := by decide +kernel
theorem dX6_rule_46 : decode cX6_rule 46 = .ok (.ireturn, 1) := by decide +kernel
theorem dX6_rule_47 : decode cX6_rule 47 = .ok (.iload_n 2, 1) := by decide +kernel
theorem dX6_rule_48 : decode cX6_rule 48 = .ok (.ifCond .lt 17, 3) := by decide +kernel
theorem dX6_rule_51 : decode cX6_rule 51 = .ok (.iload_n 2, 1) := by decide +kernel
theorem dX6_rule_52 : decode cX6_rule 52 = .ok (.aload_n 0, 1) := by decide +kernel
theorem dX6_rule_53 : decode cX6_rule 53 = .ok (.getfield 19, 3) := by decide +kernel
theorem dX6_rule_56 : decode cX6_rule 56 = .ok (.getfield 107, 3) := by decide +kernel
theorem dX6_rule_59 : decode cX6_rule 59 = .ok (.getfield 111, 3) := by decide +kernel
theorem dX6_rule_62 : decode cX6_rule 62 = .ok (.if_icmp .lt 13, 3) := by decide +kernel
theorem dX6_rule_65 : decode cX6_rule 65 = .ok (.new 102, 3) := by decide +kernel
theorem dX6_rule_68 : decode cX6_rule 68 = .ok (.dup, 1) := by decide +kernel
theorem dX6_rule_69 : decode cX6_rule 69 = .ok (.ldc 136, 2) := by decide +kernel
theorem dX6_rule_71 : decode cX6_rule 71 = .ok (.invokespecial 106, 3) := by decide +kernel
theorem dX6_rule_74 : decode cX6_rule 74 = .ok (.athrow, 1) := by decide +kernel
theorem dX6_rule_75 : decode cX6_rule 75 = .ok (.aload_n 0, 1) := by decide +kernel
theorem dX6_rule_76 : decode cX6_rule 76 = .ok (.getfield 19, 3) := by decide +kernel
theorem dX6_rule_79 : decode cX6_rule 79 = .ok (.iload_n 1, 1) := by decide +kernel
theorem dX6_rule_80 : decode cX6_rule 80 = .ok (.iconst 1, 1) := by decide +kernel
theorem dX6_rule_81 : decode cX6_rule 81 = .ok (.iload_n 2, 1) := by decide +kernel
theorem dX6_rule_82 : decode cX6_rule 82 = .ok (.ishl, 1) := by decide +kernel
theorem dX6_rule_83 : decode cX6_rule 83 = .ok (.invokevirtual 138, 3) := by decide +kernel
theorem dX6_rule_86 : decode cX6_rule 86 = .ok (.ireturn, 1) := by decide +kernel
theorem dX6_name_0 : decode cX6_name 0 = .ok (.iload_n 1, 1) := by decide +kernel
theorem dX6_name_1 : decode cX6_name 1 = .ok (.ifCond .eq 13, 3) := by decide +kernel
theorem dX6_name_4 : decode cX6_name 4 = .ok (.aload_n 0, 1) := by decide +kernel
theorem dX6_name_5 : decode cX6_name 5 = .ok (.getfield 19, 3) := by decide +kernel
theorem dX6_name_8 : decode cX6_name 8 = .ok (.getfield 119, 3) := by decide +kernel
theorem dX6_name_11 : decode cX6_name 11 = .ok (.goto 10, 3) := by decide +kernel
theorem dX6_name_14 : decode cX6_name 14 = .ok (.aload_n 0, 1) := by decide +kernel
theorem dX6_name_15 : decode cX6_name 15 = .ok (.getfield 19, 3) := by decide +kernel
theorem dX6_name_18 : decode cX6_name 18 = .ok (.getfield 107, 3) := by decide +kernel
theorem dX6_name_21 : decode cX6_name 21 = .ok (.astore 4, 2) := by decide +kernel
theorem dX6_name_23 : decode cX6_name 23 = .ok (.aload_n 0, 1) := by decide +kernel
theorem dX6_name_24 : decode cX6_name 24 = .ok (.getfield 82, 3) := by decide +kernel
theorem dX6_name_27 : decode cX6_name 27 = .ok (.ifCond .eq 16, 3) := by decide +kernel
theorem dX6_name_30 : decode cX6_name 30 = .ok (.iload_n 2, 1) := by decide +kernel
theorem dX6_name_31 : decode cX6_name 31 = .ok (.ifCond .lt 12, 3) := by decide +kernel
theorem dX6_name_34 : decode cX6_name 34 = .ok (.iload_n 2, 1) := by decide +kernel
theorem dX6_name_35 : decode cX6_name 35 = .ok (.aload 4, 2) := by decide +kernel
theorem dX6_name_37 : decode cX6_name 37 = .ok (.getfield 111, 3) := by decide +kernel
theorem dX6_name_40 : decode cX6_name 40 = .ok (.if_icmp .lt 13, 3) := by decide +kernel
theorem dX6_name_43 : decode cX6_name 43 = .ok (.new 102, 3) := by decide +kernel
theorem dX6_name_46 : decode cX6_name 46 = .ok (.dup, 1) := by decide +kernel
theorem dX6_name_47 : decode cX6_name 47 = .ok (.ldc 142, 2) := by decide +kernel
theorem dX6_name_49 : decode cX6_name 49 = .ok (.invokespecial 106, 3) := by decide +kernel
theorem dX6_name_52 : decode cX6_name 52 = .ok (.athrow, 1) := by decide +kernel
theorem dX6_name_53 : decode cX6_name 53 = .ok (.aload 4, 2) := by decide +kernel
theorem dX6_name_55 : decode cX6_name 55 = .ok (.iload_n 2, 1) := by decide +kernel
theorem dX6_name_56 : decode cX6_name 56 = .ok (.invokevirtual 144, 3) := by decide +kernel
theorem dX6_name_59 : decode cX6_name 59 = .ok (.istore 5, 2) := by decide +kernel
theorem dX6_name_61 : decode cX6_name 61 = .ok (.iload_n 3, 1) := by decide +kernel
theorem dX6_name_62 : decode cX6_name 62 = .ok (.iconst (-1), 1) := by decide +kernel
theorem dX6_name_63 : decode cX6_name 63 = .ok (.if_icmp .ne 6, 3) := by decide +kernel
theorem dX6_name_66 : decode cX6_name 66 = .ok (.iload 5, 2) := by decide +kernel
theorem dX6_name_68 : decode cX6_name 68 = .ok (.ireturn, 1) := by decide +kernel
theorem dX6_name_69 : decode cX6_name 69 = .ok (.iload_n 3, 1) := by decide +kernel
theorem dX6_name_70 : decode cX6_name 70 = .ok (.ifCond .lt 9, 3) := by decide +kernel
theorem dX6_name_73 : decode cX6_name 73 = .ok (.iload_n 3, 1) := by decide +kernel
theorem dX6_name_74 : decode cX6_name 74 = .ok (.iload 5, 2) := by decide +kernel
theorem dX6_name_76 : decode cX6_name 76 = .ok (.if_icmp .lt 13, 3) := by decide +kernel
theorem dX6_name_79 : decode cX6_name 79 = .ok (.new 102, 3) := by decide +kernel
theorem dX6_name_82 : decode cX6_name 82 = .ok (.dup, 1) := by decide +kernel
theorem dX6_name_83 : decode cX6_name 83 = .ok (.ldc 148, 2) := by decide +kernel
theorem dX6_name_85 : decode cX6_name 85 = .ok (.invokespecial 106, 3) := by decide +kernel
theorem dX6_name_88 : decode cX6_name 88 = .ok (.athrow, 1) := by decide +kernel
theorem dX6_name_89 : decode cX6_name 89 = .ok (.aload 4, 2) := by decide +kernel
theorem dX6_name_91 : decode cX6_name 91 = .ok (.iload_n 2, 1) := by decide +kernel
theorem dX6_name_92 : decode cX6_name 92 = .ok (.iload_n 3, 1) := by decide +kernel
theorem dX6_name_93 : decode cX6_name 93 = .ok (.invokevirtual 150, 3) := by decide +kernel
theorem dX6_name_96 : decode cX6_name 96 = .ok (.ireturn, 1) := by decide +kernel
theorem dX6_meets_0 : decode cX6_meets 0 = .ok (.aload_n 0, 1) := by decide +kernel
theorem dX6_meets_1 : decode cX6_meets 1 = .ok (.invokevirtual 90, 3) := by decide +kernel
theorem dX6_meets_4 : decode cX6_meets 4 = .ok (.aload_n 0, 1) := by decide +kernel
theorem dX6_meets_5 : decode cX6_meets 5 = .ok (.iload_n 1, 1) := by decide +kernel
theorem dX6_meets_6 : decode cX6_meets 6 = .ok (.invokevirtual 153, 3) := by decide +kernel
theorem dX6_meets_9 : decode cX6_meets 9 = .ok (.aload_n 0, 1) := by decide +kernel
theorem dX6_meets_10 : decode cX6_meets 10 = .ok (.getfield 19, 3) := by decide +kernel
theorem dX6_meets_13 : decode cX6_meets 13 = .ok (.iload_n 1, 1) := by decide +kernel
theorem dX6_meets_14 : decode cX6_meets 14 = .ok (.invokevirtual 156, 3) := by decide +kernel
theorem dX6_meets_17 : decode cX6_meets 17 = .ok (.ireturn, 1) := by decide +kernel
theorem dX6_cases_0 : decode cX6_cases 0 = .ok (.aload_n 0, 1) := by decide +kernel
theorem dX6_cases_1 : decode cX6_cases 1 = .ok (.invokevirtual 90, 3) := by decide +kernel
theorem dX6_cases_4 : decode cX6_cases 4 = .ok (.iload_n 1, 1) := by decide +kernel
theorem dX6_cases_5 : decode cX6_cases 5 = .ok (.iconst (-1), 1) := by decide +kernel
theorem dX6_cases_6 : decode cX6_cases 6 = .ok (.if_icmp .lt 17, 3) := by decide +kernel
theorem dX6_cases_9 : decode cX6_cases 9 = .ok (.iload_n 1, 1) := by decide +kernel
theorem dX6_cases_10 : decode cX6_cases 10 = .ok (.aload_n 0, 1) := by decide +kernel
theorem dX6_cases_11 : decode cX6_cases 11 = .ok (.getfield 19, 3) := by decide +kernel
theorem dX6_cases_14 : decode cX6_cases 14 = .ok (.getfield 119, 3) := by decide +kernel
theorem dX6_cases_17 : decode cX6_cases 17 = .ok (.getfield 111, 3) := by decide +kernel
theorem dX6_cases_20 : decode cX6_cases 20 = .ok (.if_icmp .lt 13, 3) := by decide +kernel
theorem dX6_cases_23 : decode cX6_cases 23 = .ok (.new 102, 3) := by decide +kernel
theorem dX6_cases_26 : decode cX6_cases 26 = .ok (.dup, 1) := by decide +kernel
theorem dX6_cases_27 : decode cX6_cases 27 = .ok (.ldc 159, 2) := by decide +kernel
theorem dX6_cases_29 : decode cX6_cases 29 = .ok (.invokespecial 106, 3) := by decide +kernel
theorem dX6_cases_32 : decode cX6_cases 32 = .ok (.athrow, 1) := by decide +kernel
theorem dX6_cases_33 : decode cX6_cases 33 = .ok (.aload_n 0, 1) := by decide +kernel
theorem dX6_cases_34 : decode cX6_cases 34 = .ok (.getfield 29, 3) := by decide +kernel
theorem dX6_cases_37 : decode cX6_cases 37 = .ok (.aload_n 0, 1) := by decide +kernel
theorem dX6_cases_38 : decode cX6_cases 38 = .ok (.getfield 19, 3) := by decide +kernel
theorem dX6_cases_41 : decode cX6_cases 41 = .ok (.iload_n 1, 1) := by decide +kernel
theorem dX6_cases_42 : decode cX6_cases 42 = .ok (.invokevirtual 161, 3) := by decide +kernel
theorem dX6_cases_45 : decode cX6_cases 45 = .ok (.aload_n 0, 1) := by decide +kernel
theorem dX6_cases_46 : decode cX6_cases 46 = .ok (.getfield 29, 3) := by decide +kernel
theorem dX6_cases_49 : decode cX6_cases 49 = .ok (.invokevirtual 165, 3) := by decide +kernel
theorem dX6_cases_52 : decode cX6_cases 52 = .ok (.istore_n 2, 1) := by decide +kernel
theorem dX6_cases_53 : decode cX6_cases 53 = .ok (.iload_n 1, 1) := by decide +kernel
theorem dX6_cases_54 : decode cX6_cases 54 = .ok (.iconst (-1), 1) := by decide +kernel
theorem dX6_cases_55 : decode cX6_cases 55 = .ok (.if_icmp .ne 15, 3) := by decide +kernel
theorem dX6_cases_58 : decode cX6_cases 58 = .ok (.aload_n 0, 1) := by decide +kernel
theorem dX6_cases_59 : decode cX6_cases 59 = .ok (.getfield 19, 3) := by decide +kernel
theorem dX6_cases_62 : decode cX6_cases 62 = .ok (.invokevirtual 168, 3) := by decide +kernel
theorem dX6_cases_65 : decode cX6_cases 65 = .ok (.iload_n 2, 1) := by decide +kernel
theorem dX6_cases_66 : decode cX6_cases 66 = .ok (.isub, 1) := by decide +kernel
theorem dX6_cases_67 : decode cX6_cases 67 = .ok (.goto 4, 3) := by decide +kernel
theorem dX6_cases_70 : decode cX6_cases 70 = .ok (.iload_n 2, 1) := by decide +kernel
theorem dX6_cases_71 : decode cX6_cases 71 = .ok (.ireturn, 1) := by decide +kernel
theorem dX6_node_0 : decode cX6_node 0 = .ok (.aload_n 0, 1) := by decide +kernel
theorem dX6_node_1 : decode cX6_node 1 = .ok (.invokevirtual 171, 3) := by decide +kernel
theorem dX6_node_4 : decode cX6_node 4 = .ok (.iload_n 1, 1) := by decide +kernel
theorem dX6_node_5 : decode cX6_node 5 = .ok (.ifCond .lt 14, 3) := by decide +kernel
theorem dX6_node_8 : decode cX6_node 8 = .ok (.iload_n 1, 1) := by decide +kernel
theorem dX6_node_9 : decode cX6_node 9 = .ok (.aload_n 0, 1) := by decide +kernel
theorem dX6_node_10 : decode cX6_node 10 = .ok (.getfield 36, 3) := by decide +kernel
theorem dX6_node_13 : decode cX6_node 13 = .ok (.getfield 122, 3) := by decide +kernel
theorem dX6_node_16 : decode cX6_node 16 = .ok (.if_icmp .lt 13, 3) := by decide +kernel
theorem dX6_node_19 : decode cX6_node 19 = .ok (.new 102, 3) := by decide +kernel
theorem dX6_node_22 : decode cX6_node 22 = .ok (.dup, 1) := by decide +kernel
theorem dX6_node_23 : decode cX6_node 23 = .ok (.ldc 174, 2) := by decide +kernel
theorem dX6_node_25 : decode cX6_node 25 = .ok (.invokespecial 106, 3) := by decide +kernel
theorem dX6_node_28 : decode cX6_node 28 = .ok (.athrow, 1) := by decide +kernel
theorem dX6_node_29 : decode cX6_node 29 = .ok (.iload_n 2, 1) := by decide +kernel
theorem dX6_node_30 : decode cX6_node 30 = .ok (.tableswitch 113 0 3 #[30, 55, 74, 84], 30) := by decide +kernel
theorem dX6_node_60 : decode cX6_node 60 = .ok (.aload_n 0, 1) := by decide +kernel
theorem dX6_node_61 : decode cX6_node 61 = .ok (.getfield 36, 3) := by decide +kernel
theorem dX6_node_64 : decode cX6_node 64 = .ok (.iload_n 1, 1) := by decide +kernel
theorem dX6_node_65 : decode cX6_node 65 = .ok (.invokevirtual 176, 3) := by decide +kernel
theorem dX6_node_68 : decode cX6_node 68 = .ok (.ifCond .eq 7, 3) := by decide +kernel
theorem dX6_node_71 : decode cX6_node 71 = .ok (.iconst (-1), 1) := by decide +kernel
theorem dX6_node_72 : decode cX6_node 72 = .ok (.goto 12, 3) := by decide +kernel
theorem dX6_node_75 : decode cX6_node 75 = .ok (.aload_n 0, 1) := by decide +kernel
theorem dX6_node_76 : decode cX6_node 76 = .ok (.getfield 36, 3) := by decide +kernel
theorem dX6_node_79 : decode cX6_node 79 = .ok (.getfield 180, 3) := by decide +kernel
theorem dX6_node_82 : decode cX6_node 82 = .ok (.iload_n 1, 1) := by decide +kernel
theorem dX6_node_83 : decode cX6_node 83 = .ok (.iaload, 1) := by decide +kernel
theorem dX6_node_84 : decode cX6_node 84 = .ok (.ireturn, 1) := by decide +kernel
theorem dX6_node_85 : decode cX6_node 85 = .ok (.aload_n 0, 1) := by decide +kernel
theorem dX6_node_86 : decode cX6_node 86 = .ok (.getfield 36, 3) := by decide +kernel
theorem dX6_node_89 : decode cX6_node 89 = .ok (.iload_n 1, 1) := by decide +kernel
theorem dX6_node_90 : decode cX6_node 90 = .ok (.invokevirtual 176, 3) := by decide +kernel
theorem dX6_node_93 : decode cX6_node 93 = .ok (.ifCond .eq 7, 3) := by decide +kernel
theorem dX6_node_96 : decode cX6_node 96 = .ok (.iconst (-1), 1) := by decide +kernel
theorem dX6_node_97 : decode cX6_node 97 = .ok (.goto 6, 3) := by decide +kernel
theorem dX6_node_100 : decode cX6_node 100 = .ok (.iload_n 1, 1) := by decide +kernel
theorem dX6_node_101 : decode cX6_node 101 = .ok (.iconst 1, 1) := by decide +kernel
theorem dX6_node_102 : decode cX6_node 102 = .ok (.iadd, 1) := by decide +kernel
theorem dX6_node_103 : decode cX6_node 103 = .ok (.ireturn, 1) := by decide +kernel
theorem dX6_node_104 : decode cX6_node 104 = .ok (.aload_n 0, 1) := by decide +kernel
theorem dX6_node_105 : decode cX6_node 105 = .ok (.getfield 36, 3) := by decide +kernel
theorem dX6_node_108 : decode cX6_node 108 = .ok (.getfield 183, 3) := by decide +kernel
theorem dX6_node_111 : decode cX6_node 111 = .ok (.iload_n 1, 1) := by decide +kernel
theorem dX6_node_112 : decode cX6_node 112 = .ok (.iaload, 1) := by decide +kernel
theorem dX6_node_113 : decode cX6_node 113 = .ok (.ireturn, 1) := by decide +kernel
theorem dX6_node_114 : decode cX6_node 114 = .ok (.aload_n 0, 1) := by decide +kernel
theorem dX6_node_115 : decode cX6_node 115 = .ok (.getfield 36, 3) := by decide +kernel
theorem dX6_node_118 : decode cX6_node 118 = .ok (.iload_n 1, 1) := by decide +kernel
theorem dX6_node_119 : decode cX6_node 119 = .ok (.invokevirtual 176, 3) := by decide +kernel
theorem dX6_node_122 : decode cX6_node 122 = .ok (.ifCond .eq 19, 3) := by decide +kernel
theorem dX6_node_125 : decode cX6_node 125 = .ok (.aload_n 0, 1) := by decide +kernel
theorem dX6_node_126 : decode cX6_node 126 = .ok (.getfield 36, 3) := by decide +kernel
theorem dX6_node_129 : decode cX6_node 129 = .ok (.getfield 180, 3) := by decide +kernel
theorem dX6_node_132 : decode cX6_node 132 = .ok (.iload_n 1, 1) := by decide +kernel
theorem dX6_node_133 : decode cX6_node 133 = .ok (.iaload, 1) := by decide +kernel
theorem dX6_node_134 : decode cX6_node 134 = .ok (.sipush 128, 3) := by decide +kernel
theorem dX6_node_137 : decode cX6_node 137 = .ok (.isub, 1) := by decide +kernel
theorem dX6_node_138 : decode cX6_node 138 = .ok (.goto 4, 3) := by decide +kernel
theorem dX6_node_141 : decode cX6_node 141 = .ok (.iconst (-1), 1) := by decide +kernel
theorem dX6_node_142 : decode cX6_node 142 = .ok (.ireturn, 1) := by decide +kernel
theorem dX6_node_143 : decode cX6_node 143 = .ok (.new 102, 3) := by decide +kernel
theorem dX6_node_146 : decode cX6_node 146 = .ok (.dup, 1) := by decide +kernel
theorem dX6_node_147 : decode cX6_node 147 = .ok (.ldc 104, 2) := by decide +kernel
theorem dX6_node_149 : decode cX6_node 149 = .ok (.invokespecial 106, 3) := by decide +kernel
theorem dX6_node_152 : decode cX6_node 152 = .ok (.athrow, 1) := by decide +kernel
theorem dX6_code_0 : decode cX6_code 0 = .ok (.aload_n 0, 1) := by decide +kernel
theorem dX6_code_1 : decode cX6_code 1 = .ok (.invokevirtual 171, 3) := by decide +kernel
theorem dX6_code_4 : decode cX6_code 4 = .ok (.iload_n 1, 1) := by decide +kernel
theorem dX6_code_5 : decode cX6_code 5 = .ok (.ifCond .lt 14, 3) := by decide +kernel
theorem dX6_code_8 : decode cX6_code 8 = .ok (.iload_n 1, 1) := by decide +kernel
theorem dX6_code_9 : decode cX6_code 9 = .ok (.aload_n 0, 1) := by decide +kernel
theorem dX6_code_10 : decode cX6_code 10 = .ok (.getfield 43, 3) := by decide +kernel
theorem dX6_code_13 : decode cX6_code 13 = .ok (.getfield 126, 3) := by decide +kernel
theorem dX6_code_16 : decode cX6_code 16 = .ok (.if_icmp .lt 13, 3) := by decide +kernel
theorem dX6_code_19 : decode cX6_code 19 = .ok (.new 102, 3) := by decide +kernel
theorem dX6_code_22 : decode cX6_code 22 = .ok (.dup, 1) := by decide +kernel
theorem dX6_code_23 : decode cX6_code 23 = .ok (.ldc 186, 2) := by decide +kernel
theorem dX6_code_25 : decode cX6_code 25 = .ok (.invokespecial 106, 3) := by decide +kernel
theorem dX6_code_28 : decode cX6_code 28 = .ok (.athrow, 1) := by decide +kernel
theorem dX6_code_29 : decode cX6_code 29 = .ok (.aload_n 0, 1) := by decide +kernel
theorem dX6_code_30 : decode cX6_code 30 = .ok (.getfield 43, 3) := by decide +kernel
theorem dX6_code_33 : decode cX6_code 33 = .ok (.getfield 188, 3) := by decide +kernel
theorem dX6_code_36 : decode cX6_code 36 = .ok (.iload_n 1, 1) := by decide +kernel
theorem dX6_code_37 : decode cX6_code 37 = .ok (.iaload, 1) := by decide +kernel
theorem dX6_code_38 : decode cX6_code 38 = .ok (.ireturn, 1) := by decide +kernel
theorem dX6_run_0 : decode cX6_run 0 = .ok (.aload_n 0, 1) := by decide +kernel
theorem dX6_run_1 : decode cX6_run 1 = .ok (.invokevirtual 171, 3) := by decide +kernel
theorem dX6_run_4 : decode cX6_run 4 = .ok (.aload_n 0, 1) := by decide +kernel
theorem dX6_run_5 : decode cX6_run 5 = .ok (.iload_n 1, 1) := by decide +kernel
theorem dX6_run_6 : decode cX6_run 6 = .ok (.invokevirtual 153, 3) := by decide +kernel
theorem dX6_run_9 : decode cX6_run 9 = .ok (.aload_n 0, 1) := by decide +kernel
theorem dX6_run_10 : decode cX6_run 10 = .ok (.getfield 43, 3) := by decide +kernel
theorem dX6_run_13 : decode cX6_run 13 = .ok (.iload_n 1, 1) := by decide +kernel
theorem dX6_run_14 : decode cX6_run 14 = .ok (.iload_n 2, 1) := by decide +kernel
theorem dX6_run_15 : decode cX6_run 15 = .ok (.invokevirtual 191, 3) := by decide +kernel
theorem dX6_run_18 : decode cX6_run 18 = .ok (.ireturn, 1) := by decide +kernel
theorem dX6_tests_0 : decode cX6_tests 0 = .ok (.aload_n 0, 1) := by decide +kernel
theorem dX6_tests_1 : decode cX6_tests 1 = .ok (.invokevirtual 171, 3) := by decide +kernel
theorem dX6_tests_4 : decode cX6_tests 4 = .ok (.aload_n 0, 1) := by decide +kernel
theorem dX6_tests_5 : decode cX6_tests 5 = .ok (.getfield 36, 3) := by decide +kernel
theorem dX6_tests_8 : decode cX6_tests 8 = .ok (.getfield 195, 3) := by decide +kernel
theorem dX6_tests_11 : decode cX6_tests 11 = .ok (.lreturn, 1) := by decide +kernel
theorem dX6_needTable_0 : decode cX6_needTable 0 = .ok (.aload_n 0, 1) := by decide +kernel
theorem dX6_needTable_1 : decode cX6_needTable 1 = .ok (.getfield 82, 3) := by decide +kernel
theorem dX6_needTable_4 : decode cX6_needTable 4 = .ok (.ifCond .ne 13, 3) := by decide +kernel
theorem dX6_needTable_7 : decode cX6_needTable 7 = .ok (.new 199, 3) := by decide +kernel
theorem dX6_needTable_10 : decode cX6_needTable 10 = .ok (.dup, 1) := by decide +kernel
theorem dX6_needTable_11 : decode cX6_needTable 11 = .ok (.ldc 201, 2) := by decide +kernel
theorem dX6_needTable_13 : decode cX6_needTable 13 = .ok (.invokespecial 203, 3) := by decide +kernel
theorem dX6_needTable_16 : decode cX6_needTable 16 = .ok (.athrow, 1) := by decide +kernel
theorem dX6_needTable_17 : decode cX6_needTable 17 = .ok (.return_, 1) := by decide +kernel
theorem dX6_needTree_0 : decode cX6_needTree 0 = .ok (.aload_n 0, 1) := by decide +kernel
theorem dX6_needTree_1 : decode cX6_needTree 1 = .ok (.getfield 36, 3) := by decide +kernel
theorem dX6_needTree_4 : decode cX6_needTree 4 = .ok (.getfield 122, 3) := by decide +kernel
theorem dX6_needTree_7 : decode cX6_needTree 7 = .ok (.ifCond .ne 13, 3) := by decide +kernel
theorem dX6_needTree_10 : decode cX6_needTree 10 = .ok (.new 199, 3) := by decide +kernel
theorem dX6_needTree_13 : decode cX6_needTree 13 = .ok (.dup, 1) := by decide +kernel
theorem dX6_needTree_14 : decode cX6_needTree 14 = .ok (.ldc 204, 2) := by decide +kernel
theorem dX6_needTree_16 : decode cX6_needTree 16 = .ok (.invokespecial 203, 3) := by decide +kernel
theorem dX6_needTree_19 : decode cX6_needTree 19 = .ok (.athrow, 1) := by decide +kernel
theorem dX6_needTree_20 : decode cX6_needTree 20 = .ok (.return_, 1) := by decide +kernel
theorem dX6_needCase_0 : decode cX6_needCase 0 = .ok (.iload_n 1, 1) := by decide +kernel
theorem dX6_needCase_1 : decode cX6_needCase 1 = .ok (.ifCond .lt 14, 3) := by decide +kernel
theorem dX6_needCase_4 : decode cX6_needCase 4 = .ok (.iload_n 1, 1) := by decide +kernel
theorem dX6_needCase_5 : decode cX6_needCase 5 = .ok (.aload_n 0, 1) := by decide +kernel
theorem dX6_needCase_6 : decode cX6_needCase 6 = .ok (.getfield 19, 3) := by decide +kernel
theorem dX6_needCase_9 : decode cX6_needCase 9 = .ok (.invokevirtual 168, 3) := by decide +kernel
theorem dX6_needCase_12 : decode cX6_needCase 12 = .ok (.if_icmp .lt 13, 3) := by decide +kernel
theorem dX6_needCase_15 : decode cX6_needCase 15 = .ok (.new 102, 3) := by decide +kernel
theorem dX6_needCase_18 : decode cX6_needCase 18 = .ok (.dup, 1) := by decide +kernel
theorem dX6_needCase_19 : decode cX6_needCase 19 = .ok (.ldc 206, 2) := by decide +kernel
theorem dX6_needCase_21 : decode cX6_needCase 21 = .ok (.invokespecial 106, 3) := by decide +kernel
theorem dX6_needCase_24 : decode cX6_needCase 24 = .ok (.athrow, 1) := by decide +kernel
theorem dX6_needCase_25 : decode cX6_needCase 25 = .ok (.return_, 1) := by decide +kernel
theorem dX6_judge_0 : decode cX6_judge 0 = .ok (.aload_n 0, 1) := by decide +kernel
theorem dX6_judge_1 : decode cX6_judge 1 = .ok (.getfield 36, 3) := by decide +kernel
theorem dX6_judge_4 : decode cX6_judge 4 = .ok (.invokevirtual 208, 3) := by decide +kernel
theorem dX6_judge_7 : decode cX6_judge 7 = .ok (.aload_n 0, 1) := by decide +kernel
theorem dX6_judge_8 : decode cX6_judge 8 = .ok (.invokevirtual 211, 3) := by decide +kernel
theorem dX6_judge_11 : decode cX6_judge 11 = .ok (.istore_n 1, 1) := by decide +kernel
theorem dX6_judge_12 : decode cX6_judge 12 = .ok (.iload_n 1, 1) := by decide +kernel
theorem dX6_judge_13 : decode cX6_judge 13 = .ok (.ifCond .ne 30, 3) := by decide +kernel
theorem dX6_judge_16 : decode cX6_judge 16 = .ok (.aload_n 0, 1) := by decide +kernel
theorem dX6_judge_17 : decode cX6_judge 17 = .ok (.getfield 36, 3) := by decide +kernel
theorem dX6_judge_20 : decode cX6_judge 20 = .ok (.aload_n 0, 1) := by decide +kernel
theorem dX6_judge_21 : decode cX6_judge 21 = .ok (.getfield 29, 3) := by decide +kernel
theorem dX6_judge_24 : decode cX6_judge 24 = .ok (.invokevirtual 214, 3) := by decide +kernel
theorem dX6_judge_27 : decode cX6_judge 27 = .ok (.aload_n 0, 1) := by decide +kernel
theorem dX6_judge_28 : decode cX6_judge 28 = .ok (.getfield 36, 3) := by decide +kernel
theorem dX6_judge_31 : decode cX6_judge 31 = .ok (.getfield 122, 3) := by decide +kernel
theorem dX6_judge_34 : decode cX6_judge 34 = .ok (.ifCond .ne 7, 3) := by decide +kernel
theorem dX6_judge_37 : decode cX6_judge 37 = .ok (.iconst 3, 1) := by decide +kernel
theorem dX6_judge_38 : decode cX6_judge 38 = .ok (.goto 4, 3) := by decide +kernel
theorem dX6_judge_41 : decode cX6_judge 41 = .ok (.iconst 0, 1) := by decide +kernel
theorem dX6_judge_42 : decode cX6_judge 42 = .ok (.istore_n 1, 1) := by decide +kernel
theorem dX6_judge_43 : decode cX6_judge 43 = .ok (.aload_n 0, 1) := by decide +kernel
theorem dX6_judge_44 : decode cX6_judge 44 = .ok (.getfield 43, 3) := by decide +kernel
theorem dX6_judge_47 : decode cX6_judge 47 = .ok (.aload_n 0, 1) := by decide +kernel
theorem dX6_judge_48 : decode cX6_judge 48 = .ok (.getfield 36, 3) := by decide +kernel
theorem dX6_judge_51 : decode cX6_judge 51 = .ok (.invokevirtual 218, 3) := by decide +kernel
theorem dX6_judge_54 : decode cX6_judge 54 = .ok (.iload_n 1, 1) := by decide +kernel
theorem dX6_judge_55 : decode cX6_judge 55 = .ok (.ireturn, 1) := by decide +kernel
theorem dX6_findAmiss_0 : decode cX6_findAmiss 0 = .ok (.aload_n 0, 1) := by decide +kernel
theorem dX6_findAmiss_1 : decode cX6_findAmiss 1 = .ok (.iconst (-1), 1) := by decide +kernel
theorem dX6_findAmiss_2 : decode cX6_findAmiss 2 = .ok (.putfield 93, 3) := by decide +kernel
theorem dX6_findAmiss_5 : decode cX6_findAmiss 5 = .ok (.aload_n 0, 1) := by decide +kernel
theorem dX6_findAmiss_6 : decode cX6_findAmiss 6 = .ok (.iconst (-1), 1) := by decide +kernel
theorem dX6_findAmiss_7 : decode cX6_findAmiss 7 = .ok (.putfield 96, 3) := by decide +kernel
theorem dX6_findAmiss_10 : decode cX6_findAmiss 10 = .ok (.aload_n 0, 1) := by decide +kernel
theorem dX6_findAmiss_11 : decode cX6_findAmiss 11 = .ok (.invokevirtual 222, 3) := by decide +kernel
theorem dX6_findAmiss_14 : decode cX6_findAmiss 14 = .ok (.ifCond .eq 5, 3) := by decide +kernel
theorem dX6_findAmiss_17 : decode cX6_findAmiss 17 = .ok (.iconst 1, 1) := by decide +kernel
theorem dX6_findAmiss_18 : decode cX6_findAmiss 18 = .ok (.ireturn, 1) := by decide +kernel
theorem dX6_findAmiss_19 : decode cX6_findAmiss 19 = .ok (.aload_n 0, 1) := by decide +kernel
theorem dX6_findAmiss_20 : decode cX6_findAmiss 20 = .ok (.getfield 29, 3) := by decide +kernel
theorem dX6_findAmiss_23 : decode cX6_findAmiss 23 = .ok (.aload_n 0, 1) := by decide +kernel
theorem dX6_findAmiss_24 : decode cX6_findAmiss 24 = .ok (.getfield 19, 3) := by decide +kernel
theorem dX6_findAmiss_27 : decode cX6_findAmiss 27 = .ok (.iconst (-1), 1) := by decide +kernel
theorem dX6_findAmiss_28 : decode cX6_findAmiss 28 = .ok (.invokevirtual 161, 3) := by decide +kernel
theorem dX6_findAmiss_31 : decode cX6_findAmiss 31 = .ok (.aload_n 0, 1) := by decide +kernel
theorem dX6_findAmiss_32 : decode cX6_findAmiss 32 = .ok (.aload_n 0, 1) := by decide +kernel
theorem dX6_findAmiss_33 : decode cX6_findAmiss 33 = .ok (.getfield 29, 3) := by decide +kernel
theorem dX6_findAmiss_36 : decode cX6_findAmiss 36 = .ok (.invokevirtual 226, 3) := by decide +kernel
theorem dX6_findAmiss_39 : decode cX6_findAmiss 39 = .ok (.putfield 99, 3) := by decide +kernel
theorem dX6_findAmiss_42 : decode cX6_findAmiss 42 = .ok (.aload_n 0, 1) := by decide +kernel
theorem dX6_findAmiss_43 : decode cX6_findAmiss 43 = .ok (.getfield 99, 3) := by decide +kernel
theorem dX6_findAmiss_46 : decode cX6_findAmiss 46 = .ok (.iconst (-1), 1) := by decide +kernel
theorem dX6_findAmiss_47 : decode cX6_findAmiss 47 = .ok (.if_icmp .ne 7, 3) := by decide +kernel
theorem dX6_findAmiss_50 : decode cX6_findAmiss 50 = .ok (.iconst 0, 1) := by decide +kernel
theorem dX6_findAmiss_51 : decode cX6_findAmiss 51 = .ok (.goto 4, 3) := by decide +kernel
theorem dX6_findAmiss_54 : decode cX6_findAmiss 54 = .ok (.iconst 2, 1) := by decide +kernel
theorem dX6_findAmiss_55 : decode cX6_findAmiss 55 = .ok (.ireturn, 1) := by decide +kernel
theorem dX6_findContradiction_0 : decode cX6_findContradiction 0 = .ok (.iconst 0, 1) := by decide +kernel
theorem dX6_findContradiction_1 : decode cX6_findContradiction 1 = .ok (.istore_n 1, 1) := by decide +kernel
theorem dX6_findContradiction_2 : decode cX6_findContradiction 2 = .ok (.iload_n 1, 1) := by decide +kernel
theorem dX6_findContradiction_3 : decode cX6_findContradiction 3 = .ok (.aload_n 0, 1) := by decide +kernel
theorem dX6_findContradiction_4 : decode cX6_findContradiction 4 = .ok (.getfield 19, 3) := by decide +kernel
theorem dX6_findContradiction_7 : decode cX6_findContradiction 7 = .ok (.getfield 116, 3) := by decide +kernel
theorem dX6_findContradiction_10 : decode cX6_findContradiction 10 = .ok (.if_icmp .ge 77, 3) := by decide +kernel
theorem dX6_findContradiction_13 : decode cX6_findContradiction 13 = .ok (.iload_n 1, 1) := by decide +kernel
theorem dX6_findContradiction_14 : decode cX6_findContradiction 14 = .ok (.iconst 1, 1) := by decide +kernel
theorem dX6_findContradiction_15 : decode cX6_findContradiction 15 = .ok (.iadd, 1) := by decide +kernel
theorem dX6_findContradiction_16 : decode cX6_findContradiction 16 = .ok (.istore_n 2, 1) := by decide +kernel
theorem dX6_findContradiction_17 : decode cX6_findContradiction 17 = .ok (.iload_n 2, 1) := by decide +kernel
theorem dX6_findContradiction_18 : decode cX6_findContradiction 18 = .ok (.aload_n 0, 1) := by decide +kernel
theorem dX6_findContradiction_19 : decode cX6_findContradiction 19 = .ok (.getfield 19, 3) := by decide +kernel
theorem dX6_findContradiction_22 : decode cX6_findContradiction 22 = .ok (.getfield 116, 3) := by decide +kernel
theorem dX6_findContradiction_25 : decode cX6_findContradiction 25 = .ok (.if_icmp .ge 56, 3) := by decide +kernel
theorem dX6_findContradiction_28 : decode cX6_findContradiction 28 = .ok (.aload_n 0, 1) := by decide +kernel
theorem dX6_findContradiction_29 : decode cX6_findContradiction 29 = .ok (.getfield 19, 3) := by decide +kernel
theorem dX6_findContradiction_32 : decode cX6_findContradiction 32 = .ok (.iload_n 1, 1) := by decide +kernel
theorem dX6_findContradiction_33 : decode cX6_findContradiction 33 = .ok (.iload_n 2, 1) := by decide +kernel
theorem dX6_findContradiction_34 : decode cX6_findContradiction 34 = .ok (.invokevirtual 229, 3) := by decide +kernel
theorem dX6_findContradiction_37 : decode cX6_findContradiction 37 = .ok (.ifCond .eq 38, 3) := by decide +kernel
theorem dX6_findContradiction_40 : decode cX6_findContradiction 40 = .ok (.aload_n 0, 1) := by decide +kernel
theorem dX6_findContradiction_41 : decode cX6_findContradiction 41 = .ok (.iload_n 1, 1) := by decide +kernel
theorem dX6_findContradiction_42 : decode cX6_findContradiction 42 = .ok (.putfield 93, 3) := by decide +kernel
theorem dX6_findContradiction_45 : decode cX6_findContradiction 45 = .ok (.aload_n 0, 1) := by decide +kernel
theorem dX6_findContradiction_46 : decode cX6_findContradiction 46 = .ok (.iload_n 2, 1) := by decide +kernel
theorem dX6_findContradiction_47 : decode cX6_findContradiction 47 = .ok (.putfield 96, 3) := by decide +kernel
theorem dX6_findContradiction_50 : decode cX6_findContradiction 50 = .ok (.aload_n 0, 1) := by decide +kernel
theorem dX6_findContradiction_51 : decode cX6_findContradiction 51 = .ok (.aload_n 0, 1) := by decide +kernel
theorem dX6_findContradiction_52 : decode cX6_findContradiction 52 = .ok (.getfield 19, 3) := by decide +kernel
theorem dX6_findContradiction_55 : decode cX6_findContradiction 55 = .ok (.getfield 233, 3) := by decide +kernel
theorem dX6_findContradiction_58 : decode cX6_findContradiction 58 = .ok (.iload_n 1, 1) := by decide +kernel
theorem dX6_findContradiction_59 : decode cX6_findContradiction 59 = .ok (.iaload, 1) := by decide +kernel
theorem dX6_findContradiction_60 : decode cX6_findContradiction 60 = .ok (.aload_n 0, 1) := by decide +kernel
theorem dX6_findContradiction_61 : decode cX6_findContradiction 61 = .ok (.getfield 19, 3) := by decide +kernel
theorem dX6_findContradiction_64 : decode cX6_findContradiction 64 = .ok (.getfield 233, 3) := by decide +kernel
theorem dX6_findContradiction_67 : decode cX6_findContradiction 67 = .ok (.iload_n 2, 1) := by decide +kernel
theorem dX6_findContradiction_68 : decode cX6_findContradiction 68 = .ok (.iaload, 1) := by decide +kernel
theorem dX6_findContradiction_69 : decode cX6_findContradiction 69 = .ok (.ior, 1) := by decide +kernel
theorem dX6_findContradiction_70 : decode cX6_findContradiction 70 = .ok (.putfield 99, 3) := by decide +kernel
theorem dX6_findContradiction_73 : decode cX6_findContradiction 73 = .ok (.iconst 1, 1) := by decide +kernel
theorem dX6_findContradiction_74 : decode cX6_findContradiction 74 = .ok (.ireturn, 1) := by decide +kernel
theorem dX6_findContradiction_75 : decode cX6_findContradiction 75 = .ok (.iinc 2 1, 3) := by decide +kernel
theorem dX6_findContradiction_78 : decode cX6_findContradiction 78 = .ok (.goto (-61), 3) := by decide +kernel
theorem dX6_findContradiction_81 : decode cX6_findContradiction 81 = .ok (.iinc 1 1, 3) := by decide +kernel
theorem dX6_findContradiction_84 : decode cX6_findContradiction 84 = .ok (.goto (-82), 3) := by decide +kernel
theorem dX6_findContradiction_87 : decode cX6_findContradiction 87 = .ok (.iconst 0, 1) := by decide +kernel
theorem dX6_findContradiction_88 : decode cX6_findContradiction 88 = .ok (.ireturn, 1) := by decide +kernel
theorem dJ6_bitCount_0f7a4_0 : decode cJ6_bitCount_0f7a4 0 = .ok (.iload_n 0, 1) := by decide +kernel
theorem dJ6_bitCount_0f7a4_1 : decode cJ6_bitCount_0f7a4 1 = .ok (.iload_n 0, 1) := by decide +kernel
theorem dJ6_bitCount_0f7a4_2 : decode cJ6_bitCount_0f7a4 2 = .ok (.iconst 1, 1) := by decide +kernel
theorem dJ6_bitCount_0f7a4_3 : decode cJ6_bitCount_0f7a4 3 = .ok (.iushr, 1) := by decide +kernel
theorem dJ6_bitCount_0f7a4_4 : decode cJ6_bitCount_0f7a4 4 = .ok (.ldc_w 265, 3) := by decide +kernel
theorem dJ6_bitCount_0f7a4_7 : decode cJ6_bitCount_0f7a4 7 = .ok (.iand, 1) := by decide +kernel
theorem dJ6_bitCount_0f7a4_8 : decode cJ6_bitCount_0f7a4 8 = .ok (.isub, 1) := by decide +kernel
theorem dJ6_bitCount_0f7a4_9 : decode cJ6_bitCount_0f7a4 9 = .ok (.istore_n 0, 1) := by decide +kernel
theorem dJ6_bitCount_0f7a4_10 : decode cJ6_bitCount_0f7a4 10 = .ok (.iload_n 0, 1) := by decide +kernel
theorem dJ6_bitCount_0f7a4_11 : decode cJ6_bitCount_0f7a4 11 = .ok (.ldc_w 266, 3) := by decide +kernel
theorem dJ6_bitCount_0f7a4_14 : decode cJ6_bitCount_0f7a4 14 = .ok (.iand, 1) := by decide +kernel
theorem dJ6_bitCount_0f7a4_15 : decode cJ6_bitCount_0f7a4 15 = .ok (.iload_n 0, 1) := by decide +kernel
theorem dJ6_bitCount_0f7a4_16 : decode cJ6_bitCount_0f7a4 16 = .ok (.iconst 2, 1) := by decide +kernel
theorem dJ6_bitCount_0f7a4_17 : decode cJ6_bitCount_0f7a4 17 = .ok (.iushr, 1) := by decide +kernel
theorem dJ6_bitCount_0f7a4_18 : decode cJ6_bitCount_0f7a4 18 = .ok (.ldc_w 266, 3) := by decide +kernel
theorem dJ6_bitCount_0f7a4_21 : decode cJ6_bitCount_0f7a4 21 = .ok (.iand, 1) := by decide +kernel
theorem dJ6_bitCount_0f7a4_22 : decode cJ6_bitCount_0f7a4 22 = .ok (.iadd, 1) := by decide +kernel
theorem dJ6_bitCount_0f7a4_23 : decode cJ6_bitCount_0f7a4 23 = .ok (.istore_n 0, 1) := by decide +kernel
theorem dJ6_bitCount_0f7a4_24 : decode cJ6_bitCount_0f7a4 24 = .ok (.iload_n 0, 1) := by decide +kernel
theorem dJ6_bitCount_0f7a4_25 : decode cJ6_bitCount_0f7a4 25 = .ok (.iload_n 0, 1) := by decide +kernel
theorem dJ6_bitCount_0f7a4_26 : decode cJ6_bitCount_0f7a4 26 = .ok (.iconst 4, 1) := by decide +kernel
theorem dJ6_bitCount_0f7a4_27 : decode cJ6_bitCount_0f7a4 27 = .ok (.iushr, 1) := by decide +kernel
theorem dJ6_bitCount_0f7a4_28 : decode cJ6_bitCount_0f7a4 28 = .ok (.iadd, 1) := by decide +kernel
theorem dJ6_bitCount_0f7a4_29 : decode cJ6_bitCount_0f7a4 29 = .ok (.ldc_w 267, 3) := by decide +kernel
theorem dJ6_bitCount_0f7a4_32 : decode cJ6_bitCount_0f7a4 32 = .ok (.iand, 1) := by decide +kernel
theorem dJ6_bitCount_0f7a4_33 : decode cJ6_bitCount_0f7a4 33 = .ok (.istore_n 0, 1) := by decide +kernel
theorem dJ6_bitCount_0f7a4_34 : decode cJ6_bitCount_0f7a4 34 = .ok (.iload_n 0, 1) := by decide +kernel
theorem dJ6_bitCount_0f7a4_35 : decode cJ6_bitCount_0f7a4 35 = .ok (.iload_n 0, 1) := by decide +kernel
theorem dJ6_bitCount_0f7a4_36 : decode cJ6_bitCount_0f7a4 36 = .ok (.bipush 8, 2) := by decide +kernel
theorem dJ6_bitCount_0f7a4_38 : decode cJ6_bitCount_0f7a4 38 = .ok (.iushr, 1) := by decide +kernel
theorem dJ6_bitCount_0f7a4_39 : decode cJ6_bitCount_0f7a4 39 = .ok (.iadd, 1) := by decide +kernel
theorem dJ6_bitCount_0f7a4_40 : decode cJ6_bitCount_0f7a4 40 = .ok (.istore_n 0, 1) := by decide +kernel
theorem dJ6_bitCount_0f7a4_41 : decode cJ6_bitCount_0f7a4 41 = .ok (.iload_n 0, 1) := by decide +kernel
theorem dJ6_bitCount_0f7a4_42 : decode cJ6_bitCount_0f7a4 42 = .ok (.iload_n 0, 1) := by decide +kernel
theorem dJ6_bitCount_0f7a4_43 : decode cJ6_bitCount_0f7a4 43 = .ok (.bipush 16, 2) := by decide +kernel
theorem dJ6_bitCount_0f7a4_45 : decode cJ6_bitCount_0f7a4 45 = .ok (.iushr, 1) := by decide +kernel
theorem dJ6_bitCount_0f7a4_46 : decode cJ6_bitCount_0f7a4 46 = .ok (.iadd, 1) := by decide +kernel
theorem dJ6_bitCount_0f7a4_47 : decode cJ6_bitCount_0f7a4 47 = .ok (.istore_n 0, 1) := by decide +kernel
theorem dJ6_bitCount_0f7a4_48 : decode cJ6_bitCount_0f7a4 48 = .ok (.iload_n 0, 1) := by decide +kernel
theorem dJ6_bitCount_0f7a4_49 : decode cJ6_bitCount_0f7a4 49 = .ok (.bipush 63, 2) := by decide +kernel
theorem dJ6_bitCount_0f7a4_51 : decode cJ6_bitCount_0f7a4 51 = .ok (.iand, 1) := by decide +kernel
theorem dJ6_bitCount_0f7a4_52 : decode cJ6_bitCount_0f7a4 52 = .ok (.ireturn, 1) := by decide +kernel
theorem dJ9_abs_0f7a4_0 : decode cJ9_abs_0f7a4 0 = .ok (.iload_n 0, 1) := by decide +kernel
theorem dJ9_abs_0f7a4_1 : decode cJ9_abs_0f7a4 1 = .ok (.ifCond .ge 8, 3) := by decide +kernel
theorem dJ9_abs_0f7a4_4 : decode cJ9_abs_0f7a4 4 = .ok (.iload_n 0, 1) := by decide +kernel
theorem dJ9_abs_0f7a4_5 : decode cJ9_abs_0f7a4 5 = .ok (.ineg, 1) := by decide +kernel
theorem dJ9_abs_0f7a4_6 : decode cJ9_abs_0f7a4 6 = .ok (.goto 4, 3) := by decide +kernel
theorem dJ9_abs_0f7a4_9 : decode cJ9_abs_0f7a4 9 = .ok (.iload_n 0, 1) := by decide +kernel
theorem dJ9_abs_0f7a4_10 : decode cJ9_abs_0f7a4 10 = .ok (.ireturn, 1) := by decide +kernel
theorem dJ9_max_7cf53_0 : decode cJ9_max_7cf53 0 = .ok (.iload_n 0, 1) := by decide +kernel
theorem dJ9_max_7cf53_1 : decode cJ9_max_7cf53 1 = .ok (.iload_n 1, 1) := by decide +kernel
theorem dJ9_max_7cf53_2 : decode cJ9_max_7cf53 2 = .ok (.if_icmp .lt 7, 3) := by decide +kernel
theorem dJ9_max_7cf53_5 : decode cJ9_max_7cf53 5 = .ok (.iload_n 0, 1) := by decide +kernel
theorem dJ9_max_7cf53_6 : decode cJ9_max_7cf53 6 = .ok (.goto 4, 3) := by decide +kernel
theorem dJ9_max_7cf53_9 : decode cJ9_max_7cf53 9 = .ok (.iload_n 1, 1) := by decide +kernel
theorem dJ9_max_7cf53_10 : decode cJ9_max_7cf53 10 = .ok (.ireturn, 1) := by decide +kernel
