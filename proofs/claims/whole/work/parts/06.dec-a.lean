theorem dX0_init_0 : decode cX0_init 0 = .ok (.aload_n 0, 1) := by decide +kernel
theorem dX0_init_1 : decode cX0_init 1 = .ok (.invokespecial 3, 3) := by decide +kernel
theorem dX0_init_4 : decode cX0_init 4 = .ok (.aload_n 0, 1) := by decide +kernel
theorem dX0_init_5 : decode cX0_init 5 = .ok (.sipush 2000, 3) := by decide +kernel
theorem dX0_init_8 : decode cX0_init 8 = .ok (.newarray .int, 2) := by decide +kernel
theorem dX0_init_10 : decode cX0_init 10 = .ok (.putfield 9, 3) := by decide +kernel
theorem dX0_init_13 : decode cX0_init 13 = .ok (.aload_n 0, 1) := by decide +kernel
theorem dX0_init_14 : decode cX0_init 14 = .ok (.sipush 1000, 3) := by decide +kernel
theorem dX0_init_17 : decode cX0_init 17 = .ok (.newarray .int, 2) := by decide +kernel
theorem dX0_init_19 : decode cX0_init 19 = .ok (.putfield 15, 3) := by decide +kernel
theorem dX0_init_22 : decode cX0_init 22 = .ok (.return_, 1) := by decide +kernel
theorem dX0_write_0 : decode cX0_write 0 = .ok (.aload_n 0, 1) := by decide +kernel
theorem dX0_write_1 : decode cX0_write 1 = .ok (.aload_n 1, 1) := by decide +kernel
theorem dX0_write_2 : decode cX0_write 2 = .ok (.invokevirtual 18, 3) := by decide +kernel
theorem dX0_write_5 : decode cX0_write 5 = .ok (.aload_n 0, 1) := by decide +kernel
theorem dX0_write_6 : decode cX0_write 6 = .ok (.iconst 0, 1) := by decide +kernel
theorem dX0_write_7 : decode cX0_write 7 = .ok (.putfield 22, 3) := by decide +kernel
theorem dX0_write_10 : decode cX0_write 10 = .ok (.iconst 0, 1) := by decide +kernel
theorem dX0_write_11 : decode cX0_write 11 = .ok (.istore_n 2, 1) := by decide +kernel
theorem dX0_write_12 : decode cX0_write 12 = .ok (.iload_n 2, 1) := by decide +kernel
theorem dX0_write_13 : decode cX0_write 13 = .ok (.aload_n 1, 1) := by decide +kernel
theorem dX0_write_14 : decode cX0_write 14 = .ok (.getfield 26, 3) := by decide +kernel
theorem dX0_write_17 : decode cX0_write 17 = .ok (.if_icmp .ge 56, 3) := by decide +kernel
theorem dX0_write_20 : decode cX0_write 20 = .ok (.aload_n 0, 1) := by decide +kernel
theorem dX0_write_21 : decode cX0_write 21 = .ok (.aload_n 1, 1) := by decide +kernel
theorem dX0_write_22 : decode cX0_write 22 = .ok (.getfield 31, 3) := by decide +kernel
theorem dX0_write_25 : decode cX0_write 25 = .ok (.iload_n 2, 1) := by decide +kernel
theorem dX0_write_26 : decode cX0_write 26 = .ok (.iaload, 1) := by decide +kernel
theorem dX0_write_27 : decode cX0_write 27 = .ok (.invokevirtual 34, 3) := by decide +kernel
theorem dX0_write_30 : decode cX0_write 30 = .ok (.aload_n 1, 1) := by decide +kernel
theorem dX0_write_31 : decode cX0_write 31 = .ok (.iload_n 2, 1) := by decide +kernel
theorem dX0_write_32 : decode cX0_write 32 = .ok (.invokevirtual 38, 3) := by decide +kernel
theorem dX0_write_35 : decode cX0_write 35 = .ok (.ifCond .ne 32, 3) := by decide +kernel
theorem dX0_write_38 : decode cX0_write 38 = .ok (.aload_n 0, 1) := by decide +kernel
theorem dX0_write_39 : decode cX0_write 39 = .ok (.getfield 15, 3) := by decide +kernel
theorem dX0_write_42 : decode cX0_write 42 = .ok (.aload_n 1, 1) := by decide +kernel
theorem dX0_write_43 : decode cX0_write 43 = .ok (.getfield 42, 3) := by decide +kernel
theorem dX0_write_46 : decode cX0_write 46 = .ok (.iload_n 2, 1) := by decide +kernel
theorem dX0_write_47 : decode cX0_write 47 = .ok (.iaload, 1) := by decide +kernel
theorem dX0_write_48 : decode cX0_write 48 = .ok (.iaload, 1) := by decide +kernel
theorem dX0_write_49 : decode cX0_write 49 = .ok (.istore_n 3, 1) := by decide +kernel
theorem dX0_write_50 : decode cX0_write 50 = .ok (.aload_n 0, 1) := by decide +kernel
theorem dX0_write_51 : decode cX0_write 51 = .ok (.iload_n 3, 1) := by decide +kernel
theorem dX0_write_52 : decode cX0_write 52 = .ok (.bipush 8, 2) := by decide +kernel
theorem dX0_write_54 : decode cX0_write 54 = .ok (.ishr, 1) := by decide +kernel
theorem dX0_write_55 : decode cX0_write 55 = .ok (.invokevirtual 34, 3) := by decide +kernel
theorem dX0_write_58 : decode cX0_write 58 = .ok (.aload_n 0, 1) := by decide +kernel
theorem dX0_write_59 : decode cX0_write 59 = .ok (.iload_n 3, 1) := by decide +kernel
theorem dX0_write_60 : decode cX0_write 60 = .ok (.sipush 255, 3) := by decide +kernel
theorem dX0_write_63 : decode cX0_write 63 = .ok (.iand, 1) := by decide +kernel
theorem dX0_write_64 : decode cX0_write 64 = .ok (.invokevirtual 34, 3) := by decide +kernel
theorem dX0_write_67 : decode cX0_write 67 = .ok (.iinc 2 1, 3) := by decide +kernel
theorem dX0_write_70 : decode cX0_write 70 = .ok (.goto (-58), 3) := by decide +kernel
theorem dX0_write_73 : decode cX0_write 73 = .ok (.return_, 1) := by decide +kernel
theorem dX0_setPlaces_0 : decode cX0_setPlaces 0 = .ok (.iconst 0, 1) := by decide +kernel
theorem dX0_setPlaces_1 : decode cX0_setPlaces 1 = .ok (.istore_n 2, 1) := by decide +kernel
theorem dX0_setPlaces_2 : decode cX0_setPlaces 2 = .ok (.iconst 0, 1) := by decide +kernel
theorem dX0_setPlaces_3 : decode cX0_setPlaces 3 = .ok (.istore_n 3, 1) := by decide +kernel
theorem dX0_setPlaces_4 : decode cX0_setPlaces 4 = .ok (.iload_n 3, 1) := by decide +kernel
theorem dX0_setPlaces_5 : decode cX0_setPlaces 5 = .ok (.aload_n 1, 1) := by decide +kernel
theorem dX0_setPlaces_6 : decode cX0_setPlaces 6 = .ok (.getfield 26, 3) := by decide +kernel
theorem dX0_setPlaces_9 : decode cX0_setPlaces 9 = .ok (.if_icmp .ge 32, 3) := by decide +kernel
theorem dX0_setPlaces_12 : decode cX0_setPlaces 12 = .ok (.aload_n 0, 1) := by decide +kernel
theorem dX0_setPlaces_13 : decode cX0_setPlaces 13 = .ok (.getfield 15, 3) := by decide +kernel
theorem dX0_setPlaces_16 : decode cX0_setPlaces 16 = .ok (.iload_n 3, 1) := by decide +kernel
theorem dX0_setPlaces_17 : decode cX0_setPlaces 17 = .ok (.iload_n 2, 1) := by decide +kernel
theorem dX0_setPlaces_18 : decode cX0_setPlaces 18 = .ok (.iastore, 1) := by decide +kernel
theorem dX0_setPlaces_19 : decode cX0_setPlaces 19 = .ok (.iload_n 2, 1) := by decide +kernel
theorem dX0_setPlaces_20 : decode cX0_setPlaces 20 = .ok (.aload_n 1, 1) := by decide +kernel
theorem dX0_setPlaces_21 : decode cX0_setPlaces 21 = .ok (.iload_n 3, 1) := by decide +kernel
theorem dX0_setPlaces_22 : decode cX0_setPlaces 22 = .ok (.invokevirtual 38, 3) := by decide +kernel
theorem dX0_setPlaces_25 : decode cX0_setPlaces 25 = .ok (.ifCond .eq 7, 3) := by decide +kernel
theorem dX0_setPlaces_28 : decode cX0_setPlaces 28 = .ok (.iconst 1, 1) := by decide +kernel
theorem dX0_setPlaces_29 : decode cX0_setPlaces 29 = .ok (.goto 4, 3) := by decide +kernel
theorem dX0_setPlaces_32 : decode cX0_setPlaces 32 = .ok (.iconst 3, 1) := by decide +kernel
theorem dX0_setPlaces_33 : decode cX0_setPlaces 33 = .ok (.iadd, 1) := by decide +kernel
theorem dX0_setPlaces_34 : decode cX0_setPlaces 34 = .ok (.istore_n 2, 1) := by decide +kernel
theorem dX0_setPlaces_35 : decode cX0_setPlaces 35 = .ok (.iinc 3 1, 3) := by decide +kernel
theorem dX0_setPlaces_38 : decode cX0_setPlaces 38 = .ok (.goto (-34), 3) := by decide +kernel
theorem dX0_setPlaces_41 : decode cX0_setPlaces 41 = .ok (.return_, 1) := by decide +kernel
theorem dX0_append_0 : decode cX0_append 0 = .ok (.aload_n 0, 1) := by decide +kernel
theorem dX0_append_1 : decode cX0_append 1 = .ok (.getfield 22, 3) := by decide +kernel
theorem dX0_append_4 : decode cX0_append 4 = .ok (.aload_n 0, 1) := by decide +kernel
theorem dX0_append_5 : decode cX0_append 5 = .ok (.getfield 9, 3) := by decide +kernel
theorem dX0_append_8 : decode cX0_append 8 = .ok (.arraylength, 1) := by decide +kernel
theorem dX0_append_9 : decode cX0_append 9 = .ok (.if_icmp .ge 23, 3) := by decide +kernel
theorem dX0_append_12 : decode cX0_append 12 = .ok (.aload_n 0, 1) := by decide +kernel
theorem dX0_append_13 : decode cX0_append 13 = .ok (.getfield 9, 3) := by decide +kernel
theorem dX0_append_16 : decode cX0_append 16 = .ok (.aload_n 0, 1) := by decide +kernel
theorem dX0_append_17 : decode cX0_append 17 = .ok (.getfield 22, 3) := by decide +kernel
theorem dX0_append_20 : decode cX0_append 20 = .ok (.iload_n 1, 1) := by decide +kernel
theorem dX0_append_21 : decode cX0_append 21 = .ok (.iastore, 1) := by decide +kernel
theorem dX0_append_22 : decode cX0_append 22 = .ok (.aload_n 0, 1) := by decide +kernel
theorem dX0_append_23 : decode cX0_append 23 = .ok (.dup, 1) := by decide +kernel
theorem dX0_append_24 : decode cX0_append 24 = .ok (.getfield 22, 3) := by decide +kernel
theorem dX0_append_27 : decode cX0_append 27 = .ok (.iconst 1, 1) := by decide +kernel
theorem dX0_append_28 : decode cX0_append 28 = .ok (.iadd, 1) := by decide +kernel
theorem dX0_append_29 : decode cX0_append 29 = .ok (.putfield 22, 3) := by decide +kernel
theorem dX0_append_32 : decode cX0_append 32 = .ok (.return_, 1) := by decide +kernel
theorem dX0_follow_0 : decode cX0_follow 0 = .ok (.iconst 0, 1) := by decide +kernel
theorem dX0_follow_1 : decode cX0_follow 1 = .ok (.istore_n 3, 1) := by decide +kernel
theorem dX0_follow_2 : decode cX0_follow 2 = .ok (.iconst 0, 1) := by decide +kernel
theorem dX0_follow_3 : decode cX0_follow 3 = .ok (.istore 4, 2) := by decide +kernel
theorem dX0_follow_5 : decode cX0_follow 5 = .ok (.iload 4, 2) := by decide +kernel
theorem dX0_follow_7 : decode cX0_follow 7 = .ok (.bipush 16, 2) := by decide +kernel
theorem dX0_follow_9 : decode cX0_follow 9 = .ok (.if_icmp .ge 83, 3) := by decide +kernel
theorem dX0_follow_12 : decode cX0_follow 12 = .ok (.iload_n 3, 1) := by decide +kernel
theorem dX0_follow_13 : decode cX0_follow 13 = .ok (.iconst 2, 1) := by decide +kernel
theorem dX0_follow_14 : decode cX0_follow 14 = .ok (.iadd, 1) := by decide +kernel
theorem dX0_follow_15 : decode cX0_follow 15 = .ok (.aload_n 0, 1) := by decide +kernel
theorem dX0_follow_16 : decode cX0_follow 16 = .ok (.getfield 22, 3) := by decide +kernel
theorem dX0_follow_19 : decode cX0_follow 19 = .ok (.if_icmp .ge 73, 3) := by decide +kernel
theorem dX0_follow_22 : decode cX0_follow 22 = .ok (.aload_n 0, 1) := by decide +kernel
theorem dX0_follow_23 : decode cX0_follow 23 = .ok (.getfield 9, 3) := by decide +kernel
theorem dX0_follow_26 : decode cX0_follow 26 = .ok (.iload_n 3, 1) := by decide +kernel
theorem dX0_follow_27 : decode cX0_follow 27 = .ok (.iaload, 1) := by decide +kernel
theorem dX0_follow_28 : decode cX0_follow 28 = .ok (.sipush 128, 3) := by decide +kernel
theorem dX0_follow_31 : decode cX0_follow 31 = .ok (.if_icmp .ge 61, 3) := by decide +kernel
theorem dX0_follow_34 : decode cX0_follow 34 = .ok (.iload_n 1, 1) := by decide +kernel
theorem dX0_follow_35 : decode cX0_follow 35 = .ok (.aload_n 0, 1) := by decide +kernel
theorem dX0_follow_36 : decode cX0_follow 36 = .ok (.getfield 9, 3) := by decide +kernel
theorem dX0_follow_39 : decode cX0_follow 39 = .ok (.iload_n 3, 1) := by decide +kernel
theorem dX0_follow_40 : decode cX0_follow 40 = .ok (.iaload, 1) := by decide +kernel
theorem dX0_follow_41 : decode cX0_follow 41 = .ok (.ishr, 1) := by decide +kernel
theorem dX0_follow_42 : decode cX0_follow 42 = .ok (.iconst 1, 1) := by decide +kernel
theorem dX0_follow_43 : decode cX0_follow 43 = .ok (.iand, 1) := by decide +kernel
theorem dX0_follow_44 : decode cX0_follow 44 = .ok (.ifCond .eq 7, 3) := by decide +kernel
theorem dX0_follow_47 : decode cX0_follow 47 = .ok (.iconst 1, 1) := by decide +kernel
theorem dX0_follow_48 : decode cX0_follow 48 = .ok (.goto 4, 3) := by decide +kernel
theorem dX0_follow_51 : decode cX0_follow 51 = .ok (.iconst 0, 1) := by decide +kernel
theorem dX0_follow_52 : decode cX0_follow 52 = .ok (.istore 5, 2) := by decide +kernel
theorem dX0_follow_54 : decode cX0_follow 54 = .ok (.iload 5, 2) := by decide +kernel
theorem dX0_follow_56 : decode cX0_follow 56 = .ok (.ifCond .eq 9, 3) := by decide +kernel
theorem dX0_follow_59 : decode cX0_follow 59 = .ok (.iload_n 3, 1) := by decide +kernel
theorem dX0_follow_60 : decode cX0_follow 60 = .ok (.iconst 3, 1) := by decide +kernel
theorem dX0_follow_61 : decode cX0_follow 61 = .ok (.iadd, 1) := by decide +kernel
theorem dX0_follow_62 : decode cX0_follow 62 = .ok (.goto 23, 3) := by decide +kernel
theorem dX0_follow_65 : decode cX0_follow 65 = .ok (.aload_n 0, 1) := by decide +kernel
theorem dX0_follow_66 : decode cX0_follow 66 = .ok (.getfield 9, 3) := by decide +kernel
theorem dX0_follow_69 : decode cX0_follow 69 = .ok (.iload_n 3, 1) := by decide +kernel
theorem dX0_follow_70 : decode cX0_follow 70 = .ok (.iconst 1, 1) := by decide +kernel
theorem dX0_follow_71 : decode cX0_follow 71 = .ok (.iadd, 1) := by decide +kernel
theorem dX0_follow_72 : decode cX0_follow 72 = .ok (.iaload, 1) := by decide +kernel
theorem dX0_follow_73 : decode cX0_follow 73 = .ok (.bipush 8, 2) := by decide +kernel
theorem dX0_follow_75 : decode cX0_follow 75 = .ok (.ishl, 1) := by decide +kernel
theorem dX0_follow_76 : decode cX0_follow 76 = .ok (.aload_n 0, 1) := by decide +kernel
theorem dX0_follow_77 : decode cX0_follow 77 = .ok (.getfield 9, 3) := by decide +kernel
theorem dX0_follow_80 : decode cX0_follow 80 = .ok (.iload_n 3, 1) := by decide +kernel
theorem dX0_follow_81 : decode cX0_follow 81 = .ok (.iconst 2, 1) := by decide +kernel
theorem dX0_follow_82 : decode cX0_follow 82 = .ok (.iadd, 1) := by decide +kernel
theorem dX0_follow_83 : decode cX0_follow 83 = .ok (.iaload, 1) := by decide +kernel
theorem dX0_follow_84 : decode cX0_follow 84 = .ok (.ior, 1) := by decide +kernel
theorem dX0_follow_85 : decode cX0_follow 85 = .ok (.istore_n 3, 1) := by decide +kernel
theorem dX0_follow_86 : decode cX0_follow 86 = .ok (.iinc 4 1, 3) := by decide +kernel
theorem dX0_follow_89 : decode cX0_follow 89 = .ok (.goto (-84), 3) := by decide +kernel
theorem dX0_follow_92 : decode cX0_follow 92 = .ok (.iload_n 2, 1) := by decide +kernel
theorem dX0_follow_93 : decode cX0_follow 93 = .ok (.ifCond .eq 6, 3) := by decide +kernel
theorem dX0_follow_96 : decode cX0_follow 96 = .ok (.iload 4, 2) := by decide +kernel
theorem dX0_follow_98 : decode cX0_follow 98 = .ok (.ireturn, 1) := by decide +kernel
theorem dX0_follow_99 : decode cX0_follow 99 = .ok (.iload_n 3, 1) := by decide +kernel
theorem dX0_follow_100 : decode cX0_follow 100 = .ok (.aload_n 0, 1) := by decide +kernel
theorem dX0_follow_101 : decode cX0_follow 101 = .ok (.getfield 22, 3) := by decide +kernel
theorem dX0_follow_104 : decode cX0_follow 104 = .ok (.if_icmp .ge 16, 3) := by decide +kernel
theorem dX0_follow_107 : decode cX0_follow 107 = .ok (.aload_n 0, 1) := by decide +kernel
theorem dX0_follow_108 : decode cX0_follow 108 = .ok (.getfield 9, 3) := by decide +kernel
theorem dX0_follow_111 : decode cX0_follow 111 = .ok (.iload_n 3, 1) := by decide +kernel
theorem dX0_follow_112 : decode cX0_follow 112 = .ok (.iaload, 1) := by decide +kernel
theorem dX0_follow_113 : decode cX0_follow 113 = .ok (.sipush 128, 3) := by decide +kernel
theorem dX0_follow_116 : decode cX0_follow 116 = .ok (.isub, 1) := by decide +kernel
theorem dX0_follow_117 : decode cX0_follow 117 = .ok (.goto 4, 3) := by decide +kernel
theorem dX0_follow_120 : decode cX0_follow 120 = .ok (.iconst (-1), 1) := by decide +kernel
theorem dX0_follow_121 : decode cX0_follow 121 = .ok (.ireturn, 1) := by decide +kernel
theorem dX1_init_0 : decode cX1_init 0 = .ok (.aload_n 0, 1) := by decide +kernel
theorem dX1_init_1 : decode cX1_init 1 = .ok (.invokespecial 3, 3) := by decide +kernel
theorem dX1_init_4 : decode cX1_init 4 = .ok (.aload_n 0, 1) := by decide +kernel
theorem dX1_init_5 : decode cX1_init 5 = .ok (.iload_n 1, 1) := by decide +kernel
theorem dX1_init_6 : decode cX1_init 6 = .ok (.newarray .long, 2) := by decide +kernel
theorem dX1_init_8 : decode cX1_init 8 = .ok (.putfield 9, 3) := by decide +kernel
theorem dX1_init_11 : decode cX1_init 11 = .ok (.return_, 1) := by decide +kernel
theorem dX1_letterOf_0 : decode cX1_letterOf 0 = .ok (.iload_n 0, 1) := by decide +kernel
theorem dX1_letterOf_1 : decode cX1_letterOf 1 = .ok (.bipush 97, 2) := by decide +kernel
theorem dX1_letterOf_3 : decode cX1_letterOf 3 = .ok (.if_icmp .lt 16, 3) := by decide +kernel
theorem dX1_letterOf_6 : decode cX1_letterOf 6 = .ok (.iload_n 0, 1) := by decide +kernel
theorem dX1_letterOf_7 : decode cX1_letterOf 7 = .ok (.bipush 122, 2) := by decide +kernel
theorem dX1_letterOf_9 : decode cX1_letterOf 9 = .ok (.if_icmp .gt 10, 3) := by decide +kernel
theorem dX1_letterOf_12 : decode cX1_letterOf 12 = .ok (.iload_n 0, 1) := by decide +kernel
theorem dX1_letterOf_13 : decode cX1_letterOf 13 = .ok (.bipush 97, 2) := by decide +kernel
theorem dX1_letterOf_15 : decode cX1_letterOf 15 = .ok (.isub, 1) := by decide +kernel
theorem dX1_letterOf_16 : decode cX1_letterOf 16 = .ok (.iconst 1, 1) := by decide +kernel
theorem dX1_letterOf_17 : decode cX1_letterOf 17 = .ok (.iadd, 1) := by decide +kernel
theorem dX1_letterOf_18 : decode cX1_letterOf 18 = .ok (.ireturn, 1) := by decide +kernel
theorem dX1_letterOf_19 : decode cX1_letterOf 19 = .ok (.iload_n 0, 1) := by decide +kernel
theorem dX1_letterOf_20 : decode cX1_letterOf 20 = .ok (.bipush 48, 2) := by decide +kernel
theorem dX1_letterOf_22 : decode cX1_letterOf 22 = .ok (.if_icmp .lt 19, 3) := by decide +kernel
theorem dX1_letterOf_25 : decode cX1_letterOf 25 = .ok (.iload_n 0, 1) := by decide +kernel
theorem dX1_letterOf_26 : decode cX1_letterOf 26 = .ok (.bipush 57, 2) := by decide +kernel
theorem dX1_letterOf_28 : decode cX1_letterOf 28 = .ok (.if_icmp .gt 13, 3) := by decide +kernel
theorem dX1_letterOf_31 : decode cX1_letterOf 31 = .ok (.iload_n 0, 1) := by decide +kernel
theorem dX1_letterOf_32 : decode cX1_letterOf 32 = .ok (.bipush 48, 2) := by decide +kernel
theorem dX1_letterOf_34 : decode cX1_letterOf 34 = .ok (.isub, 1) := by decide +kernel
theorem dX1_letterOf_35 : decode cX1_letterOf 35 = .ok (.bipush 27, 2) := by decide +kernel
theorem dX1_letterOf_37 : decode cX1_letterOf 37 = .ok (.iadd, 1) := by decide +kernel
theorem dX1_letterOf_38 : decode cX1_letterOf 38 = .ok (.goto 4, 3) := by decide +kernel
theorem dX1_letterOf_41 : decode cX1_letterOf 41 = .ok (.iconst 0, 1) := by decide +kernel
theorem dX1_letterOf_42 : decode cX1_letterOf 42 = .ok (.ireturn, 1) := by decide +kernel
theorem dX1_find_0 : decode cX1_find 0 = .ok (.iconst 0, 1) := by decide +kernel
theorem dX1_find_1 : decode cX1_find 1 = .ok (.istore_n 3, 1) := by decide +kernel
theorem dX1_find_2 : decode cX1_find 2 = .ok (.iload_n 3, 1) := by decide +kernel
theorem dX1_find_3 : decode cX1_find 3 = .ok (.aload_n 0, 1) := by decide +kernel
theorem dX1_find_4 : decode cX1_find 4 = .ok (.getfield 15, 3) := by decide +kernel
theorem dX1_find_7 : decode cX1_find 7 = .ok (.if_icmp .ge 22, 3) := by decide +kernel
theorem dX1_find_10 : decode cX1_find 10 = .ok (.aload_n 0, 1) := by decide +kernel
theorem dX1_find_11 : decode cX1_find 11 = .ok (.getfield 9, 3) := by decide +kernel
theorem dX1_find_14 : decode cX1_find 14 = .ok (.iload_n 3, 1) := by decide +kernel
theorem dX1_find_15 : decode cX1_find 15 = .ok (.laload, 1) := by decide +kernel
theorem dX1_find_16 : decode cX1_find 16 = .ok (.lload_n 1, 1) := by decide +kernel
theorem dX1_find_17 : decode cX1_find 17 = .ok (.lcmp, 1) := by decide +kernel
theorem dX1_find_18 : decode cX1_find 18 = .ok (.ifCond .ne 5, 3) := by decide +kernel
theorem dX1_find_21 : decode cX1_find 21 = .ok (.iload_n 3, 1) := by decide +kernel
theorem dX1_find_22 : decode cX1_find 22 = .ok (.ireturn, 1) := by decide +kernel
theorem dX1_find_23 : decode cX1_find 23 = .ok (.iinc 3 1, 3) := by decide +kernel
theorem dX1_find_26 : decode cX1_find 26 = .ok (.goto (-24), 3) := by decide +kernel
theorem dX1_find_29 : decode cX1_find 29 = .ok (.iconst (-1), 1) := by decide +kernel
theorem dX1_find_30 : decode cX1_find 30 = .ok (.ireturn, 1) := by decide +kernel
theorem dX1_add_0 : decode cX1_add 0 = .ok (.aload_n 0, 1) := by decide +kernel
theorem dX1_add_1 : decode cX1_add 1 = .ok (.getfield 15, 3) := by decide +kernel
theorem dX1_add_4 : decode cX1_add 4 = .ok (.aload_n 0, 1) := by decide +kernel
theorem dX1_add_5 : decode cX1_add 5 = .ok (.getfield 9, 3) := by decide +kernel
theorem dX1_add_8 : decode cX1_add 8 = .ok (.arraylength, 1) := by decide +kernel
theorem dX1_add_9 : decode cX1_add 9 = .ok (.if_icmp .lt 5, 3) := by decide +kernel
theorem dX1_add_12 : decode cX1_add 12 = .ok (.iconst 0, 1) := by decide +kernel
theorem dX1_add_13 : decode cX1_add 13 = .ok (.ireturn, 1) := by decide +kernel
theorem dX1_add_14 : decode cX1_add 14 = .ok (.aload_n 0, 1) := by decide +kernel
theorem dX1_add_15 : decode cX1_add 15 = .ok (.getfield 9, 3) := by decide +kernel
theorem dX1_add_18 : decode cX1_add 18 = .ok (.aload_n 0, 1) := by decide +kernel
theorem dX1_add_19 : decode cX1_add 19 = .ok (.getfield 15, 3) := by decide +kernel
theorem dX1_add_22 : decode cX1_add 22 = .ok (.lload_n 1, 1) := by decide +kernel
theorem dX1_add_23 : decode cX1_add 23 = .ok (.lastore, 1) := by decide +kernel
theorem dX1_add_24 : decode cX1_add 24 = .ok (.aload_n 0, 1) := by decide +kernel
theorem dX1_add_25 : decode cX1_add 25 = .ok (.dup, 1) := by decide +kernel
theorem dX1_add_26 : decode cX1_add 26 = .ok (.getfield 15, 3) := by decide +kernel
theorem dX1_add_29 : decode cX1_add 29 = .ok (.iconst 1, 1) := by decide +kernel
theorem dX1_add_30 : decode cX1_add 30 = .ok (.iadd, 1) := by decide +kernel
theorem dX1_add_31 : decode cX1_add 31 = .ok (.putfield 15, 3) := by decide +kernel
theorem dX1_add_34 : decode cX1_add 34 = .ok (.iconst 1, 1) := by decide +kernel
theorem dX1_add_35 : decode cX1_add 35 = .ok (.ireturn, 1) := by decide +kernel
theorem dX1_letterAt_0 : decode cX1_letterAt 0 = .ok (.aload_n 0, 1) := by decide +kernel
theorem dX1_letterAt_1 : decode cX1_letterAt 1 = .ok (.getfield 9, 3) := by decide +kernel
theorem dX1_letterAt_4 : decode cX1_letterAt 4 = .ok (.iload_n 1, 1) := by decide +kernel
theorem dX1_letterAt_5 : decode cX1_letterAt 5 = .ok (.laload, 1) := by decide +kernel
theorem dX1_letterAt_6 : decode cX1_letterAt 6 = .ok (.bipush 6, 2) := by decide +kernel
theorem dX1_letterAt_8 : decode cX1_letterAt 8 = .ok (.iload_n 2, 1) := by decide +kernel
theorem dX1_letterAt_9 : decode cX1_letterAt 9 = .ok (.imul, 1) := by decide +kernel
theorem dX1_letterAt_10 : decode cX1_letterAt 10 = .ok (.lushr, 1) := by decide +kernel
theorem dX1_letterAt_11 : decode cX1_letterAt 11 = .ok (.l2i, 1) := by decide +kernel
theorem dX1_letterAt_12 : decode cX1_letterAt 12 = .ok (.bipush 63, 2) := by decide +kernel
theorem dX1_letterAt_14 : decode cX1_letterAt 14 = .ok (.iand, 1) := by decide +kernel
theorem dX1_letterAt_15 : decode cX1_letterAt 15 = .ok (.ireturn, 1) := by decide +kernel
theorem dX1_lengthOf_0 : decode cX1_lengthOf 0 = .ok (.iconst 0, 1) := by decide +kernel
theorem dX1_lengthOf_1 : decode cX1_lengthOf 1 = .ok (.istore_n 2, 1) := by decide +kernel
theorem dX1_lengthOf_2 : decode cX1_lengthOf 2 = .ok (.iload_n 2, 1) := by decide +kernel
theorem dX1_lengthOf_3 : decode cX1_lengthOf 3 = .ok (.bipush 10, 2) := by decide +kernel
theorem dX1_lengthOf_5 : decode cX1_lengthOf 5 = .ok (.if_icmp .ge 18, 3) := by decide +kernel
theorem dX1_lengthOf_8 : decode cX1_lengthOf 8 = .ok (.aload_n 0, 1) := by decide +kernel
theorem dX1_lengthOf_9 : decode cX1_lengthOf 9 = .ok (.iload_n 1, 1) := by decide +kernel
theorem dX1_lengthOf_10 : decode cX1_lengthOf 10 = .ok (.iload_n 2, 1) := by decide +kernel
theorem dX1_lengthOf_11 : decode cX1_lengthOf 11 = .ok (.invokevirtual 19, 3) := by decide +kernel
theorem dX1_lengthOf_14 : decode cX1_lengthOf 14 = .ok (.ifCond .eq 9, 3) := by decide +kernel
theorem dX1_lengthOf_17 : decode cX1_lengthOf 17 = .ok (.iinc 2 1, 3) := by decide +kernel
theorem dX1_lengthOf_20 : decode cX1_lengthOf 20 = .ok (.goto (-18), 3) := by decide +kernel
theorem dX1_lengthOf_23 : decode cX1_lengthOf 23 = .ok (.iload_n 2, 1) := by decide +kernel
theorem dX1_lengthOf_24 : decode cX1_lengthOf 24 = .ok (.ireturn, 1) := by decide +kernel
theorem dX1_byteOf_0 : decode cX1_byteOf 0 = .ok (.aload_n 0, 1) := by decide +kernel
theorem dX1_byteOf_1 : decode cX1_byteOf 1 = .ok (.iload_n 1, 1) := by decide +kernel
theorem dX1_byteOf_2 : decode cX1_byteOf 2 = .ok (.iload_n 2, 1) := by decide +kernel
theorem dX1_byteOf_3 : decode cX1_byteOf 3 = .ok (.invokevirtual 19, 3) := by decide +kernel
theorem dX1_byteOf_6 : decode cX1_byteOf 6 = .ok (.istore_n 3, 1) := by decide +kernel
theorem dX1_byteOf_7 : decode cX1_byteOf 7 = .ok (.iload_n 3, 1) := by decide +kernel
theorem dX1_byteOf_8 : decode cX1_byteOf 8 = .ok (.bipush 26, 2) := by decide +kernel
theorem dX1_byteOf_10 : decode cX1_byteOf 10 = .ok (.if_icmp .gt 12, 3) := by decide +kernel
theorem dX1_byteOf_13 : decode cX1_byteOf 13 = .ok (.bipush 97, 2) := by decide +kernel
theorem dX1_byteOf_15 : decode cX1_byteOf 15 = .ok (.iload_n 3, 1) := by decide +kernel
theorem dX1_byteOf_16 : decode cX1_byteOf 16 = .ok (.iadd, 1) := by decide +kernel
theorem dX1_byteOf_17 : decode cX1_byteOf 17 = .ok (.iconst 1, 1) := by decide +kernel
theorem dX1_byteOf_18 : decode cX1_byteOf 18 = .ok (.isub, 1) := by decide +kernel
theorem dX1_byteOf_19 : decode cX1_byteOf 19 = .ok (.goto 10, 3) := by decide +kernel
theorem dX1_byteOf_22 : decode cX1_byteOf 22 = .ok (.bipush 48, 2) := by decide +kernel
theorem dX1_byteOf_24 : decode cX1_byteOf 24 = .ok (.iload_n 3, 1) := by decide +kernel
theorem dX1_byteOf_25 : decode cX1_byteOf 25 = .ok (.iadd, 1) := by decide +kernel
theorem dX1_byteOf_26 : decode cX1_byteOf 26 = .ok (.bipush 27, 2) := by decide +kernel
theorem dX1_byteOf_28 : decode cX1_byteOf 28 = .ok (.isub, 1) := by decide +kernel
theorem dX1_byteOf_29 : decode cX1_byteOf 29 = .ok (.ireturn, 1) := by decide +kernel
theorem dX2_init_0 : decode cX2_init 0 = .ok (.aload_n 0, 1) := by decide +kernel
theorem dX2_init_1 : decode cX2_init 1 = .ok (.invokespecial 3, 3) := by decide +kernel
theorem dX2_init_4 : decode cX2_init 4 = .ok (.aload_n 0, 1) := by decide +kernel
theorem dX2_init_5 : decode cX2_init 5 = .ok (.new 9, 3) := by decide +kernel
theorem dX2_init_8 : decode cX2_init 8 = .ok (.dup, 1) := by decide +kernel
theorem dX2_init_9 : decode cX2_init 9 = .ok (.bipush 16, 2) := by decide +kernel
theorem dX2_init_11 : decode cX2_init 11 = .ok (.invokespecial 11, 3) := by decide +kernel
theorem dX2_init_14 : decode cX2_init 14 = .ok (.putfield 14, 3) := by decide +kernel
theorem dX2_init_17 : decode cX2_init 17 = .ok (.aload_n 0, 1) := by decide +kernel
theorem dX2_init_18 : decode cX2_init 18 = .ok (.new 9, 3) := by decide +kernel
theorem dX2_init_21 : decode cX2_init 21 = .ok (.dup, 1) := by decide +kernel
theorem dX2_init_22 : decode cX2_init 22 = .ok (.bipush 64, 2) := by decide +kernel
theorem dX2_init_24 : decode cX2_init 24 = .ok (.invokespecial 11, 3) := by decide +kernel
theorem dX2_init_27 : decode cX2_init 27 = .ok (.putfield 20, 3) := by decide +kernel
theorem dX2_init_30 : decode cX2_init 30 = .ok (.aload_n 0, 1) := by decide +kernel
theorem dX2_init_31 : decode cX2_init 31 = .ok (.sipush 256, 3) := by decide +kernel
theorem dX2_init_34 : decode cX2_init 34 = .ok (.newarray .int, 2) := by decide +kernel
theorem dX2_init_36 : decode cX2_init 36 = .ok (.putfield 23, 3) := by decide +kernel
theorem dX2_init_39 : decode cX2_init 39 = .ok (.aload_n 0, 1) := by decide +kernel
theorem dX2_init_40 : decode cX2_init 40 = .ok (.sipush 256, 3) := by decide +kernel
theorem dX2_init_43 : decode cX2_init 43 = .ok (.newarray .int, 2) := by decide +kernel
theorem dX2_init_45 : decode cX2_init 45 = .ok (.putfield 27, 3) := by decide +kernel
theorem dX2_init_48 : decode cX2_init 48 = .ok (.aload_n 0, 1) := by decide +kernel
theorem dX2_init_49 : decode cX2_init 49 = .ok (.sipush 256, 3) := by decide +kernel
theorem dX2_init_52 : decode cX2_init 52 = .ok (.newarray .int, 2) := by decide +kernel
theorem dX2_init_54 : decode cX2_init 54 = .ok (.putfield 30, 3) := by decide +kernel
theorem dX2_init_57 : decode cX2_init 57 = .ok (.return_, 1) := by decide +kernel
theorem dX2_clear_0 : decode cX2_clear 0 = .ok (.aload_n 0, 1) := by decide +kernel
theorem dX2_clear_1 : decode cX2_clear 1 = .ok (.getfield 14, 3) := by decide +kernel
theorem dX2_clear_4 : decode cX2_clear 4 = .ok (.iconst 0, 1) := by decide +kernel
theorem dX2_clear_5 : decode cX2_clear 5 = .ok (.putfield 33, 3) := by decide +kernel
theorem dX2_clear_8 : decode cX2_clear 8 = .ok (.aload_n 0, 1) := by decide +kernel
theorem dX2_clear_9 : decode cX2_clear 9 = .ok (.getfield 20, 3) := by decide +kernel
theorem dX2_clear_12 : decode cX2_clear 12 = .ok (.iconst 0, 1) := by decide +kernel
theorem dX2_clear_13 : decode cX2_clear 13 = .ok (.putfield 33, 3) := by decide +kernel
theorem dX2_clear_16 : decode cX2_clear 16 = .ok (.aload_n 0, 1) := by decide +kernel
theorem dX2_clear_17 : decode cX2_clear 17 = .ok (.iconst 0, 1) := by decide +kernel
theorem dX2_clear_18 : decode cX2_clear 18 = .ok (.putfield 37, 3) := by decide +kernel
theorem dX2_clear_21 : decode cX2_clear 21 = .ok (.return_, 1) := by decide +kernel
theorem dX2_add_0 : decode cX2_add 0 = .ok (.aload_n 0, 1) := by decide +kernel
theorem dX2_add_1 : decode cX2_add 1 = .ok (.getfield 23, 3) := by decide +kernel
theorem dX2_add_4 : decode cX2_add 4 = .ok (.aload_n 0, 1) := by decide +kernel
theorem dX2_add_5 : decode cX2_add 5 = .ok (.getfield 37, 3) := by decide +kernel
theorem dX2_add_8 : decode cX2_add 8 = .ok (.iload_n 1, 1) := by decide +kernel
theorem dX2_add_9 : decode cX2_add 9 = .ok (.iastore, 1) := by decide +kernel
theorem dX2_add_10 : decode cX2_add 10 = .ok (.aload_n 0, 1) := by decide +kernel
theorem dX2_add_11 : decode cX2_add 11 = .ok (.getfield 27, 3) := by decide +kernel
theorem dX2_add_14 : decode cX2_add 14 = .ok (.aload_n 0, 1) := by decide +kernel
theorem dX2_add_15 : decode cX2_add 15 = .ok (.getfield 37, 3) := by decide +kernel
theorem dX2_add_18 : decode cX2_add 18 = .ok (.iload_n 2, 1) := by decide +kernel
theorem dX2_add_19 : decode cX2_add 19 = .ok (.iastore, 1) := by decide +kernel
theorem dX2_add_20 : decode cX2_add 20 = .ok (.aload_n 0, 1) := by decide +kernel
theorem dX2_add_21 : decode cX2_add 21 = .ok (.getfield 30, 3) := by decide +kernel
theorem dX2_add_24 : decode cX2_add 24 = .ok (.aload_n 0, 1) := by decide +kernel
theorem dX2_add_25 : decode cX2_add 25 = .ok (.getfield 37, 3) := by decide +kernel
theorem dX2_add_28 : decode cX2_add 28 = .ok (.iload_n 3, 1) := by decide +kernel
theorem dX2_add_29 : decode cX2_add 29 = .ok (.iastore, 1) := by decide +kernel
theorem dX2_add_30 : decode cX2_add 30 = .ok (.aload_n 0, 1) := by decide +kernel
theorem dX2_add_31 : decode cX2_add 31 = .ok (.dup, 1) := by decide +kernel
theorem dX2_add_32 : decode cX2_add 32 = .ok (.getfield 37, 3) := by decide +kernel
theorem dX2_add_35 : decode cX2_add 35 = .ok (.iconst 1, 1) := by decide +kernel
theorem dX2_add_36 : decode cX2_add 36 = .ok (.iadd, 1) := by decide +kernel
theorem dX2_add_37 : decode cX2_add 37 = .ok (.putfield 37, 3) := by decide +kernel
theorem dX2_add_40 : decode cX2_add 40 = .ok (.return_, 1) := by decide +kernel
theorem dX2_caseCount_0 : decode cX2_caseCount 0 = .ok (.iconst 1, 1) := by decide +kernel
theorem dX2_caseCount_1 : decode cX2_caseCount 1 = .ok (.aload_n 0, 1) := by decide +kernel
theorem dX2_caseCount_2 : decode cX2_caseCount 2 = .ok (.getfield 14, 3) := by decide +kernel
theorem dX2_caseCount_5 : decode cX2_caseCount 5 = .ok (.getfield 33, 3) := by decide +kernel
theorem dX2_caseCount_8 : decode cX2_caseCount 8 = .ok (.ishl, 1) := by decide +kernel
theorem dX2_caseCount_9 : decode cX2_caseCount 9 = .ok (.ireturn, 1) := by decide +kernel
theorem dX2_markOf_0 : decode cX2_markOf 0 = .ok (.aload_n 0, 1) := by decide +kernel
theorem dX2_markOf_1 : decode cX2_markOf 1 = .ok (.getfield 23, 3) := by decide +kernel
theorem dX2_markOf_4 : decode cX2_markOf 4 = .ok (.iload_n 1, 1) := by decide +kernel
theorem dX2_markOf_5 : decode cX2_markOf 5 = .ok (.iaload, 1) := by decide +kernel
theorem dX2_markOf_6 : decode cX2_markOf 6 = .ok (.iload_n 2, 1) := by decide +kernel
theorem dX2_markOf_7 : decode cX2_markOf 7 = .ok (.iand, 1) := by decide +kernel
theorem dX2_markOf_8 : decode cX2_markOf 8 = .ok (.ifCond .eq 5, 3) := by decide +kernel
theorem dX2_markOf_11 : decode cX2_markOf 11 = .ok (.iconst 1, 1) := by decide +kernel
theorem dX2_markOf_12 : decode cX2_markOf 12 = .ok (.ireturn, 1) := by decide +kernel
theorem dX2_markOf_13 : decode cX2_markOf 13 = .ok (.aload_n 0, 1) := by decide +kernel
theorem dX2_markOf_14 : decode cX2_markOf 14 = .ok (.getfield 27, 3) := by decide +kernel
theorem dX2_markOf_17 : decode cX2_markOf 17 = .ok (.iload_n 1, 1) := by decide +kernel
theorem dX2_markOf_18 : decode cX2_markOf 18 = .ok (.iaload, 1) := by decide +kernel
theorem dX2_markOf_19 : decode cX2_markOf 19 = .ok (.iload_n 2, 1) := by decide +kernel
theorem dX2_markOf_20 : decode cX2_markOf 20 = .ok (.iand, 1) := by decide +kernel
theorem dX2_markOf_21 : decode cX2_markOf 21 = .ok (.ifCond .eq 7, 3) := by decide +kernel
theorem dX2_markOf_24 : decode cX2_markOf 24 = .ok (.iconst 0, 1) := by decide +kernel
theorem dX2_markOf_25 : decode cX2_markOf 25 = .ok (.goto 4, 3) := by decide +kernel
theorem dX2_markOf_28 : decode cX2_markOf 28 = .ok (.iconst 2, 1) := by decide +kernel
theorem dX2_markOf_29 : decode cX2_markOf 29 = .ok (.ireturn, 1) := by decide +kernel
theorem dX2_firstThatMeets_0 : decode cX2_firstThatMeets 0 = .ok (.iconst 0, 1) := by decide +kernel
theorem dX2_firstThatMeets_1 : decode cX2_firstThatMeets 1 = .ok (.istore_n 2, 1) := by decide +kernel
theorem dX2_firstThatMeets_2 : decode cX2_firstThatMeets 2 = .ok (.iload_n 2, 1) := by decide +kernel
theorem dX2_firstThatMeets_3 : decode cX2_firstThatMeets 3 = .ok (.aload_n 0, 1) := by decide +kernel
theorem dX2_firstThatMeets_4 : decode cX2_firstThatMeets 4 = .ok (.getfield 37, 3) := by decide +kernel
theorem dX2_firstThatMeets_7 : decode cX2_firstThatMeets 7 = .ok (.if_icmp .ge 39, 3) := by decide +kernel
theorem dX2_firstThatMeets_10 : decode cX2_firstThatMeets 10 = .ok (.iload_n 1, 1) := by decide +kernel
theorem dX2_firstThatMeets_11 : decode cX2_firstThatMeets 11 = .ok (.aload_n 0, 1) := by decide +kernel
theorem dX2_firstThatMeets_12 : decode cX2_firstThatMeets 12 = .ok (.getfield 23, 3) := by decide +kernel
theorem dX2_firstThatMeets_15 : decode cX2_firstThatMeets 15 = .ok (.iload_n 2, 1) := by decide +kernel
theorem dX2_firstThatMeets_16 : decode cX2_firstThatMeets 16 = .ok (.iaload, 1) := by decide +kernel
theorem dX2_firstThatMeets_17 : decode cX2_firstThatMeets 17 = .ok (.iand, 1) := by decide +kernel
theorem dX2_firstThatMeets_18 : decode cX2_firstThatMeets 18 = .ok (.aload_n 0, 1) := by decide +kernel
theorem dX2_firstThatMeets_19 : decode cX2_firstThatMeets 19 = .ok (.getfield 23, 3) := by decide +kernel
theorem dX2_firstThatMeets_22 : decode cX2_firstThatMeets 22 = .ok (.iload_n 2, 1) := by decide +kernel
theorem dX2_firstThatMeets_23 : decode cX2_firstThatMeets 23 = .ok (.iaload, 1) := by decide +kernel
theorem dX2_firstThatMeets_24 : decode cX2_firstThatMeets 24 = .ok (.if_icmp .ne 16, 3) := by decide +kernel
theorem dX2_firstThatMeets_27 : decode cX2_firstThatMeets 27 = .ok (.iload_n 1, 1) := by decide +kernel
theorem dX2_firstThatMeets_28 : decode cX2_firstThatMeets 28 = .ok (.aload_n 0, 1) := by decide +kernel
theorem dX2_firstThatMeets_29 : decode cX2_firstThatMeets 29 = .ok (.getfield 27, 3) := by decide +kernel
theorem dX2_firstThatMeets_32 : decode cX2_firstThatMeets 32 = .ok (.iload_n 2, 1) := by decide +kernel
theorem dX2_firstThatMeets_33 : decode cX2_firstThatMeets 33 = .ok (.iaload, 1) := by decide +kernel
theorem dX2_firstThatMeets_34 : decode cX2_firstThatMeets 34 = .ok (.iand, 1) := by decide +kernel
theorem dX2_firstThatMeets_35 : decode cX2_firstThatMeets 35 = .ok (.ifCond .ne 5, 3) := by decide +kernel
theorem dX2_firstThatMeets_38 : decode cX2_firstThatMeets 38 = .ok (.iload_n 2, 1) := by decide +kernel
theorem dX2_firstThatMeets_39 : decode cX2_firstThatMeets 39 = .ok (.ireturn, 1) := by decide +kernel
theorem dX2_firstThatMeets_40 : decode cX2_firstThatMeets 40 = .ok (.iinc 2 1, 3) := by decide +kernel
theorem dX2_firstThatMeets_43 : decode cX2_firstThatMeets 43 = .ok (.goto (-41), 3) := by decide +kernel
theorem dX2_firstThatMeets_46 : decode cX2_firstThatMeets 46 = .ok (.iconst (-1), 1) := by decide +kernel
theorem dX2_firstThatMeets_47 : decode cX2_firstThatMeets 47 = .ok (.ireturn, 1) := by decide +kernel
theorem dX2_contradict_0 : decode cX2_contradict 0 = .ok (.aload_n 0, 1) := by decide +kernel
theorem dX2_contradict_1 : decode cX2_contradict 1 = .ok (.getfield 30, 3) := by decide +kernel
theorem dX2_contradict_4 : decode cX2_contradict 4 = .ok (.iload_n 1, 1) := by decide +kernel
theorem dX2_contradict_5 : decode cX2_contradict 5 = .ok (.iaload, 1) := by decide +kernel
theorem dX2_contradict_6 : decode cX2_contradict 6 = .ok (.aload_n 0, 1) := by decide +kernel
theorem dX2_contradict_7 : decode cX2_contradict 7 = .ok (.getfield 30, 3) := by decide +kernel
theorem dX2_contradict_10 : decode cX2_contradict 10 = .ok (.iload_n 2, 1) := by decide +kernel
theorem dX2_contradict_11 : decode cX2_contradict 11 = .ok (.iaload, 1) := by decide +kernel
theorem dX2_contradict_12 : decode cX2_contradict 12 = .ok (.if_icmp .eq 39, 3) := by decide +kernel
theorem dX2_contradict_15 : decode cX2_contradict 15 = .ok (.aload_n 0, 1) := by decide +kernel
theorem dX2_contradict_16 : decode cX2_contradict 16 = .ok (.getfield 23, 3) := by decide +kernel
theorem dX2_contradict_19 : decode cX2_contradict 19 = .ok (.iload_n 1, 1) := by decide +kernel
theorem dX2_contradict_20 : decode cX2_contradict 20 = .ok (.iaload, 1) := by decide +kernel
theorem dX2_contradict_21 : decode cX2_contradict 21 = .ok (.aload_n 0, 1) := by decide +kernel
theorem dX2_contradict_22 : decode cX2_contradict 22 = .ok (.getfield 27, 3) := by decide +kernel
theorem dX2_contradict_25 : decode cX2_contradict 25 = .ok (.iload_n 2, 1) := by decide +kernel
theorem dX2_contradict_26 : decode cX2_contradict 26 = .ok (.iaload, 1) := by decide +kernel
theorem dX2_contradict_27 : decode cX2_contradict 27 = .ok (.iand, 1) := by decide +kernel
theorem dX2_contradict_28 : decode cX2_contradict 28 = .ok (.ifCond .ne 23, 3) := by decide +kernel
theorem dX2_contradict_31 : decode cX2_contradict 31 = .ok (.aload_n 0, 1) := by decide +kernel
theorem dX2_contradict_32 : decode cX2_contradict 32 = .ok (.getfield 27, 3) := by decide +kernel
theorem dX2_contradict_35 : decode cX2_contradict 35 = .ok (.iload_n 1, 1) := by decide +kernel
theorem dX2_contradict_36 : decode cX2_contradict 36 = .ok (.iaload, 1) := by decide +kernel
theorem dX2_contradict_37 : decode cX2_contradict 37 = .ok (.aload_n 0, 1) := by decide +kernel
theorem dX2_contradict_38 : decode cX2_contradict 38 = .ok (.getfield 23, 3) := by decide +kernel
theorem dX2_contradict_41 : decode cX2_contradict 41 = .ok (.iload_n 2, 1) := by decide +kernel
theorem dX2_contradict_42 : decode cX2_contradict 42 = .ok (.iaload, 1) := by decide +kernel
theorem dX2_contradict_43 : decode cX2_contradict 43 = .ok (.iand, 1) := by decide +kernel
theorem dX2_contradict_44 : decode cX2_contradict 44 = .ok (.ifCond .ne 7, 3) := by decide +kernel
theorem dX2_contradict_47 : decode cX2_contradict 47 = .ok (.iconst 1, 1) := by decide +kernel
theorem dX2_contradict_48 : decode cX2_contradict 48 = .ok (.goto 4, 3) := by decide +kernel
theorem dX2_contradict_51 : decode cX2_contradict 51 = .ok (.iconst 0, 1) := by decide +kernel
theorem dX2_contradict_52 : decode cX2_contradict 52 = .ok (.ireturn, 1) := by decide +kernel
theorem dX3_init_0 : decode cX3_init 0 = .ok (.aload_n 0, 1) := by decide +kernel
theorem dX3_init_1 : decode cX3_init 1 = .ok (.invokespecial 3, 3) := by decide +kernel
theorem dX3_init_4 : decode cX3_init 4 = .ok (.aload_n 0, 1) := by decide +kernel
theorem dX3_init_5 : decode cX3_init 5 = .ok (.sipush 1000, 3) := by decide +kernel
theorem dX3_init_8 : decode cX3_init 8 = .ok (.newarray .long, 2) := by decide +kernel
theorem dX3_init_10 : decode cX3_init 10 = .ok (.putfield 9, 3) := by decide +kernel
theorem dX3_init_13 : decode cX3_init 13 = .ok (.return_, 1) := by decide +kernel
theorem dX3_append_0 : decode cX3_append 0 = .ok (.bipush 8, 2) := by decide +kernel
theorem dX3_append_2 : decode cX3_append 2 = .ok (.aload_n 0, 1) := by decide +kernel
theorem dX3_append_3 : decode cX3_append 3 = .ok (.getfield 15, 3) := by decide +kernel
theorem dX3_append_6 : decode cX3_append 6 = .ok (.bipush 7, 2) := by decide +kernel
theorem dX3_append_8 : decode cX3_append 8 = .ok (.iand, 1) := by decide +kernel
theorem dX3_append_9 : decode cX3_append 9 = .ok (.imul, 1) := by decide +kernel
theorem dX3_append_10 : decode cX3_append 10 = .ok (.istore_n 2, 1) := by decide +kernel
theorem dX3_append_11 : decode cX3_append 11 = .ok (.aload_n 0, 1) := by decide +kernel
theorem dX3_append_12 : decode cX3_append 12 = .ok (.getfield 9, 3) := by decide +kernel
theorem dX3_append_15 : decode cX3_append 15 = .ok (.aload_n 0, 1) := by decide +kernel
theorem dX3_append_16 : decode cX3_append 16 = .ok (.getfield 15, 3) := by decide +kernel
theorem dX3_append_19 : decode cX3_append 19 = .ok (.iconst 3, 1) := by decide +kernel
theorem dX3_append_20 : decode cX3_append 20 = .ok (.ishr, 1) := by decide +kernel
theorem dX3_append_21 : decode cX3_append 21 = .ok (.laload, 1) := by decide +kernel
theorem dX3_append_22 : decode cX3_append 22 = .ok (.ldc2_w 19, 3) := by decide +kernel
theorem dX3_append_25 : decode cX3_append 25 = .ok (.iload_n 2, 1) := by decide +kernel
theorem dX3_append_26 : decode cX3_append 26 = .ok (.lshl, 1) := by decide +kernel
theorem dX3_append_27 : decode cX3_append 27 = .ok (.ldc2_w 21, 3) := by decide +kernel
theorem dX3_append_30 : decode cX3_append 30 = .ok (.lxor, 1) := by decide +kernel
theorem dX3_append_31 : decode cX3_append 31 = .ok (.land, 1) := by decide +kernel
theorem dX3_append_32 : decode cX3_append 32 = .ok (.lstore_n 3, 1) := by decide +kernel
theorem dX3_append_33 : decode cX3_append 33 = .ok (.aload_n 0, 1) := by decide +kernel
theorem dX3_append_34 : decode cX3_append 34 = .ok (.getfield 9, 3) := by decide +kernel
theorem dX3_append_37 : decode cX3_append 37 = .ok (.aload_n 0, 1) := by decide +kernel
theorem dX3_append_38 : decode cX3_append 38 = .ok (.getfield 15, 3) := by decide +kernel
theorem dX3_append_41 : decode cX3_append 41 = .ok (.iconst 3, 1) := by decide +kernel
theorem dX3_append_42 : decode cX3_append 42 = .ok (.ishr, 1) := by decide +kernel
theorem dX3_append_43 : decode cX3_append 43 = .ok (.lload_n 3, 1) := by decide +kernel
theorem dX3_append_44 : decode cX3_append 44 = .ok (.iload_n 1, 1) := by decide +kernel
theorem dX3_append_45 : decode cX3_append 45 = .ok (.i2l, 1) := by decide +kernel
theorem dX3_append_46 : decode cX3_append 46 = .ok (.iload_n 2, 1) := by decide +kernel
theorem dX3_append_47 : decode cX3_append 47 = .ok (.lshl, 1) := by decide +kernel
theorem dX3_append_48 : decode cX3_append 48 = .ok (.lor, 1) := by decide +kernel
theorem dX3_append_49 : decode cX3_append 49 = .ok (.lastore, 1) := by decide +kernel
theorem dX3_append_50 : decode cX3_append 50 = .ok (.aload_n 0, 1) := by decide +kernel
theorem dX3_append_51 : decode cX3_append 51 = .ok (.dup, 1) := by decide +kernel
theorem dX3_append_52 : decode cX3_append 52 = .ok (.getfield 15, 3) := by decide +kernel
theorem dX3_append_55 : decode cX3_append 55 = .ok (.iconst 1, 1) := by decide +kernel
theorem dX3_append_56 : decode cX3_append 56 = .ok (.iadd, 1) := by decide +kernel
theorem dX3_append_57 : decode cX3_append 57 = .ok (.putfield 15, 3) := by decide +kernel
theorem dX3_append_60 : decode cX3_append 60 = .ok (.return_, 1) := by decide +kernel
theorem dX3_byteAt_0 : decode cX3_byteAt 0 = .ok (.aload_n 0, 1) := by decide +kernel
theorem dX3_byteAt_1 : decode cX3_byteAt 1 = .ok (.getfield 9, 3) := by decide +kernel
theorem dX3_byteAt_4 : decode cX3_byteAt 4 = .ok (.iload_n 1, 1) := by decide +kernel
theorem dX3_byteAt_5 : decode cX3_byteAt 5 = .ok (.iconst 3, 1) := by decide +kernel
theorem dX3_byteAt_6 : decode cX3_byteAt 6 = .ok (.ishr, 1) := by decide +kernel
theorem dX3_byteAt_7 : decode cX3_byteAt 7 = .ok (.laload, 1) := by decide +kernel
theorem dX3_byteAt_8 : decode cX3_byteAt 8 = .ok (.bipush 8, 2) := by decide +kernel
theorem dX3_byteAt_10 : decode cX3_byteAt 10 = .ok (.iload_n 1, 1) := by decide +kernel
theorem dX3_byteAt_11 : decode cX3_byteAt 11 = .ok (.bipush 7, 2) := by decide +kernel
theorem dX3_byteAt_13 : decode cX3_byteAt 13 = .ok (.iand, 1) := by decide +kernel
theorem dX3_byteAt_14 : decode cX3_byteAt 14 = .ok (.imul, 1) := by decide +kernel
theorem dX3_byteAt_15 : decode cX3_byteAt 15 = .ok (.lushr, 1) := by decide +kernel
theorem dX3_byteAt_16 : decode cX3_byteAt 16 = .ok (.l2i, 1) := by decide +kernel
theorem dX3_byteAt_17 : decode cX3_byteAt 17 = .ok (.sipush 255, 3) := by decide +kernel
theorem dX3_byteAt_20 : decode cX3_byteAt 20 = .ok (.iand, 1) := by decide +kernel
theorem dX3_byteAt_21 : decode cX3_byteAt 21 = .ok (.ireturn, 1) := by decide +kernel
theorem dX3_parse_0 : decode cX3_parse 0 = .ok (.aload_n 0, 1) := by decide +kernel
theorem dX3_parse_1 : decode cX3_parse 1 = .ok (.iconst 0, 1) := by decide +kernel
theorem dX3_parse_2 : decode cX3_parse 2 = .ok (.putfield 23, 3) := by decide +kernel
theorem dX3_parse_5 : decode cX3_parse 5 = .ok (.aload_n 0, 1) := by decide +kernel
theorem dX3_parse_6 : decode cX3_parse 6 = .ok (.iconst 0, 1) := by decide +kernel
theorem dX3_parse_7 : decode cX3_parse 7 = .ok (.putfield 26, 3) := by decide +kernel
theorem dX3_parse_10 : decode cX3_parse 10 = .ok (.aload_n 1, 1) := by decide +kernel
theorem dX3_parse_11 : decode cX3_parse 11 = .ok (.invokevirtual 29, 3) := by decide +kernel
theorem dX3_parse_14 : decode cX3_parse 14 = .ok (.aload_n 0, 1) := by decide +kernel
theorem dX3_parse_15 : decode cX3_parse 15 = .ok (.invokevirtual 34, 3) := by decide +kernel
theorem dX3_parse_18 : decode cX3_parse 18 = .ok (.ifCond .eq 33, 3) := by decide +kernel
theorem dX3_parse_21 : decode cX3_parse 21 = .ok (.aload_n 0, 1) := by decide +kernel
theorem dX3_parse_22 : decode cX3_parse 22 = .ok (.ldc2_w 38, 3) := by decide +kernel
theorem dX3_parse_25 : decode cX3_parse 25 = .ok (.invokevirtual 40, 3) := by decide +kernel
theorem dX3_parse_28 : decode cX3_parse 28 = .ok (.ifCond .eq 23, 3) := by decide +kernel
theorem dX3_parse_31 : decode cX3_parse 31 = .ok (.aload_n 0, 1) := by decide +kernel
theorem dX3_parse_32 : decode cX3_parse 32 = .ok (.aload_n 1, 1) := by decide +kernel
theorem dX3_parse_33 : decode cX3_parse 33 = .ok (.invokevirtual 44, 3) := by decide +kernel
theorem dX3_parse_36 : decode cX3_parse 36 = .ok (.ifCond .eq 15, 3) := by decide +kernel
theorem dX3_parse_39 : decode cX3_parse 39 = .ok (.aload_n 0, 1) := by decide +kernel
theorem dX3_parse_40 : decode cX3_parse 40 = .ok (.aload_n 1, 1) := by decide +kernel
theorem dX3_parse_41 : decode cX3_parse 41 = .ok (.invokevirtual 48, 3) := by decide +kernel
theorem dX3_parse_44 : decode cX3_parse 44 = .ok (.ifCond .eq 7, 3) := by decide +kernel
theorem dX3_parse_47 : decode cX3_parse 47 = .ok (.iconst 1, 1) := by decide +kernel
theorem dX3_parse_48 : decode cX3_parse 48 = .ok (.goto 4, 3) := by decide +kernel
theorem dX3_parse_51 : decode cX3_parse 51 = .ok (.iconst 0, 1) := by decide +kernel
theorem dX3_parse_52 : decode cX3_parse 52 = .ok (.ireturn, 1) := by decide +kernel
theorem dX3_fail_0 : decode cX3_fail 0 = .ok (.aload_n 0, 1) := by decide +kernel
theorem dX3_fail_1 : decode cX3_fail 1 = .ok (.iload_n 1, 1) := by decide +kernel
theorem dX3_fail_2 : decode cX3_fail 2 = .ok (.putfield 26, 3) := by decide +kernel
theorem dX3_fail_5 : decode cX3_fail 5 = .ok (.aload_n 0, 1) := by decide +kernel
theorem dX3_fail_6 : decode cX3_fail 6 = .ok (.iload_n 2, 1) := by decide +kernel
theorem dX3_fail_7 : decode cX3_fail 7 = .ok (.putfield 51, 3) := by decide +kernel
theorem dX3_fail_10 : decode cX3_fail 10 = .ok (.iconst 0, 1) := by decide +kernel
theorem dX3_fail_11 : decode cX3_fail 11 = .ok (.ireturn, 1) := by decide +kernel
theorem dX3_look_0 : decode cX3_look 0 = .ok (.aload_n 0, 1) := by decide +kernel
theorem dX3_look_1 : decode cX3_look 1 = .ok (.getfield 23, 3) := by decide +kernel
theorem dX3_look_4 : decode cX3_look 4 = .ok (.aload_n 0, 1) := by decide +kernel
theorem dX3_look_5 : decode cX3_look 5 = .ok (.getfield 15, 3) := by decide +kernel
theorem dX3_look_8 : decode cX3_look 8 = .ok (.if_icmp .ge 51, 3) := by decide +kernel
theorem dX3_look_11 : decode cX3_look 11 = .ok (.aload_n 0, 1) := by decide +kernel
theorem dX3_look_12 : decode cX3_look 12 = .ok (.aload_n 0, 1) := by decide +kernel
theorem dX3_look_13 : decode cX3_look 13 = .ok (.getfield 23, 3) := by decide +kernel
theorem dX3_look_16 : decode cX3_look 16 = .ok (.invokevirtual 54, 3) := by decide +kernel
theorem dX3_look_19 : decode cX3_look 19 = .ok (.istore_n 1, 1) := by decide +kernel
theorem dX3_look_20 : decode cX3_look 20 = .ok (.iload_n 1, 1) := by decide +kernel
theorem dX3_look_21 : decode cX3_look 21 = .ok (.bipush 9, 2) := by decide +kernel
theorem dX3_look_23 : decode cX3_look 23 = .ok (.if_icmp .eq 23, 3) := by decide +kernel
theorem dX3_look_26 : decode cX3_look 26 = .ok (.iload_n 1, 1) := by decide +kernel
theorem dX3_look_27 : decode cX3_look 27 = .ok (.bipush 10, 2) := by decide +kernel
theorem dX3_look_29 : decode cX3_look 29 = .ok (.if_icmp .eq 17, 3) := by decide +kernel
theorem dX3_look_32 : decode cX3_look 32 = .ok (.iload_n 1, 1) := by decide +kernel
theorem dX3_look_33 : decode cX3_look 33 = .ok (.bipush 13, 2) := by decide +kernel
theorem dX3_look_35 : decode cX3_look 35 = .ok (.if_icmp .eq 11, 3) := by decide +kernel
theorem dX3_look_38 : decode cX3_look 38 = .ok (.iload_n 1, 1) := by decide +kernel
theorem dX3_look_39 : decode cX3_look 39 = .ok (.bipush 32, 2) := by decide +kernel
theorem dX3_look_41 : decode cX3_look 41 = .ok (.if_icmp .eq 5, 3) := by decide +kernel
theorem dX3_look_44 : decode cX3_look 44 = .ok (.iload_n 1, 1) := by decide +kernel
theorem dX3_look_45 : decode cX3_look 45 = .ok (.ireturn, 1) := by decide +kernel
theorem dX3_look_46 : decode cX3_look 46 = .ok (.aload_n 0, 1) := by decide +kernel
theorem dX3_look_47 : decode cX3_look 47 = .ok (.dup, 1) := by decide +kernel
theorem dX3_look_48 : decode cX3_look 48 = .ok (.getfield 23, 3) := by decide +kernel
theorem dX3_look_51 : decode cX3_look 51 = .ok (.iconst 1, 1) := by decide +kernel
theorem dX3_look_52 : decode cX3_look 52 = .ok (.iadd, 1) := by decide +kernel
theorem dX3_look_53 : decode cX3_look 53 = .ok (.putfield 23, 3) := by decide +kernel
theorem dX3_look_56 : decode cX3_look 56 = .ok (.goto (-56), 3) := by decide +kernel
theorem dX3_look_59 : decode cX3_look 59 = .ok (.iconst (-1), 1) := by decide +kernel
theorem dX3_look_60 : decode cX3_look 60 = .ok (.ireturn, 1) := by decide +kernel
theorem dX3_passByte_0 : decode cX3_passByte 0 = .ok (.aload_n 0, 1) := by decide +kernel
theorem dX3_passByte_1 : decode cX3_passByte 1 = .ok (.invokevirtual 58, 3) := by decide +kernel
theorem dX3_passByte_4 : decode cX3_passByte 4 = .ok (.iload_n 1, 1) := by decide +kernel
theorem dX3_passByte_5 : decode cX3_passByte 5 = .ok (.if_icmp .eq 13, 3) := by decide +kernel
theorem dX3_passByte_8 : decode cX3_passByte 8 = .ok (.aload_n 0, 1) := by decide +kernel
theorem dX3_passByte_9 : decode cX3_passByte 9 = .ok (.iconst 1, 1) := by decide +kernel
theorem dX3_passByte_10 : decode cX3_passByte 10 = .ok (.aload_n 0, 1) := by decide +kernel
theorem dX3_passByte_11 : decode cX3_passByte 11 = .ok (.getfield 23, 3) := by decide +kernel
theorem dX3_passByte_14 : decode cX3_passByte 14 = .ok (.invokevirtual 62, 3) := by decide +kernel
theorem dX3_passByte_17 : decode cX3_passByte 17 = .ok (.ireturn, 1) := by decide +kernel
theorem dX3_passByte_18 : decode cX3_passByte 18 = .ok (.aload_n 0, 1) := by decide +kernel
theorem dX3_passByte_19 : decode cX3_passByte 19 = .ok (.dup, 1) := by decide +kernel
theorem dX3_passByte_20 : decode cX3_passByte 20 = .ok (.getfield 23, 3) := by decide +kernel
theorem dX3_passByte_23 : decode cX3_passByte 23 = .ok (.iconst 1, 1) := by decide +kernel
theorem dX3_passByte_24 : decode cX3_passByte 24 = .ok (.iadd, 1) := by decide +kernel
theorem dX3_passByte_25 : decode cX3_passByte 25 = .ok (.putfield 23, 3) := by decide +kernel
theorem dX3_passByte_28 : decode cX3_passByte 28 = .ok (.iconst 1, 1) := by decide +kernel
theorem dX3_passByte_29 : decode cX3_passByte 29 = .ok (.ireturn, 1) := by decide +kernel
theorem dX3_passName_0 : decode cX3_passName 0 = .ok (.aload_n 0, 1) := by decide +kernel
theorem dX3_passName_1 : decode cX3_passName 1 = .ok (.invokevirtual 58, 3) := by decide +kernel
theorem dX3_passName_4 : decode cX3_passName 4 = .ok (.istore_n 1, 1) := by decide +kernel
theorem dX3_passName_5 : decode cX3_passName 5 = .ok (.iload_n 1, 1) := by decide +kernel
theorem dX3_passName_6 : decode cX3_passName 6 = .ok (.bipush 97, 2) := by decide +kernel
theorem dX3_passName_8 : decode cX3_passName 8 = .ok (.if_icmp .lt 9, 3) := by decide +kernel
theorem dX3_passName_11 : decode cX3_passName 11 = .ok (.iload_n 1, 1) := by decide +kernel
theorem dX3_passName_12 : decode cX3_passName 12 = .ok (.bipush 122, 2) := by decide +kernel
theorem dX3_passName_14 : decode cX3_passName 14 = .ok (.if_icmp .le 13, 3) := by decide +kernel
theorem dX3_passName_17 : decode cX3_passName 17 = .ok (.aload_n 0, 1) := by decide +kernel
theorem dX3_passName_18 : decode cX3_passName 18 = .ok (.iconst 1, 1) := by decide +kernel
theorem dX3_passName_19 : decode cX3_passName 19 = .ok (.aload_n 0, 1) := by decide +kernel
theorem dX3_passName_20 : decode cX3_passName 20 = .ok (.getfield 23, 3) := by decide +kernel
theorem dX3_passName_23 : decode cX3_passName 23 = .ok (.invokevirtual 62, 3) := by decide +kernel
theorem dX3_passName_26 : decode cX3_passName 26 = .ok (.ireturn, 1) := by decide +kernel
theorem dX3_passName_27 : decode cX3_passName 27 = .ok (.aload_n 0, 1) := by decide +kernel
theorem dX3_passName_28 : decode cX3_passName 28 = .ok (.aload_n 0, 1) := by decide +kernel
theorem dX3_passName_29 : decode cX3_passName 29 = .ok (.getfield 23, 3) := by decide +kernel
theorem dX3_passName_32 : decode cX3_passName 32 = .ok (.putfield 66, 3) := by decide +kernel
theorem dX3_passName_35 : decode cX3_passName 35 = .ok (.aload_n 0, 1) := by decide +kernel
theorem dX3_passName_36 : decode cX3_passName 36 = .ok (.lconst 0, 1) := by decide +kernel
theorem dX3_passName_37 : decode cX3_passName 37 = .ok (.putfield 69, 3) := by decide +kernel
theorem dX3_passName_40 : decode cX3_passName 40 = .ok (.aload_n 0, 1) := by decide +kernel
theorem dX3_passName_41 : decode cX3_passName 41 = .ok (.getfield 23, 3) := by decide +kernel
theorem dX3_passName_44 : decode cX3_passName 44 = .ok (.aload_n 0, 1) := by decide +kernel
theorem dX3_passName_45 : decode cX3_passName 45 = .ok (.getfield 15, 3) := by decide +kernel
theorem dX3_passName_48 : decode cX3_passName 48 = .ok (.if_icmp .ge 78, 3) := by decide +kernel
theorem dX3_passName_51 : decode cX3_passName 51 = .ok (.aload_n 0, 1) := by decide +kernel
theorem dX3_passName_52 : decode cX3_passName 52 = .ok (.aload_n 0, 1) := by decide +kernel
theorem dX3_passName_53 : decode cX3_passName 53 = .ok (.getfield 23, 3) := by decide +kernel
theorem dX3_passName_56 : decode cX3_passName 56 = .ok (.invokevirtual 54, 3) := by decide +kernel
theorem dX3_passName_59 : decode cX3_passName 59 = .ok (.invokestatic 73, 3) := by decide +kernel
theorem dX3_passName_62 : decode cX3_passName 62 = .ok (.ifCond .eq 64, 3) := by decide +kernel
theorem dX3_passName_65 : decode cX3_passName 65 = .ok (.aload_n 0, 1) := by decide +kernel
theorem dX3_passName_66 : decode cX3_passName 66 = .ok (.getfield 23, 3) := by decide +kernel
theorem dX3_passName_69 : decode cX3_passName 69 = .ok (.aload_n 0, 1) := by decide +kernel
theorem dX3_passName_70 : decode cX3_passName 70 = .ok (.getfield 66, 3) := by decide +kernel
theorem dX3_passName_73 : decode cX3_passName 73 = .ok (.isub, 1) := by decide +kernel
theorem dX3_passName_74 : decode cX3_passName 74 = .ok (.bipush 10, 2) := by decide +kernel
theorem dX3_passName_76 : decode cX3_passName 76 = .ok (.if_icmp .ge 37, 3) := by decide +kernel
theorem dX3_passName_79 : decode cX3_passName 79 = .ok (.aload_n 0, 1) := by decide +kernel
theorem dX3_passName_80 : decode cX3_passName 80 = .ok (.dup, 1) := by decide +kernel
theorem dX3_passName_81 : decode cX3_passName 81 = .ok (.getfield 69, 3) := by decide +kernel
theorem dX3_passName_84 : decode cX3_passName 84 = .ok (.aload_n 0, 1) := by decide +kernel
theorem dX3_passName_85 : decode cX3_passName 85 = .ok (.aload_n 0, 1) := by decide +kernel
theorem dX3_passName_86 : decode cX3_passName 86 = .ok (.getfield 23, 3) := by decide +kernel
theorem dX3_passName_89 : decode cX3_passName 89 = .ok (.invokevirtual 54, 3) := by decide +kernel
theorem dX3_passName_92 : decode cX3_passName 92 = .ok (.invokestatic 73, 3) := by decide +kernel
theorem dX3_passName_95 : decode cX3_passName 95 = .ok (.i2l, 1) := by decide +kernel
theorem dX3_passName_96 : decode cX3_passName 96 = .ok (.bipush 6, 2) := by decide +kernel
theorem dX3_passName_98 : decode cX3_passName 98 = .ok (.aload_n 0, 1) := by decide +kernel
theorem dX3_passName_99 : decode cX3_passName 99 = .ok (.getfield 23, 3) := by decide +kernel
theorem dX3_passName_102 : decode cX3_passName 102 = .ok (.aload_n 0, 1) := by decide +kernel
theorem dX3_passName_103 : decode cX3_passName 103 = .ok (.getfield 66, 3) := by decide +kernel
theorem dX3_passName_106 : decode cX3_passName 106 = .ok (.isub, 1) := by decide +kernel
theorem dX3_passName_107 : decode cX3_passName 107 = .ok (.imul, 1) := by decide +kernel
theorem dX3_passName_108 : decode cX3_passName 108 = .ok (.lshl, 1) := by decide +kernel
theorem dX3_passName_109 : decode cX3_passName 109 = .ok (.lor, 1) := by decide +kernel
theorem dX3_passName_110 : decode cX3_passName 110 = .ok (.putfield 69, 3) := by decide +kernel
theorem dX3_passName_113 : decode cX3_passName 113 = .ok (.aload_n 0, 1) := by decide +kernel
theorem dX3_passName_114 : decode cX3_passName 114 = .ok (.dup, 1) := by decide +kernel
theorem dX3_passName_115 : decode cX3_passName 115 = .ok (.getfield 23, 3) := by decide +kernel
theorem dX3_passName_118 : decode cX3_passName 118 = .ok (.iconst 1, 1) := by decide +kernel
theorem dX3_passName_119 : decode cX3_passName 119 = .ok (.iadd, 1) := by decide +kernel
theorem dX3_passName_120 : decode cX3_passName 120 = .ok (.putfield 23, 3) := by decide +kernel
theorem dX3_passName_123 : decode cX3_passName 123 = .ok (.goto (-83), 3) := by decide +kernel
theorem dX3_passName_126 : decode cX3_passName 126 = .ok (.aload_n 0, 1) := by decide +kernel
theorem dX3_passName_127 : decode cX3_passName 127 = .ok (.getfield 23, 3) := by decide +kernel
theorem dX3_passName_130 : decode cX3_passName 130 = .ok (.aload_n 0, 1) := by decide +kernel
theorem dX3_passName_131 : decode cX3_passName 131 = .ok (.getfield 66, 3) := by decide +kernel
theorem dX3_passName_134 : decode cX3_passName 134 = .ok (.isub, 1) := by decide +kernel
theorem dX3_passName_135 : decode cX3_passName 135 = .ok (.bipush 10, 2) := by decide +kernel
theorem dX3_passName_137 : decode cX3_passName 137 = .ok (.if_icmp .le 15, 3) := by decide +kernel
theorem dX3_passName_140 : decode cX3_passName 140 = .ok (.aload_n 0, 1) := by decide +kernel
theorem dX3_passName_141 : decode cX3_passName 141 = .ok (.iconst 1, 1) := by decide +kernel
theorem dX3_passName_142 : decode cX3_passName 142 = .ok (.aload_n 0, 1) := by decide +kernel
theorem dX3_passName_143 : decode cX3_passName 143 = .ok (.getfield 66, 3) := by decide +kernel
theorem dX3_passName_146 : decode cX3_passName 146 = .ok (.invokevirtual 62, 3) := by decide +kernel
theorem dX3_passName_149 : decode cX3_passName 149 = .ok (.ifCond .eq 7, 3) := by decide +kernel
theorem dX3_passName_152 : decode cX3_passName 152 = .ok (.iconst 1, 1) := by decide +kernel
theorem dX3_passName_153 : decode cX3_passName 153 = .ok (.goto 4, 3) := by decide +kernel
theorem dX3_passName_156 : decode cX3_passName 156 = .ok (.iconst 0, 1) := by decide +kernel
theorem dX3_passName_157 : decode cX3_passName 157 = .ok (.ireturn, 1) := by decide +kernel
theorem dX3_isWord_0 : decode cX3_isWord 0 = .ok (.aload_n 0, 1) := by decide +kernel
theorem dX3_isWord_1 : decode cX3_isWord 1 = .ok (.getfield 69, 3) := by decide +kernel
theorem dX3_isWord_4 : decode cX3_isWord 4 = .ok (.lload_n 1, 1) := by decide +kernel
theorem dX3_isWord_5 : decode cX3_isWord 5 = .ok (.lcmp, 1) := by decide +kernel
theorem dX3_isWord_6 : decode cX3_isWord 6 = .ok (.ifCond .eq 15, 3) := by decide +kernel
theorem dX3_isWord_9 : decode cX3_isWord 9 = .ok (.aload_n 0, 1) := by decide +kernel
theorem dX3_isWord_10 : decode cX3_isWord 10 = .ok (.iconst 1, 1) := by decide +kernel
theorem dX3_isWord_11 : decode cX3_isWord 11 = .ok (.aload_n 0, 1) := by decide +kernel
theorem dX3_isWord_12 : decode cX3_isWord 12 = .ok (.getfield 66, 3) := by decide +kernel
theorem dX3_isWord_15 : decode cX3_isWord 15 = .ok (.invokevirtual 62, 3) := by decide +kernel
theorem dX3_isWord_18 : decode cX3_isWord 18 = .ok (.ifCond .eq 7, 3) := by decide +kernel
theorem dX3_isWord_21 : decode cX3_isWord 21 = .ok (.iconst 1, 1) := by decide +kernel
theorem dX3_isWord_22 : decode cX3_isWord 22 = .ok (.goto 4, 3) := by decide +kernel
theorem dX3_isWord_25 : decode cX3_isWord 25 = .ok (.iconst 0, 1) := by decide +kernel
theorem dX3_isWord_26 : decode cX3_isWord 26 = .ok (.ireturn, 1) := by decide +kernel
theorem dX3_passConditions_0 : decode cX3_passConditions 0 = .ok (.iconst 0, 1) := by decide +kernel
theorem dX3_passConditions_1 : decode cX3_passConditions 1 = .ok (.istore_n 2, 1) := by decide +kernel
theorem dX3_passConditions_2 : decode cX3_passConditions 2 = .ok (.iload_n 2, 1) := by decide +kernel
theorem dX3_passConditions_3 : decode cX3_passConditions 3 = .ok (.bipush 16, 2) := by decide +kernel
theorem dX3_passConditions_5 : decode cX3_passConditions 5 = .ok (.if_icmp .gt 48, 3) := by decide +kernel
theorem dX3_passConditions_8 : decode cX3_passConditions 8 = .ok (.aload_n 0, 1) := by decide +kernel
theorem dX3_passConditions_9 : decode cX3_passConditions 9 = .ok (.aload_n 1, 1) := by decide +kernel
theorem dX3_passConditions_10 : decode cX3_passConditions 10 = .ok (.getfield 78, 3) := by decide +kernel
theorem dX3_passConditions_13 : decode cX3_passConditions 13 = .ok (.invokevirtual 82, 3) := by decide +kernel
theorem dX3_passConditions_16 : decode cX3_passConditions 16 = .ok (.ifCond .ne 5, 3) := by decide +kernel
theorem dX3_passConditions_19 : decode cX3_passConditions 19 = .ok (.iconst 0, 1) := by decide +kernel
theorem dX3_passConditions_20 : decode cX3_passConditions 20 = .ok (.ireturn, 1) := by decide +kernel
theorem dX3_passConditions_21 : decode cX3_passConditions 21 = .ok (.aload_n 0, 1) := by decide +kernel
theorem dX3_passConditions_22 : decode cX3_passConditions 22 = .ok (.invokevirtual 58, 3) := by decide +kernel
theorem dX3_passConditions_25 : decode cX3_passConditions 25 = .ok (.bipush 44, 2) := by decide +kernel
theorem dX3_passConditions_27 : decode cX3_passConditions 27 = .ok (.if_icmp .eq 10, 3) := by decide +kernel
theorem dX3_passConditions_30 : decode cX3_passConditions 30 = .ok (.aload_n 0, 1) := by decide +kernel
theorem dX3_passConditions_31 : decode cX3_passConditions 31 = .ok (.bipush 59, 2) := by decide +kernel
theorem dX3_passConditions_33 : decode cX3_passConditions 33 = .ok (.invokevirtual 86, 3) := by decide +kernel
theorem dX3_passConditions_36 : decode cX3_passConditions 36 = .ok (.ireturn, 1) := by decide +kernel
theorem dX3_passConditions_37 : decode cX3_passConditions 37 = .ok (.aload_n 0, 1) := by decide +kernel
theorem dX3_passConditions_38 : decode cX3_passConditions 38 = .ok (.dup, 1) := by decide +kernel
theorem dX3_passConditions_39 : decode cX3_passConditions 39 = .ok (.getfield 23, 3) := by decide +kernel
theorem dX3_passConditions_42 : decode cX3_passConditions 42 = .ok (.iconst 1, 1) := by decide +kernel
theorem dX3_passConditions_43 : decode cX3_passConditions 43 = .ok (.iadd, 1) := by decide +kernel
theorem dX3_passConditions_44 : decode cX3_passConditions 44 = .ok (.putfield 23, 3) := by decide +kernel
theorem dX3_passConditions_47 : decode cX3_passConditions 47 = .ok (.iinc 2 1, 3) := by decide +kernel
theorem dX3_passConditions_50 : decode cX3_passConditions 50 = .ok (.goto (-48), 3) := by decide +kernel
theorem dX3_passConditions_53 : decode cX3_passConditions 53 = .ok (.aload_n 0, 1) := by decide +kernel
theorem dX3_passConditions_54 : decode cX3_passConditions 54 = .ok (.iconst 3, 1) := by decide +kernel
theorem dX3_passConditions_55 : decode cX3_passConditions 55 = .ok (.aload_n 0, 1) := by decide +kernel
theorem dX3_passConditions_56 : decode cX3_passConditions 56 = .ok (.getfield 66, 3) := by decide +kernel
theorem dX3_passConditions_59 : decode cX3_passConditions 59 = .ok (.invokevirtual 62, 3) := by decide +kernel
theorem dX3_passConditions_62 : decode cX3_passConditions 62 = .ok (.ireturn, 1) := by decide +kernel
theorem dX3_passCondition_0 : decode cX3_passCondition 0 = .ok (.aload_n 0, 1) := by decide +kernel
theorem dX3_passCondition_1 : decode cX3_passCondition 1 = .ok (.invokevirtual 34, 3) := by decide +kernel
theorem dX3_passCondition_4 : decode cX3_passCondition 4 = .ok (.ifCond .ne 5, 3) := by decide +kernel
theorem dX3_passCondition_7 : decode cX3_passCondition 7 = .ok (.iconst 0, 1) := by decide +kernel
theorem dX3_passCondition_8 : decode cX3_passCondition 8 = .ok (.ireturn, 1) := by decide +kernel
theorem dX3_passCondition_9 : decode cX3_passCondition 9 = .ok (.aload_n 1, 1) := by decide +kernel
theorem dX3_passCondition_10 : decode cX3_passCondition 10 = .ok (.aload_n 0, 1) := by decide +kernel
theorem dX3_passCondition_11 : decode cX3_passCondition 11 = .ok (.getfield 69, 3) := by decide +kernel
theorem dX3_passCondition_14 : decode cX3_passCondition 14 = .ok (.invokevirtual 90, 3) := by decide +kernel
theorem dX3_passCondition_17 : decode cX3_passCondition 17 = .ok (.iconst (-1), 1) := by decide +kernel
theorem dX3_passCondition_18 : decode cX3_passCondition 18 = .ok (.if_icmp .eq 13, 3) := by decide +kernel
theorem dX3_passCondition_21 : decode cX3_passCondition 21 = .ok (.aload_n 0, 1) := by decide +kernel
theorem dX3_passCondition_22 : decode cX3_passCondition 22 = .ok (.iconst 2, 1) := by decide +kernel
theorem dX3_passCondition_23 : decode cX3_passCondition 23 = .ok (.aload_n 0, 1) := by decide +kernel
theorem dX3_passCondition_24 : decode cX3_passCondition 24 = .ok (.getfield 66, 3) := by decide +kernel
theorem dX3_passCondition_27 : decode cX3_passCondition 27 = .ok (.invokevirtual 62, 3) := by decide +kernel
theorem dX3_passCondition_30 : decode cX3_passCondition 30 = .ok (.ireturn, 1) := by decide +kernel
theorem dX3_passCondition_31 : decode cX3_passCondition 31 = .ok (.aload_n 1, 1) := by decide +kernel
theorem dX3_passCondition_32 : decode cX3_passCondition 32 = .ok (.aload_n 0, 1) := by decide +kernel
theorem dX3_passCondition_33 : decode cX3_passCondition 33 = .ok (.getfield 69, 3) := by decide +kernel
theorem dX3_passCondition_36 : decode cX3_passCondition 36 = .ok (.invokevirtual 94, 3) := by decide +kernel
theorem dX3_passCondition_39 : decode cX3_passCondition 39 = .ok (.ifCond .ne 15, 3) := by decide +kernel
theorem dX3_passCondition_42 : decode cX3_passCondition 42 = .ok (.aload_n 0, 1) := by decide +kernel
theorem dX3_passCondition_43 : decode cX3_passCondition 43 = .ok (.iconst 3, 1) := by decide +kernel
theorem dX3_passCondition_44 : decode cX3_passCondition 44 = .ok (.aload_n 0, 1) := by decide +kernel
theorem dX3_passCondition_45 : decode cX3_passCondition 45 = .ok (.getfield 66, 3) := by decide +kernel
theorem dX3_passCondition_48 : decode cX3_passCondition 48 = .ok (.invokevirtual 62, 3) := by decide +kernel
theorem dX3_passCondition_51 : decode cX3_passCondition 51 = .ok (.ifCond .eq 7, 3) := by decide +kernel
theorem dX3_passCondition_54 : decode cX3_passCondition 54 = .ok (.iconst 1, 1) := by decide +kernel
theorem dX3_passCondition_55 : decode cX3_passCondition 55 = .ok (.goto 4, 3) := by decide +kernel
theorem dX3_passCondition_58 : decode cX3_passCondition 58 = .ok (.iconst 0, 1) := by decide +kernel
theorem dX3_passCondition_59 : decode cX3_passCondition 59 = .ok (.ireturn, 1) := by decide +kernel
theorem dX3_passRules_0 : decode cX3_passRules 0 = .ok (.iconst 0, 1) := by decide +kernel
theorem dX3_passRules_1 : decode cX3_passRules 1 = .ok (.istore_n 2, 1) := by decide +kernel
theorem dX3_passRules_2 : decode cX3_passRules 2 = .ok (.iload_n 2, 1) := by decide +kernel
theorem dX3_passRules_3 : decode cX3_passRules 3 = .ok (.sipush 256, 3) := by decide +kernel
theorem dX3_passRules_6 : decode cX3_passRules 6 = .ok (.if_icmp .gt 33, 3) := by decide +kernel
theorem dX3_passRules_9 : decode cX3_passRules 9 = .ok (.iload_n 2, 1) := by decide +kernel
theorem dX3_passRules_10 : decode cX3_passRules 10 = .ok (.ifCond .le 13, 3) := by decide +kernel
theorem dX3_passRules_13 : decode cX3_passRules 13 = .ok (.aload_n 0, 1) := by decide +kernel
theorem dX3_passRules_14 : decode cX3_passRules 14 = .ok (.invokevirtual 58, 3) := by decide +kernel
theorem dX3_passRules_17 : decode cX3_passRules 17 = .ok (.iconst (-1), 1) := by decide +kernel
theorem dX3_passRules_18 : decode cX3_passRules 18 = .ok (.if_icmp .ne 5, 3) := by decide +kernel
theorem dX3_passRules_21 : decode cX3_passRules 21 = .ok (.iconst 1, 1) := by decide +kernel
theorem dX3_passRules_22 : decode cX3_passRules 22 = .ok (.ireturn, 1) := by decide +kernel
theorem dX3_passRules_23 : decode cX3_passRules 23 = .ok (.aload_n 0, 1) := by decide +kernel
theorem dX3_passRules_24 : decode cX3_passRules 24 = .ok (.aload_n 1, 1) := by decide +kernel
theorem dX3_passRules_25 : decode cX3_passRules 25 = .ok (.invokevirtual 97, 3) := by decide +kernel
theorem dX3_passRules_28 : decode cX3_passRules 28 = .ok (.ifCond .ne 5, 3) := by decide +kernel
theorem dX3_passRules_31 : decode cX3_passRules 31 = .ok (.iconst 0, 1) := by decide +kernel
theorem dX3_passRules_32 : decode cX3_passRules 32 = .ok (.ireturn, 1) := by decide +kernel
theorem dX3_passRules_33 : decode cX3_passRules 33 = .ok (.iinc 2 1, 3) := by decide +kernel
theorem dX3_passRules_36 : decode cX3_passRules 36 = .ok (.goto (-34), 3) := by decide +kernel
theorem dX3_passRules_39 : decode cX3_passRules 39 = .ok (.aload_n 0, 1) := by decide +kernel
theorem dX3_passRules_40 : decode cX3_passRules 40 = .ok (.iconst 3, 1) := by decide +kernel
theorem dX3_passRules_41 : decode cX3_passRules 41 = .ok (.aload_n 0, 1) := by decide +kernel
theorem dX3_passRules_42 : decode cX3_passRules 42 = .ok (.getfield 23, 3) := by decide +kernel
theorem dX3_passRules_45 : decode cX3_passRules 45 = .ok (.invokevirtual 62, 3) := by decide +kernel
theorem dX3_passRules_48 : decode cX3_passRules 48 = .ok (.ireturn, 1) := by decide +kernel
theorem dX3_passRule_0 : decode cX3_passRule 0 = .ok (.iconst 0, 1) := by decide +kernel
theorem dX3_passRule_1 : decode cX3_passRule 1 = .ok (.istore_n 2, 1) := by decide +kernel
theorem dX3_passRule_2 : decode cX3_passRule 2 = .ok (.iconst 0, 1) := by decide +kernel
theorem dX3_passRule_3 : decode cX3_passRule 3 = .ok (.istore_n 3, 1) := by decide +kernel
theorem dX3_passRule_4 : decode cX3_passRule 4 = .ok (.iconst 0, 1) := by decide +kernel
theorem dX3_passRule_5 : decode cX3_passRule 5 = .ok (.istore 4, 2) := by decide +kernel
theorem dX3_passRule_7 : decode cX3_passRule 7 = .ok (.iload 4, 2) := by decide +kernel
theorem dX3_passRule_9 : decode cX3_passRule 9 = .ok (.aload_n 1, 1) := by decide +kernel
theorem dX3_passRule_10 : decode cX3_passRule 10 = .ok (.getfield 78, 3) := by decide +kernel
theorem dX3_passRule_13 : decode cX3_passRule 13 = .ok (.getfield 100, 3) := by decide +kernel
theorem dX3_passRule_16 : decode cX3_passRule 16 = .ok (.if_icmp .ge 112, 3) := by decide +kernel
theorem dX3_passRule_19 : decode cX3_passRule 19 = .ok (.aload_n 0, 1) := by decide +kernel
theorem dX3_passRule_20 : decode cX3_passRule 20 = .ok (.invokevirtual 58, 3) := by decide +kernel
theorem dX3_passRule_23 : decode cX3_passRule 23 = .ok (.istore 5, 2) := by decide +kernel
theorem dX3_passRule_25 : decode cX3_passRule 25 = .ok (.iload 5, 2) := by decide +kernel
theorem dX3_passRule_27 : decode cX3_passRule 27 = .ok (.bipush 89, 2) := by decide +kernel
theorem dX3_passRule_29 : decode cX3_passRule 29 = .ok (.if_icmp .eq 27, 3) := by decide +kernel
theorem dX3_passRule_32 : decode cX3_passRule 32 = .ok (.iload 5, 2) := by decide +kernel
theorem dX3_passRule_34 : decode cX3_passRule 34 = .ok (.bipush 78, 2) := by decide +kernel
theorem dX3_passRule_36 : decode cX3_passRule 36 = .ok (.if_icmp .eq 20, 3) := by decide +kernel
theorem dX3_passRule_39 : decode cX3_passRule 39 = .ok (.iload 5, 2) := by decide +kernel
theorem dX3_passRule_41 : decode cX3_passRule 41 = .ok (.bipush 45, 2) := by decide +kernel
theorem dX3_passRule_43 : decode cX3_passRule 43 = .ok (.if_icmp .eq 13, 3) := by decide +kernel
theorem dX3_passRule_46 : decode cX3_passRule 46 = .ok (.aload_n 0, 1) := by decide +kernel
theorem dX3_passRule_47 : decode cX3_passRule 47 = .ok (.iconst 1, 1) := by decide +kernel
theorem dX3_passRule_48 : decode cX3_passRule 48 = .ok (.aload_n 0, 1) := by decide +kernel
theorem dX3_passRule_49 : decode cX3_passRule 49 = .ok (.getfield 23, 3) := by decide +kernel
theorem dX3_passRule_52 : decode cX3_passRule 52 = .ok (.invokevirtual 62, 3) := by decide +kernel
theorem dX3_passRule_55 : decode cX3_passRule 55 = .ok (.ireturn, 1) := by decide +kernel
theorem dX3_passRule_56 : decode cX3_passRule 56 = .ok (.aload_n 1, 1) := by decide +kernel
theorem dX3_passRule_57 : decode cX3_passRule 57 = .ok (.getfield 103, 3) := by decide +kernel
theorem dX3_passRule_60 : decode cX3_passRule 60 = .ok (.sipush 256, 3) := by decide +kernel
theorem dX3_passRule_63 : decode cX3_passRule 63 = .ok (.if_icmp .lt 13, 3) := by decide +kernel
theorem dX3_passRule_66 : decode cX3_passRule 66 = .ok (.aload_n 0, 1) := by decide +kernel
theorem dX3_passRule_67 : decode cX3_passRule 67 = .ok (.iconst 3, 1) := by decide +kernel
theorem dX3_passRule_68 : decode cX3_passRule 68 = .ok (.aload_n 0, 1) := by decide +kernel
theorem dX3_passRule_69 : decode cX3_passRule 69 = .ok (.getfield 23, 3) := by decide +kernel
theorem dX3_passRule_72 : decode cX3_passRule 72 = .ok (.invokevirtual 62, 3) := by decide +kernel
theorem dX3_passRule_75 : decode cX3_passRule 75 = .ok (.ireturn, 1) := by decide +kernel
theorem dX3_passRule_76 : decode cX3_passRule 76 = .ok (.iload_n 2, 1) := by decide +kernel
theorem dX3_passRule_77 : decode cX3_passRule 77 = .ok (.iload 5, 2) := by decide +kernel
theorem dX3_passRule_79 : decode cX3_passRule 79 = .ok (.bipush 89, 2) := by decide +kernel
theorem dX3_passRule_81 : decode cX3_passRule 81 = .ok (.if_icmp .ne 10, 3) := by decide +kernel
theorem dX3_passRule_84 : decode cX3_passRule 84 = .ok (.iconst 1, 1) := by decide +kernel
theorem dX3_passRule_85 : decode cX3_passRule 85 = .ok (.iload 4, 2) := by decide +kernel
theorem dX3_passRule_87 : decode cX3_passRule 87 = .ok (.ishl, 1) := by decide +kernel
theorem dX3_passRule_88 : decode cX3_passRule 88 = .ok (.goto 4, 3) := by decide +kernel
theorem dX3_passRule_91 : decode cX3_passRule 91 = .ok (.iconst 0, 1) := by decide +kernel
theorem dX3_passRule_92 : decode cX3_passRule 92 = .ok (.ior, 1) := by decide +kernel
theorem dX3_passRule_93 : decode cX3_passRule 93 = .ok (.istore_n 2, 1) := by decide +kernel
theorem dX3_passRule_94 : decode cX3_passRule 94 = .ok (.iload_n 3, 1) := by decide +kernel
theorem dX3_passRule_95 : decode cX3_passRule 95 = .ok (.iload 5, 2) := by decide +kernel
theorem dX3_passRule_97 : decode cX3_passRule 97 = .ok (.bipush 78, 2) := by decide +kernel
theorem dX3_passRule_99 : decode cX3_passRule 99 = .ok (.if_icmp .ne 10, 3) := by decide +kernel
theorem dX3_passRule_102 : decode cX3_passRule 102 = .ok (.iconst 1, 1) := by decide +kernel
theorem dX3_passRule_103 : decode cX3_passRule 103 = .ok (.iload 4, 2) := by decide +kernel
theorem dX3_passRule_105 : decode cX3_passRule 105 = .ok (.ishl, 1) := by decide +kernel
theorem dX3_passRule_106 : decode cX3_passRule 106 = .ok (.goto 4, 3) := by decide +kernel
theorem dX3_passRule_109 : decode cX3_passRule 109 = .ok (.iconst 0, 1) := by decide +kernel
theorem dX3_passRule_110 : decode cX3_passRule 110 = .ok (.ior, 1) := by decide +kernel
theorem dX3_passRule_111 : decode cX3_passRule 111 = .ok (.istore_n 3, 1) := by decide +kernel
theorem dX3_passRule_112 : decode cX3_passRule 112 = .ok (.aload_n 0, 1) := by decide +kernel
theorem dX3_passRule_113 : decode cX3_passRule 113 = .ok (.dup, 1) := by decide +kernel
theorem dX3_passRule_114 : decode cX3_passRule 114 = .ok (.getfield 23, 3) := by decide +kernel
theorem dX3_passRule_117 : decode cX3_passRule 117 = .ok (.iconst 1, 1) := by decide +kernel
theorem dX3_passRule_118 : decode cX3_passRule 118 = .ok (.iadd, 1) := by decide +kernel
theorem dX3_passRule_119 : decode cX3_passRule 119 = .ok (.putfield 23, 3) := by decide +kernel
theorem dX3_passRule_122 : decode cX3_passRule 122 = .ok (.iinc 4 1, 3) := by decide +kernel
theorem dX3_passRule_125 : decode cX3_passRule 125 = .ok (.goto (-118), 3) := by decide +kernel
theorem dX3_passRule_128 : decode cX3_passRule 128 = .ok (.aload_n 0, 1) := by decide +kernel
theorem dX3_passRule_129 : decode cX3_passRule 129 = .ok (.invokevirtual 34, 3) := by decide +kernel
theorem dX3_passRule_132 : decode cX3_passRule 132 = .ok (.ifCond .eq 24, 3) := by decide +kernel
theorem dX3_passRule_135 : decode cX3_passRule 135 = .ok (.aload_n 0, 1) := by decide +kernel
theorem dX3_passRule_136 : decode cX3_passRule 136 = .ok (.ldc2_w 106, 3) := by decide +kernel
theorem dX3_passRule_139 : decode cX3_passRule 139 = .ok (.invokevirtual 40, 3) := by decide +kernel
theorem dX3_passRule_142 : decode cX3_passRule 142 = .ok (.ifCond .eq 14, 3) := by decide +kernel
theorem dX3_passRule_145 : decode cX3_passRule 145 = .ok (.aload_n 0, 1) := by decide +kernel
theorem dX3_passRule_146 : decode cX3_passRule 146 = .ok (.aload_n 1, 1) := by decide +kernel
theorem dX3_passRule_147 : decode cX3_passRule 147 = .ok (.getfield 108, 3) := by decide +kernel
theorem dX3_passRule_150 : decode cX3_passRule 150 = .ok (.invokevirtual 111, 3) := by decide +kernel
theorem dX3_passRule_153 : decode cX3_passRule 153 = .ok (.ifCond .ne 5, 3) := by decide +kernel
theorem dX3_passRule_156 : decode cX3_passRule 156 = .ok (.iconst 0, 1) := by decide +kernel
theorem dX3_passRule_157 : decode cX3_passRule 157 = .ok (.ireturn, 1) := by decide +kernel
theorem dX3_passRule_158 : decode cX3_passRule 158 = .ok (.aload_n 1, 1) := by decide +kernel
theorem dX3_passRule_159 : decode cX3_passRule 159 = .ok (.iload_n 2, 1) := by decide +kernel
theorem dX3_passRule_160 : decode cX3_passRule 160 = .ok (.iload_n 3, 1) := by decide +kernel
theorem dX3_passRule_161 : decode cX3_passRule 161 = .ok (.aload_n 1, 1) := by decide +kernel
theorem dX3_passRule_162 : decode cX3_passRule 162 = .ok (.getfield 108, 3) := by decide +kernel
theorem dX3_passRule_165 : decode cX3_passRule 165 = .ok (.aload_n 0, 1) := by decide +kernel
theorem dX3_passRule_166 : decode cX3_passRule 166 = .ok (.getfield 69, 3) := by decide +kernel
theorem dX3_passRule_169 : decode cX3_passRule 169 = .ok (.invokevirtual 90, 3) := by decide +kernel
theorem dX3_passRule_172 : decode cX3_passRule 172 = .ok (.invokevirtual 114, 3) := by decide +kernel
theorem dX3_passRule_175 : decode cX3_passRule 175 = .ok (.aload_n 0, 1) := by decide +kernel
theorem dX3_passRule_176 : decode cX3_passRule 176 = .ok (.bipush 59, 2) := by decide +kernel
theorem dX3_passRule_178 : decode cX3_passRule 178 = .ok (.invokevirtual 86, 3) := by decide +kernel
theorem dX3_passRule_181 : decode cX3_passRule 181 = .ok (.ireturn, 1) := by decide +kernel
theorem dX3_passAction_0 : decode cX3_passAction 0 = .ok (.aload_n 0, 1) := by decide +kernel
theorem dX3_passAction_1 : decode cX3_passAction 1 = .ok (.invokevirtual 34, 3) := by decide +kernel
theorem dX3_passAction_4 : decode cX3_passAction 4 = .ok (.ifCond .ne 5, 3) := by decide +kernel
theorem dX3_passAction_7 : decode cX3_passAction 7 = .ok (.iconst 0, 1) := by decide +kernel
theorem dX3_passAction_8 : decode cX3_passAction 8 = .ok (.ireturn, 1) := by decide +kernel
theorem dX3_passAction_9 : decode cX3_passAction 9 = .ok (.aload_n 1, 1) := by decide +kernel
theorem dX3_passAction_10 : decode cX3_passAction 10 = .ok (.aload_n 0, 1) := by decide +kernel
theorem dX3_passAction_11 : decode cX3_passAction 11 = .ok (.getfield 69, 3) := by decide +kernel
theorem dX3_passAction_14 : decode cX3_passAction 14 = .ok (.invokevirtual 90, 3) := by decide +kernel
theorem dX3_passAction_17 : decode cX3_passAction 17 = .ok (.iconst (-1), 1) := by decide +kernel
theorem dX3_passAction_18 : decode cX3_passAction 18 = .ok (.if_icmp .ne 26, 3) := by decide +kernel
theorem dX3_passAction_21 : decode cX3_passAction 21 = .ok (.aload_n 1, 1) := by decide +kernel
theorem dX3_passAction_22 : decode cX3_passAction 22 = .ok (.aload_n 0, 1) := by decide +kernel
theorem dX3_passAction_23 : decode cX3_passAction 23 = .ok (.getfield 69, 3) := by decide +kernel
theorem dX3_passAction_26 : decode cX3_passAction 26 = .ok (.invokevirtual 94, 3) := by decide +kernel
theorem dX3_passAction_29 : decode cX3_passAction 29 = .ok (.ifCond .ne 15, 3) := by decide +kernel
theorem dX3_passAction_32 : decode cX3_passAction 32 = .ok (.aload_n 0, 1) := by decide +kernel
theorem dX3_passAction_33 : decode cX3_passAction 33 = .ok (.iconst 3, 1) := by decide +kernel
theorem dX3_passAction_34 : decode cX3_passAction 34 = .ok (.aload_n 0, 1) := by decide +kernel
theorem dX3_passAction_35 : decode cX3_passAction 35 = .ok (.getfield 66, 3) := by decide +kernel
theorem dX3_passAction_38 : decode cX3_passAction 38 = .ok (.invokevirtual 62, 3) := by decide +kernel
theorem dX3_passAction_41 : decode cX3_passAction 41 = .ok (.ifCond .eq 7, 3) := by decide +kernel
theorem dX3_passAction_44 : decode cX3_passAction 44 = .ok (.iconst 1, 1) := by decide +kernel
theorem dX3_passAction_45 : decode cX3_passAction 45 = .ok (.goto 4, 3) := by decide +kernel
theorem dX3_passAction_48 : decode cX3_passAction 48 = .ok (.iconst 0, 1) := by decide +kernel
theorem dX3_passAction_49 : decode cX3_passAction 49 = .ok (.ireturn, 1) := by decide +kernel
