theorem dX0_init_0 : decode cX0_init 0 = .ok (.aload_n 0, 1) := by decide +kernel
theorem dX0_init_1 : decode cX0_init 1 = .ok (.invokespecial 3, 3) := by decide +kernel
theorem dX0_init_4 : decode cX0_init 4 = .ok (.aload_n 0, 1) := by decide +kernel
theorem dX0_init_5 : decode cX0_init 5 = .ok (.new 9, 3) := by decide +kernel
theorem dX0_init_8 : decode cX0_init 8 = .ok (.dup, 1) := by decide +kernel
theorem dX0_init_9 : decode cX0_init 9 = .ok (.bipush 7, 2) := by decide +kernel
theorem dX0_init_11 : decode cX0_init 11 = .ok (.invokespecial 11, 3) := by decide +kernel
theorem dX0_init_14 : decode cX0_init 14 = .ok (.putfield 14, 3) := by decide +kernel
theorem dX0_init_17 : decode cX0_init 17 = .ok (.aload_n 0, 1) := by decide +kernel
theorem dX0_init_18 : decode cX0_init 18 = .ok (.new 9, 3) := by decide +kernel
theorem dX0_init_21 : decode cX0_init 21 = .ok (.dup, 1) := by decide +kernel
theorem dX0_init_22 : decode cX0_init 22 = .ok (.iconst 5, 1) := by decide +kernel
theorem dX0_init_23 : decode cX0_init 23 = .ok (.invokespecial 11, 3) := by decide +kernel
theorem dX0_init_26 : decode cX0_init 26 = .ok (.putfield 20, 3) := by decide +kernel
theorem dX0_init_29 : decode cX0_init 29 = .ok (.aload_n 0, 1) := by decide +kernel
theorem dX0_init_30 : decode cX0_init 30 = .ok (.new 9, 3) := by decide +kernel
theorem dX0_init_33 : decode cX0_init 33 = .ok (.dup, 1) := by decide +kernel
theorem dX0_init_34 : decode cX0_init 34 = .ok (.iconst 3, 1) := by decide +kernel
theorem dX0_init_35 : decode cX0_init 35 = .ok (.invokespecial 11, 3) := by decide +kernel
theorem dX0_init_38 : decode cX0_init 38 = .ok (.putfield 23, 3) := by decide +kernel
theorem dX0_init_41 : decode cX0_init 41 = .ok (.aload_n 0, 1) := by decide +kernel
theorem dX0_init_42 : decode cX0_init 42 = .ok (.new 9, 3) := by decide +kernel
theorem dX0_init_45 : decode cX0_init 45 = .ok (.dup, 1) := by decide +kernel
theorem dX0_init_46 : decode cX0_init 46 = .ok (.bipush 6, 2) := by decide +kernel
theorem dX0_init_48 : decode cX0_init 48 = .ok (.invokespecial 11, 3) := by decide +kernel
theorem dX0_init_51 : decode cX0_init 51 = .ok (.putfield 26, 3) := by decide +kernel
theorem dX0_init_54 : decode cX0_init 54 = .ok (.aload_n 0, 1) := by decide +kernel
theorem dX0_init_55 : decode cX0_init 55 = .ok (.bipush 7, 2) := by decide +kernel
theorem dX0_init_57 : decode cX0_init 57 = .ok (.newarray .int, 2) := by decide +kernel
theorem dX0_init_59 : decode cX0_init 59 = .ok (.putfield 29, 3) := by decide +kernel
theorem dX0_init_62 : decode cX0_init 62 = .ok (.aload_n 0, 1) := by decide +kernel
theorem dX0_init_63 : decode cX0_init 63 = .ok (.bipush 7, 2) := by decide +kernel
theorem dX0_init_65 : decode cX0_init 65 = .ok (.newarray .int, 2) := by decide +kernel
theorem dX0_init_67 : decode cX0_init 67 = .ok (.putfield 33, 3) := by decide +kernel
theorem dX0_init_70 : decode cX0_init 70 = .ok (.aload_n 0, 1) := by decide +kernel
theorem dX0_init_71 : decode cX0_init 71 = .ok (.iconst 5, 1) := by decide +kernel
theorem dX0_init_72 : decode cX0_init 72 = .ok (.newarray .int, 2) := by decide +kernel
theorem dX0_init_74 : decode cX0_init 74 = .ok (.putfield 36, 3) := by decide +kernel
theorem dX0_init_77 : decode cX0_init 77 = .ok (.aload_n 0, 1) := by decide +kernel
theorem dX0_init_78 : decode cX0_init 78 = .ok (.iconst 5, 1) := by decide +kernel
theorem dX0_init_79 : decode cX0_init 79 = .ok (.newarray .int, 2) := by decide +kernel
theorem dX0_init_81 : decode cX0_init 81 = .ok (.putfield 39, 3) := by decide +kernel
theorem dX0_init_84 : decode cX0_init 84 = .ok (.aload_n 0, 1) := by decide +kernel
theorem dX0_init_85 : decode cX0_init 85 = .ok (.iconst 3, 1) := by decide +kernel
theorem dX0_init_86 : decode cX0_init 86 = .ok (.newarray .int, 2) := by decide +kernel
theorem dX0_init_88 : decode cX0_init 88 = .ok (.putfield 42, 3) := by decide +kernel
theorem dX0_init_91 : decode cX0_init 91 = .ok (.aload_n 0, 1) := by decide +kernel
theorem dX0_init_92 : decode cX0_init 92 = .ok (.iconst 3, 1) := by decide +kernel
theorem dX0_init_93 : decode cX0_init 93 = .ok (.newarray .int, 2) := by decide +kernel
theorem dX0_init_95 : decode cX0_init 95 = .ok (.putfield 45, 3) := by decide +kernel
theorem dX0_init_98 : decode cX0_init 98 = .ok (.aload_n 0, 1) := by decide +kernel
theorem dX0_init_99 : decode cX0_init 99 = .ok (.bipush 6, 2) := by decide +kernel
theorem dX0_init_101 : decode cX0_init 101 = .ok (.newarray .int, 2) := by decide +kernel
theorem dX0_init_103 : decode cX0_init 103 = .ok (.putfield 48, 3) := by decide +kernel
theorem dX0_init_106 : decode cX0_init 106 = .ok (.aload_n 0, 1) := by decide +kernel
theorem dX0_init_107 : decode cX0_init 107 = .ok (.bipush 6, 2) := by decide +kernel
theorem dX0_init_109 : decode cX0_init 109 = .ok (.newarray .int, 2) := by decide +kernel
theorem dX0_init_111 : decode cX0_init 111 = .ok (.putfield 51, 3) := by decide +kernel
theorem dX0_init_114 : decode cX0_init 114 = .ok (.aload_n 0, 1) := by decide +kernel
theorem dX0_init_115 : decode cX0_init 115 = .ok (.bipush 12, 2) := by decide +kernel
theorem dX0_init_117 : decode cX0_init 117 = .ok (.newarray .int, 2) := by decide +kernel
theorem dX0_init_119 : decode cX0_init 119 = .ok (.putfield 54, 3) := by decide +kernel
theorem dX0_init_122 : decode cX0_init 122 = .ok (.aload_n 0, 1) := by decide +kernel
theorem dX0_init_123 : decode cX0_init 123 = .ok (.new 57, 3) := by decide +kernel
theorem dX0_init_126 : decode cX0_init 126 = .ok (.dup, 1) := by decide +kernel
theorem dX0_init_127 : decode cX0_init 127 = .ok (.invokespecial 59, 3) := by decide +kernel
theorem dX0_init_130 : decode cX0_init 130 = .ok (.putfield 60, 3) := by decide +kernel
theorem dX0_init_133 : decode cX0_init 133 = .ok (.return_, 1) := by decide +kernel
theorem dX0_read_0 : decode cX0_read 0 = .ok (.aload_n 0, 1) := by decide +kernel
theorem dX0_read_1 : decode cX0_read 1 = .ok (.invokevirtual 64, 3) := by decide +kernel
theorem dX0_read_4 : decode cX0_read 4 = .ok (.aload_n 1, 1) := by decide +kernel
theorem dX0_read_5 : decode cX0_read 5 = .ok (.invokevirtual 67, 3) := by decide +kernel
theorem dX0_read_8 : decode cX0_read 8 = .ok (.iconst 0, 1) := by decide +kernel
theorem dX0_read_9 : decode cX0_read 9 = .ok (.istore_n 2, 1) := by decide +kernel
theorem dX0_read_10 : decode cX0_read 10 = .ok (.iload_n 2, 1) := by decide +kernel
theorem dX0_read_11 : decode cX0_read 11 = .ok (.sipush 1000, 3) := by decide +kernel
theorem dX0_read_14 : decode cX0_read 14 = .ok (.if_icmp .ge 28, 3) := by decide +kernel
theorem dX0_read_17 : decode cX0_read 17 = .ok (.aload_n 1, 1) := by decide +kernel
theorem dX0_read_18 : decode cX0_read 18 = .ok (.invokevirtual 72, 3) := by decide +kernel
theorem dX0_read_21 : decode cX0_read 21 = .ok (.ifCond .eq 21, 3) := by decide +kernel
theorem dX0_read_24 : decode cX0_read 24 = .ok (.aload_n 1, 1) := by decide +kernel
theorem dX0_read_25 : decode cX0_read 25 = .ok (.getfield 76, 3) := by decide +kernel
theorem dX0_read_28 : decode cX0_read 28 = .ok (.ifCond .eq 14, 3) := by decide +kernel
theorem dX0_read_31 : decode cX0_read 31 = .ok (.aload_n 0, 1) := by decide +kernel
theorem dX0_read_32 : decode cX0_read 32 = .ok (.aload_n 1, 1) := by decide +kernel
theorem dX0_read_33 : decode cX0_read 33 = .ok (.invokevirtual 80, 3) := by decide +kernel
theorem dX0_read_36 : decode cX0_read 36 = .ok (.iinc 2 1, 3) := by decide +kernel
theorem dX0_read_39 : decode cX0_read 39 = .ok (.goto (-29), 3) := by decide +kernel
theorem dX0_read_42 : decode cX0_read 42 = .ok (.return_, 1) := by decide +kernel
theorem dX0_clear_0 : decode cX0_clear 0 = .ok (.aload_n 0, 1) := by decide +kernel
theorem dX0_clear_1 : decode cX0_clear 1 = .ok (.getfield 14, 3) := by decide +kernel
theorem dX0_clear_4 : decode cX0_clear 4 = .ok (.iconst 0, 1) := by decide +kernel
theorem dX0_clear_5 : decode cX0_clear 5 = .ok (.putfield 84, 3) := by decide +kernel
theorem dX0_clear_8 : decode cX0_clear 8 = .ok (.aload_n 0, 1) := by decide +kernel
theorem dX0_clear_9 : decode cX0_clear 9 = .ok (.getfield 20, 3) := by decide +kernel
theorem dX0_clear_12 : decode cX0_clear 12 = .ok (.iconst 0, 1) := by decide +kernel
theorem dX0_clear_13 : decode cX0_clear 13 = .ok (.putfield 84, 3) := by decide +kernel
theorem dX0_clear_16 : decode cX0_clear 16 = .ok (.aload_n 0, 1) := by decide +kernel
theorem dX0_clear_17 : decode cX0_clear 17 = .ok (.getfield 23, 3) := by decide +kernel
theorem dX0_clear_20 : decode cX0_clear 20 = .ok (.iconst 0, 1) := by decide +kernel
theorem dX0_clear_21 : decode cX0_clear 21 = .ok (.putfield 84, 3) := by decide +kernel
theorem dX0_clear_24 : decode cX0_clear 24 = .ok (.aload_n 0, 1) := by decide +kernel
theorem dX0_clear_25 : decode cX0_clear 25 = .ok (.getfield 26, 3) := by decide +kernel
theorem dX0_clear_28 : decode cX0_clear 28 = .ok (.iconst 0, 1) := by decide +kernel
theorem dX0_clear_29 : decode cX0_clear 29 = .ok (.putfield 84, 3) := by decide +kernel
theorem dX0_clear_32 : decode cX0_clear 32 = .ok (.aload_n 0, 1) := by decide +kernel
theorem dX0_clear_33 : decode cX0_clear 33 = .ok (.iconst 0, 1) := by decide +kernel
theorem dX0_clear_34 : decode cX0_clear 34 = .ok (.putfield 87, 3) := by decide +kernel
theorem dX0_clear_37 : decode cX0_clear 37 = .ok (.aload_n 0, 1) := by decide +kernel
theorem dX0_clear_38 : decode cX0_clear 38 = .ok (.iconst 0, 1) := by decide +kernel
theorem dX0_clear_39 : decode cX0_clear 39 = .ok (.putfield 90, 3) := by decide +kernel
theorem dX0_clear_42 : decode cX0_clear 42 = .ok (.aload_n 0, 1) := by decide +kernel
theorem dX0_clear_43 : decode cX0_clear 43 = .ok (.getfield 60, 3) := by decide +kernel
theorem dX0_clear_46 : decode cX0_clear 46 = .ok (.iconst 0, 1) := by decide +kernel
theorem dX0_clear_47 : decode cX0_clear 47 = .ok (.putfield 93, 3) := by decide +kernel
theorem dX0_clear_50 : decode cX0_clear 50 = .ok (.return_, 1) := by decide +kernel
theorem dX0_readStatement_0 : decode cX0_readStatement 0 = .ok (.aload_n 1, 1) := by decide +kernel
theorem dX0_readStatement_1 : decode cX0_readStatement 1 = .ok (.ldc2_w 94, 3) := by decide +kernel
theorem dX0_readStatement_4 : decode cX0_readStatement 4 = .ok (.invokevirtual 96, 3) := by decide +kernel
theorem dX0_readStatement_7 : decode cX0_readStatement 7 = .ok (.ifCond .eq 11, 3) := by decide +kernel
theorem dX0_readStatement_10 : decode cX0_readStatement 10 = .ok (.aload_n 0, 1) := by decide +kernel
theorem dX0_readStatement_11 : decode cX0_readStatement 11 = .ok (.aload_n 1, 1) := by decide +kernel
theorem dX0_readStatement_12 : decode cX0_readStatement 12 = .ok (.invokevirtual 100, 3) := by decide +kernel
theorem dX0_readStatement_15 : decode cX0_readStatement 15 = .ok (.goto 116, 3) := by decide +kernel
theorem dX0_readStatement_18 : decode cX0_readStatement 18 = .ok (.aload_n 1, 1) := by decide +kernel
theorem dX0_readStatement_19 : decode cX0_readStatement 19 = .ok (.ldc2_w 103, 3) := by decide +kernel
theorem dX0_readStatement_22 : decode cX0_readStatement 22 = .ok (.invokevirtual 96, 3) := by decide +kernel
theorem dX0_readStatement_25 : decode cX0_readStatement 25 = .ok (.ifCond .eq 11, 3) := by decide +kernel
theorem dX0_readStatement_28 : decode cX0_readStatement 28 = .ok (.aload_n 0, 1) := by decide +kernel
theorem dX0_readStatement_29 : decode cX0_readStatement 29 = .ok (.aload_n 1, 1) := by decide +kernel
theorem dX0_readStatement_30 : decode cX0_readStatement 30 = .ok (.invokevirtual 105, 3) := by decide +kernel
theorem dX0_readStatement_33 : decode cX0_readStatement 33 = .ok (.goto 98, 3) := by decide +kernel
theorem dX0_readStatement_36 : decode cX0_readStatement 36 = .ok (.aload_n 1, 1) := by decide +kernel
theorem dX0_readStatement_37 : decode cX0_readStatement 37 = .ok (.ldc2_w 108, 3) := by decide +kernel
theorem dX0_readStatement_40 : decode cX0_readStatement 40 = .ok (.invokevirtual 96, 3) := by decide +kernel
theorem dX0_readStatement_43 : decode cX0_readStatement 43 = .ok (.ifCond .eq 11, 3) := by decide +kernel
theorem dX0_readStatement_46 : decode cX0_readStatement 46 = .ok (.aload_n 0, 1) := by decide +kernel
theorem dX0_readStatement_47 : decode cX0_readStatement 47 = .ok (.aload_n 1, 1) := by decide +kernel
theorem dX0_readStatement_48 : decode cX0_readStatement 48 = .ok (.invokevirtual 110, 3) := by decide +kernel
theorem dX0_readStatement_51 : decode cX0_readStatement 51 = .ok (.goto 80, 3) := by decide +kernel
theorem dX0_readStatement_54 : decode cX0_readStatement 54 = .ok (.aload_n 1, 1) := by decide +kernel
theorem dX0_readStatement_55 : decode cX0_readStatement 55 = .ok (.ldc2_w 113, 3) := by decide +kernel
theorem dX0_readStatement_58 : decode cX0_readStatement 58 = .ok (.invokevirtual 96, 3) := by decide +kernel
theorem dX0_readStatement_61 : decode cX0_readStatement 61 = .ok (.ifCond .eq 11, 3) := by decide +kernel
theorem dX0_readStatement_64 : decode cX0_readStatement 64 = .ok (.aload_n 0, 1) := by decide +kernel
theorem dX0_readStatement_65 : decode cX0_readStatement 65 = .ok (.aload_n 1, 1) := by decide +kernel
theorem dX0_readStatement_66 : decode cX0_readStatement 66 = .ok (.invokevirtual 115, 3) := by decide +kernel
theorem dX0_readStatement_69 : decode cX0_readStatement 69 = .ok (.goto 62, 3) := by decide +kernel
theorem dX0_readStatement_72 : decode cX0_readStatement 72 = .ok (.aload_n 1, 1) := by decide +kernel
theorem dX0_readStatement_73 : decode cX0_readStatement 73 = .ok (.ldc2_w 118, 3) := by decide +kernel
theorem dX0_readStatement_76 : decode cX0_readStatement 76 = .ok (.invokevirtual 96, 3) := by decide +kernel
theorem dX0_readStatement_79 : decode cX0_readStatement 79 = .ok (.ifCond .eq 11, 3) := by decide +kernel
theorem dX0_readStatement_82 : decode cX0_readStatement 82 = .ok (.aload_n 0, 1) := by decide +kernel
theorem dX0_readStatement_83 : decode cX0_readStatement 83 = .ok (.aload_n 1, 1) := by decide +kernel
theorem dX0_readStatement_84 : decode cX0_readStatement 84 = .ok (.invokevirtual 120, 3) := by decide +kernel
theorem dX0_readStatement_87 : decode cX0_readStatement 87 = .ok (.goto 44, 3) := by decide +kernel
theorem dX0_readStatement_90 : decode cX0_readStatement 90 = .ok (.aload_n 1, 1) := by decide +kernel
theorem dX0_readStatement_91 : decode cX0_readStatement 91 = .ok (.ldc2_w 123, 3) := by decide +kernel
theorem dX0_readStatement_94 : decode cX0_readStatement 94 = .ok (.invokevirtual 96, 3) := by decide +kernel
theorem dX0_readStatement_97 : decode cX0_readStatement 97 = .ok (.ifCond .eq 11, 3) := by decide +kernel
theorem dX0_readStatement_100 : decode cX0_readStatement 100 = .ok (.aload_n 0, 1) := by decide +kernel
theorem dX0_readStatement_101 : decode cX0_readStatement 101 = .ok (.aload_n 1, 1) := by decide +kernel
theorem dX0_readStatement_102 : decode cX0_readStatement 102 = .ok (.invokevirtual 125, 3) := by decide +kernel
theorem dX0_readStatement_105 : decode cX0_readStatement 105 = .ok (.goto 26, 3) := by decide +kernel
theorem dX0_readStatement_108 : decode cX0_readStatement 108 = .ok (.aload_n 1, 1) := by decide +kernel
theorem dX0_readStatement_109 : decode cX0_readStatement 109 = .ok (.ldc2_w 128, 3) := by decide +kernel
theorem dX0_readStatement_112 : decode cX0_readStatement 112 = .ok (.invokevirtual 96, 3) := by decide +kernel
theorem dX0_readStatement_115 : decode cX0_readStatement 115 = .ok (.ifCond .eq 11, 3) := by decide +kernel
theorem dX0_readStatement_118 : decode cX0_readStatement 118 = .ok (.aload_n 0, 1) := by decide +kernel
theorem dX0_readStatement_119 : decode cX0_readStatement 119 = .ok (.aload_n 1, 1) := by decide +kernel
theorem dX0_readStatement_120 : decode cX0_readStatement 120 = .ok (.invokevirtual 130, 3) := by decide +kernel
theorem dX0_readStatement_123 : decode cX0_readStatement 123 = .ok (.goto 8, 3) := by decide +kernel
theorem dX0_readStatement_126 : decode cX0_readStatement 126 = .ok (.aload_n 1, 1) := by decide +kernel
theorem dX0_readStatement_127 : decode cX0_readStatement 127 = .ok (.iconst 1, 1) := by decide +kernel
theorem dX0_readStatement_128 : decode cX0_readStatement 128 = .ok (.invokevirtual 133, 3) := by decide +kernel
theorem dX0_readStatement_131 : decode cX0_readStatement 131 = .ok (.return_, 1) := by decide +kernel
theorem dX0_passFirst_0 : decode cX0_passFirst 0 = .ok (.iload_n 1, 1) := by decide +kernel
theorem dX0_passFirst_1 : decode cX0_passFirst 1 = .ok (.ifCond .eq 11, 3) := by decide +kernel
theorem dX0_passFirst_4 : decode cX0_passFirst 4 = .ok (.aload_n 0, 1) := by decide +kernel
theorem dX0_passFirst_5 : decode cX0_passFirst 5 = .ok (.iconst 5, 1) := by decide +kernel
theorem dX0_passFirst_6 : decode cX0_passFirst 6 = .ok (.invokevirtual 133, 3) := by decide +kernel
theorem dX0_passFirst_9 : decode cX0_passFirst 9 = .ok (.goto 7, 3) := by decide +kernel
theorem dX0_passFirst_12 : decode cX0_passFirst 12 = .ok (.aload_n 0, 1) := by decide +kernel
theorem dX0_passFirst_13 : decode cX0_passFirst 13 = .ok (.invokevirtual 136, 3) := by decide +kernel
theorem dX0_passFirst_16 : decode cX0_passFirst 16 = .ok (.return_, 1) := by decide +kernel
theorem dX0_passNewName_0 : decode cX0_passNewName 0 = .ok (.aload_n 1, 1) := by decide +kernel
theorem dX0_passNewName_1 : decode cX0_passNewName 1 = .ok (.invokevirtual 139, 3) := by decide +kernel
theorem dX0_passNewName_4 : decode cX0_passNewName 4 = .ok (.ifCond .ne 5, 3) := by decide +kernel
theorem dX0_passNewName_7 : decode cX0_passNewName 7 = .ok (.lconst 0, 1) := by decide +kernel
theorem dX0_passNewName_8 : decode cX0_passNewName 8 = .ok (.lreturn, 1) := by decide +kernel
theorem dX0_passNewName_9 : decode cX0_passNewName 9 = .ok (.aload_n 1, 1) := by decide +kernel
theorem dX0_passNewName_10 : decode cX0_passNewName 10 = .ok (.getfield 142, 3) := by decide +kernel
theorem dX0_passNewName_13 : decode cX0_passNewName 13 = .ok (.lstore_n 2, 1) := by decide +kernel
theorem dX0_passNewName_14 : decode cX0_passNewName 14 = .ok (.aload_n 0, 1) := by decide +kernel
theorem dX0_passNewName_15 : decode cX0_passNewName 15 = .ok (.lload_n 2, 1) := by decide +kernel
theorem dX0_passNewName_16 : decode cX0_passNewName 16 = .ok (.invokevirtual 146, 3) := by decide +kernel
theorem dX0_passNewName_19 : decode cX0_passNewName 19 = .ok (.ifCond .eq 11, 3) := by decide +kernel
theorem dX0_passNewName_22 : decode cX0_passNewName 22 = .ok (.aload_n 1, 1) := by decide +kernel
theorem dX0_passNewName_23 : decode cX0_passNewName 23 = .ok (.iconst 3, 1) := by decide +kernel
theorem dX0_passNewName_24 : decode cX0_passNewName 24 = .ok (.invokevirtual 133, 3) := by decide +kernel
theorem dX0_passNewName_27 : decode cX0_passNewName 27 = .ok (.goto 7, 3) := by decide +kernel
theorem dX0_passNewName_30 : decode cX0_passNewName 30 = .ok (.aload_n 1, 1) := by decide +kernel
theorem dX0_passNewName_31 : decode cX0_passNewName 31 = .ok (.invokevirtual 136, 3) := by decide +kernel
theorem dX0_passNewName_34 : decode cX0_passNewName 34 = .ok (.lload_n 2, 1) := by decide +kernel
theorem dX0_passNewName_35 : decode cX0_passNewName 35 = .ok (.lreturn, 1) := by decide +kernel
theorem dX0_isTold_0 : decode cX0_isTold 0 = .ok (.aload_n 0, 1) := by decide +kernel
theorem dX0_isTold_1 : decode cX0_isTold 1 = .ok (.getfield 14, 3) := by decide +kernel
theorem dX0_isTold_4 : decode cX0_isTold 4 = .ok (.lload_n 1, 1) := by decide +kernel
theorem dX0_isTold_5 : decode cX0_isTold 5 = .ok (.invokevirtual 149, 3) := by decide +kernel
theorem dX0_isTold_8 : decode cX0_isTold 8 = .ok (.iconst (-1), 1) := by decide +kernel
theorem dX0_isTold_9 : decode cX0_isTold 9 = .ok (.if_icmp .ne 39, 3) := by decide +kernel
theorem dX0_isTold_12 : decode cX0_isTold 12 = .ok (.aload_n 0, 1) := by decide +kernel
theorem dX0_isTold_13 : decode cX0_isTold 13 = .ok (.getfield 20, 3) := by decide +kernel
theorem dX0_isTold_16 : decode cX0_isTold 16 = .ok (.lload_n 1, 1) := by decide +kernel
theorem dX0_isTold_17 : decode cX0_isTold 17 = .ok (.invokevirtual 149, 3) := by decide +kernel
theorem dX0_isTold_20 : decode cX0_isTold 20 = .ok (.iconst (-1), 1) := by decide +kernel
theorem dX0_isTold_21 : decode cX0_isTold 21 = .ok (.if_icmp .ne 27, 3) := by decide +kernel
theorem dX0_isTold_24 : decode cX0_isTold 24 = .ok (.aload_n 0, 1) := by decide +kernel
theorem dX0_isTold_25 : decode cX0_isTold 25 = .ok (.getfield 23, 3) := by decide +kernel
theorem dX0_isTold_28 : decode cX0_isTold 28 = .ok (.lload_n 1, 1) := by decide +kernel
theorem dX0_isTold_29 : decode cX0_isTold 29 = .ok (.invokevirtual 149, 3) := by decide +kernel
theorem dX0_isTold_32 : decode cX0_isTold 32 = .ok (.iconst (-1), 1) := by decide +kernel
theorem dX0_isTold_33 : decode cX0_isTold 33 = .ok (.if_icmp .ne 15, 3) := by decide +kernel
theorem dX0_isTold_36 : decode cX0_isTold 36 = .ok (.aload_n 0, 1) := by decide +kernel
theorem dX0_isTold_37 : decode cX0_isTold 37 = .ok (.getfield 26, 3) := by decide +kernel
theorem dX0_isTold_40 : decode cX0_isTold 40 = .ok (.lload_n 1, 1) := by decide +kernel
theorem dX0_isTold_41 : decode cX0_isTold 41 = .ok (.invokevirtual 149, 3) := by decide +kernel
theorem dX0_isTold_44 : decode cX0_isTold 44 = .ok (.iconst (-1), 1) := by decide +kernel
theorem dX0_isTold_45 : decode cX0_isTold 45 = .ok (.if_icmp .eq 7, 3) := by decide +kernel
theorem dX0_isTold_48 : decode cX0_isTold 48 = .ok (.iconst 1, 1) := by decide +kernel
theorem dX0_isTold_49 : decode cX0_isTold 49 = .ok (.goto 4, 3) := by decide +kernel
theorem dX0_isTold_52 : decode cX0_isTold 52 = .ok (.iconst 0, 1) := by decide +kernel
theorem dX0_isTold_53 : decode cX0_isTold 53 = .ok (.ireturn, 1) := by decide +kernel
theorem dX0_readPlace_0 : decode cX0_readPlace 0 = .ok (.aload_n 1, 1) := by decide +kernel
theorem dX0_readPlace_1 : decode cX0_readPlace 1 = .ok (.aload_n 0, 1) := by decide +kernel
theorem dX0_readPlace_2 : decode cX0_readPlace 2 = .ok (.getfield 14, 3) := by decide +kernel
theorem dX0_readPlace_5 : decode cX0_readPlace 5 = .ok (.invokevirtual 153, 3) := by decide +kernel
theorem dX0_readPlace_8 : decode cX0_readPlace 8 = .ok (.invokestatic 156, 3) := by decide +kernel
theorem dX0_readPlace_11 : decode cX0_readPlace 11 = .ok (.aload_n 0, 1) := by decide +kernel
theorem dX0_readPlace_12 : decode cX0_readPlace 12 = .ok (.aload_n 1, 1) := by decide +kernel
theorem dX0_readPlace_13 : decode cX0_readPlace 13 = .ok (.invokevirtual 160, 3) := by decide +kernel
theorem dX0_readPlace_16 : decode cX0_readPlace 16 = .ok (.lstore_n 2, 1) := by decide +kernel
theorem dX0_readPlace_17 : decode cX0_readPlace 17 = .ok (.aload_n 1, 1) := by decide +kernel
theorem dX0_readPlace_18 : decode cX0_readPlace 18 = .ok (.ldc2_w 164, 3) := by decide +kernel
theorem dX0_readPlace_21 : decode cX0_readPlace 21 = .ok (.invokevirtual 166, 3) := by decide +kernel
theorem dX0_readPlace_24 : decode cX0_readPlace 24 = .ok (.aload_n 1, 1) := by decide +kernel
theorem dX0_readPlace_25 : decode cX0_readPlace 25 = .ok (.iconst 0, 1) := by decide +kernel
theorem dX0_readPlace_26 : decode cX0_readPlace 26 = .ok (.bipush 9, 2) := by decide +kernel
theorem dX0_readPlace_28 : decode cX0_readPlace 28 = .ok (.invokevirtual 170, 3) := by decide +kernel
theorem dX0_readPlace_31 : decode cX0_readPlace 31 = .ok (.istore 4, 2) := by decide +kernel
theorem dX0_readPlace_33 : decode cX0_readPlace 33 = .ok (.aload_n 1, 1) := by decide +kernel
theorem dX0_readPlace_34 : decode cX0_readPlace 34 = .ok (.bipush 59, 2) := by decide +kernel
theorem dX0_readPlace_36 : decode cX0_readPlace 36 = .ok (.invokevirtual 174, 3) := by decide +kernel
theorem dX0_readPlace_39 : decode cX0_readPlace 39 = .ok (.aload_n 1, 1) := by decide +kernel
theorem dX0_readPlace_40 : decode cX0_readPlace 40 = .ok (.invokevirtual 72, 3) := by decide +kernel
theorem dX0_readPlace_43 : decode cX0_readPlace 43 = .ok (.ifCond .eq 14, 3) := by decide +kernel
theorem dX0_readPlace_46 : decode cX0_readPlace 46 = .ok (.aload_n 0, 1) := by decide +kernel
theorem dX0_readPlace_47 : decode cX0_readPlace 47 = .ok (.getfield 14, 3) := by decide +kernel
theorem dX0_readPlace_50 : decode cX0_readPlace 50 = .ok (.lload_n 2, 1) := by decide +kernel
theorem dX0_readPlace_51 : decode cX0_readPlace 51 = .ok (.invokevirtual 178, 3) := by decide +kernel
theorem dX0_readPlace_54 : decode cX0_readPlace 54 = .ok (.goto 4, 3) := by decide +kernel
theorem dX0_readPlace_57 : decode cX0_readPlace 57 = .ok (.iconst (-1), 1) := by decide +kernel
theorem dX0_readPlace_58 : decode cX0_readPlace 58 = .ok (.istore 5, 2) := by decide +kernel
theorem dX0_readPlace_60 : decode cX0_readPlace 60 = .ok (.iload 5, 2) := by decide +kernel
theorem dX0_readPlace_62 : decode cX0_readPlace 62 = .ok (.iconst (-1), 1) := by decide +kernel
theorem dX0_readPlace_63 : decode cX0_readPlace 63 = .ok (.if_icmp .eq 20, 3) := by decide +kernel
theorem dX0_readPlace_66 : decode cX0_readPlace 66 = .ok (.aload_n 0, 1) := by decide +kernel
theorem dX0_readPlace_67 : decode cX0_readPlace 67 = .ok (.getfield 29, 3) := by decide +kernel
theorem dX0_readPlace_70 : decode cX0_readPlace 70 = .ok (.iload 5, 2) := by decide +kernel
theorem dX0_readPlace_72 : decode cX0_readPlace 72 = .ok (.iload 4, 2) := by decide +kernel
theorem dX0_readPlace_74 : decode cX0_readPlace 74 = .ok (.iastore, 1) := by decide +kernel
theorem dX0_readPlace_75 : decode cX0_readPlace 75 = .ok (.aload_n 0, 1) := by decide +kernel
theorem dX0_readPlace_76 : decode cX0_readPlace 76 = .ok (.getfield 33, 3) := by decide +kernel
theorem dX0_readPlace_79 : decode cX0_readPlace 79 = .ok (.iload 5, 2) := by decide +kernel
theorem dX0_readPlace_81 : decode cX0_readPlace 81 = .ok (.iconst 0, 1) := by decide +kernel
theorem dX0_readPlace_82 : decode cX0_readPlace 82 = .ok (.iastore, 1) := by decide +kernel
theorem dX0_readPlace_83 : decode cX0_readPlace 83 = .ok (.return_, 1) := by decide +kernel
theorem dX0_readStream_0 : decode cX0_readStream 0 = .ok (.aload_n 1, 1) := by decide +kernel
theorem dX0_readStream_1 : decode cX0_readStream 1 = .ok (.aload_n 0, 1) := by decide +kernel
theorem dX0_readStream_2 : decode cX0_readStream 2 = .ok (.getfield 90, 3) := by decide +kernel
theorem dX0_readStream_5 : decode cX0_readStream 5 = .ok (.bipush 10, 2) := by decide +kernel
theorem dX0_readStream_7 : decode cX0_readStream 7 = .ok (.if_icmp .lt 7, 3) := by decide +kernel
theorem dX0_readStream_10 : decode cX0_readStream 10 = .ok (.iconst 1, 1) := by decide +kernel
theorem dX0_readStream_11 : decode cX0_readStream 11 = .ok (.goto 4, 3) := by decide +kernel
theorem dX0_readStream_14 : decode cX0_readStream 14 = .ok (.iconst 0, 1) := by decide +kernel
theorem dX0_readStream_15 : decode cX0_readStream 15 = .ok (.invokestatic 156, 3) := by decide +kernel
theorem dX0_readStream_18 : decode cX0_readStream 18 = .ok (.aload_n 1, 1) := by decide +kernel
theorem dX0_readStream_19 : decode cX0_readStream 19 = .ok (.aload_n 0, 1) := by decide +kernel
theorem dX0_readStream_20 : decode cX0_readStream 20 = .ok (.getfield 14, 3) := by decide +kernel
theorem dX0_readStream_23 : decode cX0_readStream 23 = .ok (.invokevirtual 181, 3) := by decide +kernel
theorem dX0_readStream_26 : decode cX0_readStream 26 = .ok (.istore_n 2, 1) := by decide +kernel
theorem dX0_readStream_27 : decode cX0_readStream 27 = .ok (.aload_n 1, 1) := by decide +kernel
theorem dX0_readStream_28 : decode cX0_readStream 28 = .ok (.getfield 185, 3) := by decide +kernel
theorem dX0_readStream_31 : decode cX0_readStream 31 = .ok (.istore_n 3, 1) := by decide +kernel
theorem dX0_readStream_32 : decode cX0_readStream 32 = .ok (.aload_n 1, 1) := by decide +kernel
theorem dX0_readStream_33 : decode cX0_readStream 33 = .ok (.aload_n 0, 1) := by decide +kernel
theorem dX0_readStream_34 : decode cX0_readStream 34 = .ok (.getfield 14, 3) := by decide +kernel
theorem dX0_readStream_37 : decode cX0_readStream 37 = .ok (.invokevirtual 181, 3) := by decide +kernel
theorem dX0_readStream_40 : decode cX0_readStream 40 = .ok (.istore 4, 2) := by decide +kernel
theorem dX0_readStream_42 : decode cX0_readStream 42 = .ok (.aload_n 1, 1) := by decide +kernel
theorem dX0_readStream_43 : decode cX0_readStream 43 = .ok (.invokevirtual 72, 3) := by decide +kernel
theorem dX0_readStream_46 : decode cX0_readStream 46 = .ok (.ifCond .eq 25, 3) := by decide +kernel
theorem dX0_readStream_49 : decode cX0_readStream 49 = .ok (.iload_n 2, 1) := by decide +kernel
theorem dX0_readStream_50 : decode cX0_readStream 50 = .ok (.iload 4, 2) := by decide +kernel
theorem dX0_readStream_52 : decode cX0_readStream 52 = .ok (.if_icmp .eq 13, 3) := by decide +kernel
theorem dX0_readStream_55 : decode cX0_readStream 55 = .ok (.aload_n 0, 1) := by decide +kernel
theorem dX0_readStream_56 : decode cX0_readStream 56 = .ok (.iload_n 2, 1) := by decide +kernel
theorem dX0_readStream_57 : decode cX0_readStream 57 = .ok (.iload 4, 2) := by decide +kernel
theorem dX0_readStream_59 : decode cX0_readStream 59 = .ok (.invokevirtual 188, 3) := by decide +kernel
theorem dX0_readStream_62 : decode cX0_readStream 62 = .ok (.ifCond .eq 9, 3) := by decide +kernel
theorem dX0_readStream_65 : decode cX0_readStream 65 = .ok (.aload_n 1, 1) := by decide +kernel
theorem dX0_readStream_66 : decode cX0_readStream 66 = .ok (.iconst 3, 1) := by decide +kernel
theorem dX0_readStream_67 : decode cX0_readStream 67 = .ok (.iload_n 3, 1) := by decide +kernel
theorem dX0_readStream_68 : decode cX0_readStream 68 = .ok (.invokevirtual 192, 3) := by decide +kernel
theorem dX0_readStream_71 : decode cX0_readStream 71 = .ok (.aload_n 1, 1) := by decide +kernel
theorem dX0_readStream_72 : decode cX0_readStream 72 = .ok (.bipush 59, 2) := by decide +kernel
theorem dX0_readStream_74 : decode cX0_readStream 74 = .ok (.invokevirtual 174, 3) := by decide +kernel
theorem dX0_readStream_77 : decode cX0_readStream 77 = .ok (.aload_n 1, 1) := by decide +kernel
theorem dX0_readStream_78 : decode cX0_readStream 78 = .ok (.invokevirtual 72, 3) := by decide +kernel
theorem dX0_readStream_81 : decode cX0_readStream 81 = .ok (.ifCond .eq 20, 3) := by decide +kernel
theorem dX0_readStream_84 : decode cX0_readStream 84 = .ok (.aload_n 0, 1) := by decide +kernel
theorem dX0_readStream_85 : decode cX0_readStream 85 = .ok (.iload_n 2, 1) := by decide +kernel
theorem dX0_readStream_86 : decode cX0_readStream 86 = .ok (.iload 4, 2) := by decide +kernel
theorem dX0_readStream_88 : decode cX0_readStream 88 = .ok (.invokevirtual 196, 3) := by decide +kernel
theorem dX0_readStream_91 : decode cX0_readStream 91 = .ok (.aload_n 0, 1) := by decide +kernel
theorem dX0_readStream_92 : decode cX0_readStream 92 = .ok (.dup, 1) := by decide +kernel
theorem dX0_readStream_93 : decode cX0_readStream 93 = .ok (.getfield 90, 3) := by decide +kernel
theorem dX0_readStream_96 : decode cX0_readStream 96 = .ok (.iconst 1, 1) := by decide +kernel
theorem dX0_readStream_97 : decode cX0_readStream 97 = .ok (.iadd, 1) := by decide +kernel
theorem dX0_readStream_98 : decode cX0_readStream 98 = .ok (.putfield 90, 3) := by decide +kernel
theorem dX0_readStream_101 : decode cX0_readStream 101 = .ok (.return_, 1) := by decide +kernel
theorem dX0_readPerson_0 : decode cX0_readPerson 0 = .ok (.aload_n 1, 1) := by decide +kernel
theorem dX0_readPerson_1 : decode cX0_readPerson 1 = .ok (.aload_n 0, 1) := by decide +kernel
theorem dX0_readPerson_2 : decode cX0_readPerson 2 = .ok (.getfield 20, 3) := by decide +kernel
theorem dX0_readPerson_5 : decode cX0_readPerson 5 = .ok (.invokevirtual 153, 3) := by decide +kernel
theorem dX0_readPerson_8 : decode cX0_readPerson 8 = .ok (.invokestatic 156, 3) := by decide +kernel
theorem dX0_readPerson_11 : decode cX0_readPerson 11 = .ok (.aload_n 0, 1) := by decide +kernel
theorem dX0_readPerson_12 : decode cX0_readPerson 12 = .ok (.aload_n 1, 1) := by decide +kernel
theorem dX0_readPerson_13 : decode cX0_readPerson 13 = .ok (.invokevirtual 160, 3) := by decide +kernel
theorem dX0_readPerson_16 : decode cX0_readPerson 16 = .ok (.lstore_n 2, 1) := by decide +kernel
theorem dX0_readPerson_17 : decode cX0_readPerson 17 = .ok (.aload_n 1, 1) := by decide +kernel
theorem dX0_readPerson_18 : decode cX0_readPerson 18 = .ok (.invokestatic 199, 3) := by decide +kernel
theorem dX0_readPerson_21 : decode cX0_readPerson 21 = .ok (.istore 4, 2) := by decide +kernel
theorem dX0_readPerson_23 : decode cX0_readPerson 23 = .ok (.aload_n 1, 1) := by decide +kernel
theorem dX0_readPerson_24 : decode cX0_readPerson 24 = .ok (.ldc2_w 203, 3) := by decide +kernel
theorem dX0_readPerson_27 : decode cX0_readPerson 27 = .ok (.invokevirtual 166, 3) := by decide +kernel
theorem dX0_readPerson_30 : decode cX0_readPerson 30 = .ok (.aload_n 1, 1) := by decide +kernel
theorem dX0_readPerson_31 : decode cX0_readPerson 31 = .ok (.aload_n 0, 1) := by decide +kernel
theorem dX0_readPerson_32 : decode cX0_readPerson 32 = .ok (.getfield 14, 3) := by decide +kernel
theorem dX0_readPerson_35 : decode cX0_readPerson 35 = .ok (.invokevirtual 181, 3) := by decide +kernel
theorem dX0_readPerson_38 : decode cX0_readPerson 38 = .ok (.istore 5, 2) := by decide +kernel
theorem dX0_readPerson_40 : decode cX0_readPerson 40 = .ok (.aload_n 1, 1) := by decide +kernel
theorem dX0_readPerson_41 : decode cX0_readPerson 41 = .ok (.bipush 59, 2) := by decide +kernel
theorem dX0_readPerson_43 : decode cX0_readPerson 43 = .ok (.invokevirtual 174, 3) := by decide +kernel
theorem dX0_readPerson_46 : decode cX0_readPerson 46 = .ok (.aload_n 1, 1) := by decide +kernel
theorem dX0_readPerson_47 : decode cX0_readPerson 47 = .ok (.invokevirtual 72, 3) := by decide +kernel
theorem dX0_readPerson_50 : decode cX0_readPerson 50 = .ok (.ifCond .eq 14, 3) := by decide +kernel
theorem dX0_readPerson_53 : decode cX0_readPerson 53 = .ok (.aload_n 0, 1) := by decide +kernel
theorem dX0_readPerson_54 : decode cX0_readPerson 54 = .ok (.getfield 20, 3) := by decide +kernel
theorem dX0_readPerson_57 : decode cX0_readPerson 57 = .ok (.lload_n 2, 1) := by decide +kernel
theorem dX0_readPerson_58 : decode cX0_readPerson 58 = .ok (.invokevirtual 178, 3) := by decide +kernel
theorem dX0_readPerson_61 : decode cX0_readPerson 61 = .ok (.goto 4, 3) := by decide +kernel
theorem dX0_readPerson_64 : decode cX0_readPerson 64 = .ok (.iconst (-1), 1) := by decide +kernel
theorem dX0_readPerson_65 : decode cX0_readPerson 65 = .ok (.istore 6, 2) := by decide +kernel
theorem dX0_readPerson_67 : decode cX0_readPerson 67 = .ok (.iload 6, 2) := by decide +kernel
theorem dX0_readPerson_69 : decode cX0_readPerson 69 = .ok (.iconst (-1), 1) := by decide +kernel
theorem dX0_readPerson_70 : decode cX0_readPerson 70 = .ok (.if_icmp .eq 21, 3) := by decide +kernel
theorem dX0_readPerson_73 : decode cX0_readPerson 73 = .ok (.aload_n 0, 1) := by decide +kernel
theorem dX0_readPerson_74 : decode cX0_readPerson 74 = .ok (.getfield 36, 3) := by decide +kernel
theorem dX0_readPerson_77 : decode cX0_readPerson 77 = .ok (.iload 6, 2) := by decide +kernel
theorem dX0_readPerson_79 : decode cX0_readPerson 79 = .ok (.iload 4, 2) := by decide +kernel
theorem dX0_readPerson_81 : decode cX0_readPerson 81 = .ok (.iastore, 1) := by decide +kernel
theorem dX0_readPerson_82 : decode cX0_readPerson 82 = .ok (.aload_n 0, 1) := by decide +kernel
theorem dX0_readPerson_83 : decode cX0_readPerson 83 = .ok (.getfield 39, 3) := by decide +kernel
theorem dX0_readPerson_86 : decode cX0_readPerson 86 = .ok (.iload 6, 2) := by decide +kernel
theorem dX0_readPerson_88 : decode cX0_readPerson 88 = .ok (.iload 5, 2) := by decide +kernel
theorem dX0_readPerson_90 : decode cX0_readPerson 90 = .ok (.iastore, 1) := by decide +kernel
theorem dX0_readPerson_91 : decode cX0_readPerson 91 = .ok (.return_, 1) := by decide +kernel
theorem dX0_passKind_0 : decode cX0_passKind 0 = .ok (.iconst (-1), 1) := by decide +kernel
theorem dX0_passKind_1 : decode cX0_passKind 1 = .ok (.istore_n 1, 1) := by decide +kernel
theorem dX0_passKind_2 : decode cX0_passKind 2 = .ok (.aload_n 0, 1) := by decide +kernel
theorem dX0_passKind_3 : decode cX0_passKind 3 = .ok (.ldc2_w 205, 3) := by decide +kernel
theorem dX0_passKind_6 : decode cX0_passKind 6 = .ok (.invokevirtual 96, 3) := by decide +kernel
theorem dX0_passKind_9 : decode cX0_passKind 9 = .ok (.ifCond .eq 8, 3) := by decide +kernel
theorem dX0_passKind_12 : decode cX0_passKind 12 = .ok (.iconst 0, 1) := by decide +kernel
theorem dX0_passKind_13 : decode cX0_passKind 13 = .ok (.istore_n 1, 1) := by decide +kernel
theorem dX0_passKind_14 : decode cX0_passKind 14 = .ok (.goto 45, 3) := by decide +kernel
theorem dX0_passKind_17 : decode cX0_passKind 17 = .ok (.aload_n 0, 1) := by decide +kernel
theorem dX0_passKind_18 : decode cX0_passKind 18 = .ok (.ldc2_w 207, 3) := by decide +kernel
theorem dX0_passKind_21 : decode cX0_passKind 21 = .ok (.invokevirtual 96, 3) := by decide +kernel
theorem dX0_passKind_24 : decode cX0_passKind 24 = .ok (.ifCond .eq 8, 3) := by decide +kernel
theorem dX0_passKind_27 : decode cX0_passKind 27 = .ok (.iconst 1, 1) := by decide +kernel
theorem dX0_passKind_28 : decode cX0_passKind 28 = .ok (.istore_n 1, 1) := by decide +kernel
theorem dX0_passKind_29 : decode cX0_passKind 29 = .ok (.goto 30, 3) := by decide +kernel
theorem dX0_passKind_32 : decode cX0_passKind 32 = .ok (.aload_n 0, 1) := by decide +kernel
theorem dX0_passKind_33 : decode cX0_passKind 33 = .ok (.ldc2_w 209, 3) := by decide +kernel
theorem dX0_passKind_36 : decode cX0_passKind 36 = .ok (.invokevirtual 96, 3) := by decide +kernel
theorem dX0_passKind_39 : decode cX0_passKind 39 = .ok (.ifCond .eq 8, 3) := by decide +kernel
theorem dX0_passKind_42 : decode cX0_passKind 42 = .ok (.iconst 2, 1) := by decide +kernel
theorem dX0_passKind_43 : decode cX0_passKind 43 = .ok (.istore_n 1, 1) := by decide +kernel
theorem dX0_passKind_44 : decode cX0_passKind 44 = .ok (.goto 15, 3) := by decide +kernel
theorem dX0_passKind_47 : decode cX0_passKind 47 = .ok (.aload_n 0, 1) := by decide +kernel
theorem dX0_passKind_48 : decode cX0_passKind 48 = .ok (.ldc2_w 211, 3) := by decide +kernel
theorem dX0_passKind_51 : decode cX0_passKind 51 = .ok (.invokevirtual 96, 3) := by decide +kernel
theorem dX0_passKind_54 : decode cX0_passKind 54 = .ok (.ifCond .eq 5, 3) := by decide +kernel
theorem dX0_passKind_57 : decode cX0_passKind 57 = .ok (.iconst 3, 1) := by decide +kernel
theorem dX0_passKind_58 : decode cX0_passKind 58 = .ok (.istore_n 1, 1) := by decide +kernel
theorem dX0_passKind_59 : decode cX0_passKind 59 = .ok (.iload_n 1, 1) := by decide +kernel
theorem dX0_passKind_60 : decode cX0_passKind 60 = .ok (.iconst (-1), 1) := by decide +kernel
theorem dX0_passKind_61 : decode cX0_passKind 61 = .ok (.if_icmp .ne 11, 3) := by decide +kernel
theorem dX0_passKind_64 : decode cX0_passKind 64 = .ok (.aload_n 0, 1) := by decide +kernel
theorem dX0_passKind_65 : decode cX0_passKind 65 = .ok (.iconst 1, 1) := by decide +kernel
theorem dX0_passKind_66 : decode cX0_passKind 66 = .ok (.invokevirtual 133, 3) := by decide +kernel
theorem dX0_passKind_69 : decode cX0_passKind 69 = .ok (.goto 7, 3) := by decide +kernel
theorem dX0_passKind_72 : decode cX0_passKind 72 = .ok (.aload_n 0, 1) := by decide +kernel
theorem dX0_passKind_73 : decode cX0_passKind 73 = .ok (.invokevirtual 136, 3) := by decide +kernel
theorem dX0_passKind_76 : decode cX0_passKind 76 = .ok (.iload_n 1, 1) := by decide +kernel
theorem dX0_passKind_77 : decode cX0_passKind 77 = .ok (.ireturn, 1) := by decide +kernel
theorem dX0_readOtter_0 : decode cX0_readOtter 0 = .ok (.aload_n 1, 1) := by decide +kernel
theorem dX0_readOtter_1 : decode cX0_readOtter 1 = .ok (.aload_n 0, 1) := by decide +kernel
theorem dX0_readOtter_2 : decode cX0_readOtter 2 = .ok (.getfield 23, 3) := by decide +kernel
theorem dX0_readOtter_5 : decode cX0_readOtter 5 = .ok (.invokevirtual 153, 3) := by decide +kernel
theorem dX0_readOtter_8 : decode cX0_readOtter 8 = .ok (.invokestatic 156, 3) := by decide +kernel
theorem dX0_readOtter_11 : decode cX0_readOtter 11 = .ok (.aload_n 0, 1) := by decide +kernel
theorem dX0_readOtter_12 : decode cX0_readOtter 12 = .ok (.aload_n 1, 1) := by decide +kernel
theorem dX0_readOtter_13 : decode cX0_readOtter 13 = .ok (.invokevirtual 160, 3) := by decide +kernel
theorem dX0_readOtter_16 : decode cX0_readOtter 16 = .ok (.lstore_n 2, 1) := by decide +kernel
theorem dX0_readOtter_17 : decode cX0_readOtter 17 = .ok (.aload_n 1, 1) := by decide +kernel
theorem dX0_readOtter_18 : decode cX0_readOtter 18 = .ok (.ldc2_w 203, 3) := by decide +kernel
theorem dX0_readOtter_21 : decode cX0_readOtter 21 = .ok (.invokevirtual 166, 3) := by decide +kernel
theorem dX0_readOtter_24 : decode cX0_readOtter 24 = .ok (.aload_n 1, 1) := by decide +kernel
theorem dX0_readOtter_25 : decode cX0_readOtter 25 = .ok (.aload_n 0, 1) := by decide +kernel
theorem dX0_readOtter_26 : decode cX0_readOtter 26 = .ok (.getfield 14, 3) := by decide +kernel
theorem dX0_readOtter_29 : decode cX0_readOtter 29 = .ok (.invokevirtual 181, 3) := by decide +kernel
theorem dX0_readOtter_32 : decode cX0_readOtter 32 = .ok (.istore 4, 2) := by decide +kernel
theorem dX0_readOtter_34 : decode cX0_readOtter 34 = .ok (.aload_n 1, 1) := by decide +kernel
theorem dX0_readOtter_35 : decode cX0_readOtter 35 = .ok (.ldc2_w 213, 3) := by decide +kernel
theorem dX0_readOtter_38 : decode cX0_readOtter 38 = .ok (.invokevirtual 166, 3) := by decide +kernel
theorem dX0_readOtter_41 : decode cX0_readOtter 41 = .ok (.aload_n 1, 1) := by decide +kernel
theorem dX0_readOtter_42 : decode cX0_readOtter 42 = .ok (.iconst 1, 1) := by decide +kernel
theorem dX0_readOtter_43 : decode cX0_readOtter 43 = .ok (.iconst 3, 1) := by decide +kernel
theorem dX0_readOtter_44 : decode cX0_readOtter 44 = .ok (.invokevirtual 170, 3) := by decide +kernel
theorem dX0_readOtter_47 : decode cX0_readOtter 47 = .ok (.istore 5, 2) := by decide +kernel
theorem dX0_readOtter_49 : decode cX0_readOtter 49 = .ok (.aload_n 1, 1) := by decide +kernel
theorem dX0_readOtter_50 : decode cX0_readOtter 50 = .ok (.bipush 59, 2) := by decide +kernel
theorem dX0_readOtter_52 : decode cX0_readOtter 52 = .ok (.invokevirtual 174, 3) := by decide +kernel
theorem dX0_readOtter_55 : decode cX0_readOtter 55 = .ok (.aload_n 1, 1) := by decide +kernel
theorem dX0_readOtter_56 : decode cX0_readOtter 56 = .ok (.invokevirtual 72, 3) := by decide +kernel
theorem dX0_readOtter_59 : decode cX0_readOtter 59 = .ok (.ifCond .eq 14, 3) := by decide +kernel
theorem dX0_readOtter_62 : decode cX0_readOtter 62 = .ok (.aload_n 0, 1) := by decide +kernel
theorem dX0_readOtter_63 : decode cX0_readOtter 63 = .ok (.getfield 23, 3) := by decide +kernel
theorem dX0_readOtter_66 : decode cX0_readOtter 66 = .ok (.lload_n 2, 1) := by decide +kernel
theorem dX0_readOtter_67 : decode cX0_readOtter 67 = .ok (.invokevirtual 178, 3) := by decide +kernel
theorem dX0_readOtter_70 : decode cX0_readOtter 70 = .ok (.goto 4, 3) := by decide +kernel
theorem dX0_readOtter_73 : decode cX0_readOtter 73 = .ok (.iconst (-1), 1) := by decide +kernel
theorem dX0_readOtter_74 : decode cX0_readOtter 74 = .ok (.istore 6, 2) := by decide +kernel
theorem dX0_readOtter_76 : decode cX0_readOtter 76 = .ok (.iload 6, 2) := by decide +kernel
theorem dX0_readOtter_78 : decode cX0_readOtter 78 = .ok (.iconst (-1), 1) := by decide +kernel
theorem dX0_readOtter_79 : decode cX0_readOtter 79 = .ok (.if_icmp .eq 21, 3) := by decide +kernel
theorem dX0_readOtter_82 : decode cX0_readOtter 82 = .ok (.aload_n 0, 1) := by decide +kernel
theorem dX0_readOtter_83 : decode cX0_readOtter 83 = .ok (.getfield 42, 3) := by decide +kernel
theorem dX0_readOtter_86 : decode cX0_readOtter 86 = .ok (.iload 6, 2) := by decide +kernel
theorem dX0_readOtter_88 : decode cX0_readOtter 88 = .ok (.iload 4, 2) := by decide +kernel
theorem dX0_readOtter_90 : decode cX0_readOtter 90 = .ok (.iastore, 1) := by decide +kernel
theorem dX0_readOtter_91 : decode cX0_readOtter 91 = .ok (.aload_n 0, 1) := by decide +kernel
theorem dX0_readOtter_92 : decode cX0_readOtter 92 = .ok (.getfield 45, 3) := by decide +kernel
theorem dX0_readOtter_95 : decode cX0_readOtter 95 = .ok (.iload 6, 2) := by decide +kernel
theorem dX0_readOtter_97 : decode cX0_readOtter 97 = .ok (.iload 5, 2) := by decide +kernel
theorem dX0_readOtter_99 : decode cX0_readOtter 99 = .ok (.iastore, 1) := by decide +kernel
theorem dX0_readOtter_100 : decode cX0_readOtter 100 = .ok (.return_, 1) := by decide +kernel
theorem dX0_readWrit_0 : decode cX0_readWrit 0 = .ok (.aload_n 1, 1) := by decide +kernel
theorem dX0_readWrit_1 : decode cX0_readWrit 1 = .ok (.aload_n 0, 1) := by decide +kernel
theorem dX0_readWrit_2 : decode cX0_readWrit 2 = .ok (.getfield 26, 3) := by decide +kernel
theorem dX0_readWrit_5 : decode cX0_readWrit 5 = .ok (.invokevirtual 153, 3) := by decide +kernel
theorem dX0_readWrit_8 : decode cX0_readWrit 8 = .ok (.invokestatic 156, 3) := by decide +kernel
theorem dX0_readWrit_11 : decode cX0_readWrit 11 = .ok (.aload_n 0, 1) := by decide +kernel
theorem dX0_readWrit_12 : decode cX0_readWrit 12 = .ok (.aload_n 1, 1) := by decide +kernel
theorem dX0_readWrit_13 : decode cX0_readWrit 13 = .ok (.invokevirtual 160, 3) := by decide +kernel
theorem dX0_readWrit_16 : decode cX0_readWrit 16 = .ok (.lstore_n 2, 1) := by decide +kernel
theorem dX0_readWrit_17 : decode cX0_readWrit 17 = .ok (.aload_n 1, 1) := by decide +kernel
theorem dX0_readWrit_18 : decode cX0_readWrit 18 = .ok (.ldc2_w 215, 3) := by decide +kernel
theorem dX0_readWrit_21 : decode cX0_readWrit 21 = .ok (.invokevirtual 166, 3) := by decide +kernel
theorem dX0_readWrit_24 : decode cX0_readWrit 24 = .ok (.aload_n 1, 1) := by decide +kernel
theorem dX0_readWrit_25 : decode cX0_readWrit 25 = .ok (.aload_n 0, 1) := by decide +kernel
theorem dX0_readWrit_26 : decode cX0_readWrit 26 = .ok (.getfield 20, 3) := by decide +kernel
theorem dX0_readWrit_29 : decode cX0_readWrit 29 = .ok (.invokevirtual 181, 3) := by decide +kernel
theorem dX0_readWrit_32 : decode cX0_readWrit 32 = .ok (.istore 4, 2) := by decide +kernel
theorem dX0_readWrit_34 : decode cX0_readWrit 34 = .ok (.aload_n 1, 1) := by decide +kernel
theorem dX0_readWrit_35 : decode cX0_readWrit 35 = .ok (.ldc2_w 217, 3) := by decide +kernel
theorem dX0_readWrit_38 : decode cX0_readWrit 38 = .ok (.invokevirtual 166, 3) := by decide +kernel
theorem dX0_readWrit_41 : decode cX0_readWrit 41 = .ok (.aload_n 1, 1) := by decide +kernel
theorem dX0_readWrit_42 : decode cX0_readWrit 42 = .ok (.iconst 0, 1) := by decide +kernel
theorem dX0_readWrit_43 : decode cX0_readWrit 43 = .ok (.bipush 60, 2) := by decide +kernel
theorem dX0_readWrit_45 : decode cX0_readWrit 45 = .ok (.invokevirtual 170, 3) := by decide +kernel
theorem dX0_readWrit_48 : decode cX0_readWrit 48 = .ok (.istore 5, 2) := by decide +kernel
theorem dX0_readWrit_50 : decode cX0_readWrit 50 = .ok (.aload_n 1, 1) := by decide +kernel
theorem dX0_readWrit_51 : decode cX0_readWrit 51 = .ok (.bipush 59, 2) := by decide +kernel
theorem dX0_readWrit_53 : decode cX0_readWrit 53 = .ok (.invokevirtual 174, 3) := by decide +kernel
theorem dX0_readWrit_56 : decode cX0_readWrit 56 = .ok (.aload_n 1, 1) := by decide +kernel
theorem dX0_readWrit_57 : decode cX0_readWrit 57 = .ok (.invokevirtual 72, 3) := by decide +kernel
theorem dX0_readWrit_60 : decode cX0_readWrit 60 = .ok (.ifCond .eq 14, 3) := by decide +kernel
theorem dX0_readWrit_63 : decode cX0_readWrit 63 = .ok (.aload_n 0, 1) := by decide +kernel
theorem dX0_readWrit_64 : decode cX0_readWrit 64 = .ok (.getfield 26, 3) := by decide +kernel
theorem dX0_readWrit_67 : decode cX0_readWrit 67 = .ok (.lload_n 2, 1) := by decide +kernel
theorem dX0_readWrit_68 : decode cX0_readWrit 68 = .ok (.invokevirtual 178, 3) := by decide +kernel
theorem dX0_readWrit_71 : decode cX0_readWrit 71 = .ok (.goto 4, 3) := by decide +kernel
theorem dX0_readWrit_74 : decode cX0_readWrit 74 = .ok (.iconst (-1), 1) := by decide +kernel
theorem dX0_readWrit_75 : decode cX0_readWrit 75 = .ok (.istore 6, 2) := by decide +kernel
theorem dX0_readWrit_77 : decode cX0_readWrit 77 = .ok (.iload 6, 2) := by decide +kernel
theorem dX0_readWrit_79 : decode cX0_readWrit 79 = .ok (.iconst (-1), 1) := by decide +kernel
theorem dX0_readWrit_80 : decode cX0_readWrit 80 = .ok (.if_icmp .eq 21, 3) := by decide +kernel
theorem dX0_readWrit_83 : decode cX0_readWrit 83 = .ok (.aload_n 0, 1) := by decide +kernel
theorem dX0_readWrit_84 : decode cX0_readWrit 84 = .ok (.getfield 48, 3) := by decide +kernel
theorem dX0_readWrit_87 : decode cX0_readWrit 87 = .ok (.iload 6, 2) := by decide +kernel
theorem dX0_readWrit_89 : decode cX0_readWrit 89 = .ok (.iload 4, 2) := by decide +kernel
theorem dX0_readWrit_91 : decode cX0_readWrit 91 = .ok (.iastore, 1) := by decide +kernel
theorem dX0_readWrit_92 : decode cX0_readWrit 92 = .ok (.aload_n 0, 1) := by decide +kernel
theorem dX0_readWrit_93 : decode cX0_readWrit 93 = .ok (.getfield 51, 3) := by decide +kernel
theorem dX0_readWrit_96 : decode cX0_readWrit 96 = .ok (.iload 6, 2) := by decide +kernel
theorem dX0_readWrit_98 : decode cX0_readWrit 98 = .ok (.iload 5, 2) := by decide +kernel
theorem dX0_readWrit_100 : decode cX0_readWrit 100 = .ok (.iastore, 1) := by decide +kernel
theorem dX0_readWrit_101 : decode cX0_readWrit 101 = .ok (.return_, 1) := by decide +kernel
theorem dX0_readRain_0 : decode cX0_readRain 0 = .ok (.aload_n 0, 1) := by decide +kernel
theorem dX0_readRain_1 : decode cX0_readRain 1 = .ok (.getfield 87, 3) := by decide +kernel
theorem dX0_readRain_4 : decode cX0_readRain 4 = .ok (.ifCond .le 9, 3) := by decide +kernel
theorem dX0_readRain_7 : decode cX0_readRain 7 = .ok (.aload_n 1, 1) := by decide +kernel
theorem dX0_readRain_8 : decode cX0_readRain 8 = .ok (.iconst 3, 1) := by decide +kernel
theorem dX0_readRain_9 : decode cX0_readRain 9 = .ok (.invokevirtual 133, 3) := by decide +kernel
theorem dX0_readRain_12 : decode cX0_readRain 12 = .ok (.return_, 1) := by decide +kernel
theorem dX0_readRain_13 : decode cX0_readRain 13 = .ok (.aload_n 1, 1) := by decide +kernel
theorem dX0_readRain_14 : decode cX0_readRain 14 = .ok (.invokevirtual 136, 3) := by decide +kernel
theorem dX0_readRain_17 : decode cX0_readRain 17 = .ok (.aload_n 0, 1) := by decide +kernel
theorem dX0_readRain_18 : decode cX0_readRain 18 = .ok (.getfield 54, 3) := by decide +kernel
theorem dX0_readRain_21 : decode cX0_readRain 21 = .ok (.iconst 0, 1) := by decide +kernel
theorem dX0_readRain_22 : decode cX0_readRain 22 = .ok (.aload_n 1, 1) := by decide +kernel
theorem dX0_readRain_23 : decode cX0_readRain 23 = .ok (.iconst 0, 1) := by decide +kernel
theorem dX0_readRain_24 : decode cX0_readRain 24 = .ok (.bipush 9, 2) := by decide +kernel
theorem dX0_readRain_26 : decode cX0_readRain 26 = .ok (.invokevirtual 170, 3) := by decide +kernel
theorem dX0_readRain_29 : decode cX0_readRain 29 = .ok (.iastore, 1) := by decide +kernel
theorem dX0_readRain_30 : decode cX0_readRain 30 = .ok (.aload_n 0, 1) := by decide +kernel
theorem dX0_readRain_31 : decode cX0_readRain 31 = .ok (.iconst 1, 1) := by decide +kernel
theorem dX0_readRain_32 : decode cX0_readRain 32 = .ok (.putfield 87, 3) := by decide +kernel
theorem dX0_readRain_35 : decode cX0_readRain 35 = .ok (.iconst 1, 1) := by decide +kernel
theorem dX0_readRain_36 : decode cX0_readRain 36 = .ok (.istore_n 2, 1) := by decide +kernel
theorem dX0_readRain_37 : decode cX0_readRain 37 = .ok (.iload_n 2, 1) := by decide +kernel
theorem dX0_readRain_38 : decode cX0_readRain 38 = .ok (.bipush 12, 2) := by decide +kernel
theorem dX0_readRain_40 : decode cX0_readRain 40 = .ok (.if_icmp .gt 21, 3) := by decide +kernel
theorem dX0_readRain_43 : decode cX0_readRain 43 = .ok (.aload_n 1, 1) := by decide +kernel
theorem dX0_readRain_44 : decode cX0_readRain 44 = .ok (.invokevirtual 219, 3) := by decide +kernel
theorem dX0_readRain_47 : decode cX0_readRain 47 = .ok (.ifCond .eq 14, 3) := by decide +kernel
theorem dX0_readRain_50 : decode cX0_readRain 50 = .ok (.aload_n 0, 1) := by decide +kernel
theorem dX0_readRain_51 : decode cX0_readRain 51 = .ok (.aload_n 1, 1) := by decide +kernel
theorem dX0_readRain_52 : decode cX0_readRain 52 = .ok (.invokevirtual 222, 3) := by decide +kernel
theorem dX0_readRain_55 : decode cX0_readRain 55 = .ok (.iinc 2 1, 3) := by decide +kernel
theorem dX0_readRain_58 : decode cX0_readRain 58 = .ok (.goto (-21), 3) := by decide +kernel
theorem dX0_readRain_61 : decode cX0_readRain 61 = .ok (.aload_n 1, 1) := by decide +kernel
theorem dX0_readRain_62 : decode cX0_readRain 62 = .ok (.bipush 59, 2) := by decide +kernel
theorem dX0_readRain_64 : decode cX0_readRain 64 = .ok (.invokevirtual 174, 3) := by decide +kernel
theorem dX0_readRain_67 : decode cX0_readRain 67 = .ok (.return_, 1) := by decide +kernel
theorem dX0_readMoreRain_0 : decode cX0_readMoreRain 0 = .ok (.aload_n 1, 1) := by decide +kernel
theorem dX0_readMoreRain_1 : decode cX0_readMoreRain 1 = .ok (.getfield 185, 3) := by decide +kernel
theorem dX0_readMoreRain_4 : decode cX0_readMoreRain 4 = .ok (.istore_n 2, 1) := by decide +kernel
theorem dX0_readMoreRain_5 : decode cX0_readMoreRain 5 = .ok (.aload_n 1, 1) := by decide +kernel
theorem dX0_readMoreRain_6 : decode cX0_readMoreRain 6 = .ok (.iconst 0, 1) := by decide +kernel
theorem dX0_readMoreRain_7 : decode cX0_readMoreRain 7 = .ok (.bipush 9, 2) := by decide +kernel
theorem dX0_readMoreRain_9 : decode cX0_readMoreRain 9 = .ok (.invokevirtual 170, 3) := by decide +kernel
theorem dX0_readMoreRain_12 : decode cX0_readMoreRain 12 = .ok (.istore_n 3, 1) := by decide +kernel
theorem dX0_readMoreRain_13 : decode cX0_readMoreRain 13 = .ok (.aload_n 1, 1) := by decide +kernel
theorem dX0_readMoreRain_14 : decode cX0_readMoreRain 14 = .ok (.invokevirtual 72, 3) := by decide +kernel
theorem dX0_readMoreRain_17 : decode cX0_readMoreRain 17 = .ok (.ifCond .ne 4, 3) := by decide +kernel
theorem dX0_readMoreRain_20 : decode cX0_readMoreRain 20 = .ok (.return_, 1) := by decide +kernel
theorem dX0_readMoreRain_21 : decode cX0_readMoreRain 21 = .ok (.aload_n 0, 1) := by decide +kernel
theorem dX0_readMoreRain_22 : decode cX0_readMoreRain 22 = .ok (.getfield 87, 3) := by decide +kernel
theorem dX0_readMoreRain_25 : decode cX0_readMoreRain 25 = .ok (.bipush 12, 2) := by decide +kernel
theorem dX0_readMoreRain_27 : decode cX0_readMoreRain 27 = .ok (.if_icmp .lt 12, 3) := by decide +kernel
theorem dX0_readMoreRain_30 : decode cX0_readMoreRain 30 = .ok (.aload_n 1, 1) := by decide +kernel
theorem dX0_readMoreRain_31 : decode cX0_readMoreRain 31 = .ok (.iconst 5, 1) := by decide +kernel
theorem dX0_readMoreRain_32 : decode cX0_readMoreRain 32 = .ok (.iload_n 2, 1) := by decide +kernel
theorem dX0_readMoreRain_33 : decode cX0_readMoreRain 33 = .ok (.invokevirtual 192, 3) := by decide +kernel
theorem dX0_readMoreRain_36 : decode cX0_readMoreRain 36 = .ok (.goto 23, 3) := by decide +kernel
theorem dX0_readMoreRain_39 : decode cX0_readMoreRain 39 = .ok (.aload_n 0, 1) := by decide +kernel
theorem dX0_readMoreRain_40 : decode cX0_readMoreRain 40 = .ok (.getfield 54, 3) := by decide +kernel
theorem dX0_readMoreRain_43 : decode cX0_readMoreRain 43 = .ok (.aload_n 0, 1) := by decide +kernel
theorem dX0_readMoreRain_44 : decode cX0_readMoreRain 44 = .ok (.getfield 87, 3) := by decide +kernel
theorem dX0_readMoreRain_47 : decode cX0_readMoreRain 47 = .ok (.iload_n 3, 1) := by decide +kernel
theorem dX0_readMoreRain_48 : decode cX0_readMoreRain 48 = .ok (.iastore, 1) := by decide +kernel
theorem dX0_readMoreRain_49 : decode cX0_readMoreRain 49 = .ok (.aload_n 0, 1) := by decide +kernel
theorem dX0_readMoreRain_50 : decode cX0_readMoreRain 50 = .ok (.dup, 1) := by decide +kernel
theorem dX0_readMoreRain_51 : decode cX0_readMoreRain 51 = .ok (.getfield 87, 3) := by decide +kernel
theorem dX0_readMoreRain_54 : decode cX0_readMoreRain 54 = .ok (.iconst 1, 1) := by decide +kernel
theorem dX0_readMoreRain_55 : decode cX0_readMoreRain 55 = .ok (.iadd, 1) := by decide +kernel
theorem dX0_readMoreRain_56 : decode cX0_readMoreRain 56 = .ok (.putfield 87, 3) := by decide +kernel
theorem dX0_readMoreRain_59 : decode cX0_readMoreRain 59 = .ok (.return_, 1) := by decide +kernel
theorem dX0_readWets_0 : decode cX0_readWets 0 = .ok (.aload_n 0, 1) := by decide +kernel
theorem dX0_readWets_1 : decode cX0_readWets 1 = .ok (.getfield 60, 3) := by decide +kernel
theorem dX0_readWets_4 : decode cX0_readWets 4 = .ok (.getfield 93, 3) := by decide +kernel
theorem dX0_readWets_7 : decode cX0_readWets 7 = .ok (.ifCond .le 9, 3) := by decide +kernel
theorem dX0_readWets_10 : decode cX0_readWets 10 = .ok (.aload_n 1, 1) := by decide +kernel
theorem dX0_readWets_11 : decode cX0_readWets 11 = .ok (.iconst 3, 1) := by decide +kernel
theorem dX0_readWets_12 : decode cX0_readWets 12 = .ok (.invokevirtual 133, 3) := by decide +kernel
theorem dX0_readWets_15 : decode cX0_readWets 15 = .ok (.return_, 1) := by decide +kernel
theorem dX0_readWets_16 : decode cX0_readWets 16 = .ok (.aload_n 1, 1) := by decide +kernel
theorem dX0_readWets_17 : decode cX0_readWets 17 = .ok (.invokevirtual 136, 3) := by decide +kernel
theorem dX0_readWets_20 : decode cX0_readWets 20 = .ok (.aload_n 0, 1) := by decide +kernel
theorem dX0_readWets_21 : decode cX0_readWets 21 = .ok (.getfield 60, 3) := by decide +kernel
theorem dX0_readWets_24 : decode cX0_readWets 24 = .ok (.aload_n 1, 1) := by decide +kernel
theorem dX0_readWets_25 : decode cX0_readWets 25 = .ok (.iconst 0, 1) := by decide +kernel
theorem dX0_readWets_26 : decode cX0_readWets 26 = .ok (.invokevirtual 225, 3) := by decide +kernel
theorem dX0_readWets_29 : decode cX0_readWets 29 = .ok (.aload_n 1, 1) := by decide +kernel
theorem dX0_readWets_30 : decode cX0_readWets 30 = .ok (.bipush 59, 2) := by decide +kernel
theorem dX0_readWets_32 : decode cX0_readWets 32 = .ok (.invokevirtual 174, 3) := by decide +kernel
theorem dX0_readWets_35 : decode cX0_readWets 35 = .ok (.return_, 1) := by decide +kernel
theorem dX0_allPlaces_0 : decode cX0_allPlaces 0 = .ok (.iconst 1, 1) := by decide +kernel
theorem dX0_allPlaces_1 : decode cX0_allPlaces 1 = .ok (.aload_n 0, 1) := by decide +kernel
theorem dX0_allPlaces_2 : decode cX0_allPlaces 2 = .ok (.getfield 14, 3) := by decide +kernel
theorem dX0_allPlaces_5 : decode cX0_allPlaces 5 = .ok (.getfield 84, 3) := by decide +kernel
theorem dX0_allPlaces_8 : decode cX0_allPlaces 8 = .ok (.ishl, 1) := by decide +kernel
theorem dX0_allPlaces_9 : decode cX0_allPlaces 9 = .ok (.iconst 1, 1) := by decide +kernel
theorem dX0_allPlaces_10 : decode cX0_allPlaces 10 = .ok (.isub, 1) := by decide +kernel
theorem dX0_allPlaces_11 : decode cX0_allPlaces 11 = .ok (.ireturn, 1) := by decide +kernel
theorem dX0_allWrits_0 : decode cX0_allWrits 0 = .ok (.iconst 1, 1) := by decide +kernel
theorem dX0_allWrits_1 : decode cX0_allWrits 1 = .ok (.aload_n 0, 1) := by decide +kernel
theorem dX0_allWrits_2 : decode cX0_allWrits 2 = .ok (.getfield 26, 3) := by decide +kernel
theorem dX0_allWrits_5 : decode cX0_allWrits 5 = .ok (.getfield 84, 3) := by decide +kernel
theorem dX0_allWrits_8 : decode cX0_allWrits 8 = .ok (.ishl, 1) := by decide +kernel
theorem dX0_allWrits_9 : decode cX0_allWrits 9 = .ok (.iconst 1, 1) := by decide +kernel
theorem dX0_allWrits_10 : decode cX0_allWrits 10 = .ok (.isub, 1) := by decide +kernel
theorem dX0_allWrits_11 : decode cX0_allWrits 11 = .ok (.ireturn, 1) := by decide +kernel
theorem dX0_isLinked_0 : decode cX0_isLinked 0 = .ok (.aload_n 0, 1) := by decide +kernel
theorem dX0_isLinked_1 : decode cX0_isLinked 1 = .ok (.getfield 33, 3) := by decide +kernel
theorem dX0_isLinked_4 : decode cX0_isLinked 4 = .ok (.iload_n 1, 1) := by decide +kernel
theorem dX0_isLinked_5 : decode cX0_isLinked 5 = .ok (.iaload, 1) := by decide +kernel
theorem dX0_isLinked_6 : decode cX0_isLinked 6 = .ok (.iload_n 2, 1) := by decide +kernel
theorem dX0_isLinked_7 : decode cX0_isLinked 7 = .ok (.ishr, 1) := by decide +kernel
theorem dX0_isLinked_8 : decode cX0_isLinked 8 = .ok (.iconst 1, 1) := by decide +kernel
theorem dX0_isLinked_9 : decode cX0_isLinked 9 = .ok (.iand, 1) := by decide +kernel
theorem dX0_isLinked_10 : decode cX0_isLinked 10 = .ok (.ifCond .eq 7, 3) := by decide +kernel
theorem dX0_isLinked_13 : decode cX0_isLinked 13 = .ok (.iconst 1, 1) := by decide +kernel
theorem dX0_isLinked_14 : decode cX0_isLinked 14 = .ok (.goto 4, 3) := by decide +kernel
theorem dX0_isLinked_17 : decode cX0_isLinked 17 = .ok (.iconst 0, 1) := by decide +kernel
theorem dX0_isLinked_18 : decode cX0_isLinked 18 = .ok (.ireturn, 1) := by decide +kernel
theorem dX0_flipLink_0 : decode cX0_flipLink 0 = .ok (.aload_n 0, 1) := by decide +kernel
theorem dX0_flipLink_1 : decode cX0_flipLink 1 = .ok (.getfield 33, 3) := by decide +kernel
theorem dX0_flipLink_4 : decode cX0_flipLink 4 = .ok (.iload_n 1, 1) := by decide +kernel
theorem dX0_flipLink_5 : decode cX0_flipLink 5 = .ok (.dup2, 1) := by decide +kernel
theorem dX0_flipLink_6 : decode cX0_flipLink 6 = .ok (.iaload, 1) := by decide +kernel
theorem dX0_flipLink_7 : decode cX0_flipLink 7 = .ok (.iconst 1, 1) := by decide +kernel
theorem dX0_flipLink_8 : decode cX0_flipLink 8 = .ok (.iload_n 2, 1) := by decide +kernel
theorem dX0_flipLink_9 : decode cX0_flipLink 9 = .ok (.ishl, 1) := by decide +kernel
theorem dX0_flipLink_10 : decode cX0_flipLink 10 = .ok (.ixor, 1) := by decide +kernel
theorem dX0_flipLink_11 : decode cX0_flipLink 11 = .ok (.iastore, 1) := by decide +kernel
theorem dX0_flipLink_12 : decode cX0_flipLink 12 = .ok (.aload_n 0, 1) := by decide +kernel
theorem dX0_flipLink_13 : decode cX0_flipLink 13 = .ok (.getfield 33, 3) := by decide +kernel
theorem dX0_flipLink_16 : decode cX0_flipLink 16 = .ok (.iload_n 2, 1) := by decide +kernel
theorem dX0_flipLink_17 : decode cX0_flipLink 17 = .ok (.dup2, 1) := by decide +kernel
theorem dX0_flipLink_18 : decode cX0_flipLink 18 = .ok (.iaload, 1) := by decide +kernel
theorem dX0_flipLink_19 : decode cX0_flipLink 19 = .ok (.iconst 1, 1) := by decide +kernel
theorem dX0_flipLink_20 : decode cX0_flipLink 20 = .ok (.iload_n 1, 1) := by decide +kernel
theorem dX0_flipLink_21 : decode cX0_flipLink 21 = .ok (.ishl, 1) := by decide +kernel
theorem dX0_flipLink_22 : decode cX0_flipLink 22 = .ok (.ixor, 1) := by decide +kernel
theorem dX0_flipLink_23 : decode cX0_flipLink 23 = .ok (.iastore, 1) := by decide +kernel
theorem dX0_flipLink_24 : decode cX0_flipLink 24 = .ok (.return_, 1) := by decide +kernel
theorem dX0_rainOf_0 : decode cX0_rainOf 0 = .ok (.aload_n 0, 1) := by decide +kernel
theorem dX0_rainOf_1 : decode cX0_rainOf 1 = .ok (.getfield 87, 3) := by decide +kernel
theorem dX0_rainOf_4 : decode cX0_rainOf 4 = .ok (.ifCond .le 19, 3) := by decide +kernel
theorem dX0_rainOf_7 : decode cX0_rainOf 7 = .ok (.aload_n 0, 1) := by decide +kernel
theorem dX0_rainOf_8 : decode cX0_rainOf 8 = .ok (.getfield 54, 3) := by decide +kernel
theorem dX0_rainOf_11 : decode cX0_rainOf 11 = .ok (.iload_n 1, 1) := by decide +kernel
theorem dX0_rainOf_12 : decode cX0_rainOf 12 = .ok (.aload_n 0, 1) := by decide +kernel
theorem dX0_rainOf_13 : decode cX0_rainOf 13 = .ok (.getfield 87, 3) := by decide +kernel
theorem dX0_rainOf_16 : decode cX0_rainOf 16 = .ok (.invokestatic 229, 3) := by decide +kernel
theorem dX0_rainOf_19 : decode cX0_rainOf 19 = .ok (.iaload, 1) := by decide +kernel
theorem dX0_rainOf_20 : decode cX0_rainOf 20 = .ok (.goto 4, 3) := by decide +kernel
theorem dX0_rainOf_23 : decode cX0_rainOf 23 = .ok (.iconst 1, 1) := by decide +kernel
theorem dX0_rainOf_24 : decode cX0_rainOf 24 = .ok (.ireturn, 1) := by decide +kernel
theorem dX0_waterBehind_0 : decode cX0_waterBehind 0 = .ok (.aload_n 0, 1) := by decide +kernel
theorem dX0_waterBehind_1 : decode cX0_waterBehind 1 = .ok (.getfield 60, 3) := by decide +kernel
theorem dX0_waterBehind_4 : decode cX0_waterBehind 4 = .ok (.iload_n 2, 1) := by decide +kernel
theorem dX0_waterBehind_5 : decode cX0_waterBehind 5 = .ok (.iload_n 3, 1) := by decide +kernel
theorem dX0_waterBehind_6 : decode cX0_waterBehind 6 = .ok (.aload_n 0, 1) := by decide +kernel
theorem dX0_waterBehind_7 : decode cX0_waterBehind 7 = .ok (.getfield 33, 3) := by decide +kernel
theorem dX0_waterBehind_10 : decode cX0_waterBehind 10 = .ok (.iload_n 1, 1) := by decide +kernel
theorem dX0_waterBehind_11 : decode cX0_waterBehind 11 = .ok (.iaload, 1) := by decide +kernel
theorem dX0_waterBehind_12 : decode cX0_waterBehind 12 = .ok (.invokestatic 234, 3) := by decide +kernel
theorem dX0_waterBehind_15 : decode cX0_waterBehind 15 = .ok (.iload 4, 2) := by decide +kernel
theorem dX0_waterBehind_17 : decode cX0_waterBehind 17 = .ok (.invokevirtual 240, 3) := by decide +kernel
theorem dX0_waterBehind_20 : decode cX0_waterBehind 20 = .ok (.istore 5, 2) := by decide +kernel
theorem dX0_waterBehind_22 : decode cX0_waterBehind 22 = .ok (.iconst 0, 1) := by decide +kernel
theorem dX0_waterBehind_23 : decode cX0_waterBehind 23 = .ok (.bipush 9, 2) := by decide +kernel
theorem dX0_waterBehind_25 : decode cX0_waterBehind 25 = .ok (.iload 5, 2) := by decide +kernel
theorem dX0_waterBehind_27 : decode cX0_waterBehind 27 = .ok (.invokestatic 244, 3) := by decide +kernel
theorem dX0_waterBehind_30 : decode cX0_waterBehind 30 = .ok (.invokestatic 247, 3) := by decide +kernel
theorem dX0_waterBehind_33 : decode cX0_waterBehind 33 = .ok (.ireturn, 1) := by decide +kernel
theorem dX0_spread_0 : decode cX0_spread 0 = .ok (.iload_n 1, 1) := by decide +kernel
theorem dX0_spread_1 : decode cX0_spread 1 = .ok (.istore_n 3, 1) := by decide +kernel
theorem dX0_spread_2 : decode cX0_spread 2 = .ok (.iconst 0, 1) := by decide +kernel
theorem dX0_spread_3 : decode cX0_spread 3 = .ok (.istore 4, 2) := by decide +kernel
theorem dX0_spread_5 : decode cX0_spread 5 = .ok (.iload 4, 2) := by decide +kernel
theorem dX0_spread_7 : decode cX0_spread 7 = .ok (.aload_n 0, 1) := by decide +kernel
theorem dX0_spread_8 : decode cX0_spread 8 = .ok (.getfield 14, 3) := by decide +kernel
theorem dX0_spread_11 : decode cX0_spread 11 = .ok (.getfield 84, 3) := by decide +kernel
theorem dX0_spread_14 : decode cX0_spread 14 = .ok (.if_icmp .ge 32, 3) := by decide +kernel
theorem dX0_spread_17 : decode cX0_spread 17 = .ok (.iload_n 1, 1) := by decide +kernel
theorem dX0_spread_18 : decode cX0_spread 18 = .ok (.iload_n 2, 1) := by decide +kernel
theorem dX0_spread_19 : decode cX0_spread 19 = .ok (.iand, 1) := by decide +kernel
theorem dX0_spread_20 : decode cX0_spread 20 = .ok (.iconst 1, 1) := by decide +kernel
theorem dX0_spread_21 : decode cX0_spread 21 = .ok (.iload 4, 2) := by decide +kernel
theorem dX0_spread_23 : decode cX0_spread 23 = .ok (.ishl, 1) := by decide +kernel
theorem dX0_spread_24 : decode cX0_spread 24 = .ok (.iand, 1) := by decide +kernel
theorem dX0_spread_25 : decode cX0_spread 25 = .ok (.ifCond .eq 15, 3) := by decide +kernel
theorem dX0_spread_28 : decode cX0_spread 28 = .ok (.iload_n 3, 1) := by decide +kernel
theorem dX0_spread_29 : decode cX0_spread 29 = .ok (.aload_n 0, 1) := by decide +kernel
theorem dX0_spread_30 : decode cX0_spread 30 = .ok (.getfield 33, 3) := by decide +kernel
theorem dX0_spread_33 : decode cX0_spread 33 = .ok (.iload 4, 2) := by decide +kernel
theorem dX0_spread_35 : decode cX0_spread 35 = .ok (.iaload, 1) := by decide +kernel
theorem dX0_spread_36 : decode cX0_spread 36 = .ok (.iload_n 2, 1) := by decide +kernel
theorem dX0_spread_37 : decode cX0_spread 37 = .ok (.iand, 1) := by decide +kernel
theorem dX0_spread_38 : decode cX0_spread 38 = .ok (.ior, 1) := by decide +kernel
theorem dX0_spread_39 : decode cX0_spread 39 = .ok (.istore_n 3, 1) := by decide +kernel
theorem dX0_spread_40 : decode cX0_spread 40 = .ok (.iinc 4 1, 3) := by decide +kernel
theorem dX0_spread_43 : decode cX0_spread 43 = .ok (.goto (-38), 3) := by decide +kernel
theorem dX0_spread_46 : decode cX0_spread 46 = .ok (.iload_n 3, 1) := by decide +kernel
theorem dX0_spread_47 : decode cX0_spread 47 = .ok (.ireturn, 1) := by decide +kernel
theorem dX0_spreadAll_0 : decode cX0_spreadAll 0 = .ok (.iload_n 1, 1) := by decide +kernel
theorem dX0_spreadAll_1 : decode cX0_spreadAll 1 = .ok (.istore_n 3, 1) := by decide +kernel
theorem dX0_spreadAll_2 : decode cX0_spreadAll 2 = .ok (.iconst 0, 1) := by decide +kernel
theorem dX0_spreadAll_3 : decode cX0_spreadAll 3 = .ok (.istore 4, 2) := by decide +kernel
theorem dX0_spreadAll_5 : decode cX0_spreadAll 5 = .ok (.iload 4, 2) := by decide +kernel
theorem dX0_spreadAll_7 : decode cX0_spreadAll 7 = .ok (.bipush 7, 2) := by decide +kernel
theorem dX0_spreadAll_9 : decode cX0_spreadAll 9 = .ok (.if_icmp .ge 16, 3) := by decide +kernel
theorem dX0_spreadAll_12 : decode cX0_spreadAll 12 = .ok (.aload_n 0, 1) := by decide +kernel
theorem dX0_spreadAll_13 : decode cX0_spreadAll 13 = .ok (.iload_n 3, 1) := by decide +kernel
theorem dX0_spreadAll_14 : decode cX0_spreadAll 14 = .ok (.iload_n 2, 1) := by decide +kernel
theorem dX0_spreadAll_15 : decode cX0_spreadAll 15 = .ok (.invokevirtual 250, 3) := by decide +kernel
theorem dX0_spreadAll_18 : decode cX0_spreadAll 18 = .ok (.istore_n 3, 1) := by decide +kernel
theorem dX0_spreadAll_19 : decode cX0_spreadAll 19 = .ok (.iinc 4 1, 3) := by decide +kernel
theorem dX0_spreadAll_22 : decode cX0_spreadAll 22 = .ok (.goto (-17), 3) := by decide +kernel
theorem dX0_spreadAll_25 : decode cX0_spreadAll 25 = .ok (.iload_n 3, 1) := by decide +kernel
theorem dX0_spreadAll_26 : decode cX0_spreadAll 26 = .ok (.ireturn, 1) := by decide +kernel
theorem dX1_init_0 : decode cX1_init 0 = .ok (.aload_n 0, 1) := by decide +kernel
theorem dX1_init_1 : decode cX1_init 1 = .ok (.invokespecial 3, 3) := by decide +kernel
theorem dX1_init_4 : decode cX1_init 4 = .ok (.aload_n 0, 1) := by decide +kernel
theorem dX1_init_5 : decode cX1_init 5 = .ok (.sipush 1000, 3) := by decide +kernel
theorem dX1_init_8 : decode cX1_init 8 = .ok (.newarray .int, 2) := by decide +kernel
theorem dX1_init_10 : decode cX1_init 10 = .ok (.putfield 9, 3) := by decide +kernel
theorem dX1_init_13 : decode cX1_init 13 = .ok (.aload_n 0, 1) := by decide +kernel
theorem dX1_init_14 : decode cX1_init 14 = .ok (.bipush 32, 2) := by decide +kernel
theorem dX1_init_16 : decode cX1_init 16 = .ok (.newarray .int, 2) := by decide +kernel
theorem dX1_init_18 : decode cX1_init 18 = .ok (.putfield 15, 3) := by decide +kernel
theorem dX1_init_21 : decode cX1_init 21 = .ok (.return_, 1) := by decide +kernel
theorem dX1_put_0 : decode cX1_put 0 = .ok (.aload_n 0, 1) := by decide +kernel
theorem dX1_put_1 : decode cX1_put 1 = .ok (.getfield 18, 3) := by decide +kernel
theorem dX1_put_4 : decode cX1_put 4 = .ok (.sipush 1000, 3) := by decide +kernel
theorem dX1_put_7 : decode cX1_put 7 = .ok (.if_icmp .ge 23, 3) := by decide +kernel
theorem dX1_put_10 : decode cX1_put 10 = .ok (.aload_n 0, 1) := by decide +kernel
theorem dX1_put_11 : decode cX1_put 11 = .ok (.getfield 9, 3) := by decide +kernel
theorem dX1_put_14 : decode cX1_put 14 = .ok (.aload_n 0, 1) := by decide +kernel
theorem dX1_put_15 : decode cX1_put 15 = .ok (.getfield 18, 3) := by decide +kernel
theorem dX1_put_18 : decode cX1_put 18 = .ok (.iload_n 1, 1) := by decide +kernel
theorem dX1_put_19 : decode cX1_put 19 = .ok (.iastore, 1) := by decide +kernel
theorem dX1_put_20 : decode cX1_put 20 = .ok (.aload_n 0, 1) := by decide +kernel
theorem dX1_put_21 : decode cX1_put 21 = .ok (.dup, 1) := by decide +kernel
theorem dX1_put_22 : decode cX1_put 22 = .ok (.getfield 18, 3) := by decide +kernel
theorem dX1_put_25 : decode cX1_put 25 = .ok (.iconst 1, 1) := by decide +kernel
theorem dX1_put_26 : decode cX1_put 26 = .ok (.iadd, 1) := by decide +kernel
theorem dX1_put_27 : decode cX1_put 27 = .ok (.putfield 18, 3) := by decide +kernel
theorem dX1_put_30 : decode cX1_put 30 = .ok (.return_, 1) := by decide +kernel
theorem dX1_readExpression_0 : decode cX1_readExpression 0 = .ok (.aload_n 0, 1) := by decide +kernel
theorem dX1_readExpression_1 : decode cX1_readExpression 1 = .ok (.aload_n 1, 1) := by decide +kernel
theorem dX1_readExpression_2 : decode cX1_readExpression 2 = .ok (.iload_n 2, 1) := by decide +kernel
theorem dX1_readExpression_3 : decode cX1_readExpression 3 = .ok (.invokevirtual 22, 3) := by decide +kernel
theorem dX1_readExpression_6 : decode cX1_readExpression 6 = .ok (.iconst 0, 1) := by decide +kernel
theorem dX1_readExpression_7 : decode cX1_readExpression 7 = .ok (.istore_n 3, 1) := by decide +kernel
theorem dX1_readExpression_8 : decode cX1_readExpression 8 = .ok (.iload_n 3, 1) := by decide +kernel
theorem dX1_readExpression_9 : decode cX1_readExpression 9 = .ok (.sipush 1000, 3) := by decide +kernel
theorem dX1_readExpression_12 : decode cX1_readExpression 12 = .ok (.if_icmp .ge 64, 3) := by decide +kernel
theorem dX1_readExpression_15 : decode cX1_readExpression 15 = .ok (.aload_n 1, 1) := by decide +kernel
theorem dX1_readExpression_16 : decode cX1_readExpression 16 = .ok (.ldc2_w 26, 3) := by decide +kernel
theorem dX1_readExpression_19 : decode cX1_readExpression 19 = .ok (.invokevirtual 28, 3) := by decide +kernel
theorem dX1_readExpression_22 : decode cX1_readExpression 22 = .ok (.ifCond .ne 13, 3) := by decide +kernel
theorem dX1_readExpression_25 : decode cX1_readExpression 25 = .ok (.aload_n 1, 1) := by decide +kernel
theorem dX1_readExpression_26 : decode cX1_readExpression 26 = .ok (.ldc2_w 34, 3) := by decide +kernel
theorem dX1_readExpression_29 : decode cX1_readExpression 29 = .ok (.invokevirtual 28, 3) := by decide +kernel
theorem dX1_readExpression_32 : decode cX1_readExpression 32 = .ok (.ifCond .eq 44, 3) := by decide +kernel
theorem dX1_readExpression_35 : decode cX1_readExpression 35 = .ok (.aload_n 1, 1) := by decide +kernel
theorem dX1_readExpression_36 : decode cX1_readExpression 36 = .ok (.ldc2_w 26, 3) := by decide +kernel
theorem dX1_readExpression_39 : decode cX1_readExpression 39 = .ok (.invokevirtual 28, 3) := by decide +kernel
theorem dX1_readExpression_42 : decode cX1_readExpression 42 = .ok (.ifCond .eq 8, 3) := by decide +kernel
theorem dX1_readExpression_45 : decode cX1_readExpression 45 = .ok (.bipush (-6), 2) := by decide +kernel
theorem dX1_readExpression_47 : decode cX1_readExpression 47 = .ok (.goto 5, 3) := by decide +kernel
theorem dX1_readExpression_50 : decode cX1_readExpression 50 = .ok (.bipush (-7), 2) := by decide +kernel
theorem dX1_readExpression_52 : decode cX1_readExpression 52 = .ok (.istore 4, 2) := by decide +kernel
theorem dX1_readExpression_54 : decode cX1_readExpression 54 = .ok (.aload_n 1, 1) := by decide +kernel
theorem dX1_readExpression_55 : decode cX1_readExpression 55 = .ok (.invokevirtual 36, 3) := by decide +kernel
theorem dX1_readExpression_58 : decode cX1_readExpression 58 = .ok (.aload_n 0, 1) := by decide +kernel
theorem dX1_readExpression_59 : decode cX1_readExpression 59 = .ok (.aload_n 1, 1) := by decide +kernel
theorem dX1_readExpression_60 : decode cX1_readExpression 60 = .ok (.iload_n 2, 1) := by decide +kernel
theorem dX1_readExpression_61 : decode cX1_readExpression 61 = .ok (.invokevirtual 22, 3) := by decide +kernel
theorem dX1_readExpression_64 : decode cX1_readExpression 64 = .ok (.aload_n 0, 1) := by decide +kernel
theorem dX1_readExpression_65 : decode cX1_readExpression 65 = .ok (.iload 4, 2) := by decide +kernel
theorem dX1_readExpression_67 : decode cX1_readExpression 67 = .ok (.invokevirtual 39, 3) := by decide +kernel
theorem dX1_readExpression_70 : decode cX1_readExpression 70 = .ok (.iinc 3 1, 3) := by decide +kernel
theorem dX1_readExpression_73 : decode cX1_readExpression 73 = .ok (.goto (-65), 3) := by decide +kernel
theorem dX1_readExpression_76 : decode cX1_readExpression 76 = .ok (.return_, 1) := by decide +kernel
theorem dX1_readTest_0 : decode cX1_readTest 0 = .ok (.aload_n 0, 1) := by decide +kernel
theorem dX1_readTest_1 : decode cX1_readTest 1 = .ok (.aload_n 1, 1) := by decide +kernel
theorem dX1_readTest_2 : decode cX1_readTest 2 = .ok (.iload_n 2, 1) := by decide +kernel
theorem dX1_readTest_3 : decode cX1_readTest 3 = .ok (.invokevirtual 43, 3) := by decide +kernel
theorem dX1_readTest_6 : decode cX1_readTest 6 = .ok (.aload_n 1, 1) := by decide +kernel
theorem dX1_readTest_7 : decode cX1_readTest 7 = .ok (.bipush 60, 2) := by decide +kernel
theorem dX1_readTest_9 : decode cX1_readTest 9 = .ok (.invokevirtual 46, 3) := by decide +kernel
theorem dX1_readTest_12 : decode cX1_readTest 12 = .ok (.ifCond .ne 12, 3) := by decide +kernel
theorem dX1_readTest_15 : decode cX1_readTest 15 = .ok (.aload_n 1, 1) := by decide +kernel
theorem dX1_readTest_16 : decode cX1_readTest 16 = .ok (.bipush 61, 2) := by decide +kernel
theorem dX1_readTest_18 : decode cX1_readTest 18 = .ok (.invokevirtual 46, 3) := by decide +kernel
theorem dX1_readTest_21 : decode cX1_readTest 21 = .ok (.ifCond .eq 35, 3) := by decide +kernel
theorem dX1_readTest_24 : decode cX1_readTest 24 = .ok (.aload_n 1, 1) := by decide +kernel
theorem dX1_readTest_25 : decode cX1_readTest 25 = .ok (.bipush 60, 2) := by decide +kernel
theorem dX1_readTest_27 : decode cX1_readTest 27 = .ok (.invokevirtual 46, 3) := by decide +kernel
theorem dX1_readTest_30 : decode cX1_readTest 30 = .ok (.ifCond .eq 8, 3) := by decide +kernel
theorem dX1_readTest_33 : decode cX1_readTest 33 = .ok (.bipush (-8), 2) := by decide +kernel
theorem dX1_readTest_35 : decode cX1_readTest 35 = .ok (.goto 5, 3) := by decide +kernel
theorem dX1_readTest_38 : decode cX1_readTest 38 = .ok (.bipush (-9), 2) := by decide +kernel
theorem dX1_readTest_40 : decode cX1_readTest 40 = .ok (.istore_n 3, 1) := by decide +kernel
theorem dX1_readTest_41 : decode cX1_readTest 41 = .ok (.aload_n 1, 1) := by decide +kernel
theorem dX1_readTest_42 : decode cX1_readTest 42 = .ok (.invokevirtual 36, 3) := by decide +kernel
theorem dX1_readTest_45 : decode cX1_readTest 45 = .ok (.aload_n 0, 1) := by decide +kernel
theorem dX1_readTest_46 : decode cX1_readTest 46 = .ok (.aload_n 1, 1) := by decide +kernel
theorem dX1_readTest_47 : decode cX1_readTest 47 = .ok (.iload_n 2, 1) := by decide +kernel
theorem dX1_readTest_48 : decode cX1_readTest 48 = .ok (.invokevirtual 43, 3) := by decide +kernel
theorem dX1_readTest_51 : decode cX1_readTest 51 = .ok (.aload_n 0, 1) := by decide +kernel
theorem dX1_readTest_52 : decode cX1_readTest 52 = .ok (.iload_n 3, 1) := by decide +kernel
theorem dX1_readTest_53 : decode cX1_readTest 53 = .ok (.invokevirtual 39, 3) := by decide +kernel
theorem dX1_readTest_56 : decode cX1_readTest 56 = .ok (.return_, 1) := by decide +kernel
theorem dX1_readSum_0 : decode cX1_readSum 0 = .ok (.aload_n 0, 1) := by decide +kernel
theorem dX1_readSum_1 : decode cX1_readSum 1 = .ok (.aload_n 1, 1) := by decide +kernel
theorem dX1_readSum_2 : decode cX1_readSum 2 = .ok (.iload_n 2, 1) := by decide +kernel
theorem dX1_readSum_3 : decode cX1_readSum 3 = .ok (.invokevirtual 50, 3) := by decide +kernel
theorem dX1_readSum_6 : decode cX1_readSum 6 = .ok (.iconst 0, 1) := by decide +kernel
theorem dX1_readSum_7 : decode cX1_readSum 7 = .ok (.istore_n 3, 1) := by decide +kernel
theorem dX1_readSum_8 : decode cX1_readSum 8 = .ok (.iload_n 3, 1) := by decide +kernel
theorem dX1_readSum_9 : decode cX1_readSum 9 = .ok (.sipush 1000, 3) := by decide +kernel
theorem dX1_readSum_12 : decode cX1_readSum 12 = .ok (.if_icmp .ge 61, 3) := by decide +kernel
theorem dX1_readSum_15 : decode cX1_readSum 15 = .ok (.aload_n 1, 1) := by decide +kernel
theorem dX1_readSum_16 : decode cX1_readSum 16 = .ok (.bipush 43, 2) := by decide +kernel
theorem dX1_readSum_18 : decode cX1_readSum 18 = .ok (.invokevirtual 46, 3) := by decide +kernel
theorem dX1_readSum_21 : decode cX1_readSum 21 = .ok (.ifCond .ne 12, 3) := by decide +kernel
theorem dX1_readSum_24 : decode cX1_readSum 24 = .ok (.aload_n 1, 1) := by decide +kernel
theorem dX1_readSum_25 : decode cX1_readSum 25 = .ok (.bipush 45, 2) := by decide +kernel
theorem dX1_readSum_27 : decode cX1_readSum 27 = .ok (.invokevirtual 46, 3) := by decide +kernel
theorem dX1_readSum_30 : decode cX1_readSum 30 = .ok (.ifCond .eq 43, 3) := by decide +kernel
theorem dX1_readSum_33 : decode cX1_readSum 33 = .ok (.aload_n 1, 1) := by decide +kernel
theorem dX1_readSum_34 : decode cX1_readSum 34 = .ok (.bipush 43, 2) := by decide +kernel
theorem dX1_readSum_36 : decode cX1_readSum 36 = .ok (.invokevirtual 46, 3) := by decide +kernel
theorem dX1_readSum_39 : decode cX1_readSum 39 = .ok (.ifCond .eq 8, 3) := by decide +kernel
theorem dX1_readSum_42 : decode cX1_readSum 42 = .ok (.bipush (-10), 2) := by decide +kernel
theorem dX1_readSum_44 : decode cX1_readSum 44 = .ok (.goto 5, 3) := by decide +kernel
theorem dX1_readSum_47 : decode cX1_readSum 47 = .ok (.bipush (-11), 2) := by decide +kernel
theorem dX1_readSum_49 : decode cX1_readSum 49 = .ok (.istore 4, 2) := by decide +kernel
theorem dX1_readSum_51 : decode cX1_readSum 51 = .ok (.aload_n 1, 1) := by decide +kernel
theorem dX1_readSum_52 : decode cX1_readSum 52 = .ok (.invokevirtual 36, 3) := by decide +kernel
theorem dX1_readSum_55 : decode cX1_readSum 55 = .ok (.aload_n 0, 1) := by decide +kernel
theorem dX1_readSum_56 : decode cX1_readSum 56 = .ok (.aload_n 1, 1) := by decide +kernel
theorem dX1_readSum_57 : decode cX1_readSum 57 = .ok (.iload_n 2, 1) := by decide +kernel
theorem dX1_readSum_58 : decode cX1_readSum 58 = .ok (.invokevirtual 50, 3) := by decide +kernel
theorem dX1_readSum_61 : decode cX1_readSum 61 = .ok (.aload_n 0, 1) := by decide +kernel
theorem dX1_readSum_62 : decode cX1_readSum 62 = .ok (.iload 4, 2) := by decide +kernel
theorem dX1_readSum_64 : decode cX1_readSum 64 = .ok (.invokevirtual 39, 3) := by decide +kernel
theorem dX1_readSum_67 : decode cX1_readSum 67 = .ok (.iinc 3 1, 3) := by decide +kernel
theorem dX1_readSum_70 : decode cX1_readSum 70 = .ok (.goto (-62), 3) := by decide +kernel
theorem dX1_readSum_73 : decode cX1_readSum 73 = .ok (.return_, 1) := by decide +kernel
theorem dX1_readProduct_0 : decode cX1_readProduct 0 = .ok (.aload_n 0, 1) := by decide +kernel
theorem dX1_readProduct_1 : decode cX1_readProduct 1 = .ok (.aload_n 1, 1) := by decide +kernel
theorem dX1_readProduct_2 : decode cX1_readProduct 2 = .ok (.iload_n 2, 1) := by decide +kernel
theorem dX1_readProduct_3 : decode cX1_readProduct 3 = .ok (.invokevirtual 53, 3) := by decide +kernel
theorem dX1_readProduct_6 : decode cX1_readProduct 6 = .ok (.iconst 0, 1) := by decide +kernel
theorem dX1_readProduct_7 : decode cX1_readProduct 7 = .ok (.istore_n 3, 1) := by decide +kernel
theorem dX1_readProduct_8 : decode cX1_readProduct 8 = .ok (.iload_n 3, 1) := by decide +kernel
theorem dX1_readProduct_9 : decode cX1_readProduct 9 = .ok (.sipush 1000, 3) := by decide +kernel
theorem dX1_readProduct_12 : decode cX1_readProduct 12 = .ok (.if_icmp .ge 34, 3) := by decide +kernel
theorem dX1_readProduct_15 : decode cX1_readProduct 15 = .ok (.aload_n 1, 1) := by decide +kernel
theorem dX1_readProduct_16 : decode cX1_readProduct 16 = .ok (.bipush 42, 2) := by decide +kernel
theorem dX1_readProduct_18 : decode cX1_readProduct 18 = .ok (.invokevirtual 46, 3) := by decide +kernel
theorem dX1_readProduct_21 : decode cX1_readProduct 21 = .ok (.ifCond .eq 25, 3) := by decide +kernel
theorem dX1_readProduct_24 : decode cX1_readProduct 24 = .ok (.aload_n 1, 1) := by decide +kernel
theorem dX1_readProduct_25 : decode cX1_readProduct 25 = .ok (.invokevirtual 36, 3) := by decide +kernel
theorem dX1_readProduct_28 : decode cX1_readProduct 28 = .ok (.aload_n 0, 1) := by decide +kernel
theorem dX1_readProduct_29 : decode cX1_readProduct 29 = .ok (.aload_n 1, 1) := by decide +kernel
theorem dX1_readProduct_30 : decode cX1_readProduct 30 = .ok (.iload_n 2, 1) := by decide +kernel
theorem dX1_readProduct_31 : decode cX1_readProduct 31 = .ok (.invokevirtual 53, 3) := by decide +kernel
theorem dX1_readProduct_34 : decode cX1_readProduct 34 = .ok (.aload_n 0, 1) := by decide +kernel
theorem dX1_readProduct_35 : decode cX1_readProduct 35 = .ok (.bipush (-12), 2) := by decide +kernel
theorem dX1_readProduct_37 : decode cX1_readProduct 37 = .ok (.invokevirtual 39, 3) := by decide +kernel
theorem dX1_readProduct_40 : decode cX1_readProduct 40 = .ok (.iinc 3 1, 3) := by decide +kernel
theorem dX1_readProduct_43 : decode cX1_readProduct 43 = .ok (.goto (-35), 3) := by decide +kernel
theorem dX1_readProduct_46 : decode cX1_readProduct 46 = .ok (.return_, 1) := by decide +kernel
theorem dX1_readPart_0 : decode cX1_readPart 0 = .ok (.aload_n 1, 1) := by decide +kernel
theorem dX1_readPart_1 : decode cX1_readPart 1 = .ok (.ldc2_w 56, 3) := by decide +kernel
theorem dX1_readPart_4 : decode cX1_readPart 4 = .ok (.invokevirtual 28, 3) := by decide +kernel
theorem dX1_readPart_7 : decode cX1_readPart 7 = .ok (.istore_n 3, 1) := by decide +kernel
theorem dX1_readPart_8 : decode cX1_readPart 8 = .ok (.aload_n 1, 1) := by decide +kernel
theorem dX1_readPart_9 : decode cX1_readPart 9 = .ok (.bipush 40, 2) := by decide +kernel
theorem dX1_readPart_11 : decode cX1_readPart 11 = .ok (.invokevirtual 46, 3) := by decide +kernel
theorem dX1_readPart_14 : decode cX1_readPart 14 = .ok (.istore 4, 2) := by decide +kernel
theorem dX1_readPart_16 : decode cX1_readPart 16 = .ok (.aload_n 1, 1) := by decide +kernel
theorem dX1_readPart_17 : decode cX1_readPart 17 = .ok (.invokestatic 58, 3) := by decide +kernel
theorem dX1_readPart_20 : decode cX1_readPart 20 = .ok (.istore 5, 2) := by decide +kernel
theorem dX1_readPart_22 : decode cX1_readPart 22 = .ok (.iload_n 3, 1) := by decide +kernel
theorem dX1_readPart_23 : decode cX1_readPart 23 = .ok (.ifCond .ne 21, 3) := by decide +kernel
theorem dX1_readPart_26 : decode cX1_readPart 26 = .ok (.iload 4, 2) := by decide +kernel
theorem dX1_readPart_28 : decode cX1_readPart 28 = .ok (.ifCond .ne 16, 3) := by decide +kernel
theorem dX1_readPart_31 : decode cX1_readPart 31 = .ok (.iload 5, 2) := by decide +kernel
theorem dX1_readPart_33 : decode cX1_readPart 33 = .ok (.bipush (-13), 2) := by decide +kernel
theorem dX1_readPart_35 : decode cX1_readPart 35 = .ok (.if_icmp .ne 9, 3) := by decide +kernel
theorem dX1_readPart_38 : decode cX1_readPart 38 = .ok (.aload_n 1, 1) := by decide +kernel
theorem dX1_readPart_39 : decode cX1_readPart 39 = .ok (.iconst 1, 1) := by decide +kernel
theorem dX1_readPart_40 : decode cX1_readPart 40 = .ok (.invokevirtual 62, 3) := by decide +kernel
theorem dX1_readPart_43 : decode cX1_readPart 43 = .ok (.return_, 1) := by decide +kernel
theorem dX1_readPart_44 : decode cX1_readPart 44 = .ok (.iload_n 2, 1) := by decide +kernel
theorem dX1_readPart_45 : decode cX1_readPart 45 = .ok (.iconst 5, 1) := by decide +kernel
theorem dX1_readPart_46 : decode cX1_readPart 46 = .ok (.if_icmp .lt 9, 3) := by decide +kernel
theorem dX1_readPart_49 : decode cX1_readPart 49 = .ok (.aload_n 1, 1) := by decide +kernel
theorem dX1_readPart_50 : decode cX1_readPart 50 = .ok (.iconst 5, 1) := by decide +kernel
theorem dX1_readPart_51 : decode cX1_readPart 51 = .ok (.invokevirtual 62, 3) := by decide +kernel
theorem dX1_readPart_54 : decode cX1_readPart 54 = .ok (.return_, 1) := by decide +kernel
theorem dX1_readPart_55 : decode cX1_readPart 55 = .ok (.aload_n 1, 1) := by decide +kernel
theorem dX1_readPart_56 : decode cX1_readPart 56 = .ok (.invokevirtual 36, 3) := by decide +kernel
theorem dX1_readPart_59 : decode cX1_readPart 59 = .ok (.iload_n 3, 1) := by decide +kernel
theorem dX1_readPart_60 : decode cX1_readPart 60 = .ok (.ifCond .eq 20, 3) := by decide +kernel
theorem dX1_readPart_63 : decode cX1_readPart 63 = .ok (.aload_n 0, 1) := by decide +kernel
theorem dX1_readPart_64 : decode cX1_readPart 64 = .ok (.aload_n 1, 1) := by decide +kernel
theorem dX1_readPart_65 : decode cX1_readPart 65 = .ok (.iload_n 2, 1) := by decide +kernel
theorem dX1_readPart_66 : decode cX1_readPart 66 = .ok (.iconst 1, 1) := by decide +kernel
theorem dX1_readPart_67 : decode cX1_readPart 67 = .ok (.iadd, 1) := by decide +kernel
theorem dX1_readPart_68 : decode cX1_readPart 68 = .ok (.invokevirtual 53, 3) := by decide +kernel
theorem dX1_readPart_71 : decode cX1_readPart 71 = .ok (.aload_n 0, 1) := by decide +kernel
theorem dX1_readPart_72 : decode cX1_readPart 72 = .ok (.bipush (-5), 2) := by decide +kernel
theorem dX1_readPart_74 : decode cX1_readPart 74 = .ok (.invokevirtual 39, 3) := by decide +kernel
theorem dX1_readPart_77 : decode cX1_readPart 77 = .ok (.goto 31, 3) := by decide +kernel
theorem dX1_readPart_80 : decode cX1_readPart 80 = .ok (.iload 4, 2) := by decide +kernel
theorem dX1_readPart_82 : decode cX1_readPart 82 = .ok (.ifCond .eq 20, 3) := by decide +kernel
theorem dX1_readPart_85 : decode cX1_readPart 85 = .ok (.aload_n 0, 1) := by decide +kernel
theorem dX1_readPart_86 : decode cX1_readPart 86 = .ok (.aload_n 1, 1) := by decide +kernel
theorem dX1_readPart_87 : decode cX1_readPart 87 = .ok (.iload_n 2, 1) := by decide +kernel
theorem dX1_readPart_88 : decode cX1_readPart 88 = .ok (.iconst 1, 1) := by decide +kernel
theorem dX1_readPart_89 : decode cX1_readPart 89 = .ok (.iadd, 1) := by decide +kernel
theorem dX1_readPart_90 : decode cX1_readPart 90 = .ok (.invokevirtual 65, 3) := by decide +kernel
theorem dX1_readPart_93 : decode cX1_readPart 93 = .ok (.aload_n 1, 1) := by decide +kernel
theorem dX1_readPart_94 : decode cX1_readPart 94 = .ok (.bipush 41, 2) := by decide +kernel
theorem dX1_readPart_96 : decode cX1_readPart 96 = .ok (.invokevirtual 68, 3) := by decide +kernel
theorem dX1_readPart_99 : decode cX1_readPart 99 = .ok (.goto 9, 3) := by decide +kernel
theorem dX1_readPart_102 : decode cX1_readPart 102 = .ok (.aload_n 0, 1) := by decide +kernel
theorem dX1_readPart_103 : decode cX1_readPart 103 = .ok (.iload 5, 2) := by decide +kernel
theorem dX1_readPart_105 : decode cX1_readPart 105 = .ok (.invokevirtual 39, 3) := by decide +kernel
theorem dX1_readPart_108 : decode cX1_readPart 108 = .ok (.return_, 1) := by decide +kernel
theorem dX1_simpleStep_0 : decode cX1_simpleStep 0 = .ok (.aload_n 0, 1) := by decide +kernel
theorem dX1_simpleStep_1 : decode cX1_simpleStep 1 = .ok (.invokevirtual 72, 3) := by decide +kernel
theorem dX1_simpleStep_4 : decode cX1_simpleStep 4 = .ok (.ifCond .eq 9, 3) := by decide +kernel
theorem dX1_simpleStep_7 : decode cX1_simpleStep 7 = .ok (.aload_n 0, 1) := by decide +kernel
theorem dX1_simpleStep_8 : decode cX1_simpleStep 8 = .ok (.getfield 76, 3) := by decide +kernel
theorem dX1_simpleStep_11 : decode cX1_simpleStep 11 = .ok (.l2i, 1) := by decide +kernel
theorem dX1_simpleStep_12 : decode cX1_simpleStep 12 = .ok (.ireturn, 1) := by decide +kernel
theorem dX1_simpleStep_13 : decode cX1_simpleStep 13 = .ok (.aload_n 0, 1) := by decide +kernel
theorem dX1_simpleStep_14 : decode cX1_simpleStep 14 = .ok (.ldc2_w 80, 3) := by decide +kernel
theorem dX1_simpleStep_17 : decode cX1_simpleStep 17 = .ok (.invokevirtual 28, 3) := by decide +kernel
theorem dX1_simpleStep_20 : decode cX1_simpleStep 20 = .ok (.ifCond .eq 5, 3) := by decide +kernel
theorem dX1_simpleStep_23 : decode cX1_simpleStep 23 = .ok (.iconst (-1), 1) := by decide +kernel
theorem dX1_simpleStep_24 : decode cX1_simpleStep 24 = .ok (.ireturn, 1) := by decide +kernel
theorem dX1_simpleStep_25 : decode cX1_simpleStep 25 = .ok (.aload_n 0, 1) := by decide +kernel
theorem dX1_simpleStep_26 : decode cX1_simpleStep 26 = .ok (.ldc2_w 82, 3) := by decide +kernel
theorem dX1_simpleStep_29 : decode cX1_simpleStep 29 = .ok (.invokevirtual 28, 3) := by decide +kernel
theorem dX1_simpleStep_32 : decode cX1_simpleStep 32 = .ok (.ifCond .eq 6, 3) := by decide +kernel
theorem dX1_simpleStep_35 : decode cX1_simpleStep 35 = .ok (.bipush (-2), 2) := by decide +kernel
theorem dX1_simpleStep_37 : decode cX1_simpleStep 37 = .ok (.ireturn, 1) := by decide +kernel
theorem dX1_simpleStep_38 : decode cX1_simpleStep 38 = .ok (.aload_n 0, 1) := by decide +kernel
theorem dX1_simpleStep_39 : decode cX1_simpleStep 39 = .ok (.ldc2_w 84, 3) := by decide +kernel
theorem dX1_simpleStep_42 : decode cX1_simpleStep 42 = .ok (.invokevirtual 28, 3) := by decide +kernel
theorem dX1_simpleStep_45 : decode cX1_simpleStep 45 = .ok (.ifCond .eq 6, 3) := by decide +kernel
theorem dX1_simpleStep_48 : decode cX1_simpleStep 48 = .ok (.bipush (-3), 2) := by decide +kernel
theorem dX1_simpleStep_50 : decode cX1_simpleStep 50 = .ok (.ireturn, 1) := by decide +kernel
theorem dX1_simpleStep_51 : decode cX1_simpleStep 51 = .ok (.aload_n 0, 1) := by decide +kernel
theorem dX1_simpleStep_52 : decode cX1_simpleStep 52 = .ok (.ldc2_w 86, 3) := by decide +kernel
theorem dX1_simpleStep_55 : decode cX1_simpleStep 55 = .ok (.invokevirtual 28, 3) := by decide +kernel
theorem dX1_simpleStep_58 : decode cX1_simpleStep 58 = .ok (.ifCond .eq 8, 3) := by decide +kernel
theorem dX1_simpleStep_61 : decode cX1_simpleStep 61 = .ok (.bipush (-4), 2) := by decide +kernel
theorem dX1_simpleStep_63 : decode cX1_simpleStep 63 = .ok (.goto 5, 3) := by decide +kernel
theorem dX1_simpleStep_66 : decode cX1_simpleStep 66 = .ok (.bipush (-13), 2) := by decide +kernel
theorem dX1_simpleStep_68 : decode cX1_simpleStep 68 = .ok (.ireturn, 1) := by decide +kernel
theorem dX1_tells_0 : decode cX1_tells 0 = .ok (.aload_n 0, 1) := by decide +kernel
theorem dX1_tells_1 : decode cX1_tells 1 = .ok (.getfield 18, 3) := by decide +kernel
theorem dX1_tells_4 : decode cX1_tells 4 = .ok (.ifCond .ne 9, 3) := by decide +kernel
theorem dX1_tells_7 : decode cX1_tells 7 = .ok (.iload_n 1, 1) := by decide +kernel
theorem dX1_tells_8 : decode cX1_tells 8 = .ok (.iload_n 2, 1) := by decide +kernel
theorem dX1_tells_9 : decode cX1_tells 9 = .ok (.iadd, 1) := by decide +kernel
theorem dX1_tells_10 : decode cX1_tells 10 = .ok (.iconst 1, 1) := by decide +kernel
theorem dX1_tells_11 : decode cX1_tells 11 = .ok (.isub, 1) := by decide +kernel
theorem dX1_tells_12 : decode cX1_tells 12 = .ok (.ireturn, 1) := by decide +kernel
theorem dX1_tells_13 : decode cX1_tells 13 = .ok (.iconst 0, 1) := by decide +kernel
theorem dX1_tells_14 : decode cX1_tells 14 = .ok (.istore 5, 2) := by decide +kernel
theorem dX1_tells_16 : decode cX1_tells 16 = .ok (.iconst 0, 1) := by decide +kernel
theorem dX1_tells_17 : decode cX1_tells 17 = .ok (.istore 6, 2) := by decide +kernel
theorem dX1_tells_19 : decode cX1_tells 19 = .ok (.iload 6, 2) := by decide +kernel
theorem dX1_tells_21 : decode cX1_tells 21 = .ok (.aload_n 0, 1) := by decide +kernel
theorem dX1_tells_22 : decode cX1_tells 22 = .ok (.getfield 18, 3) := by decide +kernel
theorem dX1_tells_25 : decode cX1_tells 25 = .ok (.if_icmp .ge 136, 3) := by decide +kernel
theorem dX1_tells_28 : decode cX1_tells 28 = .ok (.aload_n 0, 1) := by decide +kernel
theorem dX1_tells_29 : decode cX1_tells 29 = .ok (.getfield 9, 3) := by decide +kernel
theorem dX1_tells_32 : decode cX1_tells 32 = .ok (.iload 6, 2) := by decide +kernel
theorem dX1_tells_34 : decode cX1_tells 34 = .ok (.iaload, 1) := by decide +kernel
theorem dX1_tells_35 : decode cX1_tells 35 = .ok (.istore 7, 2) := by decide +kernel
theorem dX1_tells_37 : decode cX1_tells 37 = .ok (.iload 7, 2) := by decide +kernel
theorem dX1_tells_39 : decode cX1_tells 39 = .ok (.bipush (-5), 2) := by decide +kernel
theorem dX1_tells_41 : decode cX1_tells 41 = .ok (.if_icmp .le 33, 3) := by decide +kernel
theorem dX1_tells_44 : decode cX1_tells 44 = .ok (.iload 5, 2) := by decide +kernel
theorem dX1_tells_46 : decode cX1_tells 46 = .ok (.bipush 32, 2) := by decide +kernel
theorem dX1_tells_48 : decode cX1_tells 48 = .ok (.if_icmp .ge 107, 3) := by decide +kernel
theorem dX1_tells_51 : decode cX1_tells 51 = .ok (.aload_n 0, 1) := by decide +kernel
theorem dX1_tells_52 : decode cX1_tells 52 = .ok (.getfield 15, 3) := by decide +kernel
theorem dX1_tells_55 : decode cX1_tells 55 = .ok (.iload 5, 2) := by decide +kernel
theorem dX1_tells_57 : decode cX1_tells 57 = .ok (.iload 7, 2) := by decide +kernel
theorem dX1_tells_59 : decode cX1_tells 59 = .ok (.iload_n 1, 1) := by decide +kernel
theorem dX1_tells_60 : decode cX1_tells 60 = .ok (.iload_n 2, 1) := by decide +kernel
theorem dX1_tells_61 : decode cX1_tells 61 = .ok (.iload_n 3, 1) := by decide +kernel
theorem dX1_tells_62 : decode cX1_tells 62 = .ok (.iload 4, 2) := by decide +kernel
theorem dX1_tells_64 : decode cX1_tells 64 = .ok (.invokestatic 88, 3) := by decide +kernel
theorem dX1_tells_67 : decode cX1_tells 67 = .ok (.iastore, 1) := by decide +kernel
theorem dX1_tells_68 : decode cX1_tells 68 = .ok (.iinc 5 1, 3) := by decide +kernel
theorem dX1_tells_71 : decode cX1_tells 71 = .ok (.goto 84, 3) := by decide +kernel
theorem dX1_tells_74 : decode cX1_tells 74 = .ok (.iload 7, 2) := by decide +kernel
theorem dX1_tells_76 : decode cX1_tells 76 = .ok (.bipush (-5), 2) := by decide +kernel
theorem dX1_tells_78 : decode cX1_tells 78 = .ok (.if_icmp .ne 38, 3) := by decide +kernel
theorem dX1_tells_81 : decode cX1_tells 81 = .ok (.iload 5, 2) := by decide +kernel
theorem dX1_tells_83 : decode cX1_tells 83 = .ok (.iconst 1, 1) := by decide +kernel
theorem dX1_tells_84 : decode cX1_tells 84 = .ok (.if_icmp .lt 71, 3) := by decide +kernel
theorem dX1_tells_87 : decode cX1_tells 87 = .ok (.aload_n 0, 1) := by decide +kernel
theorem dX1_tells_88 : decode cX1_tells 88 = .ok (.getfield 15, 3) := by decide +kernel
theorem dX1_tells_91 : decode cX1_tells 91 = .ok (.iload 5, 2) := by decide +kernel
theorem dX1_tells_93 : decode cX1_tells 93 = .ok (.iconst 1, 1) := by decide +kernel
theorem dX1_tells_94 : decode cX1_tells 94 = .ok (.isub, 1) := by decide +kernel
theorem dX1_tells_95 : decode cX1_tells 95 = .ok (.aload_n 0, 1) := by decide +kernel
theorem dX1_tells_96 : decode cX1_tells 96 = .ok (.getfield 15, 3) := by decide +kernel
theorem dX1_tells_99 : decode cX1_tells 99 = .ok (.iload 5, 2) := by decide +kernel
theorem dX1_tells_101 : decode cX1_tells 101 = .ok (.iconst 1, 1) := by decide +kernel
theorem dX1_tells_102 : decode cX1_tells 102 = .ok (.isub, 1) := by decide +kernel
theorem dX1_tells_103 : decode cX1_tells 103 = .ok (.iaload, 1) := by decide +kernel
theorem dX1_tells_104 : decode cX1_tells 104 = .ok (.ifCond .ne 7, 3) := by decide +kernel
theorem dX1_tells_107 : decode cX1_tells 107 = .ok (.iconst 1, 1) := by decide +kernel
theorem dX1_tells_108 : decode cX1_tells 108 = .ok (.goto 4, 3) := by decide +kernel
theorem dX1_tells_111 : decode cX1_tells 111 = .ok (.iconst 0, 1) := by decide +kernel
theorem dX1_tells_112 : decode cX1_tells 112 = .ok (.iastore, 1) := by decide +kernel
theorem dX1_tells_113 : decode cX1_tells 113 = .ok (.goto 42, 3) := by decide +kernel
theorem dX1_tells_116 : decode cX1_tells 116 = .ok (.iload 5, 2) := by decide +kernel
theorem dX1_tells_118 : decode cX1_tells 118 = .ok (.iconst 2, 1) := by decide +kernel
theorem dX1_tells_119 : decode cX1_tells 119 = .ok (.if_icmp .lt 36, 3) := by decide +kernel
theorem dX1_tells_122 : decode cX1_tells 122 = .ok (.iinc 5 (-1), 3) := by decide +kernel
theorem dX1_tells_125 : decode cX1_tells 125 = .ok (.aload_n 0, 1) := by decide +kernel
theorem dX1_tells_126 : decode cX1_tells 126 = .ok (.getfield 15, 3) := by decide +kernel
theorem dX1_tells_129 : decode cX1_tells 129 = .ok (.iload 5, 2) := by decide +kernel
theorem dX1_tells_131 : decode cX1_tells 131 = .ok (.iconst 1, 1) := by decide +kernel
theorem dX1_tells_132 : decode cX1_tells 132 = .ok (.isub, 1) := by decide +kernel
theorem dX1_tells_133 : decode cX1_tells 133 = .ok (.iload 7, 2) := by decide +kernel
theorem dX1_tells_135 : decode cX1_tells 135 = .ok (.aload_n 0, 1) := by decide +kernel
theorem dX1_tells_136 : decode cX1_tells 136 = .ok (.getfield 15, 3) := by decide +kernel
theorem dX1_tells_139 : decode cX1_tells 139 = .ok (.iload 5, 2) := by decide +kernel
theorem dX1_tells_141 : decode cX1_tells 141 = .ok (.iconst 1, 1) := by decide +kernel
theorem dX1_tells_142 : decode cX1_tells 142 = .ok (.isub, 1) := by decide +kernel
theorem dX1_tells_143 : decode cX1_tells 143 = .ok (.iaload, 1) := by decide +kernel
theorem dX1_tells_144 : decode cX1_tells 144 = .ok (.aload_n 0, 1) := by decide +kernel
theorem dX1_tells_145 : decode cX1_tells 145 = .ok (.getfield 15, 3) := by decide +kernel
theorem dX1_tells_148 : decode cX1_tells 148 = .ok (.iload 5, 2) := by decide +kernel
theorem dX1_tells_150 : decode cX1_tells 150 = .ok (.iaload, 1) := by decide +kernel
theorem dX1_tells_151 : decode cX1_tells 151 = .ok (.invokestatic 92, 3) := by decide +kernel
theorem dX1_tells_154 : decode cX1_tells 154 = .ok (.iastore, 1) := by decide +kernel
theorem dX1_tells_155 : decode cX1_tells 155 = .ok (.iinc 6 1, 3) := by decide +kernel
theorem dX1_tells_158 : decode cX1_tells 158 = .ok (.goto (-139), 3) := by decide +kernel
theorem dX1_tells_161 : decode cX1_tells 161 = .ok (.aload_n 0, 1) := by decide +kernel
theorem dX1_tells_162 : decode cX1_tells 162 = .ok (.getfield 15, 3) := by decide +kernel
theorem dX1_tells_165 : decode cX1_tells 165 = .ok (.iconst 0, 1) := by decide +kernel
theorem dX1_tells_166 : decode cX1_tells 166 = .ok (.iaload, 1) := by decide +kernel
theorem dX1_tells_167 : decode cX1_tells 167 = .ok (.ireturn, 1) := by decide +kernel
theorem dX1_simple_0 : decode cX1_simple 0 = .ok (.iload_n 0, 1) := by decide +kernel
theorem dX1_simple_1 : decode cX1_simple 1 = .ok (.tableswitch 40 (-4) (-1) #[37, 35, 33, 31], 31) := by decide +kernel
theorem dX1_simple_32 : decode cX1_simple 32 = .ok (.iload_n 1, 1) := by decide +kernel
theorem dX1_simple_33 : decode cX1_simple 33 = .ok (.ireturn, 1) := by decide +kernel
theorem dX1_simple_34 : decode cX1_simple 34 = .ok (.iload_n 2, 1) := by decide +kernel
theorem dX1_simple_35 : decode cX1_simple 35 = .ok (.ireturn, 1) := by decide +kernel
theorem dX1_simple_36 : decode cX1_simple 36 = .ok (.iload_n 3, 1) := by decide +kernel
theorem dX1_simple_37 : decode cX1_simple 37 = .ok (.ireturn, 1) := by decide +kernel
theorem dX1_simple_38 : decode cX1_simple 38 = .ok (.iload 4, 2) := by decide +kernel
theorem dX1_simple_40 : decode cX1_simple 40 = .ok (.ireturn, 1) := by decide +kernel
theorem dX1_simple_41 : decode cX1_simple 41 = .ok (.iload_n 0, 1) := by decide +kernel
theorem dX1_simple_42 : decode cX1_simple 42 = .ok (.ireturn, 1) := by decide +kernel
theorem dX1_join_0 : decode cX1_join 0 = .ok (.iload_n 0, 1) := by decide +kernel
theorem dX1_join_1 : decode cX1_join 1 = .ok (.tableswitch 97 (-11) (-6) #[93, 89, 78, 67, 53, 39], 39) := by decide +kernel
theorem dX1_join_40 : decode cX1_join 40 = .ok (.iload_n 1, 1) := by decide +kernel
theorem dX1_join_41 : decode cX1_join 41 = .ok (.ifCond .eq 11, 3) := by decide +kernel
theorem dX1_join_44 : decode cX1_join 44 = .ok (.iload_n 2, 1) := by decide +kernel
theorem dX1_join_45 : decode cX1_join 45 = .ok (.ifCond .eq 7, 3) := by decide +kernel
theorem dX1_join_48 : decode cX1_join 48 = .ok (.iconst 1, 1) := by decide +kernel
theorem dX1_join_49 : decode cX1_join 49 = .ok (.goto 4, 3) := by decide +kernel
theorem dX1_join_52 : decode cX1_join 52 = .ok (.iconst 0, 1) := by decide +kernel
theorem dX1_join_53 : decode cX1_join 53 = .ok (.ireturn, 1) := by decide +kernel
theorem dX1_join_54 : decode cX1_join 54 = .ok (.iload_n 1, 1) := by decide +kernel
theorem dX1_join_55 : decode cX1_join 55 = .ok (.ifCond .ne 7, 3) := by decide +kernel
theorem dX1_join_58 : decode cX1_join 58 = .ok (.iload_n 2, 1) := by decide +kernel
theorem dX1_join_59 : decode cX1_join 59 = .ok (.ifCond .eq 7, 3) := by decide +kernel
theorem dX1_join_62 : decode cX1_join 62 = .ok (.iconst 1, 1) := by decide +kernel
theorem dX1_join_63 : decode cX1_join 63 = .ok (.goto 4, 3) := by decide +kernel
theorem dX1_join_66 : decode cX1_join 66 = .ok (.iconst 0, 1) := by decide +kernel
theorem dX1_join_67 : decode cX1_join 67 = .ok (.ireturn, 1) := by decide +kernel
theorem dX1_join_68 : decode cX1_join 68 = .ok (.iload_n 1, 1) := by decide +kernel
theorem dX1_join_69 : decode cX1_join 69 = .ok (.iload_n 2, 1) := by decide +kernel
theorem dX1_join_70 : decode cX1_join 70 = .ok (.if_icmp .ge 7, 3) := by decide +kernel
theorem dX1_join_73 : decode cX1_join 73 = .ok (.iconst 1, 1) := by decide +kernel
theorem dX1_join_74 : decode cX1_join 74 = .ok (.goto 4, 3) := by decide +kernel
theorem dX1_join_77 : decode cX1_join 77 = .ok (.iconst 0, 1) := by decide +kernel
theorem dX1_join_78 : decode cX1_join 78 = .ok (.ireturn, 1) := by decide +kernel
theorem dX1_join_79 : decode cX1_join 79 = .ok (.iload_n 1, 1) := by decide +kernel
theorem dX1_join_80 : decode cX1_join 80 = .ok (.iload_n 2, 1) := by decide +kernel
theorem dX1_join_81 : decode cX1_join 81 = .ok (.if_icmp .ne 7, 3) := by decide +kernel
theorem dX1_join_84 : decode cX1_join 84 = .ok (.iconst 1, 1) := by decide +kernel
theorem dX1_join_85 : decode cX1_join 85 = .ok (.goto 4, 3) := by decide +kernel
theorem dX1_join_88 : decode cX1_join 88 = .ok (.iconst 0, 1) := by decide +kernel
theorem dX1_join_89 : decode cX1_join 89 = .ok (.ireturn, 1) := by decide +kernel
theorem dX1_join_90 : decode cX1_join 90 = .ok (.iload_n 1, 1) := by decide +kernel
theorem dX1_join_91 : decode cX1_join 91 = .ok (.iload_n 2, 1) := by decide +kernel
theorem dX1_join_92 : decode cX1_join 92 = .ok (.iadd, 1) := by decide +kernel
theorem dX1_join_93 : decode cX1_join 93 = .ok (.ireturn, 1) := by decide +kernel
theorem dX1_join_94 : decode cX1_join 94 = .ok (.iload_n 1, 1) := by decide +kernel
theorem dX1_join_95 : decode cX1_join 95 = .ok (.iload_n 2, 1) := by decide +kernel
theorem dX1_join_96 : decode cX1_join 96 = .ok (.isub, 1) := by decide +kernel
theorem dX1_join_97 : decode cX1_join 97 = .ok (.ireturn, 1) := by decide +kernel
theorem dX1_join_98 : decode cX1_join 98 = .ok (.iload_n 1, 1) := by decide +kernel
theorem dX1_join_99 : decode cX1_join 99 = .ok (.iload_n 2, 1) := by decide +kernel
theorem dX1_join_100 : decode cX1_join 100 = .ok (.imul, 1) := by decide +kernel
theorem dX1_join_101 : decode cX1_join 101 = .ok (.ireturn, 1) := by decide +kernel
theorem dX2_init_0 : decode cX2_init 0 = .ok (.aload_n 0, 1) := by decide +kernel
theorem dX2_init_1 : decode cX2_init 1 = .ok (.invokespecial 1, 3) := by decide +kernel
theorem dX2_init_4 : decode cX2_init 4 = .ok (.aload_n 0, 1) := by decide +kernel
theorem dX2_init_5 : decode cX2_init 5 = .ok (.new 7, 3) := by decide +kernel
theorem dX2_init_8 : decode cX2_init 8 = .ok (.dup, 1) := by decide +kernel
theorem dX2_init_9 : decode cX2_init 9 = .ok (.invokespecial 9, 3) := by decide +kernel
theorem dX2_init_12 : decode cX2_init 12 = .ok (.putfield 10, 3) := by decide +kernel
theorem dX2_init_15 : decode cX2_init 15 = .ok (.aload_n 0, 1) := by decide +kernel
theorem dX2_init_16 : decode cX2_init 16 = .ok (.new 16, 3) := by decide +kernel
theorem dX2_init_19 : decode cX2_init 19 = .ok (.dup, 1) := by decide +kernel
theorem dX2_init_20 : decode cX2_init 20 = .ok (.invokespecial 18, 3) := by decide +kernel
theorem dX2_init_23 : decode cX2_init 23 = .ok (.putfield 19, 3) := by decide +kernel
theorem dX2_init_26 : decode cX2_init 26 = .ok (.aload_n 0, 1) := by decide +kernel
theorem dX2_init_27 : decode cX2_init 27 = .ok (.new 23, 3) := by decide +kernel
theorem dX2_init_30 : decode cX2_init 30 = .ok (.dup, 1) := by decide +kernel
theorem dX2_init_31 : decode cX2_init 31 = .ok (.invokespecial 25, 3) := by decide +kernel
theorem dX2_init_34 : decode cX2_init 34 = .ok (.putfield 26, 3) := by decide +kernel
theorem dX2_init_37 : decode cX2_init 37 = .ok (.return_, 1) := by decide +kernel
theorem dX2_lay_0 : decode cX2_lay 0 = .ok (.aload_n 0, 1) := by decide +kernel
theorem dX2_lay_1 : decode cX2_lay 1 = .ok (.getfield 10, 3) := by decide +kernel
theorem dX2_lay_4 : decode cX2_lay 4 = .ok (.aload_n 1, 1) := by decide +kernel
theorem dX2_lay_5 : decode cX2_lay 5 = .ok (.invokevirtual 30, 3) := by decide +kernel
theorem dX2_lay_8 : decode cX2_lay 8 = .ok (.aload_n 0, 1) := by decide +kernel
theorem dX2_lay_9 : decode cX2_lay 9 = .ok (.getfield 19, 3) := by decide +kernel
theorem dX2_lay_12 : decode cX2_lay 12 = .ok (.aload_n 2, 1) := by decide +kernel
theorem dX2_lay_13 : decode cX2_lay 13 = .ok (.invokevirtual 34, 3) := by decide +kernel
theorem dX2_lay_16 : decode cX2_lay 16 = .ok (.aload_n 0, 1) := by decide +kernel
theorem dX2_lay_17 : decode cX2_lay 17 = .ok (.getfield 26, 3) := by decide +kernel
theorem dX2_lay_20 : decode cX2_lay 20 = .ok (.aload_n 3, 1) := by decide +kernel
theorem dX2_lay_21 : decode cX2_lay 21 = .ok (.invokevirtual 37, 3) := by decide +kernel
theorem dX2_lay_24 : decode cX2_lay 24 = .ok (.aload_n 0, 1) := by decide +kernel
theorem dX2_lay_25 : decode cX2_lay 25 = .ok (.iconst 1, 1) := by decide +kernel
theorem dX2_lay_26 : decode cX2_lay 26 = .ok (.putfield 40, 3) := by decide +kernel
theorem dX2_lay_29 : decode cX2_lay 29 = .ok (.return_, 1) := by decide +kernel
theorem dX3_init_0 : decode cX3_init 0 = .ok (.aload_n 0, 1) := by decide +kernel
theorem dX3_init_1 : decode cX3_init 1 = .ok (.invokespecial 3, 3) := by decide +kernel
theorem dX3_init_4 : decode cX3_init 4 = .ok (.aload_n 0, 1) := by decide +kernel
theorem dX3_init_5 : decode cX3_init 5 = .ok (.iload_n 1, 1) := by decide +kernel
theorem dX3_init_6 : decode cX3_init 6 = .ok (.ifCond .ge 7, 3) := by decide +kernel
theorem dX3_init_9 : decode cX3_init 9 = .ok (.iconst 0, 1) := by decide +kernel
theorem dX3_init_10 : decode cX3_init 10 = .ok (.goto 4, 3) := by decide +kernel
theorem dX3_init_13 : decode cX3_init 13 = .ok (.iload_n 1, 1) := by decide +kernel
theorem dX3_init_14 : decode cX3_init 14 = .ok (.newarray .long, 2) := by decide +kernel
theorem dX3_init_16 : decode cX3_init 16 = .ok (.putfield 9, 3) := by decide +kernel
theorem dX3_init_19 : decode cX3_init 19 = .ok (.return_, 1) := by decide +kernel
theorem dX3_find_0 : decode cX3_find 0 = .ok (.iconst 0, 1) := by decide +kernel
theorem dX3_find_1 : decode cX3_find 1 = .ok (.istore_n 3, 1) := by decide +kernel
theorem dX3_find_2 : decode cX3_find 2 = .ok (.iload_n 3, 1) := by decide +kernel
theorem dX3_find_3 : decode cX3_find 3 = .ok (.aload_n 0, 1) := by decide +kernel
theorem dX3_find_4 : decode cX3_find 4 = .ok (.getfield 15, 3) := by decide +kernel
theorem dX3_find_7 : decode cX3_find 7 = .ok (.if_icmp .ge 22, 3) := by decide +kernel
theorem dX3_find_10 : decode cX3_find 10 = .ok (.aload_n 0, 1) := by decide +kernel
theorem dX3_find_11 : decode cX3_find 11 = .ok (.getfield 9, 3) := by decide +kernel
theorem dX3_find_14 : decode cX3_find 14 = .ok (.iload_n 3, 1) := by decide +kernel
theorem dX3_find_15 : decode cX3_find 15 = .ok (.laload, 1) := by decide +kernel
theorem dX3_find_16 : decode cX3_find 16 = .ok (.lload_n 1, 1) := by decide +kernel
theorem dX3_find_17 : decode cX3_find 17 = .ok (.lcmp, 1) := by decide +kernel
theorem dX3_find_18 : decode cX3_find 18 = .ok (.ifCond .ne 5, 3) := by decide +kernel
theorem dX3_find_21 : decode cX3_find 21 = .ok (.iload_n 3, 1) := by decide +kernel
theorem dX3_find_22 : decode cX3_find 22 = .ok (.ireturn, 1) := by decide +kernel
theorem dX3_find_23 : decode cX3_find 23 = .ok (.iinc 3 1, 3) := by decide +kernel
theorem dX3_find_26 : decode cX3_find 26 = .ok (.goto (-24), 3) := by decide +kernel
theorem dX3_find_29 : decode cX3_find 29 = .ok (.iconst (-1), 1) := by decide +kernel
theorem dX3_find_30 : decode cX3_find 30 = .ok (.ireturn, 1) := by decide +kernel
theorem dX3_put_0 : decode cX3_put 0 = .ok (.aload_n 0, 1) := by decide +kernel
theorem dX3_put_1 : decode cX3_put 1 = .ok (.getfield 15, 3) := by decide +kernel
theorem dX3_put_4 : decode cX3_put 4 = .ok (.aload_n 0, 1) := by decide +kernel
theorem dX3_put_5 : decode cX3_put 5 = .ok (.getfield 9, 3) := by decide +kernel
theorem dX3_put_8 : decode cX3_put 8 = .ok (.arraylength, 1) := by decide +kernel
theorem dX3_put_9 : decode cX3_put 9 = .ok (.if_icmp .lt 5, 3) := by decide +kernel
theorem dX3_put_12 : decode cX3_put 12 = .ok (.iconst (-1), 1) := by decide +kernel
theorem dX3_put_13 : decode cX3_put 13 = .ok (.ireturn, 1) := by decide +kernel
theorem dX3_put_14 : decode cX3_put 14 = .ok (.aload_n 0, 1) := by decide +kernel
theorem dX3_put_15 : decode cX3_put 15 = .ok (.getfield 9, 3) := by decide +kernel
theorem dX3_put_18 : decode cX3_put 18 = .ok (.aload_n 0, 1) := by decide +kernel
theorem dX3_put_19 : decode cX3_put 19 = .ok (.getfield 15, 3) := by decide +kernel
theorem dX3_put_22 : decode cX3_put 22 = .ok (.lload_n 1, 1) := by decide +kernel
theorem dX3_put_23 : decode cX3_put 23 = .ok (.lastore, 1) := by decide +kernel
theorem dX3_put_24 : decode cX3_put 24 = .ok (.aload_n 0, 1) := by decide +kernel
theorem dX3_put_25 : decode cX3_put 25 = .ok (.dup, 1) := by decide +kernel
theorem dX3_put_26 : decode cX3_put 26 = .ok (.getfield 15, 3) := by decide +kernel
theorem dX3_put_29 : decode cX3_put 29 = .ok (.iconst 1, 1) := by decide +kernel
theorem dX3_put_30 : decode cX3_put 30 = .ok (.iadd, 1) := by decide +kernel
theorem dX3_put_31 : decode cX3_put 31 = .ok (.putfield 15, 3) := by decide +kernel
theorem dX3_put_34 : decode cX3_put 34 = .ok (.aload_n 0, 1) := by decide +kernel
theorem dX3_put_35 : decode cX3_put 35 = .ok (.getfield 15, 3) := by decide +kernel
theorem dX3_put_38 : decode cX3_put 38 = .ok (.iconst 1, 1) := by decide +kernel
theorem dX3_put_39 : decode cX3_put 39 = .ok (.isub, 1) := by decide +kernel
theorem dX3_put_40 : decode cX3_put 40 = .ok (.ireturn, 1) := by decide +kernel
theorem dX3_isFull_0 : decode cX3_isFull 0 = .ok (.aload_n 0, 1) := by decide +kernel
theorem dX3_isFull_1 : decode cX3_isFull 1 = .ok (.getfield 15, 3) := by decide +kernel
theorem dX3_isFull_4 : decode cX3_isFull 4 = .ok (.aload_n 0, 1) := by decide +kernel
theorem dX3_isFull_5 : decode cX3_isFull 5 = .ok (.getfield 9, 3) := by decide +kernel
theorem dX3_isFull_8 : decode cX3_isFull 8 = .ok (.arraylength, 1) := by decide +kernel
theorem dX3_isFull_9 : decode cX3_isFull 9 = .ok (.if_icmp .lt 7, 3) := by decide +kernel
theorem dX3_isFull_12 : decode cX3_isFull 12 = .ok (.iconst 1, 1) := by decide +kernel
theorem dX3_isFull_13 : decode cX3_isFull 13 = .ok (.goto 4, 3) := by decide +kernel
theorem dX3_isFull_16 : decode cX3_isFull 16 = .ok (.iconst 0, 1) := by decide +kernel
theorem dX3_isFull_17 : decode cX3_isFull 17 = .ok (.ireturn, 1) := by decide +kernel
theorem dX4_init_0 : decode cX4_init 0 = .ok (.aload_n 0, 1) := by decide +kernel
theorem dX4_init_1 : decode cX4_init 1 = .ok (.invokespecial 3, 3) := by decide +kernel
theorem dX4_init_4 : decode cX4_init 4 = .ok (.aload_n 0, 1) := by decide +kernel
theorem dX4_init_5 : decode cX4_init 5 = .ok (.new 9, 3) := by decide +kernel
theorem dX4_init_8 : decode cX4_init 8 = .ok (.dup, 1) := by decide +kernel
theorem dX4_init_9 : decode cX4_init 9 = .ok (.invokespecial 11, 3) := by decide +kernel
theorem dX4_init_12 : decode cX4_init 12 = .ok (.putfield 12, 3) := by decide +kernel
theorem dX4_init_15 : decode cX4_init 15 = .ok (.aload_n 0, 1) := by decide +kernel
theorem dX4_init_16 : decode cX4_init 16 = .ok (.sipush 427, 3) := by decide +kernel
theorem dX4_init_19 : decode cX4_init 19 = .ok (.newarray .int, 2) := by decide +kernel
theorem dX4_init_21 : decode cX4_init 21 = .ok (.putfield 18, 3) := by decide +kernel
theorem dX4_init_24 : decode cX4_init 24 = .ok (.aload_n 0, 1) := by decide +kernel
theorem dX4_init_25 : decode cX4_init 25 = .ok (.sipush 305, 3) := by decide +kernel
theorem dX4_init_28 : decode cX4_init 28 = .ok (.newarray .int, 2) := by decide +kernel
theorem dX4_init_30 : decode cX4_init 30 = .ok (.putfield 22, 3) := by decide +kernel
theorem dX4_init_33 : decode cX4_init 33 = .ok (.aload_n 0, 1) := by decide +kernel
theorem dX4_init_34 : decode cX4_init 34 = .ok (.bipush 61, 2) := by decide +kernel
theorem dX4_init_36 : decode cX4_init 36 = .ok (.newarray .int, 2) := by decide +kernel
theorem dX4_init_38 : decode cX4_init 38 = .ok (.putfield 25, 3) := by decide +kernel
theorem dX4_init_41 : decode cX4_init 41 = .ok (.aload_n 0, 1) := by decide +kernel
theorem dX4_init_42 : decode cX4_init 42 = .ok (.bipush 18, 2) := by decide +kernel
theorem dX4_init_44 : decode cX4_init 44 = .ok (.newarray .int, 2) := by decide +kernel
theorem dX4_init_46 : decode cX4_init 46 = .ok (.putfield 28, 3) := by decide +kernel
theorem dX4_init_49 : decode cX4_init 49 = .ok (.aload_n 0, 1) := by decide +kernel
theorem dX4_init_50 : decode cX4_init 50 = .ok (.iconst 3, 1) := by decide +kernel
theorem dX4_init_51 : decode cX4_init 51 = .ok (.newarray .int, 2) := by decide +kernel
theorem dX4_init_53 : decode cX4_init 53 = .ok (.putfield 31, 3) := by decide +kernel
theorem dX4_init_56 : decode cX4_init 56 = .ok (.return_, 1) := by decide +kernel
theorem dX4_forget_0 : decode cX4_forget 0 = .ok (.aload_n 0, 1) := by decide +kernel
theorem dX4_forget_1 : decode cX4_forget 1 = .ok (.iconst 0, 1) := by decide +kernel
theorem dX4_forget_2 : decode cX4_forget 2 = .ok (.putfield 34, 3) := by decide +kernel
theorem dX4_forget_5 : decode cX4_forget 5 = .ok (.return_, 1) := by decide +kernel
theorem dX4_foretell_0 : decode cX4_foretell 0 = .ok (.aload_n 0, 1) := by decide +kernel
theorem dX4_foretell_1 : decode cX4_foretell 1 = .ok (.getfield 34, 3) := by decide +kernel
theorem dX4_foretell_4 : decode cX4_foretell 4 = .ok (.istore 4, 2) := by decide +kernel
theorem dX4_foretell_6 : decode cX4_foretell 6 = .ok (.iload 4, 2) := by decide +kernel
theorem dX4_foretell_8 : decode cX4_foretell 8 = .ok (.iload_n 3, 1) := by decide +kernel
theorem dX4_foretell_9 : decode cX4_foretell 9 = .ok (.if_icmp .gt 105, 3) := by decide +kernel
theorem dX4_foretell_12 : decode cX4_foretell 12 = .ok (.iload 4, 2) := by decide +kernel
theorem dX4_foretell_14 : decode cX4_foretell 14 = .ok (.bipush 60, 2) := by decide +kernel
theorem dX4_foretell_16 : decode cX4_foretell 16 = .ok (.if_icmp .gt 98, 3) := by decide +kernel
theorem dX4_foretell_19 : decode cX4_foretell 19 = .ok (.iload 4, 2) := by decide +kernel
theorem dX4_foretell_21 : decode cX4_foretell 21 = .ok (.ifCond .ne 14, 3) := by decide +kernel
theorem dX4_foretell_24 : decode cX4_foretell 24 = .ok (.aload_n 0, 1) := by decide +kernel
theorem dX4_foretell_25 : decode cX4_foretell 25 = .ok (.getfield 12, 3) := by decide +kernel
theorem dX4_foretell_28 : decode cX4_foretell 28 = .ok (.aload_n 2, 1) := by decide +kernel
theorem dX4_foretell_29 : decode cX4_foretell 29 = .ok (.invokevirtual 38, 3) := by decide +kernel
theorem dX4_foretell_32 : decode cX4_foretell 32 = .ok (.goto 11, 3) := by decide +kernel
theorem dX4_foretell_35 : decode cX4_foretell 35 = .ok (.aload_n 0, 1) := by decide +kernel
theorem dX4_foretell_36 : decode cX4_foretell 36 = .ok (.getfield 12, 3) := by decide +kernel
theorem dX4_foretell_39 : decode cX4_foretell 39 = .ok (.aload_n 1, 1) := by decide +kernel
theorem dX4_foretell_40 : decode cX4_foretell 40 = .ok (.invokevirtual 42, 3) := by decide +kernel
theorem dX4_foretell_43 : decode cX4_foretell 43 = .ok (.aload_n 0, 1) := by decide +kernel
theorem dX4_foretell_44 : decode cX4_foretell 44 = .ok (.getfield 12, 3) := by decide +kernel
theorem dX4_foretell_47 : decode cX4_foretell 47 = .ok (.getfield 46, 3) := by decide +kernel
theorem dX4_foretell_50 : decode cX4_foretell 50 = .ok (.iconst 0, 1) := by decide +kernel
theorem dX4_foretell_51 : decode cX4_foretell 51 = .ok (.aload_n 0, 1) := by decide +kernel
theorem dX4_foretell_52 : decode cX4_foretell 52 = .ok (.getfield 18, 3) := by decide +kernel
theorem dX4_foretell_55 : decode cX4_foretell 55 = .ok (.iload 4, 2) := by decide +kernel
theorem dX4_foretell_57 : decode cX4_foretell 57 = .ok (.bipush 7, 2) := by decide +kernel
theorem dX4_foretell_59 : decode cX4_foretell 59 = .ok (.imul, 1) := by decide +kernel
theorem dX4_foretell_60 : decode cX4_foretell 60 = .ok (.bipush 7, 2) := by decide +kernel
theorem dX4_foretell_62 : decode cX4_foretell 62 = .ok (.invokestatic 47, 3) := by decide +kernel
theorem dX4_foretell_65 : decode cX4_foretell 65 = .ok (.aload_n 0, 1) := by decide +kernel
theorem dX4_foretell_66 : decode cX4_foretell 66 = .ok (.getfield 12, 3) := by decide +kernel
theorem dX4_foretell_69 : decode cX4_foretell 69 = .ok (.getfield 53, 3) := by decide +kernel
theorem dX4_foretell_72 : decode cX4_foretell 72 = .ok (.iconst 0, 1) := by decide +kernel
theorem dX4_foretell_73 : decode cX4_foretell 73 = .ok (.aload_n 0, 1) := by decide +kernel
theorem dX4_foretell_74 : decode cX4_foretell 74 = .ok (.getfield 22, 3) := by decide +kernel
theorem dX4_foretell_77 : decode cX4_foretell 77 = .ok (.iload 4, 2) := by decide +kernel
theorem dX4_foretell_79 : decode cX4_foretell 79 = .ok (.iconst 5, 1) := by decide +kernel
theorem dX4_foretell_80 : decode cX4_foretell 80 = .ok (.imul, 1) := by decide +kernel
theorem dX4_foretell_81 : decode cX4_foretell 81 = .ok (.iconst 5, 1) := by decide +kernel
theorem dX4_foretell_82 : decode cX4_foretell 82 = .ok (.invokestatic 47, 3) := by decide +kernel
theorem dX4_foretell_85 : decode cX4_foretell 85 = .ok (.aload_n 0, 1) := by decide +kernel
theorem dX4_foretell_86 : decode cX4_foretell 86 = .ok (.getfield 25, 3) := by decide +kernel
theorem dX4_foretell_89 : decode cX4_foretell 89 = .ok (.iload 4, 2) := by decide +kernel
theorem dX4_foretell_91 : decode cX4_foretell 91 = .ok (.aload_n 0, 1) := by decide +kernel
theorem dX4_foretell_92 : decode cX4_foretell 92 = .ok (.getfield 12, 3) := by decide +kernel
theorem dX4_foretell_95 : decode cX4_foretell 95 = .ok (.aload_n 1, 1) := by decide +kernel
theorem dX4_foretell_96 : decode cX4_foretell 96 = .ok (.invokevirtual 56, 3) := by decide +kernel
theorem dX4_foretell_99 : decode cX4_foretell 99 = .ok (.iastore, 1) := by decide +kernel
theorem dX4_foretell_100 : decode cX4_foretell 100 = .ok (.aload_n 0, 1) := by decide +kernel
theorem dX4_foretell_101 : decode cX4_foretell 101 = .ok (.iload 4, 2) := by decide +kernel
theorem dX4_foretell_103 : decode cX4_foretell 103 = .ok (.iconst 1, 1) := by decide +kernel
theorem dX4_foretell_104 : decode cX4_foretell 104 = .ok (.iadd, 1) := by decide +kernel
theorem dX4_foretell_105 : decode cX4_foretell 105 = .ok (.putfield 34, 3) := by decide +kernel
theorem dX4_foretell_108 : decode cX4_foretell 108 = .ok (.iinc 4 1, 3) := by decide +kernel
theorem dX4_foretell_111 : decode cX4_foretell 111 = .ok (.goto (-105), 3) := by decide +kernel
theorem dX4_foretell_114 : decode cX4_foretell 114 = .ok (.return_, 1) := by decide +kernel
theorem dX4_waterOn_0 : decode cX4_waterOn 0 = .ok (.aload_n 0, 1) := by decide +kernel
theorem dX4_waterOn_1 : decode cX4_waterOn 1 = .ok (.getfield 18, 3) := by decide +kernel
theorem dX4_waterOn_4 : decode cX4_waterOn 4 = .ok (.iload_n 1, 1) := by decide +kernel
theorem dX4_waterOn_5 : decode cX4_waterOn 5 = .ok (.bipush 7, 2) := by decide +kernel
theorem dX4_waterOn_7 : decode cX4_waterOn 7 = .ok (.imul, 1) := by decide +kernel
theorem dX4_waterOn_8 : decode cX4_waterOn 8 = .ok (.iload_n 2, 1) := by decide +kernel
theorem dX4_waterOn_9 : decode cX4_waterOn 9 = .ok (.iadd, 1) := by decide +kernel
theorem dX4_waterOn_10 : decode cX4_waterOn 10 = .ok (.iaload, 1) := by decide +kernel
theorem dX4_waterOn_11 : decode cX4_waterOn 11 = .ok (.ireturn, 1) := by decide +kernel
theorem dX4_placeOn_0 : decode cX4_placeOn 0 = .ok (.aload_n 0, 1) := by decide +kernel
theorem dX4_placeOn_1 : decode cX4_placeOn 1 = .ok (.getfield 22, 3) := by decide +kernel
theorem dX4_placeOn_4 : decode cX4_placeOn 4 = .ok (.iload_n 1, 1) := by decide +kernel
theorem dX4_placeOn_5 : decode cX4_placeOn 5 = .ok (.iconst 5, 1) := by decide +kernel
theorem dX4_placeOn_6 : decode cX4_placeOn 6 = .ok (.imul, 1) := by decide +kernel
theorem dX4_placeOn_7 : decode cX4_placeOn 7 = .ok (.iload_n 2, 1) := by decide +kernel
theorem dX4_placeOn_8 : decode cX4_placeOn 8 = .ok (.iadd, 1) := by decide +kernel
theorem dX4_placeOn_9 : decode cX4_placeOn 9 = .ok (.iaload, 1) := by decide +kernel
theorem dX4_placeOn_10 : decode cX4_placeOn 10 = .ok (.ireturn, 1) := by decide +kernel
theorem dX4_wetOn_0 : decode cX4_wetOn 0 = .ok (.aload_n 0, 1) := by decide +kernel
theorem dX4_wetOn_1 : decode cX4_wetOn 1 = .ok (.getfield 25, 3) := by decide +kernel
theorem dX4_wetOn_4 : decode cX4_wetOn 4 = .ok (.iload_n 1, 1) := by decide +kernel
theorem dX4_wetOn_5 : decode cX4_wetOn 5 = .ok (.iaload, 1) := by decide +kernel
theorem dX4_wetOn_6 : decode cX4_wetOn 6 = .ok (.ireturn, 1) := by decide +kernel
theorem dX4_swimsOn_0 : decode cX4_swimsOn 0 = .ok (.aload_n 1, 1) := by decide +kernel
theorem dX4_swimsOn_1 : decode cX4_swimsOn 1 = .ok (.getfield 60, 3) := by decide +kernel
theorem dX4_swimsOn_4 : decode cX4_swimsOn 4 = .ok (.iload_n 3, 1) := by decide +kernel
theorem dX4_swimsOn_5 : decode cX4_swimsOn 5 = .ok (.iaload, 1) := by decide +kernel
theorem dX4_swimsOn_6 : decode cX4_swimsOn 6 = .ok (.iload_n 0, 1) := by decide +kernel
theorem dX4_swimsOn_7 : decode cX4_swimsOn 7 = .ok (.ifCond .ne 12, 3) := by decide +kernel
theorem dX4_swimsOn_10 : decode cX4_swimsOn 10 = .ok (.aload_n 2, 1) := by decide +kernel
theorem dX4_swimsOn_11 : decode cX4_swimsOn 11 = .ok (.getfield 65, 3) := by decide +kernel
theorem dX4_swimsOn_14 : decode cX4_swimsOn 14 = .ok (.iload_n 3, 1) := by decide +kernel
theorem dX4_swimsOn_15 : decode cX4_swimsOn 15 = .ok (.iaload, 1) := by decide +kernel
theorem dX4_swimsOn_16 : decode cX4_swimsOn 16 = .ok (.goto 4, 3) := by decide +kernel
theorem dX4_swimsOn_19 : decode cX4_swimsOn 19 = .ok (.iconst 0, 1) := by decide +kernel
theorem dX4_swimsOn_20 : decode cX4_swimsOn 20 = .ok (.isub, 1) := by decide +kernel
theorem dX4_swimsOn_21 : decode cX4_swimsOn 21 = .ok (.ireturn, 1) := by decide +kernel
theorem dX4_daysToPlace_0 : decode cX4_daysToPlace 0 = .ok (.iconst 1, 1) := by decide +kernel
theorem dX4_daysToPlace_1 : decode cX4_daysToPlace 1 = .ok (.aload_n 2, 1) := by decide +kernel
theorem dX4_daysToPlace_2 : decode cX4_daysToPlace 2 = .ok (.getfield 68, 3) := by decide +kernel
theorem dX4_daysToPlace_5 : decode cX4_daysToPlace 5 = .ok (.iload_n 3, 1) := by decide +kernel
theorem dX4_daysToPlace_6 : decode cX4_daysToPlace 6 = .ok (.iaload, 1) := by decide +kernel
theorem dX4_daysToPlace_7 : decode cX4_daysToPlace 7 = .ok (.ishl, 1) := by decide +kernel
theorem dX4_daysToPlace_8 : decode cX4_daysToPlace 8 = .ok (.istore 5, 2) := by decide +kernel
theorem dX4_daysToPlace_10 : decode cX4_daysToPlace 10 = .ok (.iconst 0, 1) := by decide +kernel
theorem dX4_daysToPlace_11 : decode cX4_daysToPlace 11 = .ok (.istore 6, 2) := by decide +kernel
theorem dX4_daysToPlace_13 : decode cX4_daysToPlace 13 = .ok (.iload 6, 2) := by decide +kernel
theorem dX4_daysToPlace_15 : decode cX4_daysToPlace 15 = .ok (.bipush 60, 2) := by decide +kernel
theorem dX4_daysToPlace_17 : decode cX4_daysToPlace 17 = .ok (.if_icmp .gt 63, 3) := by decide +kernel
theorem dX4_daysToPlace_20 : decode cX4_daysToPlace 20 = .ok (.iload 6, 2) := by decide +kernel
theorem dX4_daysToPlace_22 : decode cX4_daysToPlace 22 = .ok (.aload_n 1, 1) := by decide +kernel
theorem dX4_daysToPlace_23 : decode cX4_daysToPlace 23 = .ok (.aload_n 2, 1) := by decide +kernel
theorem dX4_daysToPlace_24 : decode cX4_daysToPlace 24 = .ok (.iload_n 3, 1) := by decide +kernel
theorem dX4_daysToPlace_25 : decode cX4_daysToPlace 25 = .ok (.invokestatic 71, 3) := by decide +kernel
theorem dX4_daysToPlace_28 : decode cX4_daysToPlace 28 = .ok (.istore 7, 2) := by decide +kernel
theorem dX4_daysToPlace_30 : decode cX4_daysToPlace 30 = .ok (.iconst 0, 1) := by decide +kernel
theorem dX4_daysToPlace_31 : decode cX4_daysToPlace 31 = .ok (.istore 8, 2) := by decide +kernel
theorem dX4_daysToPlace_33 : decode cX4_daysToPlace 33 = .ok (.iload 8, 2) := by decide +kernel
theorem dX4_daysToPlace_35 : decode cX4_daysToPlace 35 = .ok (.iload 7, 2) := by decide +kernel
theorem dX4_daysToPlace_37 : decode cX4_daysToPlace 37 = .ok (.if_icmp .ge 24, 3) := by decide +kernel
theorem dX4_daysToPlace_40 : decode cX4_daysToPlace 40 = .ok (.aload_n 1, 1) := by decide +kernel
theorem dX4_daysToPlace_41 : decode cX4_daysToPlace 41 = .ok (.iload 5, 2) := by decide +kernel
theorem dX4_daysToPlace_43 : decode cX4_daysToPlace 43 = .ok (.aload_n 0, 1) := by decide +kernel
theorem dX4_daysToPlace_44 : decode cX4_daysToPlace 44 = .ok (.getfield 25, 3) := by decide +kernel
theorem dX4_daysToPlace_47 : decode cX4_daysToPlace 47 = .ok (.iload 6, 2) := by decide +kernel
theorem dX4_daysToPlace_49 : decode cX4_daysToPlace 49 = .ok (.iaload, 1) := by decide +kernel
theorem dX4_daysToPlace_50 : decode cX4_daysToPlace 50 = .ok (.invokevirtual 75, 3) := by decide +kernel
theorem dX4_daysToPlace_53 : decode cX4_daysToPlace 53 = .ok (.istore 5, 2) := by decide +kernel
theorem dX4_daysToPlace_55 : decode cX4_daysToPlace 55 = .ok (.iinc 8 1, 3) := by decide +kernel
theorem dX4_daysToPlace_58 : decode cX4_daysToPlace 58 = .ok (.goto (-25), 3) := by decide +kernel
theorem dX4_daysToPlace_61 : decode cX4_daysToPlace 61 = .ok (.iload 5, 2) := by decide +kernel
theorem dX4_daysToPlace_63 : decode cX4_daysToPlace 63 = .ok (.iload 4, 2) := by decide +kernel
theorem dX4_daysToPlace_65 : decode cX4_daysToPlace 65 = .ok (.ishr, 1) := by decide +kernel
theorem dX4_daysToPlace_66 : decode cX4_daysToPlace 66 = .ok (.iconst 1, 1) := by decide +kernel
theorem dX4_daysToPlace_67 : decode cX4_daysToPlace 67 = .ok (.iand, 1) := by decide +kernel
theorem dX4_daysToPlace_68 : decode cX4_daysToPlace 68 = .ok (.ifCond .eq 6, 3) := by decide +kernel
theorem dX4_daysToPlace_71 : decode cX4_daysToPlace 71 = .ok (.iload 6, 2) := by decide +kernel
theorem dX4_daysToPlace_73 : decode cX4_daysToPlace 73 = .ok (.ireturn, 1) := by decide +kernel
theorem dX4_daysToPlace_74 : decode cX4_daysToPlace 74 = .ok (.iinc 6 1, 3) := by decide +kernel
theorem dX4_daysToPlace_77 : decode cX4_daysToPlace 77 = .ok (.goto (-64), 3) := by decide +kernel
theorem dX4_daysToPlace_80 : decode cX4_daysToPlace 80 = .ok (.iconst (-1), 1) := by decide +kernel
theorem dX4_daysToPlace_81 : decode cX4_daysToPlace 81 = .ok (.ireturn, 1) := by decide +kernel
theorem dX4_daysToServe_0 : decode cX4_daysToServe 0 = .ok (.iconst 1, 1) := by decide +kernel
theorem dX4_daysToServe_1 : decode cX4_daysToServe 1 = .ok (.aload_n 2, 1) := by decide +kernel
theorem dX4_daysToServe_2 : decode cX4_daysToServe 2 = .ok (.getfield 68, 3) := by decide +kernel
theorem dX4_daysToServe_5 : decode cX4_daysToServe 5 = .ok (.iload 4, 2) := by decide +kernel
theorem dX4_daysToServe_7 : decode cX4_daysToServe 7 = .ok (.iaload, 1) := by decide +kernel
theorem dX4_daysToServe_8 : decode cX4_daysToServe 8 = .ok (.ishl, 1) := by decide +kernel
theorem dX4_daysToServe_9 : decode cX4_daysToServe 9 = .ok (.istore 5, 2) := by decide +kernel
theorem dX4_daysToServe_11 : decode cX4_daysToServe 11 = .ok (.aload_n 2, 1) := by decide +kernel
theorem dX4_daysToServe_12 : decode cX4_daysToServe 12 = .ok (.getfield 79, 3) := by decide +kernel
theorem dX4_daysToServe_15 : decode cX4_daysToServe 15 = .ok (.iload_n 3, 1) := by decide +kernel
theorem dX4_daysToServe_16 : decode cX4_daysToServe 16 = .ok (.iaload, 1) := by decide +kernel
theorem dX4_daysToServe_17 : decode cX4_daysToServe 17 = .ok (.iconst (-1), 1) := by decide +kernel
theorem dX4_daysToServe_18 : decode cX4_daysToServe 18 = .ok (.if_icmp .ne 8, 3) := by decide +kernel
theorem dX4_daysToServe_21 : decode cX4_daysToServe 21 = .ok (.iload 5, 2) := by decide +kernel
theorem dX4_daysToServe_23 : decode cX4_daysToServe 23 = .ok (.goto 4, 3) := by decide +kernel
theorem dX4_daysToServe_26 : decode cX4_daysToServe 26 = .ok (.iconst 0, 1) := by decide +kernel
theorem dX4_daysToServe_27 : decode cX4_daysToServe 27 = .ok (.istore 6, 2) := by decide +kernel
theorem dX4_daysToServe_29 : decode cX4_daysToServe 29 = .ok (.aload_n 2, 1) := by decide +kernel
theorem dX4_daysToServe_30 : decode cX4_daysToServe 30 = .ok (.getfield 79, 3) := by decide +kernel
theorem dX4_daysToServe_33 : decode cX4_daysToServe 33 = .ok (.iload_n 3, 1) := by decide +kernel
theorem dX4_daysToServe_34 : decode cX4_daysToServe 34 = .ok (.iaload, 1) := by decide +kernel
theorem dX4_daysToServe_35 : decode cX4_daysToServe 35 = .ok (.iload 4, 2) := by decide +kernel
theorem dX4_daysToServe_37 : decode cX4_daysToServe 37 = .ok (.if_icmp .ne 8, 3) := by decide +kernel
theorem dX4_daysToServe_40 : decode cX4_daysToServe 40 = .ok (.iload 5, 2) := by decide +kernel
theorem dX4_daysToServe_42 : decode cX4_daysToServe 42 = .ok (.goto 4, 3) := by decide +kernel
theorem dX4_daysToServe_45 : decode cX4_daysToServe 45 = .ok (.iconst 0, 1) := by decide +kernel
theorem dX4_daysToServe_46 : decode cX4_daysToServe 46 = .ok (.istore 7, 2) := by decide +kernel
theorem dX4_daysToServe_48 : decode cX4_daysToServe 48 = .ok (.aload_n 1, 1) := by decide +kernel
theorem dX4_daysToServe_49 : decode cX4_daysToServe 49 = .ok (.getfield 82, 3) := by decide +kernel
theorem dX4_daysToServe_52 : decode cX4_daysToServe 52 = .ok (.iload_n 3, 1) := by decide +kernel
theorem dX4_daysToServe_53 : decode cX4_daysToServe 53 = .ok (.iaload, 1) := by decide +kernel
theorem dX4_daysToServe_54 : decode cX4_daysToServe 54 = .ok (.istore 8, 2) := by decide +kernel
theorem dX4_daysToServe_56 : decode cX4_daysToServe 56 = .ok (.iload 6, 2) := by decide +kernel
theorem dX4_daysToServe_58 : decode cX4_daysToServe 58 = .ok (.iload 7, 2) := by decide +kernel
theorem dX4_daysToServe_60 : decode cX4_daysToServe 60 = .ok (.ior, 1) := by decide +kernel
theorem dX4_daysToServe_61 : decode cX4_daysToServe 61 = .ok (.ifCond .ne 5, 3) := by decide +kernel
theorem dX4_daysToServe_64 : decode cX4_daysToServe 64 = .ok (.iconst (-1), 1) := by decide +kernel
theorem dX4_daysToServe_65 : decode cX4_daysToServe 65 = .ok (.ireturn, 1) := by decide +kernel
theorem dX4_daysToServe_66 : decode cX4_daysToServe 66 = .ok (.iconst 0, 1) := by decide +kernel
theorem dX4_daysToServe_67 : decode cX4_daysToServe 67 = .ok (.istore 9, 2) := by decide +kernel
theorem dX4_daysToServe_69 : decode cX4_daysToServe 69 = .ok (.iload 9, 2) := by decide +kernel
theorem dX4_daysToServe_71 : decode cX4_daysToServe 71 = .ok (.bipush 60, 2) := by decide +kernel
theorem dX4_daysToServe_73 : decode cX4_daysToServe 73 = .ok (.if_icmp .gt 124, 3) := by decide +kernel
theorem dX4_daysToServe_76 : decode cX4_daysToServe 76 = .ok (.iload 9, 2) := by decide +kernel
theorem dX4_daysToServe_78 : decode cX4_daysToServe 78 = .ok (.aload_n 1, 1) := by decide +kernel
theorem dX4_daysToServe_79 : decode cX4_daysToServe 79 = .ok (.aload_n 2, 1) := by decide +kernel
theorem dX4_daysToServe_80 : decode cX4_daysToServe 80 = .ok (.iload 4, 2) := by decide +kernel
theorem dX4_daysToServe_82 : decode cX4_daysToServe 82 = .ok (.invokestatic 71, 3) := by decide +kernel
theorem dX4_daysToServe_85 : decode cX4_daysToServe 85 = .ok (.istore 10, 2) := by decide +kernel
theorem dX4_daysToServe_87 : decode cX4_daysToServe 87 = .ok (.iload 7, 2) := by decide +kernel
theorem dX4_daysToServe_89 : decode cX4_daysToServe 89 = .ok (.iload 6, 2) := by decide +kernel
theorem dX4_daysToServe_91 : decode cX4_daysToServe 91 = .ok (.iconst 1, 1) := by decide +kernel
theorem dX4_daysToServe_92 : decode cX4_daysToServe 92 = .ok (.iand, 1) := by decide +kernel
theorem dX4_daysToServe_93 : decode cX4_daysToServe 93 = .ok (.ior, 1) := by decide +kernel
theorem dX4_daysToServe_94 : decode cX4_daysToServe 94 = .ok (.istore 7, 2) := by decide +kernel
theorem dX4_daysToServe_96 : decode cX4_daysToServe 96 = .ok (.iconst 0, 1) := by decide +kernel
theorem dX4_daysToServe_97 : decode cX4_daysToServe 97 = .ok (.istore 11, 2) := by decide +kernel
theorem dX4_daysToServe_99 : decode cX4_daysToServe 99 = .ok (.iload 11, 2) := by decide +kernel
theorem dX4_daysToServe_101 : decode cX4_daysToServe 101 = .ok (.iload 10, 2) := by decide +kernel
theorem dX4_daysToServe_103 : decode cX4_daysToServe 103 = .ok (.if_icmp .ge 44, 3) := by decide +kernel
theorem dX4_daysToServe_106 : decode cX4_daysToServe 106 = .ok (.aload_n 1, 1) := by decide +kernel
theorem dX4_daysToServe_107 : decode cX4_daysToServe 107 = .ok (.iload 6, 2) := by decide +kernel
theorem dX4_daysToServe_109 : decode cX4_daysToServe 109 = .ok (.aload_n 0, 1) := by decide +kernel
theorem dX4_daysToServe_110 : decode cX4_daysToServe 110 = .ok (.getfield 25, 3) := by decide +kernel
theorem dX4_daysToServe_113 : decode cX4_daysToServe 113 = .ok (.iload 9, 2) := by decide +kernel
theorem dX4_daysToServe_115 : decode cX4_daysToServe 115 = .ok (.iaload, 1) := by decide +kernel
theorem dX4_daysToServe_116 : decode cX4_daysToServe 116 = .ok (.invokevirtual 75, 3) := by decide +kernel
theorem dX4_daysToServe_119 : decode cX4_daysToServe 119 = .ok (.istore 6, 2) := by decide +kernel
theorem dX4_daysToServe_121 : decode cX4_daysToServe 121 = .ok (.aload_n 1, 1) := by decide +kernel
theorem dX4_daysToServe_122 : decode cX4_daysToServe 122 = .ok (.iload 7, 2) := by decide +kernel
theorem dX4_daysToServe_124 : decode cX4_daysToServe 124 = .ok (.aload_n 0, 1) := by decide +kernel
theorem dX4_daysToServe_125 : decode cX4_daysToServe 125 = .ok (.getfield 25, 3) := by decide +kernel
theorem dX4_daysToServe_128 : decode cX4_daysToServe 128 = .ok (.iload 9, 2) := by decide +kernel
theorem dX4_daysToServe_130 : decode cX4_daysToServe 130 = .ok (.iaload, 1) := by decide +kernel
theorem dX4_daysToServe_131 : decode cX4_daysToServe 131 = .ok (.invokevirtual 75, 3) := by decide +kernel
theorem dX4_daysToServe_134 : decode cX4_daysToServe 134 = .ok (.iload 6, 2) := by decide +kernel
theorem dX4_daysToServe_136 : decode cX4_daysToServe 136 = .ok (.iconst 1, 1) := by decide +kernel
theorem dX4_daysToServe_137 : decode cX4_daysToServe 137 = .ok (.iand, 1) := by decide +kernel
theorem dX4_daysToServe_138 : decode cX4_daysToServe 138 = .ok (.ior, 1) := by decide +kernel
theorem dX4_daysToServe_139 : decode cX4_daysToServe 139 = .ok (.istore 7, 2) := by decide +kernel
theorem dX4_daysToServe_141 : decode cX4_daysToServe 141 = .ok (.iinc 11 1, 3) := by decide +kernel
theorem dX4_daysToServe_144 : decode cX4_daysToServe 144 = .ok (.goto (-45), 3) := by decide +kernel
theorem dX4_daysToServe_147 : decode cX4_daysToServe 147 = .ok (.aload_n 0, 1) := by decide +kernel
theorem dX4_daysToServe_148 : decode cX4_daysToServe 148 = .ok (.iload 9, 2) := by decide +kernel
theorem dX4_daysToServe_150 : decode cX4_daysToServe 150 = .ok (.iload 8, 2) := by decide +kernel
theorem dX4_daysToServe_152 : decode cX4_daysToServe 152 = .ok (.invokevirtual 85, 3) := by decide +kernel
theorem dX4_daysToServe_155 : decode cX4_daysToServe 155 = .ok (.istore 11, 2) := by decide +kernel
theorem dX4_daysToServe_157 : decode cX4_daysToServe 157 = .ok (.iload 7, 2) := by decide +kernel
theorem dX4_daysToServe_159 : decode cX4_daysToServe 159 = .ok (.iload 11, 2) := by decide +kernel
theorem dX4_daysToServe_161 : decode cX4_daysToServe 161 = .ok (.ishr, 1) := by decide +kernel
theorem dX4_daysToServe_162 : decode cX4_daysToServe 162 = .ok (.iconst 1, 1) := by decide +kernel
theorem dX4_daysToServe_163 : decode cX4_daysToServe 163 = .ok (.iand, 1) := by decide +kernel
theorem dX4_daysToServe_164 : decode cX4_daysToServe 164 = .ok (.ifCond .eq 27, 3) := by decide +kernel
theorem dX4_daysToServe_167 : decode cX4_daysToServe 167 = .ok (.aload_n 1, 1) := by decide +kernel
theorem dX4_daysToServe_168 : decode cX4_daysToServe 168 = .ok (.getfield 88, 3) := by decide +kernel
theorem dX4_daysToServe_171 : decode cX4_daysToServe 171 = .ok (.iload 8, 2) := by decide +kernel
theorem dX4_daysToServe_173 : decode cX4_daysToServe 173 = .ok (.iaload, 1) := by decide +kernel
theorem dX4_daysToServe_174 : decode cX4_daysToServe 174 = .ok (.aload_n 0, 1) := by decide +kernel
theorem dX4_daysToServe_175 : decode cX4_daysToServe 175 = .ok (.iload 9, 2) := by decide +kernel
theorem dX4_daysToServe_177 : decode cX4_daysToServe 177 = .ok (.iload 11, 2) := by decide +kernel
theorem dX4_daysToServe_179 : decode cX4_daysToServe 179 = .ok (.invokevirtual 91, 3) := by decide +kernel
theorem dX4_daysToServe_182 : decode cX4_daysToServe 182 = .ok (.invokestatic 94, 3) := by decide +kernel
theorem dX4_daysToServe_185 : decode cX4_daysToServe 185 = .ok (.ifCond .eq 6, 3) := by decide +kernel
theorem dX4_daysToServe_188 : decode cX4_daysToServe 188 = .ok (.iload 9, 2) := by decide +kernel
theorem dX4_daysToServe_190 : decode cX4_daysToServe 190 = .ok (.ireturn, 1) := by decide +kernel
theorem dX4_daysToServe_191 : decode cX4_daysToServe 191 = .ok (.iinc 9 1, 3) := by decide +kernel
theorem dX4_daysToServe_194 : decode cX4_daysToServe 194 = .ok (.goto (-125), 3) := by decide +kernel
theorem dX4_daysToServe_197 : decode cX4_daysToServe 197 = .ok (.iconst (-1), 1) := by decide +kernel
theorem dX4_daysToServe_198 : decode cX4_daysToServe 198 = .ok (.ireturn, 1) := by decide +kernel
theorem dX4_allot_0 : decode cX4_allot 0 = .ok (.aload_n 1, 1) := by decide +kernel
theorem dX4_allot_1 : decode cX4_allot 1 = .ok (.getfield 98, 3) := by decide +kernel
theorem dX4_allot_4 : decode cX4_allot 4 = .ok (.getfield 102, 3) := by decide +kernel
theorem dX4_allot_7 : decode cX4_allot 7 = .ok (.istore_n 3, 1) := by decide +kernel
theorem dX4_allot_8 : decode cX4_allot 8 = .ok (.aload_n 1, 1) := by decide +kernel
theorem dX4_allot_9 : decode cX4_allot 9 = .ok (.getfield 107, 3) := by decide +kernel
theorem dX4_allot_12 : decode cX4_allot 12 = .ok (.getfield 102, 3) := by decide +kernel
theorem dX4_allot_15 : decode cX4_allot 15 = .ok (.istore 4, 2) := by decide +kernel
theorem dX4_allot_17 : decode cX4_allot 17 = .ok (.iconst 1, 1) := by decide +kernel
theorem dX4_allot_18 : decode cX4_allot 18 = .ok (.istore 5, 2) := by decide +kernel
theorem dX4_allot_20 : decode cX4_allot 20 = .ok (.iconst 0, 1) := by decide +kernel
theorem dX4_allot_21 : decode cX4_allot 21 = .ok (.istore 6, 2) := by decide +kernel
theorem dX4_allot_23 : decode cX4_allot 23 = .ok (.iload 6, 2) := by decide +kernel
theorem dX4_allot_25 : decode cX4_allot 25 = .ok (.iload_n 3, 1) := by decide +kernel
theorem dX4_allot_26 : decode cX4_allot 26 = .ok (.if_icmp .ge 57, 3) := by decide +kernel
theorem dX4_allot_29 : decode cX4_allot 29 = .ok (.iload 5, 2) := by decide +kernel
theorem dX4_allot_31 : decode cX4_allot 31 = .ok (.iload 4, 2) := by decide +kernel
theorem dX4_allot_33 : decode cX4_allot 33 = .ok (.iconst 1, 1) := by decide +kernel
theorem dX4_allot_34 : decode cX4_allot 34 = .ok (.iadd, 1) := by decide +kernel
theorem dX4_allot_35 : decode cX4_allot 35 = .ok (.imul, 1) := by decide +kernel
theorem dX4_allot_36 : decode cX4_allot 36 = .ok (.istore 5, 2) := by decide +kernel
theorem dX4_allot_38 : decode cX4_allot 38 = .ok (.iconst 0, 1) := by decide +kernel
theorem dX4_allot_39 : decode cX4_allot 39 = .ok (.istore 7, 2) := by decide +kernel
theorem dX4_allot_41 : decode cX4_allot 41 = .ok (.iload 7, 2) := by decide +kernel
theorem dX4_allot_43 : decode cX4_allot 43 = .ok (.iload 4, 2) := by decide +kernel
theorem dX4_allot_45 : decode cX4_allot 45 = .ok (.if_icmp .ge 32, 3) := by decide +kernel
theorem dX4_allot_48 : decode cX4_allot 48 = .ok (.aload_n 0, 1) := by decide +kernel
theorem dX4_allot_49 : decode cX4_allot 49 = .ok (.getfield 28, 3) := by decide +kernel
theorem dX4_allot_52 : decode cX4_allot 52 = .ok (.iload 6, 2) := by decide +kernel
theorem dX4_allot_54 : decode cX4_allot 54 = .ok (.bipush 6, 2) := by decide +kernel
theorem dX4_allot_56 : decode cX4_allot 56 = .ok (.imul, 1) := by decide +kernel
theorem dX4_allot_57 : decode cX4_allot 57 = .ok (.iload 7, 2) := by decide +kernel
theorem dX4_allot_59 : decode cX4_allot 59 = .ok (.iadd, 1) := by decide +kernel
theorem dX4_allot_60 : decode cX4_allot 60 = .ok (.aload_n 0, 1) := by decide +kernel
theorem dX4_allot_61 : decode cX4_allot 61 = .ok (.aload_n 1, 1) := by decide +kernel
theorem dX4_allot_62 : decode cX4_allot 62 = .ok (.aload_n 2, 1) := by decide +kernel
theorem dX4_allot_63 : decode cX4_allot 63 = .ok (.iload 7, 2) := by decide +kernel
theorem dX4_allot_65 : decode cX4_allot 65 = .ok (.iload 6, 2) := by decide +kernel
theorem dX4_allot_67 : decode cX4_allot 67 = .ok (.invokevirtual 110, 3) := by decide +kernel
theorem dX4_allot_70 : decode cX4_allot 70 = .ok (.iastore, 1) := by decide +kernel
theorem dX4_allot_71 : decode cX4_allot 71 = .ok (.iinc 7 1, 3) := by decide +kernel
theorem dX4_allot_74 : decode cX4_allot 74 = .ok (.goto (-33), 3) := by decide +kernel
theorem dX4_allot_77 : decode cX4_allot 77 = .ok (.iinc 6 1, 3) := by decide +kernel
theorem dX4_allot_80 : decode cX4_allot 80 = .ok (.goto (-57), 3) := by decide +kernel
theorem dX4_allot_83 : decode cX4_allot 83 = .ok (.aload_n 0, 1) := by decide +kernel
theorem dX4_allot_84 : decode cX4_allot 84 = .ok (.iconst (-1), 1) := by decide +kernel
theorem dX4_allot_85 : decode cX4_allot 85 = .ok (.putfield 114, 3) := by decide +kernel
theorem dX4_allot_88 : decode cX4_allot 88 = .ok (.iconst 0, 1) := by decide +kernel
theorem dX4_allot_89 : decode cX4_allot 89 = .ok (.istore 6, 2) := by decide +kernel
theorem dX4_allot_91 : decode cX4_allot 91 = .ok (.iload 6, 2) := by decide +kernel
theorem dX4_allot_93 : decode cX4_allot 93 = .ok (.iload 5, 2) := by decide +kernel
theorem dX4_allot_95 : decode cX4_allot 95 = .ok (.if_icmp .ge 18, 3) := by decide +kernel
theorem dX4_allot_98 : decode cX4_allot 98 = .ok (.aload_n 0, 1) := by decide +kernel
theorem dX4_allot_99 : decode cX4_allot 99 = .ok (.iload 6, 2) := by decide +kernel
theorem dX4_allot_101 : decode cX4_allot 101 = .ok (.iload_n 3, 1) := by decide +kernel
theorem dX4_allot_102 : decode cX4_allot 102 = .ok (.iload 4, 2) := by decide +kernel
theorem dX4_allot_104 : decode cX4_allot 104 = .ok (.invokevirtual 117, 3) := by decide +kernel
theorem dX4_allot_107 : decode cX4_allot 107 = .ok (.iinc 6 1, 3) := by decide +kernel
theorem dX4_allot_110 : decode cX4_allot 110 = .ok (.goto (-19), 3) := by decide +kernel
theorem dX4_allot_113 : decode cX4_allot 113 = .ok (.return_, 1) := by decide +kernel
theorem dX4_weighRow_0 : decode cX4_weighRow 0 = .ok (.iconst 0, 1) := by decide +kernel
theorem dX4_weighRow_1 : decode cX4_weighRow 1 = .ok (.istore 4, 2) := by decide +kernel
theorem dX4_weighRow_3 : decode cX4_weighRow 3 = .ok (.iconst 0, 1) := by decide +kernel
theorem dX4_weighRow_4 : decode cX4_weighRow 4 = .ok (.istore 5, 2) := by decide +kernel
theorem dX4_weighRow_6 : decode cX4_weighRow 6 = .ok (.iload_n 1, 1) := by decide +kernel
theorem dX4_weighRow_7 : decode cX4_weighRow 7 = .ok (.istore 6, 2) := by decide +kernel
theorem dX4_weighRow_9 : decode cX4_weighRow 9 = .ok (.iload_n 2, 1) := by decide +kernel
theorem dX4_weighRow_10 : decode cX4_weighRow 10 = .ok (.iconst 1, 1) := by decide +kernel
theorem dX4_weighRow_11 : decode cX4_weighRow 11 = .ok (.isub, 1) := by decide +kernel
theorem dX4_weighRow_12 : decode cX4_weighRow 12 = .ok (.istore 7, 2) := by decide +kernel
theorem dX4_weighRow_14 : decode cX4_weighRow 14 = .ok (.iload 7, 2) := by decide +kernel
theorem dX4_weighRow_16 : decode cX4_weighRow 16 = .ok (.ifCond .lt 79, 3) := by decide +kernel
theorem dX4_weighRow_19 : decode cX4_weighRow 19 = .ok (.iload 6, 2) := by decide +kernel
theorem dX4_weighRow_21 : decode cX4_weighRow 21 = .ok (.iload_n 3, 1) := by decide +kernel
theorem dX4_weighRow_22 : decode cX4_weighRow 22 = .ok (.iconst 1, 1) := by decide +kernel
theorem dX4_weighRow_23 : decode cX4_weighRow 23 = .ok (.iadd, 1) := by decide +kernel
theorem dX4_weighRow_24 : decode cX4_weighRow 24 = .ok (.irem, 1) := by decide +kernel
theorem dX4_weighRow_25 : decode cX4_weighRow 25 = .ok (.istore 8, 2) := by decide +kernel
theorem dX4_weighRow_27 : decode cX4_weighRow 27 = .ok (.iload 6, 2) := by decide +kernel
theorem dX4_weighRow_29 : decode cX4_weighRow 29 = .ok (.iload_n 3, 1) := by decide +kernel
theorem dX4_weighRow_30 : decode cX4_weighRow 30 = .ok (.iconst 1, 1) := by decide +kernel
theorem dX4_weighRow_31 : decode cX4_weighRow 31 = .ok (.iadd, 1) := by decide +kernel
theorem dX4_weighRow_32 : decode cX4_weighRow 32 = .ok (.idiv, 1) := by decide +kernel
theorem dX4_weighRow_33 : decode cX4_weighRow 33 = .ok (.istore 6, 2) := by decide +kernel
theorem dX4_weighRow_35 : decode cX4_weighRow 35 = .ok (.iload 8, 2) := by decide +kernel
theorem dX4_weighRow_37 : decode cX4_weighRow 37 = .ok (.iload_n 3, 1) := by decide +kernel
theorem dX4_weighRow_38 : decode cX4_weighRow 38 = .ok (.if_icmp .ge 51, 3) := by decide +kernel
theorem dX4_weighRow_41 : decode cX4_weighRow 41 = .ok (.aload_n 0, 1) := by decide +kernel
theorem dX4_weighRow_42 : decode cX4_weighRow 42 = .ok (.getfield 28, 3) := by decide +kernel
theorem dX4_weighRow_45 : decode cX4_weighRow 45 = .ok (.iload 7, 2) := by decide +kernel
theorem dX4_weighRow_47 : decode cX4_weighRow 47 = .ok (.bipush 6, 2) := by decide +kernel
theorem dX4_weighRow_49 : decode cX4_weighRow 49 = .ok (.imul, 1) := by decide +kernel
theorem dX4_weighRow_50 : decode cX4_weighRow 50 = .ok (.iload 8, 2) := by decide +kernel
theorem dX4_weighRow_52 : decode cX4_weighRow 52 = .ok (.iadd, 1) := by decide +kernel
theorem dX4_weighRow_53 : decode cX4_weighRow 53 = .ok (.iaload, 1) := by decide +kernel
theorem dX4_weighRow_54 : decode cX4_weighRow 54 = .ok (.istore 9, 2) := by decide +kernel
theorem dX4_weighRow_56 : decode cX4_weighRow 56 = .ok (.iload 9, 2) := by decide +kernel
theorem dX4_weighRow_58 : decode cX4_weighRow 58 = .ok (.iconst (-1), 1) := by decide +kernel
theorem dX4_weighRow_59 : decode cX4_weighRow 59 = .ok (.if_icmp .eq 13, 3) := by decide +kernel
theorem dX4_weighRow_62 : decode cX4_weighRow 62 = .ok (.iload 4, 2) := by decide +kernel
theorem dX4_weighRow_64 : decode cX4_weighRow 64 = .ok (.iload 8, 2) := by decide +kernel
theorem dX4_weighRow_66 : decode cX4_weighRow 66 = .ok (.ishr, 1) := by decide +kernel
theorem dX4_weighRow_67 : decode cX4_weighRow 67 = .ok (.iconst 1, 1) := by decide +kernel
theorem dX4_weighRow_68 : decode cX4_weighRow 68 = .ok (.iand, 1) := by decide +kernel
theorem dX4_weighRow_69 : decode cX4_weighRow 69 = .ok (.ifCond .eq 4, 3) := by decide +kernel
theorem dX4_weighRow_72 : decode cX4_weighRow 72 = .ok (.return_, 1) := by decide +kernel
theorem dX4_weighRow_73 : decode cX4_weighRow 73 = .ok (.iload 4, 2) := by decide +kernel
theorem dX4_weighRow_75 : decode cX4_weighRow 75 = .ok (.iconst 1, 1) := by decide +kernel
theorem dX4_weighRow_76 : decode cX4_weighRow 76 = .ok (.iload 8, 2) := by decide +kernel
theorem dX4_weighRow_78 : decode cX4_weighRow 78 = .ok (.ishl, 1) := by decide +kernel
theorem dX4_weighRow_79 : decode cX4_weighRow 79 = .ok (.ior, 1) := by decide +kernel
theorem dX4_weighRow_80 : decode cX4_weighRow 80 = .ok (.istore 4, 2) := by decide +kernel
theorem dX4_weighRow_82 : decode cX4_weighRow 82 = .ok (.iload 5, 2) := by decide +kernel
theorem dX4_weighRow_84 : decode cX4_weighRow 84 = .ok (.iload 9, 2) := by decide +kernel
theorem dX4_weighRow_86 : decode cX4_weighRow 86 = .ok (.iadd, 1) := by decide +kernel
theorem dX4_weighRow_87 : decode cX4_weighRow 87 = .ok (.istore 5, 2) := by decide +kernel
theorem dX4_weighRow_89 : decode cX4_weighRow 89 = .ok (.iinc 7 (-1), 3) := by decide +kernel
theorem dX4_weighRow_92 : decode cX4_weighRow 92 = .ok (.goto (-78), 3) := by decide +kernel
theorem dX4_weighRow_95 : decode cX4_weighRow 95 = .ok (.iload 4, 2) := by decide +kernel
theorem dX4_weighRow_97 : decode cX4_weighRow 97 = .ok (.invokestatic 121, 3) := by decide +kernel
theorem dX4_weighRow_100 : decode cX4_weighRow 100 = .ok (.istore 7, 2) := by decide +kernel
theorem dX4_weighRow_102 : decode cX4_weighRow 102 = .ok (.iload 7, 2) := by decide +kernel
theorem dX4_weighRow_104 : decode cX4_weighRow 104 = .ok (.aload_n 0, 1) := by decide +kernel
theorem dX4_weighRow_105 : decode cX4_weighRow 105 = .ok (.getfield 114, 3) := by decide +kernel
theorem dX4_weighRow_108 : decode cX4_weighRow 108 = .ok (.if_icmp .gt 21, 3) := by decide +kernel
theorem dX4_weighRow_111 : decode cX4_weighRow 111 = .ok (.iload 7, 2) := by decide +kernel
theorem dX4_weighRow_113 : decode cX4_weighRow 113 = .ok (.aload_n 0, 1) := by decide +kernel
theorem dX4_weighRow_114 : decode cX4_weighRow 114 = .ok (.getfield 114, 3) := by decide +kernel
theorem dX4_weighRow_117 : decode cX4_weighRow 117 = .ok (.if_icmp .ne 31, 3) := by decide +kernel
theorem dX4_weighRow_120 : decode cX4_weighRow 120 = .ok (.iload 5, 2) := by decide +kernel
theorem dX4_weighRow_122 : decode cX4_weighRow 122 = .ok (.aload_n 0, 1) := by decide +kernel
theorem dX4_weighRow_123 : decode cX4_weighRow 123 = .ok (.getfield 127, 3) := by decide +kernel
theorem dX4_weighRow_126 : decode cX4_weighRow 126 = .ok (.if_icmp .ge 22, 3) := by decide +kernel
theorem dX4_weighRow_129 : decode cX4_weighRow 129 = .ok (.aload_n 0, 1) := by decide +kernel
theorem dX4_weighRow_130 : decode cX4_weighRow 130 = .ok (.iload 7, 2) := by decide +kernel
theorem dX4_weighRow_132 : decode cX4_weighRow 132 = .ok (.putfield 114, 3) := by decide +kernel
theorem dX4_weighRow_135 : decode cX4_weighRow 135 = .ok (.aload_n 0, 1) := by decide +kernel
theorem dX4_weighRow_136 : decode cX4_weighRow 136 = .ok (.iload 5, 2) := by decide +kernel
theorem dX4_weighRow_138 : decode cX4_weighRow 138 = .ok (.putfield 127, 3) := by decide +kernel
theorem dX4_weighRow_141 : decode cX4_weighRow 141 = .ok (.aload_n 0, 1) := by decide +kernel
theorem dX4_weighRow_142 : decode cX4_weighRow 142 = .ok (.iload_n 1, 1) := by decide +kernel
theorem dX4_weighRow_143 : decode cX4_weighRow 143 = .ok (.iload_n 2, 1) := by decide +kernel
theorem dX4_weighRow_144 : decode cX4_weighRow 144 = .ok (.iload_n 3, 1) := by decide +kernel
theorem dX4_weighRow_145 : decode cX4_weighRow 145 = .ok (.invokevirtual 130, 3) := by decide +kernel
theorem dX4_weighRow_148 : decode cX4_weighRow 148 = .ok (.return_, 1) := by decide +kernel
theorem dX4_keepRow_0 : decode cX4_keepRow 0 = .ok (.iload_n 1, 1) := by decide +kernel
theorem dX4_keepRow_1 : decode cX4_keepRow 1 = .ok (.istore 4, 2) := by decide +kernel
theorem dX4_keepRow_3 : decode cX4_keepRow 3 = .ok (.iload_n 2, 1) := by decide +kernel
theorem dX4_keepRow_4 : decode cX4_keepRow 4 = .ok (.iconst 1, 1) := by decide +kernel
theorem dX4_keepRow_5 : decode cX4_keepRow 5 = .ok (.isub, 1) := by decide +kernel
theorem dX4_keepRow_6 : decode cX4_keepRow 6 = .ok (.istore 5, 2) := by decide +kernel
theorem dX4_keepRow_8 : decode cX4_keepRow 8 = .ok (.iload 5, 2) := by decide +kernel
theorem dX4_keepRow_10 : decode cX4_keepRow 10 = .ok (.ifCond .lt 44, 3) := by decide +kernel
theorem dX4_keepRow_13 : decode cX4_keepRow 13 = .ok (.iload 4, 2) := by decide +kernel
theorem dX4_keepRow_15 : decode cX4_keepRow 15 = .ok (.iload_n 3, 1) := by decide +kernel
theorem dX4_keepRow_16 : decode cX4_keepRow 16 = .ok (.iconst 1, 1) := by decide +kernel
theorem dX4_keepRow_17 : decode cX4_keepRow 17 = .ok (.iadd, 1) := by decide +kernel
theorem dX4_keepRow_18 : decode cX4_keepRow 18 = .ok (.irem, 1) := by decide +kernel
theorem dX4_keepRow_19 : decode cX4_keepRow 19 = .ok (.istore 6, 2) := by decide +kernel
theorem dX4_keepRow_21 : decode cX4_keepRow 21 = .ok (.iload 4, 2) := by decide +kernel
theorem dX4_keepRow_23 : decode cX4_keepRow 23 = .ok (.iload_n 3, 1) := by decide +kernel
theorem dX4_keepRow_24 : decode cX4_keepRow 24 = .ok (.iconst 1, 1) := by decide +kernel
theorem dX4_keepRow_25 : decode cX4_keepRow 25 = .ok (.iadd, 1) := by decide +kernel
theorem dX4_keepRow_26 : decode cX4_keepRow 26 = .ok (.idiv, 1) := by decide +kernel
theorem dX4_keepRow_27 : decode cX4_keepRow 27 = .ok (.istore 4, 2) := by decide +kernel
theorem dX4_keepRow_29 : decode cX4_keepRow 29 = .ok (.aload_n 0, 1) := by decide +kernel
theorem dX4_keepRow_30 : decode cX4_keepRow 30 = .ok (.getfield 31, 3) := by decide +kernel
theorem dX4_keepRow_33 : decode cX4_keepRow 33 = .ok (.iload 5, 2) := by decide +kernel
theorem dX4_keepRow_35 : decode cX4_keepRow 35 = .ok (.iload 6, 2) := by decide +kernel
theorem dX4_keepRow_37 : decode cX4_keepRow 37 = .ok (.iload_n 3, 1) := by decide +kernel
theorem dX4_keepRow_38 : decode cX4_keepRow 38 = .ok (.if_icmp .ge 8, 3) := by decide +kernel
theorem dX4_keepRow_41 : decode cX4_keepRow 41 = .ok (.iload 6, 2) := by decide +kernel
theorem dX4_keepRow_43 : decode cX4_keepRow 43 = .ok (.goto 4, 3) := by decide +kernel
theorem dX4_keepRow_46 : decode cX4_keepRow 46 = .ok (.iconst (-1), 1) := by decide +kernel
theorem dX4_keepRow_47 : decode cX4_keepRow 47 = .ok (.iastore, 1) := by decide +kernel
theorem dX4_keepRow_48 : decode cX4_keepRow 48 = .ok (.iinc 5 (-1), 3) := by decide +kernel
theorem dX4_keepRow_51 : decode cX4_keepRow 51 = .ok (.goto (-43), 3) := by decide +kernel
theorem dX4_keepRow_54 : decode cX4_keepRow 54 = .ok (.return_, 1) := by decide +kernel
theorem dX5_init_0 : decode cX5_init 0 = .ok (.aload_n 0, 1) := by decide +kernel
theorem dX5_init_1 : decode cX5_init 1 = .ok (.invokespecial 3, 3) := by decide +kernel
theorem dX5_init_4 : decode cX5_init 4 = .ok (.aload_n 0, 1) := by decide +kernel
theorem dX5_init_5 : decode cX5_init 5 = .ok (.bipush 8, 2) := by decide +kernel
theorem dX5_init_7 : decode cX5_init 7 = .ok (.newarray .int, 2) := by decide +kernel
theorem dX5_init_9 : decode cX5_init 9 = .ok (.putfield 9, 3) := by decide +kernel
theorem dX5_init_12 : decode cX5_init 12 = .ok (.aload_n 0, 1) := by decide +kernel
theorem dX5_init_13 : decode cX5_init 13 = .ok (.bipush 8, 2) := by decide +kernel
theorem dX5_init_15 : decode cX5_init 15 = .ok (.newarray .int, 2) := by decide +kernel
theorem dX5_init_17 : decode cX5_init 17 = .ok (.putfield 15, 3) := by decide +kernel
theorem dX5_init_20 : decode cX5_init 20 = .ok (.aload_n 0, 1) := by decide +kernel
theorem dX5_init_21 : decode cX5_init 21 = .ok (.bipush 8, 2) := by decide +kernel
theorem dX5_init_23 : decode cX5_init 23 = .ok (.newarray .boolean, 2) := by decide +kernel
theorem dX5_init_25 : decode cX5_init 25 = .ok (.putfield 18, 3) := by decide +kernel
theorem dX5_init_28 : decode cX5_init 28 = .ok (.return_, 1) := by decide +kernel
theorem dX5_put_0 : decode cX5_put 0 = .ok (.aload_n 0, 1) := by decide +kernel
theorem dX5_put_1 : decode cX5_put 1 = .ok (.getfield 22, 3) := by decide +kernel
theorem dX5_put_4 : decode cX5_put 4 = .ok (.bipush 8, 2) := by decide +kernel
theorem dX5_put_6 : decode cX5_put 6 = .ok (.if_icmp .lt 5, 3) := by decide +kernel
theorem dX5_put_9 : decode cX5_put 9 = .ok (.iconst 0, 1) := by decide +kernel
theorem dX5_put_10 : decode cX5_put 10 = .ok (.ireturn, 1) := by decide +kernel
theorem dX5_put_11 : decode cX5_put 11 = .ok (.aload_n 0, 1) := by decide +kernel
theorem dX5_put_12 : decode cX5_put 12 = .ok (.getfield 9, 3) := by decide +kernel
theorem dX5_put_15 : decode cX5_put 15 = .ok (.aload_n 0, 1) := by decide +kernel
theorem dX5_put_16 : decode cX5_put 16 = .ok (.getfield 22, 3) := by decide +kernel
theorem dX5_put_19 : decode cX5_put 19 = .ok (.iload_n 1, 1) := by decide +kernel
theorem dX5_put_20 : decode cX5_put 20 = .ok (.iastore, 1) := by decide +kernel
theorem dX5_put_21 : decode cX5_put 21 = .ok (.aload_n 0, 1) := by decide +kernel
theorem dX5_put_22 : decode cX5_put 22 = .ok (.getfield 15, 3) := by decide +kernel
theorem dX5_put_25 : decode cX5_put 25 = .ok (.aload_n 0, 1) := by decide +kernel
theorem dX5_put_26 : decode cX5_put 26 = .ok (.getfield 22, 3) := by decide +kernel
theorem dX5_put_29 : decode cX5_put 29 = .ok (.iload_n 2, 1) := by decide +kernel
theorem dX5_put_30 : decode cX5_put 30 = .ok (.iastore, 1) := by decide +kernel
theorem dX5_put_31 : decode cX5_put 31 = .ok (.aload_n 0, 1) := by decide +kernel
theorem dX5_put_32 : decode cX5_put 32 = .ok (.getfield 18, 3) := by decide +kernel
theorem dX5_put_35 : decode cX5_put 35 = .ok (.aload_n 0, 1) := by decide +kernel
theorem dX5_put_36 : decode cX5_put 36 = .ok (.getfield 22, 3) := by decide +kernel
theorem dX5_put_39 : decode cX5_put 39 = .ok (.iload_n 3, 1) := by decide +kernel
theorem dX5_put_40 : decode cX5_put 40 = .ok (.bastore, 1) := by decide +kernel
theorem dX5_put_41 : decode cX5_put 41 = .ok (.aload_n 0, 1) := by decide +kernel
theorem dX5_put_42 : decode cX5_put 42 = .ok (.dup, 1) := by decide +kernel
theorem dX5_put_43 : decode cX5_put 43 = .ok (.getfield 22, 3) := by decide +kernel
theorem dX5_put_46 : decode cX5_put 46 = .ok (.iconst 1, 1) := by decide +kernel
theorem dX5_put_47 : decode cX5_put 47 = .ok (.iadd, 1) := by decide +kernel
theorem dX5_put_48 : decode cX5_put 48 = .ok (.putfield 22, 3) := by decide +kernel
theorem dX5_put_51 : decode cX5_put 51 = .ok (.iconst 1, 1) := by decide +kernel
theorem dX5_put_52 : decode cX5_put 52 = .ok (.ireturn, 1) := by decide +kernel
theorem dX5_copy_0 : decode cX5_copy 0 = .ok (.iconst 0, 1) := by decide +kernel
theorem dX5_copy_1 : decode cX5_copy 1 = .ok (.istore_n 2, 1) := by decide +kernel
theorem dX5_copy_2 : decode cX5_copy 2 = .ok (.iload_n 2, 1) := by decide +kernel
theorem dX5_copy_3 : decode cX5_copy 3 = .ok (.bipush 8, 2) := by decide +kernel
theorem dX5_copy_5 : decode cX5_copy 5 = .ok (.if_icmp .ge 45, 3) := by decide +kernel
theorem dX5_copy_8 : decode cX5_copy 8 = .ok (.aload_n 0, 1) := by decide +kernel
theorem dX5_copy_9 : decode cX5_copy 9 = .ok (.getfield 9, 3) := by decide +kernel
theorem dX5_copy_12 : decode cX5_copy 12 = .ok (.iload_n 2, 1) := by decide +kernel
theorem dX5_copy_13 : decode cX5_copy 13 = .ok (.aload_n 1, 1) := by decide +kernel
theorem dX5_copy_14 : decode cX5_copy 14 = .ok (.getfield 9, 3) := by decide +kernel
theorem dX5_copy_17 : decode cX5_copy 17 = .ok (.iload_n 2, 1) := by decide +kernel
theorem dX5_copy_18 : decode cX5_copy 18 = .ok (.iaload, 1) := by decide +kernel
theorem dX5_copy_19 : decode cX5_copy 19 = .ok (.iastore, 1) := by decide +kernel
theorem dX5_copy_20 : decode cX5_copy 20 = .ok (.aload_n 0, 1) := by decide +kernel
theorem dX5_copy_21 : decode cX5_copy 21 = .ok (.getfield 15, 3) := by decide +kernel
theorem dX5_copy_24 : decode cX5_copy 24 = .ok (.iload_n 2, 1) := by decide +kernel
theorem dX5_copy_25 : decode cX5_copy 25 = .ok (.aload_n 1, 1) := by decide +kernel
theorem dX5_copy_26 : decode cX5_copy 26 = .ok (.getfield 15, 3) := by decide +kernel
theorem dX5_copy_29 : decode cX5_copy 29 = .ok (.iload_n 2, 1) := by decide +kernel
theorem dX5_copy_30 : decode cX5_copy 30 = .ok (.iaload, 1) := by decide +kernel
theorem dX5_copy_31 : decode cX5_copy 31 = .ok (.iastore, 1) := by decide +kernel
theorem dX5_copy_32 : decode cX5_copy 32 = .ok (.aload_n 0, 1) := by decide +kernel
theorem dX5_copy_33 : decode cX5_copy 33 = .ok (.getfield 18, 3) := by decide +kernel
theorem dX5_copy_36 : decode cX5_copy 36 = .ok (.iload_n 2, 1) := by decide +kernel
theorem dX5_copy_37 : decode cX5_copy 37 = .ok (.aload_n 1, 1) := by decide +kernel
theorem dX5_copy_38 : decode cX5_copy 38 = .ok (.getfield 18, 3) := by decide +kernel
theorem dX5_copy_41 : decode cX5_copy 41 = .ok (.iload_n 2, 1) := by decide +kernel
theorem dX5_copy_42 : decode cX5_copy 42 = .ok (.baload, 1) := by decide +kernel
theorem dX5_copy_43 : decode cX5_copy 43 = .ok (.bastore, 1) := by decide +kernel
theorem dX5_copy_44 : decode cX5_copy 44 = .ok (.iinc 2 1, 3) := by decide +kernel
theorem dX5_copy_47 : decode cX5_copy 47 = .ok (.goto (-45), 3) := by decide +kernel
theorem dX5_copy_50 : decode cX5_copy 50 = .ok (.aload_n 0, 1) := by decide +kernel
theorem dX5_copy_51 : decode cX5_copy 51 = .ok (.aload_n 1, 1) := by decide +kernel
theorem dX5_copy_52 : decode cX5_copy 52 = .ok (.getfield 22, 3) := by decide +kernel
theorem dX5_copy_55 : decode cX5_copy 55 = .ok (.putfield 22, 3) := by decide +kernel
theorem dX5_copy_58 : decode cX5_copy 58 = .ok (.return_, 1) := by decide +kernel
theorem dX6_init_0 : decode cX6_init 0 = .ok (.aload_n 0, 1) := by decide +kernel
theorem dX6_init_1 : decode cX6_init 1 = .ok (.invokespecial 3, 3) := by decide +kernel
theorem dX6_init_4 : decode cX6_init 4 = .ok (.aload_n 0, 1) := by decide +kernel
theorem dX6_init_5 : decode cX6_init 5 = .ok (.bipush 40, 2) := by decide +kernel
theorem dX6_init_7 : decode cX6_init 7 = .ok (.newarray .int, 2) := by decide +kernel
theorem dX6_init_9 : decode cX6_init 9 = .ok (.putfield 9, 3) := by decide +kernel
theorem dX6_init_12 : decode cX6_init 12 = .ok (.aload_n 0, 1) := by decide +kernel
theorem dX6_init_13 : decode cX6_init 13 = .ok (.bipush 40, 2) := by decide +kernel
theorem dX6_init_15 : decode cX6_init 15 = .ok (.newarray .int, 2) := by decide +kernel
theorem dX6_init_17 : decode cX6_init 17 = .ok (.putfield 15, 3) := by decide +kernel
theorem dX6_init_20 : decode cX6_init 20 = .ok (.aload_n 0, 1) := by decide +kernel
theorem dX6_init_21 : decode cX6_init 21 = .ok (.bipush 40, 2) := by decide +kernel
theorem dX6_init_23 : decode cX6_init 23 = .ok (.newarray .int, 2) := by decide +kernel
theorem dX6_init_25 : decode cX6_init 25 = .ok (.putfield 18, 3) := by decide +kernel
theorem dX6_init_28 : decode cX6_init 28 = .ok (.return_, 1) := by decide +kernel
theorem dX6_copy_0 : decode cX6_copy 0 = .ok (.aload_n 1, 1) := by decide +kernel
theorem dX6_copy_1 : decode cX6_copy 1 = .ok (.getfield 9, 3) := by decide +kernel
theorem dX6_copy_4 : decode cX6_copy 4 = .ok (.iconst 0, 1) := by decide +kernel
theorem dX6_copy_5 : decode cX6_copy 5 = .ok (.aload_n 0, 1) := by decide +kernel
theorem dX6_copy_6 : decode cX6_copy 6 = .ok (.getfield 9, 3) := by decide +kernel
theorem dX6_copy_9 : decode cX6_copy 9 = .ok (.iconst 0, 1) := by decide +kernel
theorem dX6_copy_10 : decode cX6_copy 10 = .ok (.bipush 40, 2) := by decide +kernel
theorem dX6_copy_12 : decode cX6_copy 12 = .ok (.invokestatic 21, 3) := by decide +kernel
theorem dX6_copy_15 : decode cX6_copy 15 = .ok (.aload_n 1, 1) := by decide +kernel
theorem dX6_copy_16 : decode cX6_copy 16 = .ok (.getfield 15, 3) := by decide +kernel
theorem dX6_copy_19 : decode cX6_copy 19 = .ok (.iconst 0, 1) := by decide +kernel
theorem dX6_copy_20 : decode cX6_copy 20 = .ok (.aload_n 0, 1) := by decide +kernel
theorem dX6_copy_21 : decode cX6_copy 21 = .ok (.getfield 15, 3) := by decide +kernel
theorem dX6_copy_24 : decode cX6_copy 24 = .ok (.iconst 0, 1) := by decide +kernel
theorem dX6_copy_25 : decode cX6_copy 25 = .ok (.bipush 40, 2) := by decide +kernel
theorem dX6_copy_27 : decode cX6_copy 27 = .ok (.invokestatic 21, 3) := by decide +kernel
theorem dX6_copy_30 : decode cX6_copy 30 = .ok (.aload_n 1, 1) := by decide +kernel
theorem dX6_copy_31 : decode cX6_copy 31 = .ok (.getfield 18, 3) := by decide +kernel
theorem dX6_copy_34 : decode cX6_copy 34 = .ok (.iconst 0, 1) := by decide +kernel
theorem dX6_copy_35 : decode cX6_copy 35 = .ok (.aload_n 0, 1) := by decide +kernel
theorem dX6_copy_36 : decode cX6_copy 36 = .ok (.getfield 18, 3) := by decide +kernel
theorem dX6_copy_39 : decode cX6_copy 39 = .ok (.iconst 0, 1) := by decide +kernel
theorem dX6_copy_40 : decode cX6_copy 40 = .ok (.bipush 40, 2) := by decide +kernel
theorem dX6_copy_42 : decode cX6_copy 42 = .ok (.invokestatic 21, 3) := by decide +kernel
theorem dX6_copy_45 : decode cX6_copy 45 = .ok (.aload_n 0, 1) := by decide +kernel
theorem dX6_copy_46 : decode cX6_copy 46 = .ok (.aload_n 1, 1) := by decide +kernel
theorem dX6_copy_47 : decode cX6_copy 47 = .ok (.getfield 27, 3) := by decide +kernel
theorem dX6_copy_50 : decode cX6_copy 50 = .ok (.putfield 27, 3) := by decide +kernel
theorem dX6_copy_53 : decode cX6_copy 53 = .ok (.return_, 1) := by decide +kernel
theorem dX6_read_0 : decode cX6_read 0 = .ok (.aload_n 0, 1) := by decide +kernel
theorem dX6_read_1 : decode cX6_read 1 = .ok (.iconst 0, 1) := by decide +kernel
theorem dX6_read_2 : decode cX6_read 2 = .ok (.putfield 27, 3) := by decide +kernel
theorem dX6_read_5 : decode cX6_read 5 = .ok (.aload_n 1, 1) := by decide +kernel
theorem dX6_read_6 : decode cX6_read 6 = .ok (.invokevirtual 31, 3) := by decide +kernel
theorem dX6_read_9 : decode cX6_read 9 = .ok (.iconst 0, 1) := by decide +kernel
theorem dX6_read_10 : decode cX6_read 10 = .ok (.istore_n 3, 1) := by decide +kernel
theorem dX6_read_11 : decode cX6_read 11 = .ok (.iload_n 3, 1) := by decide +kernel
theorem dX6_read_12 : decode cX6_read 12 = .ok (.sipush 1000, 3) := by decide +kernel
theorem dX6_read_15 : decode cX6_read 15 = .ok (.if_icmp .ge 29, 3) := by decide +kernel
theorem dX6_read_18 : decode cX6_read 18 = .ok (.aload_n 1, 1) := by decide +kernel
theorem dX6_read_19 : decode cX6_read 19 = .ok (.invokevirtual 36, 3) := by decide +kernel
theorem dX6_read_22 : decode cX6_read 22 = .ok (.ifCond .eq 22, 3) := by decide +kernel
theorem dX6_read_25 : decode cX6_read 25 = .ok (.aload_n 1, 1) := by decide +kernel
theorem dX6_read_26 : decode cX6_read 26 = .ok (.getfield 40, 3) := by decide +kernel
theorem dX6_read_29 : decode cX6_read 29 = .ok (.ifCond .eq 15, 3) := by decide +kernel
theorem dX6_read_32 : decode cX6_read 32 = .ok (.aload_n 0, 1) := by decide +kernel
theorem dX6_read_33 : decode cX6_read 33 = .ok (.aload_n 1, 1) := by decide +kernel
theorem dX6_read_34 : decode cX6_read 34 = .ok (.aload_n 2, 1) := by decide +kernel
theorem dX6_read_35 : decode cX6_read 35 = .ok (.invokevirtual 43, 3) := by decide +kernel
theorem dX6_read_38 : decode cX6_read 38 = .ok (.iinc 3 1, 3) := by decide +kernel
theorem dX6_read_41 : decode cX6_read 41 = .ok (.goto (-30), 3) := by decide +kernel
theorem dX6_read_44 : decode cX6_read 44 = .ok (.return_, 1) := by decide +kernel
theorem dX6_readLine_0 : decode cX6_readLine 0 = .ok (.aload_n 1, 1) := by decide +kernel
theorem dX6_readLine_1 : decode cX6_readLine 1 = .ok (.invokestatic 47, 3) := by decide +kernel
theorem dX6_readLine_4 : decode cX6_readLine 4 = .ok (.istore_n 3, 1) := by decide +kernel
theorem dX6_readLine_5 : decode cX6_readLine 5 = .ok (.iload_n 3, 1) := by decide +kernel
theorem dX6_readLine_6 : decode cX6_readLine 6 = .ok (.iconst (-1), 1) := by decide +kernel
theorem dX6_readLine_7 : decode cX6_readLine 7 = .ok (.if_icmp .ne 9, 3) := by decide +kernel
theorem dX6_readLine_10 : decode cX6_readLine 10 = .ok (.aload_n 1, 1) := by decide +kernel
theorem dX6_readLine_11 : decode cX6_readLine 11 = .ok (.iconst 1, 1) := by decide +kernel
theorem dX6_readLine_12 : decode cX6_readLine 12 = .ok (.invokevirtual 51, 3) := by decide +kernel
theorem dX6_readLine_15 : decode cX6_readLine 15 = .ok (.return_, 1) := by decide +kernel
theorem dX6_readLine_16 : decode cX6_readLine 16 = .ok (.aload_n 0, 1) := by decide +kernel
theorem dX6_readLine_17 : decode cX6_readLine 17 = .ok (.getfield 27, 3) := by decide +kernel
theorem dX6_readLine_20 : decode cX6_readLine 20 = .ok (.bipush 40, 2) := by decide +kernel
theorem dX6_readLine_22 : decode cX6_readLine 22 = .ok (.if_icmp .lt 9, 3) := by decide +kernel
theorem dX6_readLine_25 : decode cX6_readLine 25 = .ok (.aload_n 1, 1) := by decide +kernel
theorem dX6_readLine_26 : decode cX6_readLine 26 = .ok (.iconst 5, 1) := by decide +kernel
theorem dX6_readLine_27 : decode cX6_readLine 27 = .ok (.invokevirtual 51, 3) := by decide +kernel
theorem dX6_readLine_30 : decode cX6_readLine 30 = .ok (.return_, 1) := by decide +kernel
theorem dX6_readLine_31 : decode cX6_readLine 31 = .ok (.aload_n 1, 1) := by decide +kernel
theorem dX6_readLine_32 : decode cX6_readLine 32 = .ok (.invokevirtual 55, 3) := by decide +kernel
theorem dX6_readLine_35 : decode cX6_readLine 35 = .ok (.aload_n 0, 1) := by decide +kernel
theorem dX6_readLine_36 : decode cX6_readLine 36 = .ok (.getfield 9, 3) := by decide +kernel
theorem dX6_readLine_39 : decode cX6_readLine 39 = .ok (.aload_n 0, 1) := by decide +kernel
theorem dX6_readLine_40 : decode cX6_readLine 40 = .ok (.getfield 27, 3) := by decide +kernel
theorem dX6_readLine_43 : decode cX6_readLine 43 = .ok (.iload_n 3, 1) := by decide +kernel
theorem dX6_readLine_44 : decode cX6_readLine 44 = .ok (.iastore, 1) := by decide +kernel
theorem dX6_readLine_45 : decode cX6_readLine 45 = .ok (.aload_n 0, 1) := by decide +kernel
theorem dX6_readLine_46 : decode cX6_readLine 46 = .ok (.getfield 15, 3) := by decide +kernel
theorem dX6_readLine_49 : decode cX6_readLine 49 = .ok (.aload_n 0, 1) := by decide +kernel
theorem dX6_readLine_50 : decode cX6_readLine 50 = .ok (.getfield 27, 3) := by decide +kernel
theorem dX6_readLine_53 : decode cX6_readLine 53 = .ok (.iconst (-1), 1) := by decide +kernel
theorem dX6_readLine_54 : decode cX6_readLine 54 = .ok (.iastore, 1) := by decide +kernel
theorem dX6_readLine_55 : decode cX6_readLine 55 = .ok (.aload_n 0, 1) := by decide +kernel
theorem dX6_readLine_56 : decode cX6_readLine 56 = .ok (.getfield 18, 3) := by decide +kernel
theorem dX6_readLine_59 : decode cX6_readLine 59 = .ok (.aload_n 0, 1) := by decide +kernel
theorem dX6_readLine_60 : decode cX6_readLine 60 = .ok (.getfield 27, 3) := by decide +kernel
theorem dX6_readLine_63 : decode cX6_readLine 63 = .ok (.iconst (-1), 1) := by decide +kernel
theorem dX6_readLine_64 : decode cX6_readLine 64 = .ok (.iastore, 1) := by decide +kernel
theorem dX6_readLine_65 : decode cX6_readLine 65 = .ok (.iload_n 3, 1) := by decide +kernel
theorem dX6_readLine_66 : decode cX6_readLine 66 = .ok (.iconst 3, 1) := by decide +kernel
theorem dX6_readLine_67 : decode cX6_readLine 67 = .ok (.if_icmp .ne 23, 3) := by decide +kernel
theorem dX6_readLine_70 : decode cX6_readLine 70 = .ok (.aload_n 0, 1) := by decide +kernel
theorem dX6_readLine_71 : decode cX6_readLine 71 = .ok (.getfield 15, 3) := by decide +kernel
theorem dX6_readLine_74 : decode cX6_readLine 74 = .ok (.aload_n 0, 1) := by decide +kernel
theorem dX6_readLine_75 : decode cX6_readLine 75 = .ok (.getfield 27, 3) := by decide +kernel
theorem dX6_readLine_78 : decode cX6_readLine 78 = .ok (.aload_n 1, 1) := by decide +kernel
theorem dX6_readLine_79 : decode cX6_readLine 79 = .ok (.aload_n 2, 1) := by decide +kernel
theorem dX6_readLine_80 : decode cX6_readLine 80 = .ok (.getfield 58, 3) := by decide +kernel
theorem dX6_readLine_83 : decode cX6_readLine 83 = .ok (.invokevirtual 64, 3) := by decide +kernel
theorem dX6_readLine_86 : decode cX6_readLine 86 = .ok (.iastore, 1) := by decide +kernel
theorem dX6_readLine_87 : decode cX6_readLine 87 = .ok (.goto 53, 3) := by decide +kernel
theorem dX6_readLine_90 : decode cX6_readLine 90 = .ok (.iload_n 3, 1) := by decide +kernel
theorem dX6_readLine_91 : decode cX6_readLine 91 = .ok (.ifCond .eq 49, 3) := by decide +kernel
theorem dX6_readLine_94 : decode cX6_readLine 94 = .ok (.aload_n 0, 1) := by decide +kernel
theorem dX6_readLine_95 : decode cX6_readLine 95 = .ok (.getfield 15, 3) := by decide +kernel
theorem dX6_readLine_98 : decode cX6_readLine 98 = .ok (.aload_n 0, 1) := by decide +kernel
theorem dX6_readLine_99 : decode cX6_readLine 99 = .ok (.getfield 27, 3) := by decide +kernel
theorem dX6_readLine_102 : decode cX6_readLine 102 = .ok (.aload_n 1, 1) := by decide +kernel
theorem dX6_readLine_103 : decode cX6_readLine 103 = .ok (.aload_n 2, 1) := by decide +kernel
theorem dX6_readLine_104 : decode cX6_readLine 104 = .ok (.getfield 68, 3) := by decide +kernel
theorem dX6_readLine_107 : decode cX6_readLine 107 = .ok (.invokevirtual 64, 3) := by decide +kernel
theorem dX6_readLine_110 : decode cX6_readLine 110 = .ok (.iastore, 1) := by decide +kernel
theorem dX6_readLine_111 : decode cX6_readLine 111 = .ok (.aload_n 0, 1) := by decide +kernel
theorem dX6_readLine_112 : decode cX6_readLine 112 = .ok (.getfield 18, 3) := by decide +kernel
theorem dX6_readLine_115 : decode cX6_readLine 115 = .ok (.aload_n 0, 1) := by decide +kernel
theorem dX6_readLine_116 : decode cX6_readLine 116 = .ok (.getfield 27, 3) := by decide +kernel
theorem dX6_readLine_119 : decode cX6_readLine 119 = .ok (.aload_n 1, 1) := by decide +kernel
theorem dX6_readLine_120 : decode cX6_readLine 120 = .ok (.iload_n 3, 1) := by decide +kernel
theorem dX6_readLine_121 : decode cX6_readLine 121 = .ok (.iconst 1, 1) := by decide +kernel
theorem dX6_readLine_122 : decode cX6_readLine 122 = .ok (.if_icmp .ne 10, 3) := by decide +kernel
theorem dX6_readLine_125 : decode cX6_readLine 125 = .ok (.aload_n 2, 1) := by decide +kernel
theorem dX6_readLine_126 : decode cX6_readLine 126 = .ok (.getfield 58, 3) := by decide +kernel
theorem dX6_readLine_129 : decode cX6_readLine 129 = .ok (.goto 7, 3) := by decide +kernel
theorem dX6_readLine_132 : decode cX6_readLine 132 = .ok (.aload_n 2, 1) := by decide +kernel
theorem dX6_readLine_133 : decode cX6_readLine 133 = .ok (.getfield 71, 3) := by decide +kernel
theorem dX6_readLine_136 : decode cX6_readLine 136 = .ok (.invokevirtual 64, 3) := by decide +kernel
theorem dX6_readLine_139 : decode cX6_readLine 139 = .ok (.iastore, 1) := by decide +kernel
theorem dX6_readLine_140 : decode cX6_readLine 140 = .ok (.aload_n 1, 1) := by decide +kernel
theorem dX6_readLine_141 : decode cX6_readLine 141 = .ok (.bipush 59, 2) := by decide +kernel
theorem dX6_readLine_143 : decode cX6_readLine 143 = .ok (.invokevirtual 74, 3) := by decide +kernel
theorem dX6_readLine_146 : decode cX6_readLine 146 = .ok (.aload_n 0, 1) := by decide +kernel
theorem dX6_readLine_147 : decode cX6_readLine 147 = .ok (.dup, 1) := by decide +kernel
theorem dX6_readLine_148 : decode cX6_readLine 148 = .ok (.getfield 27, 3) := by decide +kernel
theorem dX6_readLine_151 : decode cX6_readLine 151 = .ok (.iconst 1, 1) := by decide +kernel
theorem dX6_readLine_152 : decode cX6_readLine 152 = .ok (.iadd, 1) := by decide +kernel
theorem dX6_readLine_153 : decode cX6_readLine 153 = .ok (.putfield 27, 3) := by decide +kernel
theorem dX6_readLine_156 : decode cX6_readLine 156 = .ok (.return_, 1) := by decide +kernel
theorem dX6_sortOf_0 : decode cX6_sortOf 0 = .ok (.aload_n 0, 1) := by decide +kernel
theorem dX6_sortOf_1 : decode cX6_sortOf 1 = .ok (.ldc2_w 78, 3) := by decide +kernel
theorem dX6_sortOf_4 : decode cX6_sortOf 4 = .ok (.invokevirtual 80, 3) := by decide +kernel
theorem dX6_sortOf_7 : decode cX6_sortOf 7 = .ok (.ifCond .eq 5, 3) := by decide +kernel
theorem dX6_sortOf_10 : decode cX6_sortOf 10 = .ok (.iconst 0, 1) := by decide +kernel
theorem dX6_sortOf_11 : decode cX6_sortOf 11 = .ok (.ireturn, 1) := by decide +kernel
theorem dX6_sortOf_12 : decode cX6_sortOf 12 = .ok (.aload_n 0, 1) := by decide +kernel
theorem dX6_sortOf_13 : decode cX6_sortOf 13 = .ok (.ldc2_w 84, 3) := by decide +kernel
theorem dX6_sortOf_16 : decode cX6_sortOf 16 = .ok (.invokevirtual 80, 3) := by decide +kernel
theorem dX6_sortOf_19 : decode cX6_sortOf 19 = .ok (.ifCond .eq 5, 3) := by decide +kernel
theorem dX6_sortOf_22 : decode cX6_sortOf 22 = .ok (.iconst 1, 1) := by decide +kernel
theorem dX6_sortOf_23 : decode cX6_sortOf 23 = .ok (.ireturn, 1) := by decide +kernel
theorem dX6_sortOf_24 : decode cX6_sortOf 24 = .ok (.aload_n 0, 1) := by decide +kernel
theorem dX6_sortOf_25 : decode cX6_sortOf 25 = .ok (.ldc2_w 86, 3) := by decide +kernel
theorem dX6_sortOf_28 : decode cX6_sortOf 28 = .ok (.invokevirtual 80, 3) := by decide +kernel
theorem dX6_sortOf_31 : decode cX6_sortOf 31 = .ok (.ifCond .eq 5, 3) := by decide +kernel
theorem dX6_sortOf_34 : decode cX6_sortOf 34 = .ok (.iconst 2, 1) := by decide +kernel
theorem dX6_sortOf_35 : decode cX6_sortOf 35 = .ok (.ireturn, 1) := by decide +kernel
theorem dX6_sortOf_36 : decode cX6_sortOf 36 = .ok (.aload_n 0, 1) := by decide +kernel
theorem dX6_sortOf_37 : decode cX6_sortOf 37 = .ok (.ldc2_w 88, 3) := by decide +kernel
theorem dX6_sortOf_40 : decode cX6_sortOf 40 = .ok (.invokevirtual 80, 3) := by decide +kernel
theorem dX6_sortOf_43 : decode cX6_sortOf 43 = .ok (.ifCond .eq 7, 3) := by decide +kernel
theorem dX6_sortOf_46 : decode cX6_sortOf 46 = .ok (.iconst 3, 1) := by decide +kernel
theorem dX6_sortOf_47 : decode cX6_sortOf 47 = .ok (.goto 4, 3) := by decide +kernel
theorem dX6_sortOf_50 : decode cX6_sortOf 50 = .ok (.iconst (-1), 1) := by decide +kernel
theorem dX6_sortOf_51 : decode cX6_sortOf 51 = .ok (.ireturn, 1) := by decide +kernel
theorem dX7_init_0 : decode cX7_init 0 = .ok (.aload_n 0, 1) := by decide +kernel
theorem dX7_init_1 : decode cX7_init 1 = .ok (.invokespecial 3, 3) := by decide +kernel
theorem dX7_init_4 : decode cX7_init 4 = .ok (.aload_n 0, 1) := by decide +kernel
theorem dX7_init_5 : decode cX7_init 5 = .ok (.bipush 7, 2) := by decide +kernel
theorem dX7_init_7 : decode cX7_init 7 = .ok (.newarray .int, 2) := by decide +kernel
theorem dX7_init_9 : decode cX7_init 9 = .ok (.putfield 9, 3) := by decide +kernel
theorem dX7_init_12 : decode cX7_init 12 = .ok (.aload_n 0, 1) := by decide +kernel
theorem dX7_init_13 : decode cX7_init 13 = .ok (.iconst 5, 1) := by decide +kernel
theorem dX7_init_14 : decode cX7_init 14 = .ok (.newarray .int, 2) := by decide +kernel
theorem dX7_init_16 : decode cX7_init 16 = .ok (.putfield 15, 3) := by decide +kernel
theorem dX7_init_19 : decode cX7_init 19 = .ok (.aload_n 0, 1) := by decide +kernel
theorem dX7_init_20 : decode cX7_init 20 = .ok (.iconst 3, 1) := by decide +kernel
theorem dX7_init_21 : decode cX7_init 21 = .ok (.newarray .int, 2) := by decide +kernel
theorem dX7_init_23 : decode cX7_init 23 = .ok (.putfield 18, 3) := by decide +kernel
theorem dX7_init_26 : decode cX7_init 26 = .ok (.aload_n 0, 1) := by decide +kernel
theorem dX7_init_27 : decode cX7_init 27 = .ok (.iconst 3, 1) := by decide +kernel
theorem dX7_init_28 : decode cX7_init 28 = .ok (.newarray .int, 2) := by decide +kernel
theorem dX7_init_30 : decode cX7_init 30 = .ok (.putfield 21, 3) := by decide +kernel
theorem dX7_init_33 : decode cX7_init 33 = .ok (.aload_n 0, 1) := by decide +kernel
theorem dX7_init_34 : decode cX7_init 34 = .ok (.bipush 6, 2) := by decide +kernel
theorem dX7_init_36 : decode cX7_init 36 = .ok (.newarray .int, 2) := by decide +kernel
theorem dX7_init_38 : decode cX7_init 38 = .ok (.putfield 24, 3) := by decide +kernel
theorem dX7_init_41 : decode cX7_init 41 = .ok (.return_, 1) := by decide +kernel
theorem dX7_begin_0 : decode cX7_begin 0 = .ok (.aload_n 1, 1) := by decide +kernel
theorem dX7_begin_1 : decode cX7_begin 1 = .ok (.getfield 27, 3) := by decide +kernel
theorem dX7_begin_4 : decode cX7_begin 4 = .ok (.iconst 0, 1) := by decide +kernel
theorem dX7_begin_5 : decode cX7_begin 5 = .ok (.aload_n 0, 1) := by decide +kernel
theorem dX7_begin_6 : decode cX7_begin 6 = .ok (.getfield 9, 3) := by decide +kernel
theorem dX7_begin_9 : decode cX7_begin 9 = .ok (.iconst 0, 1) := by decide +kernel
theorem dX7_begin_10 : decode cX7_begin 10 = .ok (.bipush 7, 2) := by decide +kernel
theorem dX7_begin_12 : decode cX7_begin 12 = .ok (.invokestatic 30, 3) := by decide +kernel
theorem dX7_begin_15 : decode cX7_begin 15 = .ok (.aload_n 1, 1) := by decide +kernel
theorem dX7_begin_16 : decode cX7_begin 16 = .ok (.getfield 36, 3) := by decide +kernel
theorem dX7_begin_19 : decode cX7_begin 19 = .ok (.iconst 0, 1) := by decide +kernel
theorem dX7_begin_20 : decode cX7_begin 20 = .ok (.aload_n 0, 1) := by decide +kernel
theorem dX7_begin_21 : decode cX7_begin 21 = .ok (.getfield 15, 3) := by decide +kernel
theorem dX7_begin_24 : decode cX7_begin 24 = .ok (.iconst 0, 1) := by decide +kernel
theorem dX7_begin_25 : decode cX7_begin 25 = .ok (.iconst 5, 1) := by decide +kernel
theorem dX7_begin_26 : decode cX7_begin 26 = .ok (.invokestatic 30, 3) := by decide +kernel
theorem dX7_begin_29 : decode cX7_begin 29 = .ok (.aload_n 1, 1) := by decide +kernel
theorem dX7_begin_30 : decode cX7_begin 30 = .ok (.getfield 39, 3) := by decide +kernel
theorem dX7_begin_33 : decode cX7_begin 33 = .ok (.iconst 0, 1) := by decide +kernel
theorem dX7_begin_34 : decode cX7_begin 34 = .ok (.aload_n 0, 1) := by decide +kernel
theorem dX7_begin_35 : decode cX7_begin 35 = .ok (.getfield 18, 3) := by decide +kernel
theorem dX7_begin_38 : decode cX7_begin 38 = .ok (.iconst 0, 1) := by decide +kernel
theorem dX7_begin_39 : decode cX7_begin 39 = .ok (.iconst 3, 1) := by decide +kernel
theorem dX7_begin_40 : decode cX7_begin 40 = .ok (.invokestatic 30, 3) := by decide +kernel
theorem dX7_begin_43 : decode cX7_begin 43 = .ok (.aload_n 0, 1) := by decide +kernel
theorem dX7_begin_44 : decode cX7_begin 44 = .ok (.invokevirtual 42, 3) := by decide +kernel
theorem dX7_begin_47 : decode cX7_begin 47 = .ok (.iconst 0, 1) := by decide +kernel
theorem dX7_begin_48 : decode cX7_begin 48 = .ok (.istore_n 2, 1) := by decide +kernel
theorem dX7_begin_49 : decode cX7_begin 49 = .ok (.iload_n 2, 1) := by decide +kernel
theorem dX7_begin_50 : decode cX7_begin 50 = .ok (.bipush 6, 2) := by decide +kernel
theorem dX7_begin_52 : decode cX7_begin 52 = .ok (.if_icmp .ge 16, 3) := by decide +kernel
theorem dX7_begin_55 : decode cX7_begin 55 = .ok (.aload_n 0, 1) := by decide +kernel
theorem dX7_begin_56 : decode cX7_begin 56 = .ok (.getfield 24, 3) := by decide +kernel
theorem dX7_begin_59 : decode cX7_begin 59 = .ok (.iload_n 2, 1) := by decide +kernel
theorem dX7_begin_60 : decode cX7_begin 60 = .ok (.iconst (-1), 1) := by decide +kernel
theorem dX7_begin_61 : decode cX7_begin 61 = .ok (.iastore, 1) := by decide +kernel
theorem dX7_begin_62 : decode cX7_begin 62 = .ok (.iinc 2 1, 3) := by decide +kernel
theorem dX7_begin_65 : decode cX7_begin 65 = .ok (.goto (-16), 3) := by decide +kernel
theorem dX7_begin_68 : decode cX7_begin 68 = .ok (.aload_n 0, 1) := by decide +kernel
theorem dX7_begin_69 : decode cX7_begin 69 = .ok (.iconst 0, 1) := by decide +kernel
theorem dX7_begin_70 : decode cX7_begin 70 = .ok (.putfield 45, 3) := by decide +kernel
theorem dX7_begin_73 : decode cX7_begin 73 = .ok (.return_, 1) := by decide +kernel
theorem dX7_copy_0 : decode cX7_copy 0 = .ok (.aload_n 1, 1) := by decide +kernel
theorem dX7_copy_1 : decode cX7_copy 1 = .ok (.getfield 9, 3) := by decide +kernel
theorem dX7_copy_4 : decode cX7_copy 4 = .ok (.iconst 0, 1) := by decide +kernel
theorem dX7_copy_5 : decode cX7_copy 5 = .ok (.aload_n 0, 1) := by decide +kernel
theorem dX7_copy_6 : decode cX7_copy 6 = .ok (.getfield 9, 3) := by decide +kernel
theorem dX7_copy_9 : decode cX7_copy 9 = .ok (.iconst 0, 1) := by decide +kernel
theorem dX7_copy_10 : decode cX7_copy 10 = .ok (.bipush 7, 2) := by decide +kernel
theorem dX7_copy_12 : decode cX7_copy 12 = .ok (.invokestatic 30, 3) := by decide +kernel
theorem dX7_copy_15 : decode cX7_copy 15 = .ok (.aload_n 1, 1) := by decide +kernel
theorem dX7_copy_16 : decode cX7_copy 16 = .ok (.getfield 15, 3) := by decide +kernel
theorem dX7_copy_19 : decode cX7_copy 19 = .ok (.iconst 0, 1) := by decide +kernel
theorem dX7_copy_20 : decode cX7_copy 20 = .ok (.aload_n 0, 1) := by decide +kernel
theorem dX7_copy_21 : decode cX7_copy 21 = .ok (.getfield 15, 3) := by decide +kernel
theorem dX7_copy_24 : decode cX7_copy 24 = .ok (.iconst 0, 1) := by decide +kernel
theorem dX7_copy_25 : decode cX7_copy 25 = .ok (.iconst 5, 1) := by decide +kernel
theorem dX7_copy_26 : decode cX7_copy 26 = .ok (.invokestatic 30, 3) := by decide +kernel
theorem dX7_copy_29 : decode cX7_copy 29 = .ok (.aload_n 1, 1) := by decide +kernel
theorem dX7_copy_30 : decode cX7_copy 30 = .ok (.getfield 18, 3) := by decide +kernel
theorem dX7_copy_33 : decode cX7_copy 33 = .ok (.iconst 0, 1) := by decide +kernel
theorem dX7_copy_34 : decode cX7_copy 34 = .ok (.aload_n 0, 1) := by decide +kernel
theorem dX7_copy_35 : decode cX7_copy 35 = .ok (.getfield 18, 3) := by decide +kernel
theorem dX7_copy_38 : decode cX7_copy 38 = .ok (.iconst 0, 1) := by decide +kernel
theorem dX7_copy_39 : decode cX7_copy 39 = .ok (.iconst 3, 1) := by decide +kernel
theorem dX7_copy_40 : decode cX7_copy 40 = .ok (.invokestatic 30, 3) := by decide +kernel
theorem dX7_copy_43 : decode cX7_copy 43 = .ok (.aload_n 1, 1) := by decide +kernel
theorem dX7_copy_44 : decode cX7_copy 44 = .ok (.getfield 21, 3) := by decide +kernel
theorem dX7_copy_47 : decode cX7_copy 47 = .ok (.iconst 0, 1) := by decide +kernel
theorem dX7_copy_48 : decode cX7_copy 48 = .ok (.aload_n 0, 1) := by decide +kernel
theorem dX7_copy_49 : decode cX7_copy 49 = .ok (.getfield 21, 3) := by decide +kernel
theorem dX7_copy_52 : decode cX7_copy 52 = .ok (.iconst 0, 1) := by decide +kernel
theorem dX7_copy_53 : decode cX7_copy 53 = .ok (.iconst 3, 1) := by decide +kernel
theorem dX7_copy_54 : decode cX7_copy 54 = .ok (.invokestatic 30, 3) := by decide +kernel
theorem dX7_copy_57 : decode cX7_copy 57 = .ok (.aload_n 1, 1) := by decide +kernel
theorem dX7_copy_58 : decode cX7_copy 58 = .ok (.getfield 24, 3) := by decide +kernel
theorem dX7_copy_61 : decode cX7_copy 61 = .ok (.iconst 0, 1) := by decide +kernel
theorem dX7_copy_62 : decode cX7_copy 62 = .ok (.aload_n 0, 1) := by decide +kernel
theorem dX7_copy_63 : decode cX7_copy 63 = .ok (.getfield 24, 3) := by decide +kernel
theorem dX7_copy_66 : decode cX7_copy 66 = .ok (.iconst 0, 1) := by decide +kernel
theorem dX7_copy_67 : decode cX7_copy 67 = .ok (.bipush 6, 2) := by decide +kernel
theorem dX7_copy_69 : decode cX7_copy 69 = .ok (.invokestatic 30, 3) := by decide +kernel
theorem dX7_copy_72 : decode cX7_copy 72 = .ok (.aload_n 0, 1) := by decide +kernel
theorem dX7_copy_73 : decode cX7_copy 73 = .ok (.aload_n 1, 1) := by decide +kernel
theorem dX7_copy_74 : decode cX7_copy 74 = .ok (.getfield 45, 3) := by decide +kernel
theorem dX7_copy_77 : decode cX7_copy 77 = .ok (.putfield 45, 3) := by decide +kernel
theorem dX7_copy_80 : decode cX7_copy 80 = .ok (.return_, 1) := by decide +kernel
theorem dX7_rest_0 : decode cX7_rest 0 = .ok (.iconst 0, 1) := by decide +kernel
theorem dX7_rest_1 : decode cX7_rest 1 = .ok (.istore_n 1, 1) := by decide +kernel
theorem dX7_rest_2 : decode cX7_rest 2 = .ok (.iload_n 1, 1) := by decide +kernel
theorem dX7_rest_3 : decode cX7_rest 3 = .ok (.iconst 3, 1) := by decide +kernel
theorem dX7_rest_4 : decode cX7_rest 4 = .ok (.if_icmp .ge 16, 3) := by decide +kernel
theorem dX7_rest_7 : decode cX7_rest 7 = .ok (.aload_n 0, 1) := by decide +kernel
theorem dX7_rest_8 : decode cX7_rest 8 = .ok (.getfield 21, 3) := by decide +kernel
theorem dX7_rest_11 : decode cX7_rest 11 = .ok (.iload_n 1, 1) := by decide +kernel
theorem dX7_rest_12 : decode cX7_rest 12 = .ok (.iconst 0, 1) := by decide +kernel
theorem dX7_rest_13 : decode cX7_rest 13 = .ok (.iastore, 1) := by decide +kernel
theorem dX7_rest_14 : decode cX7_rest 14 = .ok (.iinc 1 1, 3) := by decide +kernel
theorem dX7_rest_17 : decode cX7_rest 17 = .ok (.goto (-15), 3) := by decide +kernel
theorem dX7_rest_20 : decode cX7_rest 20 = .ok (.return_, 1) := by decide +kernel
theorem dX7_isServable_0 : decode cX7_isServable 0 = .ok (.iload_n 0, 1) := by decide +kernel
theorem dX7_isServable_1 : decode cX7_isServable 1 = .ok (.iconst 3, 1) := by decide +kernel
theorem dX7_isServable_2 : decode cX7_isServable 2 = .ok (.if_icmp .eq 17, 3) := by decide +kernel
theorem dX7_isServable_5 : decode cX7_isServable 5 = .ok (.iload_n 1, 1) := by decide +kernel
theorem dX7_isServable_6 : decode cX7_isServable 6 = .ok (.iload_n 0, 1) := by decide +kernel
theorem dX7_isServable_7 : decode cX7_isServable 7 = .ok (.iconst 1, 1) := by decide +kernel
theorem dX7_isServable_8 : decode cX7_isServable 8 = .ok (.if_icmp .ne 7, 3) := by decide +kernel
theorem dX7_isServable_11 : decode cX7_isServable 11 = .ok (.iconst 3, 1) := by decide +kernel
theorem dX7_isServable_12 : decode cX7_isServable 12 = .ok (.goto 4, 3) := by decide +kernel
theorem dX7_isServable_15 : decode cX7_isServable 15 = .ok (.iconst 1, 1) := by decide +kernel
theorem dX7_isServable_16 : decode cX7_isServable 16 = .ok (.if_icmp .lt 7, 3) := by decide +kernel
theorem dX7_isServable_19 : decode cX7_isServable 19 = .ok (.iconst 1, 1) := by decide +kernel
theorem dX7_isServable_20 : decode cX7_isServable 20 = .ok (.goto 4, 3) := by decide +kernel
theorem dX7_isServable_23 : decode cX7_isServable 23 = .ok (.iconst 0, 1) := by decide +kernel
theorem dX7_isServable_24 : decode cX7_isServable 24 = .ok (.ireturn, 1) := by decide +kernel
theorem dX7_mayTake_0 : decode cX7_mayTake 0 = .ok (.iload_n 2, 1) := by decide +kernel
theorem dX7_mayTake_1 : decode cX7_mayTake 1 = .ok (.iconst 0, 1) := by decide +kernel
theorem dX7_mayTake_2 : decode cX7_mayTake 2 = .ok (.aload_n 1, 1) := by decide +kernel
theorem dX7_mayTake_3 : decode cX7_mayTake 3 = .ok (.getfield 49, 3) := by decide +kernel
theorem dX7_mayTake_6 : decode cX7_mayTake 6 = .ok (.getfield 53, 3) := by decide +kernel
theorem dX7_mayTake_9 : decode cX7_mayTake 9 = .ok (.iconst 1, 1) := by decide +kernel
theorem dX7_mayTake_10 : decode cX7_mayTake 10 = .ok (.isub, 1) := by decide +kernel
theorem dX7_mayTake_11 : decode cX7_mayTake 11 = .ok (.invokestatic 58, 3) := by decide +kernel
theorem dX7_mayTake_14 : decode cX7_mayTake 14 = .ok (.ifCond .eq 65, 3) := by decide +kernel
theorem dX7_mayTake_17 : decode cX7_mayTake 17 = .ok (.iload_n 3, 1) := by decide +kernel
theorem dX7_mayTake_18 : decode cX7_mayTake 18 = .ok (.iconst 0, 1) := by decide +kernel
theorem dX7_mayTake_19 : decode cX7_mayTake 19 = .ok (.aload_n 1, 1) := by decide +kernel
theorem dX7_mayTake_20 : decode cX7_mayTake 20 = .ok (.getfield 62, 3) := by decide +kernel
theorem dX7_mayTake_23 : decode cX7_mayTake 23 = .ok (.getfield 53, 3) := by decide +kernel
theorem dX7_mayTake_26 : decode cX7_mayTake 26 = .ok (.iconst 1, 1) := by decide +kernel
theorem dX7_mayTake_27 : decode cX7_mayTake 27 = .ok (.isub, 1) := by decide +kernel
theorem dX7_mayTake_28 : decode cX7_mayTake 28 = .ok (.invokestatic 58, 3) := by decide +kernel
theorem dX7_mayTake_31 : decode cX7_mayTake 31 = .ok (.ifCond .eq 48, 3) := by decide +kernel
theorem dX7_mayTake_34 : decode cX7_mayTake 34 = .ok (.aload_n 0, 1) := by decide +kernel
theorem dX7_mayTake_35 : decode cX7_mayTake 35 = .ok (.getfield 18, 3) := by decide +kernel
theorem dX7_mayTake_38 : decode cX7_mayTake 38 = .ok (.iload_n 2, 1) := by decide +kernel
theorem dX7_mayTake_39 : decode cX7_mayTake 39 = .ok (.iaload, 1) := by decide +kernel
theorem dX7_mayTake_40 : decode cX7_mayTake 40 = .ok (.ifCond .ne 39, 3) := by decide +kernel
theorem dX7_mayTake_43 : decode cX7_mayTake 43 = .ok (.aload_n 0, 1) := by decide +kernel
theorem dX7_mayTake_44 : decode cX7_mayTake 44 = .ok (.getfield 24, 3) := by decide +kernel
theorem dX7_mayTake_47 : decode cX7_mayTake 47 = .ok (.iload_n 3, 1) := by decide +kernel
theorem dX7_mayTake_48 : decode cX7_mayTake 48 = .ok (.iaload, 1) := by decide +kernel
theorem dX7_mayTake_49 : decode cX7_mayTake 49 = .ok (.iconst (-1), 1) := by decide +kernel
theorem dX7_mayTake_50 : decode cX7_mayTake 50 = .ok (.if_icmp .ne 29, 3) := by decide +kernel
theorem dX7_mayTake_53 : decode cX7_mayTake 53 = .ok (.aload_n 0, 1) := by decide +kernel
theorem dX7_mayTake_54 : decode cX7_mayTake 54 = .ok (.getfield 24, 3) := by decide +kernel
theorem dX7_mayTake_57 : decode cX7_mayTake 57 = .ok (.aload_n 1, 1) := by decide +kernel
theorem dX7_mayTake_58 : decode cX7_mayTake 58 = .ok (.getfield 62, 3) := by decide +kernel
theorem dX7_mayTake_61 : decode cX7_mayTake 61 = .ok (.getfield 53, 3) := by decide +kernel
theorem dX7_mayTake_64 : decode cX7_mayTake 64 = .ok (.iload_n 2, 1) := by decide +kernel
theorem dX7_mayTake_65 : decode cX7_mayTake 65 = .ok (.invokestatic 65, 3) := by decide +kernel
theorem dX7_mayTake_68 : decode cX7_mayTake 68 = .ok (.invokestatic 69, 3) := by decide +kernel
theorem dX7_mayTake_71 : decode cX7_mayTake 71 = .ok (.iconst 2, 1) := by decide +kernel
theorem dX7_mayTake_72 : decode cX7_mayTake 72 = .ok (.if_icmp .ge 7, 3) := by decide +kernel
theorem dX7_mayTake_75 : decode cX7_mayTake 75 = .ok (.iconst 1, 1) := by decide +kernel
theorem dX7_mayTake_76 : decode cX7_mayTake 76 = .ok (.goto 4, 3) := by decide +kernel
theorem dX7_mayTake_79 : decode cX7_mayTake 79 = .ok (.iconst 0, 1) := by decide +kernel
theorem dX7_mayTake_80 : decode cX7_mayTake 80 = .ok (.ireturn, 1) := by decide +kernel
theorem dX7_maySwim_0 : decode cX7_maySwim 0 = .ok (.iload_n 2, 1) := by decide +kernel
theorem dX7_maySwim_1 : decode cX7_maySwim 1 = .ok (.iconst 0, 1) := by decide +kernel
theorem dX7_maySwim_2 : decode cX7_maySwim 2 = .ok (.aload_n 1, 1) := by decide +kernel
theorem dX7_maySwim_3 : decode cX7_maySwim 3 = .ok (.getfield 49, 3) := by decide +kernel
theorem dX7_maySwim_6 : decode cX7_maySwim 6 = .ok (.getfield 53, 3) := by decide +kernel
theorem dX7_maySwim_9 : decode cX7_maySwim 9 = .ok (.iconst 1, 1) := by decide +kernel
theorem dX7_maySwim_10 : decode cX7_maySwim 10 = .ok (.isub, 1) := by decide +kernel
theorem dX7_maySwim_11 : decode cX7_maySwim 11 = .ok (.invokestatic 58, 3) := by decide +kernel
theorem dX7_maySwim_14 : decode cX7_maySwim 14 = .ok (.ifCond .eq 20, 3) := by decide +kernel
theorem dX7_maySwim_17 : decode cX7_maySwim 17 = .ok (.iload_n 3, 1) := by decide +kernel
theorem dX7_maySwim_18 : decode cX7_maySwim 18 = .ok (.iconst 0, 1) := by decide +kernel
theorem dX7_maySwim_19 : decode cX7_maySwim 19 = .ok (.aload_n 1, 1) := by decide +kernel
theorem dX7_maySwim_20 : decode cX7_maySwim 20 = .ok (.getfield 75, 3) := by decide +kernel
theorem dX7_maySwim_23 : decode cX7_maySwim 23 = .ok (.getfield 53, 3) := by decide +kernel
theorem dX7_maySwim_26 : decode cX7_maySwim 26 = .ok (.iconst 1, 1) := by decide +kernel
theorem dX7_maySwim_27 : decode cX7_maySwim 27 = .ok (.isub, 1) := by decide +kernel
theorem dX7_maySwim_28 : decode cX7_maySwim 28 = .ok (.invokestatic 58, 3) := by decide +kernel
theorem dX7_maySwim_31 : decode cX7_maySwim 31 = .ok (.ifCond .ne 5, 3) := by decide +kernel
theorem dX7_maySwim_34 : decode cX7_maySwim 34 = .ok (.iconst 0, 1) := by decide +kernel
theorem dX7_maySwim_35 : decode cX7_maySwim 35 = .ok (.ireturn, 1) := by decide +kernel
theorem dX7_maySwim_36 : decode cX7_maySwim 36 = .ok (.aload_n 0, 1) := by decide +kernel
theorem dX7_maySwim_37 : decode cX7_maySwim 37 = .ok (.getfield 18, 3) := by decide +kernel
theorem dX7_maySwim_40 : decode cX7_maySwim 40 = .ok (.iload_n 2, 1) := by decide +kernel
theorem dX7_maySwim_41 : decode cX7_maySwim 41 = .ok (.iaload, 1) := by decide +kernel
theorem dX7_maySwim_42 : decode cX7_maySwim 42 = .ok (.istore 4, 2) := by decide +kernel
theorem dX7_maySwim_44 : decode cX7_maySwim 44 = .ok (.aload_n 1, 1) := by decide +kernel
theorem dX7_maySwim_45 : decode cX7_maySwim 45 = .ok (.iload 4, 2) := by decide +kernel
theorem dX7_maySwim_47 : decode cX7_maySwim 47 = .ok (.iload_n 3, 1) := by decide +kernel
theorem dX7_maySwim_48 : decode cX7_maySwim 48 = .ok (.invokevirtual 78, 3) := by decide +kernel
theorem dX7_maySwim_51 : decode cX7_maySwim 51 = .ok (.ifCond .eq 43, 3) := by decide +kernel
theorem dX7_maySwim_54 : decode cX7_maySwim 54 = .ok (.aload_n 0, 1) := by decide +kernel
theorem dX7_maySwim_55 : decode cX7_maySwim 55 = .ok (.getfield 9, 3) := by decide +kernel
theorem dX7_maySwim_58 : decode cX7_maySwim 58 = .ok (.iload 4, 2) := by decide +kernel
theorem dX7_maySwim_60 : decode cX7_maySwim 60 = .ok (.iaload, 1) := by decide +kernel
theorem dX7_maySwim_61 : decode cX7_maySwim 61 = .ok (.iconst 1, 1) := by decide +kernel
theorem dX7_maySwim_62 : decode cX7_maySwim 62 = .ok (.if_icmp .lt 32, 3) := by decide +kernel
theorem dX7_maySwim_65 : decode cX7_maySwim 65 = .ok (.aload_n 0, 1) := by decide +kernel
theorem dX7_maySwim_66 : decode cX7_maySwim 66 = .ok (.getfield 9, 3) := by decide +kernel
theorem dX7_maySwim_69 : decode cX7_maySwim 69 = .ok (.iload_n 3, 1) := by decide +kernel
theorem dX7_maySwim_70 : decode cX7_maySwim 70 = .ok (.iaload, 1) := by decide +kernel
theorem dX7_maySwim_71 : decode cX7_maySwim 71 = .ok (.iconst 1, 1) := by decide +kernel
theorem dX7_maySwim_72 : decode cX7_maySwim 72 = .ok (.if_icmp .lt 22, 3) := by decide +kernel
theorem dX7_maySwim_75 : decode cX7_maySwim 75 = .ok (.aload_n 0, 1) := by decide +kernel
theorem dX7_maySwim_76 : decode cX7_maySwim 76 = .ok (.getfield 21, 3) := by decide +kernel
theorem dX7_maySwim_79 : decode cX7_maySwim 79 = .ok (.iload_n 2, 1) := by decide +kernel
theorem dX7_maySwim_80 : decode cX7_maySwim 80 = .ok (.iaload, 1) := by decide +kernel
theorem dX7_maySwim_81 : decode cX7_maySwim 81 = .ok (.aload_n 1, 1) := by decide +kernel
theorem dX7_maySwim_82 : decode cX7_maySwim 82 = .ok (.getfield 82, 3) := by decide +kernel
theorem dX7_maySwim_85 : decode cX7_maySwim 85 = .ok (.iload_n 2, 1) := by decide +kernel
theorem dX7_maySwim_86 : decode cX7_maySwim 86 = .ok (.iaload, 1) := by decide +kernel
theorem dX7_maySwim_87 : decode cX7_maySwim 87 = .ok (.if_icmp .ge 7, 3) := by decide +kernel
theorem dX7_maySwim_90 : decode cX7_maySwim 90 = .ok (.iconst 1, 1) := by decide +kernel
theorem dX7_maySwim_91 : decode cX7_maySwim 91 = .ok (.goto 4, 3) := by decide +kernel
theorem dX7_maySwim_94 : decode cX7_maySwim 94 = .ok (.iconst 0, 1) := by decide +kernel
theorem dX7_maySwim_95 : decode cX7_maySwim 95 = .ok (.ireturn, 1) := by decide +kernel
theorem dX7_mayServe_0 : decode cX7_mayServe 0 = .ok (.iload_n 2, 1) := by decide +kernel
theorem dX7_mayServe_1 : decode cX7_mayServe 1 = .ok (.iconst 0, 1) := by decide +kernel
theorem dX7_mayServe_2 : decode cX7_mayServe 2 = .ok (.aload_n 1, 1) := by decide +kernel
theorem dX7_mayServe_3 : decode cX7_mayServe 3 = .ok (.getfield 62, 3) := by decide +kernel
theorem dX7_mayServe_6 : decode cX7_mayServe 6 = .ok (.getfield 53, 3) := by decide +kernel
theorem dX7_mayServe_9 : decode cX7_mayServe 9 = .ok (.iconst 1, 1) := by decide +kernel
theorem dX7_mayServe_10 : decode cX7_mayServe 10 = .ok (.isub, 1) := by decide +kernel
theorem dX7_mayServe_11 : decode cX7_mayServe 11 = .ok (.invokestatic 58, 3) := by decide +kernel
theorem dX7_mayServe_14 : decode cX7_mayServe 14 = .ok (.ifCond .eq 35, 3) := by decide +kernel
theorem dX7_mayServe_17 : decode cX7_mayServe 17 = .ok (.aload_n 0, 1) := by decide +kernel
theorem dX7_mayServe_18 : decode cX7_mayServe 18 = .ok (.getfield 24, 3) := by decide +kernel
theorem dX7_mayServe_21 : decode cX7_mayServe 21 = .ok (.iload_n 2, 1) := by decide +kernel
theorem dX7_mayServe_22 : decode cX7_mayServe 22 = .ok (.iaload, 1) := by decide +kernel
theorem dX7_mayServe_23 : decode cX7_mayServe 23 = .ok (.iconst 0, 1) := by decide +kernel
theorem dX7_mayServe_24 : decode cX7_mayServe 24 = .ok (.aload_n 1, 1) := by decide +kernel
theorem dX7_mayServe_25 : decode cX7_mayServe 25 = .ok (.getfield 49, 3) := by decide +kernel
theorem dX7_mayServe_28 : decode cX7_mayServe 28 = .ok (.getfield 53, 3) := by decide +kernel
theorem dX7_mayServe_31 : decode cX7_mayServe 31 = .ok (.iconst 1, 1) := by decide +kernel
theorem dX7_mayServe_32 : decode cX7_mayServe 32 = .ok (.isub, 1) := by decide +kernel
theorem dX7_mayServe_33 : decode cX7_mayServe 33 = .ok (.invokestatic 58, 3) := by decide +kernel
theorem dX7_mayServe_36 : decode cX7_mayServe 36 = .ok (.ifCond .eq 13, 3) := by decide +kernel
theorem dX7_mayServe_39 : decode cX7_mayServe 39 = .ok (.aload_n 0, 1) := by decide +kernel
theorem dX7_mayServe_40 : decode cX7_mayServe 40 = .ok (.getfield 24, 3) := by decide +kernel
theorem dX7_mayServe_43 : decode cX7_mayServe 43 = .ok (.iload_n 2, 1) := by decide +kernel
theorem dX7_mayServe_44 : decode cX7_mayServe 44 = .ok (.iaload, 1) := by decide +kernel
theorem dX7_mayServe_45 : decode cX7_mayServe 45 = .ok (.iconst 3, 1) := by decide +kernel
theorem dX7_mayServe_46 : decode cX7_mayServe 46 = .ok (.if_icmp .ne 5, 3) := by decide +kernel
theorem dX7_mayServe_49 : decode cX7_mayServe 49 = .ok (.iconst 0, 1) := by decide +kernel
theorem dX7_mayServe_50 : decode cX7_mayServe 50 = .ok (.ireturn, 1) := by decide +kernel
theorem dX7_mayServe_51 : decode cX7_mayServe 51 = .ok (.aload_n 1, 1) := by decide +kernel
theorem dX7_mayServe_52 : decode cX7_mayServe 52 = .ok (.getfield 85, 3) := by decide +kernel
theorem dX7_mayServe_55 : decode cX7_mayServe 55 = .ok (.iload_n 2, 1) := by decide +kernel
theorem dX7_mayServe_56 : decode cX7_mayServe 56 = .ok (.iaload, 1) := by decide +kernel
theorem dX7_mayServe_57 : decode cX7_mayServe 57 = .ok (.istore_n 3, 1) := by decide +kernel
theorem dX7_mayServe_58 : decode cX7_mayServe 58 = .ok (.aload_n 0, 1) := by decide +kernel
theorem dX7_mayServe_59 : decode cX7_mayServe 59 = .ok (.getfield 15, 3) := by decide +kernel
theorem dX7_mayServe_62 : decode cX7_mayServe 62 = .ok (.iload_n 3, 1) := by decide +kernel
theorem dX7_mayServe_63 : decode cX7_mayServe 63 = .ok (.iaload, 1) := by decide +kernel
theorem dX7_mayServe_64 : decode cX7_mayServe 64 = .ok (.istore 4, 2) := by decide +kernel
theorem dX7_mayServe_66 : decode cX7_mayServe 66 = .ok (.aload_n 0, 1) := by decide +kernel
theorem dX7_mayServe_67 : decode cX7_mayServe 67 = .ok (.getfield 18, 3) := by decide +kernel
theorem dX7_mayServe_70 : decode cX7_mayServe 70 = .ok (.aload_n 0, 1) := by decide +kernel
theorem dX7_mayServe_71 : decode cX7_mayServe 71 = .ok (.getfield 24, 3) := by decide +kernel
theorem dX7_mayServe_74 : decode cX7_mayServe 74 = .ok (.iload_n 2, 1) := by decide +kernel
theorem dX7_mayServe_75 : decode cX7_mayServe 75 = .ok (.iaload, 1) := by decide +kernel
theorem dX7_mayServe_76 : decode cX7_mayServe 76 = .ok (.iaload, 1) := by decide +kernel
theorem dX7_mayServe_77 : decode cX7_mayServe 77 = .ok (.iload 4, 2) := by decide +kernel
theorem dX7_mayServe_79 : decode cX7_mayServe 79 = .ok (.if_icmp .ne 26, 3) := by decide +kernel
theorem dX7_mayServe_82 : decode cX7_mayServe 82 = .ok (.aload_n 1, 1) := by decide +kernel
theorem dX7_mayServe_83 : decode cX7_mayServe 83 = .ok (.getfield 88, 3) := by decide +kernel
theorem dX7_mayServe_86 : decode cX7_mayServe 86 = .ok (.iload_n 3, 1) := by decide +kernel
theorem dX7_mayServe_87 : decode cX7_mayServe 87 = .ok (.iaload, 1) := by decide +kernel
theorem dX7_mayServe_88 : decode cX7_mayServe 88 = .ok (.aload_n 0, 1) := by decide +kernel
theorem dX7_mayServe_89 : decode cX7_mayServe 89 = .ok (.getfield 9, 3) := by decide +kernel
theorem dX7_mayServe_92 : decode cX7_mayServe 92 = .ok (.iload 4, 2) := by decide +kernel
theorem dX7_mayServe_94 : decode cX7_mayServe 94 = .ok (.iaload, 1) := by decide +kernel
theorem dX7_mayServe_95 : decode cX7_mayServe 95 = .ok (.invokestatic 91, 3) := by decide +kernel
theorem dX7_mayServe_98 : decode cX7_mayServe 98 = .ok (.ifCond .eq 7, 3) := by decide +kernel
theorem dX7_mayServe_101 : decode cX7_mayServe 101 = .ok (.iconst 1, 1) := by decide +kernel
theorem dX7_mayServe_102 : decode cX7_mayServe 102 = .ok (.goto 4, 3) := by decide +kernel
theorem dX7_mayServe_105 : decode cX7_mayServe 105 = .ok (.iconst 0, 1) := by decide +kernel
theorem dX7_mayServe_106 : decode cX7_mayServe 106 = .ok (.ireturn, 1) := by decide +kernel
theorem dX7_doSwim_0 : decode cX7_doSwim 0 = .ok (.aload_n 0, 1) := by decide +kernel
theorem dX7_doSwim_1 : decode cX7_doSwim 1 = .ok (.getfield 18, 3) := by decide +kernel
theorem dX7_doSwim_4 : decode cX7_doSwim 4 = .ok (.iload_n 1, 1) := by decide +kernel
theorem dX7_doSwim_5 : decode cX7_doSwim 5 = .ok (.iload_n 2, 1) := by decide +kernel
theorem dX7_doSwim_6 : decode cX7_doSwim 6 = .ok (.iastore, 1) := by decide +kernel
theorem dX7_doSwim_7 : decode cX7_doSwim 7 = .ok (.aload_n 0, 1) := by decide +kernel
theorem dX7_doSwim_8 : decode cX7_doSwim 8 = .ok (.getfield 21, 3) := by decide +kernel
theorem dX7_doSwim_11 : decode cX7_doSwim 11 = .ok (.iload_n 1, 1) := by decide +kernel
theorem dX7_doSwim_12 : decode cX7_doSwim 12 = .ok (.dup2, 1) := by decide +kernel
theorem dX7_doSwim_13 : decode cX7_doSwim 13 = .ok (.iaload, 1) := by decide +kernel
theorem dX7_doSwim_14 : decode cX7_doSwim 14 = .ok (.iconst 1, 1) := by decide +kernel
theorem dX7_doSwim_15 : decode cX7_doSwim 15 = .ok (.iadd, 1) := by decide +kernel
theorem dX7_doSwim_16 : decode cX7_doSwim 16 = .ok (.iastore, 1) := by decide +kernel
theorem dX7_doSwim_17 : decode cX7_doSwim 17 = .ok (.return_, 1) := by decide +kernel
theorem dX7_doLine_0 : decode cX7_doLine 0 = .ok (.iload_n 2, 1) := by decide +kernel
theorem dX7_doLine_1 : decode cX7_doLine 1 = .ok (.tableswitch 92 1 3 #[27, 50, 72], 27) := by decide +kernel
theorem dX7_doLine_28 : decode cX7_doLine 28 = .ok (.aload_n 0, 1) := by decide +kernel
theorem dX7_doLine_29 : decode cX7_doLine 29 = .ok (.aload_n 1, 1) := by decide +kernel
theorem dX7_doLine_30 : decode cX7_doLine 30 = .ok (.iload_n 3, 1) := by decide +kernel
theorem dX7_doLine_31 : decode cX7_doLine 31 = .ok (.iload 4, 2) := by decide +kernel
theorem dX7_doLine_33 : decode cX7_doLine 33 = .ok (.invokevirtual 94, 3) := by decide +kernel
theorem dX7_doLine_36 : decode cX7_doLine 36 = .ok (.ifCond .ne 5, 3) := by decide +kernel
theorem dX7_doLine_39 : decode cX7_doLine 39 = .ok (.iconst 0, 1) := by decide +kernel
theorem dX7_doLine_40 : decode cX7_doLine 40 = .ok (.ireturn, 1) := by decide +kernel
theorem dX7_doLine_41 : decode cX7_doLine 41 = .ok (.aload_n 0, 1) := by decide +kernel
theorem dX7_doLine_42 : decode cX7_doLine 42 = .ok (.getfield 24, 3) := by decide +kernel
theorem dX7_doLine_45 : decode cX7_doLine 45 = .ok (.iload 4, 2) := by decide +kernel
theorem dX7_doLine_47 : decode cX7_doLine 47 = .ok (.iload_n 3, 1) := by decide +kernel
theorem dX7_doLine_48 : decode cX7_doLine 48 = .ok (.iastore, 1) := by decide +kernel
theorem dX7_doLine_49 : decode cX7_doLine 49 = .ok (.iconst 1, 1) := by decide +kernel
theorem dX7_doLine_50 : decode cX7_doLine 50 = .ok (.ireturn, 1) := by decide +kernel
theorem dX7_doLine_51 : decode cX7_doLine 51 = .ok (.aload_n 0, 1) := by decide +kernel
theorem dX7_doLine_52 : decode cX7_doLine 52 = .ok (.aload_n 1, 1) := by decide +kernel
theorem dX7_doLine_53 : decode cX7_doLine 53 = .ok (.iload_n 3, 1) := by decide +kernel
theorem dX7_doLine_54 : decode cX7_doLine 54 = .ok (.iload 4, 2) := by decide +kernel
theorem dX7_doLine_56 : decode cX7_doLine 56 = .ok (.invokevirtual 98, 3) := by decide +kernel
theorem dX7_doLine_59 : decode cX7_doLine 59 = .ok (.ifCond .ne 5, 3) := by decide +kernel
theorem dX7_doLine_62 : decode cX7_doLine 62 = .ok (.iconst 0, 1) := by decide +kernel
theorem dX7_doLine_63 : decode cX7_doLine 63 = .ok (.ireturn, 1) := by decide +kernel
theorem dX7_doLine_64 : decode cX7_doLine 64 = .ok (.aload_n 0, 1) := by decide +kernel
theorem dX7_doLine_65 : decode cX7_doLine 65 = .ok (.iload_n 3, 1) := by decide +kernel
theorem dX7_doLine_66 : decode cX7_doLine 66 = .ok (.iload 4, 2) := by decide +kernel
theorem dX7_doLine_68 : decode cX7_doLine 68 = .ok (.invokevirtual 101, 3) := by decide +kernel
theorem dX7_doLine_71 : decode cX7_doLine 71 = .ok (.iconst 1, 1) := by decide +kernel
theorem dX7_doLine_72 : decode cX7_doLine 72 = .ok (.ireturn, 1) := by decide +kernel
theorem dX7_doLine_73 : decode cX7_doLine 73 = .ok (.aload_n 0, 1) := by decide +kernel
theorem dX7_doLine_74 : decode cX7_doLine 74 = .ok (.aload_n 1, 1) := by decide +kernel
theorem dX7_doLine_75 : decode cX7_doLine 75 = .ok (.iload_n 3, 1) := by decide +kernel
theorem dX7_doLine_76 : decode cX7_doLine 76 = .ok (.invokevirtual 105, 3) := by decide +kernel
theorem dX7_doLine_79 : decode cX7_doLine 79 = .ok (.ifCond .ne 5, 3) := by decide +kernel
theorem dX7_doLine_82 : decode cX7_doLine 82 = .ok (.iconst 0, 1) := by decide +kernel
theorem dX7_doLine_83 : decode cX7_doLine 83 = .ok (.ireturn, 1) := by decide +kernel
theorem dX7_doLine_84 : decode cX7_doLine 84 = .ok (.aload_n 0, 1) := by decide +kernel
theorem dX7_doLine_85 : decode cX7_doLine 85 = .ok (.getfield 24, 3) := by decide +kernel
theorem dX7_doLine_88 : decode cX7_doLine 88 = .ok (.iload_n 3, 1) := by decide +kernel
theorem dX7_doLine_89 : decode cX7_doLine 89 = .ok (.iconst 3, 1) := by decide +kernel
theorem dX7_doLine_90 : decode cX7_doLine 90 = .ok (.iastore, 1) := by decide +kernel
theorem dX7_doLine_91 : decode cX7_doLine 91 = .ok (.iconst 1, 1) := by decide +kernel
theorem dX7_doLine_92 : decode cX7_doLine 92 = .ok (.ireturn, 1) := by decide +kernel
theorem dX7_doLine_93 : decode cX7_doLine 93 = .ok (.aload_n 0, 1) := by decide +kernel
theorem dX7_doLine_94 : decode cX7_doLine 94 = .ok (.aload_n 1, 1) := by decide +kernel
theorem dX7_doLine_95 : decode cX7_doLine 95 = .ok (.invokevirtual 109, 3) := by decide +kernel
theorem dX7_doLine_98 : decode cX7_doLine 98 = .ok (.iconst 1, 1) := by decide +kernel
theorem dX7_doLine_99 : decode cX7_doLine 99 = .ok (.ireturn, 1) := by decide +kernel
theorem dX7_nextDay_0 : decode cX7_nextDay 0 = .ok (.aload_n 1, 1) := by decide +kernel
theorem dX7_nextDay_1 : decode cX7_nextDay 1 = .ok (.aload_n 0, 1) := by decide +kernel
theorem dX7_nextDay_2 : decode cX7_nextDay 2 = .ok (.getfield 45, 3) := by decide +kernel
theorem dX7_nextDay_5 : decode cX7_nextDay 5 = .ok (.invokevirtual 113, 3) := by decide +kernel
theorem dX7_nextDay_8 : decode cX7_nextDay 8 = .ok (.istore_n 2, 1) := by decide +kernel
theorem dX7_nextDay_9 : decode cX7_nextDay 9 = .ok (.iconst 0, 1) := by decide +kernel
theorem dX7_nextDay_10 : decode cX7_nextDay 10 = .ok (.istore_n 3, 1) := by decide +kernel
theorem dX7_nextDay_11 : decode cX7_nextDay 11 = .ok (.iload_n 3, 1) := by decide +kernel
theorem dX7_nextDay_12 : decode cX7_nextDay 12 = .ok (.aload_n 1, 1) := by decide +kernel
theorem dX7_nextDay_13 : decode cX7_nextDay 13 = .ok (.getfield 75, 3) := by decide +kernel
theorem dX7_nextDay_16 : decode cX7_nextDay 16 = .ok (.getfield 53, 3) := by decide +kernel
theorem dX7_nextDay_19 : decode cX7_nextDay 19 = .ok (.if_icmp .ge 31, 3) := by decide +kernel
theorem dX7_nextDay_22 : decode cX7_nextDay 22 = .ok (.aload_n 0, 1) := by decide +kernel
theorem dX7_nextDay_23 : decode cX7_nextDay 23 = .ok (.getfield 9, 3) := by decide +kernel
theorem dX7_nextDay_26 : decode cX7_nextDay 26 = .ok (.iload_n 3, 1) := by decide +kernel
theorem dX7_nextDay_27 : decode cX7_nextDay 27 = .ok (.aload_n 1, 1) := by decide +kernel
theorem dX7_nextDay_28 : decode cX7_nextDay 28 = .ok (.iload_n 3, 1) := by decide +kernel
theorem dX7_nextDay_29 : decode cX7_nextDay 29 = .ok (.aload_n 0, 1) := by decide +kernel
theorem dX7_nextDay_30 : decode cX7_nextDay 30 = .ok (.getfield 9, 3) := by decide +kernel
theorem dX7_nextDay_33 : decode cX7_nextDay 33 = .ok (.iload_n 3, 1) := by decide +kernel
theorem dX7_nextDay_34 : decode cX7_nextDay 34 = .ok (.iaload, 1) := by decide +kernel
theorem dX7_nextDay_35 : decode cX7_nextDay 35 = .ok (.iload_n 2, 1) := by decide +kernel
theorem dX7_nextDay_36 : decode cX7_nextDay 36 = .ok (.aload_n 0, 1) := by decide +kernel
theorem dX7_nextDay_37 : decode cX7_nextDay 37 = .ok (.getfield 45, 3) := by decide +kernel
theorem dX7_nextDay_40 : decode cX7_nextDay 40 = .ok (.invokevirtual 116, 3) := by decide +kernel
theorem dX7_nextDay_43 : decode cX7_nextDay 43 = .ok (.iastore, 1) := by decide +kernel
theorem dX7_nextDay_44 : decode cX7_nextDay 44 = .ok (.iinc 3 1, 3) := by decide +kernel
theorem dX7_nextDay_47 : decode cX7_nextDay 47 = .ok (.goto (-36), 3) := by decide +kernel
theorem dX7_nextDay_50 : decode cX7_nextDay 50 = .ok (.iconst 0, 1) := by decide +kernel
theorem dX7_nextDay_51 : decode cX7_nextDay 51 = .ok (.istore_n 3, 1) := by decide +kernel
theorem dX7_nextDay_52 : decode cX7_nextDay 52 = .ok (.iload_n 3, 1) := by decide +kernel
theorem dX7_nextDay_53 : decode cX7_nextDay 53 = .ok (.aload_n 1, 1) := by decide +kernel
theorem dX7_nextDay_54 : decode cX7_nextDay 54 = .ok (.getfield 120, 3) := by decide +kernel
theorem dX7_nextDay_57 : decode cX7_nextDay 57 = .ok (.getfield 53, 3) := by decide +kernel
theorem dX7_nextDay_60 : decode cX7_nextDay 60 = .ok (.if_icmp .ge 68, 3) := by decide +kernel
theorem dX7_nextDay_63 : decode cX7_nextDay 63 = .ok (.aload_n 1, 1) := by decide +kernel
theorem dX7_nextDay_64 : decode cX7_nextDay 64 = .ok (.getfield 88, 3) := by decide +kernel
theorem dX7_nextDay_67 : decode cX7_nextDay 67 = .ok (.iload_n 3, 1) := by decide +kernel
theorem dX7_nextDay_68 : decode cX7_nextDay 68 = .ok (.iaload, 1) := by decide +kernel
theorem dX7_nextDay_69 : decode cX7_nextDay 69 = .ok (.iconst 1, 1) := by decide +kernel
theorem dX7_nextDay_70 : decode cX7_nextDay 70 = .ok (.if_icmp .ne 24, 3) := by decide +kernel
theorem dX7_nextDay_73 : decode cX7_nextDay 73 = .ok (.aload_n 0, 1) := by decide +kernel
theorem dX7_nextDay_74 : decode cX7_nextDay 74 = .ok (.getfield 15, 3) := by decide +kernel
theorem dX7_nextDay_77 : decode cX7_nextDay 77 = .ok (.iload_n 3, 1) := by decide +kernel
theorem dX7_nextDay_78 : decode cX7_nextDay 78 = .ok (.aload_n 0, 1) := by decide +kernel
theorem dX7_nextDay_79 : decode cX7_nextDay 79 = .ok (.aload_n 1, 1) := by decide +kernel
theorem dX7_nextDay_80 : decode cX7_nextDay 80 = .ok (.aload_n 0, 1) := by decide +kernel
theorem dX7_nextDay_81 : decode cX7_nextDay 81 = .ok (.getfield 15, 3) := by decide +kernel
theorem dX7_nextDay_84 : decode cX7_nextDay 84 = .ok (.iload_n 3, 1) := by decide +kernel
theorem dX7_nextDay_85 : decode cX7_nextDay 85 = .ok (.iaload, 1) := by decide +kernel
theorem dX7_nextDay_86 : decode cX7_nextDay 86 = .ok (.iconst (-1), 1) := by decide +kernel
theorem dX7_nextDay_87 : decode cX7_nextDay 87 = .ok (.invokevirtual 123, 3) := by decide +kernel
theorem dX7_nextDay_90 : decode cX7_nextDay 90 = .ok (.iastore, 1) := by decide +kernel
theorem dX7_nextDay_91 : decode cX7_nextDay 91 = .ok (.goto 31, 3) := by decide +kernel
theorem dX7_nextDay_94 : decode cX7_nextDay 94 = .ok (.aload_n 1, 1) := by decide +kernel
theorem dX7_nextDay_95 : decode cX7_nextDay 95 = .ok (.getfield 88, 3) := by decide +kernel
theorem dX7_nextDay_98 : decode cX7_nextDay 98 = .ok (.iload_n 3, 1) := by decide +kernel
theorem dX7_nextDay_99 : decode cX7_nextDay 99 = .ok (.iaload, 1) := by decide +kernel
theorem dX7_nextDay_100 : decode cX7_nextDay 100 = .ok (.iconst 2, 1) := by decide +kernel
theorem dX7_nextDay_101 : decode cX7_nextDay 101 = .ok (.if_icmp .ne 21, 3) := by decide +kernel
theorem dX7_nextDay_104 : decode cX7_nextDay 104 = .ok (.aload_n 0, 1) := by decide +kernel
theorem dX7_nextDay_105 : decode cX7_nextDay 105 = .ok (.getfield 15, 3) := by decide +kernel
theorem dX7_nextDay_108 : decode cX7_nextDay 108 = .ok (.iload_n 3, 1) := by decide +kernel
theorem dX7_nextDay_109 : decode cX7_nextDay 109 = .ok (.aload_n 0, 1) := by decide +kernel
theorem dX7_nextDay_110 : decode cX7_nextDay 110 = .ok (.aload_n 1, 1) := by decide +kernel
theorem dX7_nextDay_111 : decode cX7_nextDay 111 = .ok (.aload_n 0, 1) := by decide +kernel
theorem dX7_nextDay_112 : decode cX7_nextDay 112 = .ok (.getfield 15, 3) := by decide +kernel
theorem dX7_nextDay_115 : decode cX7_nextDay 115 = .ok (.iload_n 3, 1) := by decide +kernel
theorem dX7_nextDay_116 : decode cX7_nextDay 116 = .ok (.iaload, 1) := by decide +kernel
theorem dX7_nextDay_117 : decode cX7_nextDay 117 = .ok (.iconst 1, 1) := by decide +kernel
theorem dX7_nextDay_118 : decode cX7_nextDay 118 = .ok (.invokevirtual 123, 3) := by decide +kernel
theorem dX7_nextDay_121 : decode cX7_nextDay 121 = .ok (.iastore, 1) := by decide +kernel
theorem dX7_nextDay_122 : decode cX7_nextDay 122 = .ok (.iinc 3 1, 3) := by decide +kernel
theorem dX7_nextDay_125 : decode cX7_nextDay 125 = .ok (.goto (-73), 3) := by decide +kernel
theorem dX7_nextDay_128 : decode cX7_nextDay 128 = .ok (.aload_n 0, 1) := by decide +kernel
theorem dX7_nextDay_129 : decode cX7_nextDay 129 = .ok (.invokevirtual 42, 3) := by decide +kernel
theorem dX7_nextDay_132 : decode cX7_nextDay 132 = .ok (.aload_n 0, 1) := by decide +kernel
theorem dX7_nextDay_133 : decode cX7_nextDay 133 = .ok (.dup, 1) := by decide +kernel
theorem dX7_nextDay_134 : decode cX7_nextDay 134 = .ok (.getfield 45, 3) := by decide +kernel
theorem dX7_nextDay_137 : decode cX7_nextDay 137 = .ok (.iconst 1, 1) := by decide +kernel
theorem dX7_nextDay_138 : decode cX7_nextDay 138 = .ok (.iadd, 1) := by decide +kernel
theorem dX7_nextDay_139 : decode cX7_nextDay 139 = .ok (.putfield 45, 3) := by decide +kernel
theorem dX7_nextDay_142 : decode cX7_nextDay 142 = .ok (.return_, 1) := by decide +kernel
theorem dX7_bestPlace_0 : decode cX7_bestPlace 0 = .ok (.iload_n 2, 1) := by decide +kernel
theorem dX7_bestPlace_1 : decode cX7_bestPlace 1 = .ok (.istore 4, 2) := by decide +kernel
theorem dX7_bestPlace_3 : decode cX7_bestPlace 3 = .ok (.iconst 0, 1) := by decide +kernel
theorem dX7_bestPlace_4 : decode cX7_bestPlace 4 = .ok (.istore 5, 2) := by decide +kernel
theorem dX7_bestPlace_6 : decode cX7_bestPlace 6 = .ok (.iload 5, 2) := by decide +kernel
theorem dX7_bestPlace_8 : decode cX7_bestPlace 8 = .ok (.aload_n 1, 1) := by decide +kernel
theorem dX7_bestPlace_9 : decode cX7_bestPlace 9 = .ok (.getfield 75, 3) := by decide +kernel
theorem dX7_bestPlace_12 : decode cX7_bestPlace 12 = .ok (.getfield 53, 3) := by decide +kernel
theorem dX7_bestPlace_15 : decode cX7_bestPlace 15 = .ok (.if_icmp .ge 44, 3) := by decide +kernel
theorem dX7_bestPlace_18 : decode cX7_bestPlace 18 = .ok (.aload_n 1, 1) := by decide +kernel
theorem dX7_bestPlace_19 : decode cX7_bestPlace 19 = .ok (.iload_n 2, 1) := by decide +kernel
theorem dX7_bestPlace_20 : decode cX7_bestPlace 20 = .ok (.iload 5, 2) := by decide +kernel
theorem dX7_bestPlace_22 : decode cX7_bestPlace 22 = .ok (.invokevirtual 78, 3) := by decide +kernel
theorem dX7_bestPlace_25 : decode cX7_bestPlace 25 = .ok (.ifCond .eq 28, 3) := by decide +kernel
theorem dX7_bestPlace_28 : decode cX7_bestPlace 28 = .ok (.iload_n 3, 1) := by decide +kernel
theorem dX7_bestPlace_29 : decode cX7_bestPlace 29 = .ok (.aload_n 0, 1) := by decide +kernel
theorem dX7_bestPlace_30 : decode cX7_bestPlace 30 = .ok (.getfield 9, 3) := by decide +kernel
theorem dX7_bestPlace_33 : decode cX7_bestPlace 33 = .ok (.iload 5, 2) := by decide +kernel
theorem dX7_bestPlace_35 : decode cX7_bestPlace 35 = .ok (.iaload, 1) := by decide +kernel
theorem dX7_bestPlace_36 : decode cX7_bestPlace 36 = .ok (.imul, 1) := by decide +kernel
theorem dX7_bestPlace_37 : decode cX7_bestPlace 37 = .ok (.iload_n 3, 1) := by decide +kernel
theorem dX7_bestPlace_38 : decode cX7_bestPlace 38 = .ok (.aload_n 0, 1) := by decide +kernel
theorem dX7_bestPlace_39 : decode cX7_bestPlace 39 = .ok (.getfield 9, 3) := by decide +kernel
theorem dX7_bestPlace_42 : decode cX7_bestPlace 42 = .ok (.iload 4, 2) := by decide +kernel
theorem dX7_bestPlace_44 : decode cX7_bestPlace 44 = .ok (.iaload, 1) := by decide +kernel
theorem dX7_bestPlace_45 : decode cX7_bestPlace 45 = .ok (.imul, 1) := by decide +kernel
theorem dX7_bestPlace_46 : decode cX7_bestPlace 46 = .ok (.if_icmp .le 7, 3) := by decide +kernel
theorem dX7_bestPlace_49 : decode cX7_bestPlace 49 = .ok (.iload 5, 2) := by decide +kernel
theorem dX7_bestPlace_51 : decode cX7_bestPlace 51 = .ok (.istore 4, 2) := by decide +kernel
theorem dX7_bestPlace_53 : decode cX7_bestPlace 53 = .ok (.iinc 5 1, 3) := by decide +kernel
theorem dX7_bestPlace_56 : decode cX7_bestPlace 56 = .ok (.goto (-50), 3) := by decide +kernel
theorem dX7_bestPlace_59 : decode cX7_bestPlace 59 = .ok (.iload 4, 2) := by decide +kernel
theorem dX7_bestPlace_61 : decode cX7_bestPlace 61 = .ok (.ireturn, 1) := by decide +kernel
theorem dX7_wetBits_0 : decode cX7_wetBits 0 = .ok (.iconst 0, 1) := by decide +kernel
theorem dX7_wetBits_1 : decode cX7_wetBits 1 = .ok (.istore_n 2, 1) := by decide +kernel
theorem dX7_wetBits_2 : decode cX7_wetBits 2 = .ok (.iconst 0, 1) := by decide +kernel
theorem dX7_wetBits_3 : decode cX7_wetBits 3 = .ok (.istore_n 3, 1) := by decide +kernel
theorem dX7_wetBits_4 : decode cX7_wetBits 4 = .ok (.iload_n 3, 1) := by decide +kernel
theorem dX7_wetBits_5 : decode cX7_wetBits 5 = .ok (.aload_n 1, 1) := by decide +kernel
theorem dX7_wetBits_6 : decode cX7_wetBits 6 = .ok (.getfield 75, 3) := by decide +kernel
theorem dX7_wetBits_9 : decode cX7_wetBits 9 = .ok (.getfield 53, 3) := by decide +kernel
theorem dX7_wetBits_12 : decode cX7_wetBits 12 = .ok (.if_icmp .ge 25, 3) := by decide +kernel
theorem dX7_wetBits_15 : decode cX7_wetBits 15 = .ok (.aload_n 0, 1) := by decide +kernel
theorem dX7_wetBits_16 : decode cX7_wetBits 16 = .ok (.getfield 9, 3) := by decide +kernel
theorem dX7_wetBits_19 : decode cX7_wetBits 19 = .ok (.iload_n 3, 1) := by decide +kernel
theorem dX7_wetBits_20 : decode cX7_wetBits 20 = .ok (.iaload, 1) := by decide +kernel
theorem dX7_wetBits_21 : decode cX7_wetBits 21 = .ok (.iconst 1, 1) := by decide +kernel
theorem dX7_wetBits_22 : decode cX7_wetBits 22 = .ok (.if_icmp .lt 9, 3) := by decide +kernel
theorem dX7_wetBits_25 : decode cX7_wetBits 25 = .ok (.iload_n 2, 1) := by decide +kernel
theorem dX7_wetBits_26 : decode cX7_wetBits 26 = .ok (.iconst 1, 1) := by decide +kernel
theorem dX7_wetBits_27 : decode cX7_wetBits 27 = .ok (.iload_n 3, 1) := by decide +kernel
theorem dX7_wetBits_28 : decode cX7_wetBits 28 = .ok (.ishl, 1) := by decide +kernel
theorem dX7_wetBits_29 : decode cX7_wetBits 29 = .ok (.ior, 1) := by decide +kernel
theorem dX7_wetBits_30 : decode cX7_wetBits 30 = .ok (.istore_n 2, 1) := by decide +kernel
theorem dX7_wetBits_31 : decode cX7_wetBits 31 = .ok (.iinc 3 1, 3) := by decide +kernel
theorem dX7_wetBits_34 : decode cX7_wetBits 34 = .ok (.goto (-30), 3) := by decide +kernel
theorem dX7_wetBits_37 : decode cX7_wetBits 37 = .ok (.iload_n 2, 1) := by decide +kernel
theorem dX7_wetBits_38 : decode cX7_wetBits 38 = .ok (.ireturn, 1) := by decide +kernel
theorem dX7_waterTogether_0 : decode cX7_waterTogether 0 = .ok (.iconst 0, 1) := by decide +kernel
theorem dX7_waterTogether_1 : decode cX7_waterTogether 1 = .ok (.istore_n 2, 1) := by decide +kernel
theorem dX7_waterTogether_2 : decode cX7_waterTogether 2 = .ok (.iconst 0, 1) := by decide +kernel
theorem dX7_waterTogether_3 : decode cX7_waterTogether 3 = .ok (.istore_n 3, 1) := by decide +kernel
theorem dX7_waterTogether_4 : decode cX7_waterTogether 4 = .ok (.iload_n 3, 1) := by decide +kernel
theorem dX7_waterTogether_5 : decode cX7_waterTogether 5 = .ok (.aload_n 1, 1) := by decide +kernel
theorem dX7_waterTogether_6 : decode cX7_waterTogether 6 = .ok (.getfield 75, 3) := by decide +kernel
theorem dX7_waterTogether_9 : decode cX7_waterTogether 9 = .ok (.getfield 53, 3) := by decide +kernel
theorem dX7_waterTogether_12 : decode cX7_waterTogether 12 = .ok (.if_icmp .ge 18, 3) := by decide +kernel
theorem dX7_waterTogether_15 : decode cX7_waterTogether 15 = .ok (.iload_n 2, 1) := by decide +kernel
theorem dX7_waterTogether_16 : decode cX7_waterTogether 16 = .ok (.aload_n 0, 1) := by decide +kernel
theorem dX7_waterTogether_17 : decode cX7_waterTogether 17 = .ok (.getfield 9, 3) := by decide +kernel
theorem dX7_waterTogether_20 : decode cX7_waterTogether 20 = .ok (.iload_n 3, 1) := by decide +kernel
theorem dX7_waterTogether_21 : decode cX7_waterTogether 21 = .ok (.iaload, 1) := by decide +kernel
theorem dX7_waterTogether_22 : decode cX7_waterTogether 22 = .ok (.iadd, 1) := by decide +kernel
theorem dX7_waterTogether_23 : decode cX7_waterTogether 23 = .ok (.istore_n 2, 1) := by decide +kernel
theorem dX7_waterTogether_24 : decode cX7_waterTogether 24 = .ok (.iinc 3 1, 3) := by decide +kernel
theorem dX7_waterTogether_27 : decode cX7_waterTogether 27 = .ok (.goto (-23), 3) := by decide +kernel
theorem dX7_waterTogether_30 : decode cX7_waterTogether 30 = .ok (.iload_n 2, 1) := by decide +kernel
theorem dX7_waterTogether_31 : decode cX7_waterTogether 31 = .ok (.ireturn, 1) := by decide +kernel
theorem dX8_init_0 : decode cX8_init 0 = .ok (.aload_n 0, 1) := by decide +kernel
theorem dX8_init_1 : decode cX8_init 1 = .ok (.invokespecial 3, 3) := by decide +kernel
theorem dX8_init_4 : decode cX8_init 4 = .ok (.aload_n 0, 1) := by decide +kernel
theorem dX8_init_5 : decode cX8_init 5 = .ok (.sipush 1000, 3) := by decide +kernel
theorem dX8_init_8 : decode cX8_init 8 = .ok (.newarray .byte, 2) := by decide +kernel
theorem dX8_init_10 : decode cX8_init 10 = .ok (.putfield 9, 3) := by decide +kernel
theorem dX8_init_13 : decode cX8_init 13 = .ok (.return_, 1) := by decide +kernel
theorem dX8_append_0 : decode cX8_append 0 = .ok (.bipush 56, 2) := by decide +kernel
theorem dX8_append_2 : decode cX8_append 2 = .ok (.istore_n 3, 1) := by decide +kernel
theorem dX8_append_3 : decode cX8_append 3 = .ok (.iload_n 3, 1) := by decide +kernel
theorem dX8_append_4 : decode cX8_append 4 = .ok (.ifCond .lt 70, 3) := by decide +kernel
theorem dX8_append_7 : decode cX8_append 7 = .ok (.lload_n 1, 1) := by decide +kernel
theorem dX8_append_8 : decode cX8_append 8 = .ok (.iload_n 3, 1) := by decide +kernel
theorem dX8_append_9 : decode cX8_append 9 = .ok (.lushr, 1) := by decide +kernel
theorem dX8_append_10 : decode cX8_append 10 = .ok (.ldc2_w 15, 3) := by decide +kernel
theorem dX8_append_13 : decode cX8_append 13 = .ok (.land, 1) := by decide +kernel
theorem dX8_append_14 : decode cX8_append 14 = .ok (.l2i, 1) := by decide +kernel
theorem dX8_append_15 : decode cX8_append 15 = .ok (.istore 4, 2) := by decide +kernel
theorem dX8_append_17 : decode cX8_append 17 = .ok (.iload 4, 2) := by decide +kernel
theorem dX8_append_19 : decode cX8_append 19 = .ok (.bipush 10, 2) := by decide +kernel
theorem dX8_append_21 : decode cX8_append 21 = .ok (.if_icmp .eq 15, 3) := by decide +kernel
theorem dX8_append_24 : decode cX8_append 24 = .ok (.iload 4, 2) := by decide +kernel
theorem dX8_append_26 : decode cX8_append 26 = .ok (.bipush 32, 2) := by decide +kernel
theorem dX8_append_28 : decode cX8_append 28 = .ok (.bipush 126, 2) := by decide +kernel
theorem dX8_append_30 : decode cX8_append 30 = .ok (.invokestatic 17, 3) := by decide +kernel
theorem dX8_append_33 : decode cX8_append 33 = .ok (.ifCond .eq 35, 3) := by decide +kernel
theorem dX8_append_36 : decode cX8_append 36 = .ok (.aload_n 0, 1) := by decide +kernel
theorem dX8_append_37 : decode cX8_append 37 = .ok (.getfield 21, 3) := by decide +kernel
theorem dX8_append_40 : decode cX8_append 40 = .ok (.sipush 1000, 3) := by decide +kernel
theorem dX8_append_43 : decode cX8_append 43 = .ok (.if_icmp .ge 25, 3) := by decide +kernel
theorem dX8_append_46 : decode cX8_append 46 = .ok (.aload_n 0, 1) := by decide +kernel
theorem dX8_append_47 : decode cX8_append 47 = .ok (.getfield 9, 3) := by decide +kernel
theorem dX8_append_50 : decode cX8_append 50 = .ok (.aload_n 0, 1) := by decide +kernel
theorem dX8_append_51 : decode cX8_append 51 = .ok (.getfield 21, 3) := by decide +kernel
theorem dX8_append_54 : decode cX8_append 54 = .ok (.iload 4, 2) := by decide +kernel
theorem dX8_append_56 : decode cX8_append 56 = .ok (.i2b, 1) := by decide +kernel
theorem dX8_append_57 : decode cX8_append 57 = .ok (.bastore, 1) := by decide +kernel
theorem dX8_append_58 : decode cX8_append 58 = .ok (.aload_n 0, 1) := by decide +kernel
theorem dX8_append_59 : decode cX8_append 59 = .ok (.dup, 1) := by decide +kernel
theorem dX8_append_60 : decode cX8_append 60 = .ok (.getfield 21, 3) := by decide +kernel
theorem dX8_append_63 : decode cX8_append 63 = .ok (.iconst 1, 1) := by decide +kernel
theorem dX8_append_64 : decode cX8_append 64 = .ok (.iadd, 1) := by decide +kernel
theorem dX8_append_65 : decode cX8_append 65 = .ok (.putfield 21, 3) := by decide +kernel
theorem dX8_append_68 : decode cX8_append 68 = .ok (.iinc 3 (-8), 3) := by decide +kernel
theorem dX8_append_71 : decode cX8_append 71 = .ok (.goto (-68), 3) := by decide +kernel
theorem dX8_append_74 : decode cX8_append 74 = .ok (.return_, 1) := by decide +kernel
theorem dX8_begin_0 : decode cX8_begin 0 = .ok (.aload_n 0, 1) := by decide +kernel
theorem dX8_begin_1 : decode cX8_begin 1 = .ok (.iconst 0, 1) := by decide +kernel
theorem dX8_begin_2 : decode cX8_begin 2 = .ok (.putfield 25, 3) := by decide +kernel
theorem dX8_begin_5 : decode cX8_begin 5 = .ok (.aload_n 0, 1) := by decide +kernel
theorem dX8_begin_6 : decode cX8_begin 6 = .ok (.iconst 0, 1) := by decide +kernel
theorem dX8_begin_7 : decode cX8_begin 7 = .ok (.putfield 28, 3) := by decide +kernel
theorem dX8_begin_10 : decode cX8_begin 10 = .ok (.aload_n 0, 1) := by decide +kernel
theorem dX8_begin_11 : decode cX8_begin 11 = .ok (.invokevirtual 31, 3) := by decide +kernel
theorem dX8_begin_14 : decode cX8_begin 14 = .ok (.return_, 1) := by decide +kernel
theorem dX8_finish_0 : decode cX8_finish 0 = .ok (.aload_n 0, 1) := by decide +kernel
theorem dX8_finish_1 : decode cX8_finish 1 = .ok (.iconst 0, 1) := by decide +kernel
theorem dX8_finish_2 : decode cX8_finish 2 = .ok (.putfield 21, 3) := by decide +kernel
theorem dX8_finish_5 : decode cX8_finish 5 = .ok (.aload_n 0, 1) := by decide +kernel
theorem dX8_finish_6 : decode cX8_finish 6 = .ok (.getfield 28, 3) := by decide +kernel
theorem dX8_finish_9 : decode cX8_finish 9 = .ok (.ireturn, 1) := by decide +kernel
theorem dX8_isFine_0 : decode cX8_isFine 0 = .ok (.aload_n 0, 1) := by decide +kernel
theorem dX8_isFine_1 : decode cX8_isFine 1 = .ok (.getfield 28, 3) := by decide +kernel
theorem dX8_isFine_4 : decode cX8_isFine 4 = .ok (.ifCond .ne 7, 3) := by decide +kernel
theorem dX8_isFine_7 : decode cX8_isFine 7 = .ok (.iconst 1, 1) := by decide +kernel
theorem dX8_isFine_8 : decode cX8_isFine 8 = .ok (.goto 4, 3) := by decide +kernel
theorem dX8_isFine_11 : decode cX8_isFine 11 = .ok (.iconst 0, 1) := by decide +kernel
theorem dX8_isFine_12 : decode cX8_isFine 12 = .ok (.ireturn, 1) := by decide +kernel
theorem dX8_fail_0 : decode cX8_fail 0 = .ok (.aload_n 0, 1) := by decide +kernel
theorem dX8_fail_1 : decode cX8_fail 1 = .ok (.iload_n 1, 1) := by decide +kernel
theorem dX8_fail_2 : decode cX8_fail 2 = .ok (.aload_n 0, 1) := by decide +kernel
theorem dX8_fail_3 : decode cX8_fail 3 = .ok (.getfield 34, 3) := by decide +kernel
theorem dX8_fail_6 : decode cX8_fail 6 = .ok (.invokevirtual 37, 3) := by decide +kernel
theorem dX8_fail_9 : decode cX8_fail 9 = .ok (.return_, 1) := by decide +kernel
theorem dX8_failAt_0 : decode cX8_failAt 0 = .ok (.aload_n 0, 1) := by decide +kernel
theorem dX8_failAt_1 : decode cX8_failAt 1 = .ok (.getfield 28, 3) := by decide +kernel
theorem dX8_failAt_4 : decode cX8_failAt 4 = .ok (.ifCond .ne 13, 3) := by decide +kernel
theorem dX8_failAt_7 : decode cX8_failAt 7 = .ok (.aload_n 0, 1) := by decide +kernel
theorem dX8_failAt_8 : decode cX8_failAt 8 = .ok (.iload_n 1, 1) := by decide +kernel
theorem dX8_failAt_9 : decode cX8_failAt 9 = .ok (.bipush 16, 2) := by decide +kernel
theorem dX8_failAt_11 : decode cX8_failAt 11 = .ok (.iload_n 2, 1) := by decide +kernel
theorem dX8_failAt_12 : decode cX8_failAt 12 = .ok (.imul, 1) := by decide +kernel
theorem dX8_failAt_13 : decode cX8_failAt 13 = .ok (.iadd, 1) := by decide +kernel
theorem dX8_failAt_14 : decode cX8_failAt 14 = .ok (.putfield 28, 3) := by decide +kernel
theorem dX8_failAt_17 : decode cX8_failAt 17 = .ok (.return_, 1) := by decide +kernel
theorem dX8_step_0 : decode cX8_step 0 = .ok (.aload_n 0, 1) := by decide +kernel
theorem dX8_step_1 : decode cX8_step 1 = .ok (.getfield 25, 3) := by decide +kernel
theorem dX8_step_4 : decode cX8_step 4 = .ok (.aload_n 0, 1) := by decide +kernel
theorem dX8_step_5 : decode cX8_step 5 = .ok (.getfield 21, 3) := by decide +kernel
theorem dX8_step_8 : decode cX8_step 8 = .ok (.if_icmp .ge 44, 3) := by decide +kernel
theorem dX8_step_11 : decode cX8_step 11 = .ok (.aload_n 0, 1) := by decide +kernel
theorem dX8_step_12 : decode cX8_step 12 = .ok (.getfield 9, 3) := by decide +kernel
theorem dX8_step_15 : decode cX8_step 15 = .ok (.aload_n 0, 1) := by decide +kernel
theorem dX8_step_16 : decode cX8_step 16 = .ok (.getfield 25, 3) := by decide +kernel
theorem dX8_step_19 : decode cX8_step 19 = .ok (.baload, 1) := by decide +kernel
theorem dX8_step_20 : decode cX8_step 20 = .ok (.bipush 10, 2) := by decide +kernel
theorem dX8_step_22 : decode cX8_step 22 = .ok (.if_icmp .eq 17, 3) := by decide +kernel
theorem dX8_step_25 : decode cX8_step 25 = .ok (.aload_n 0, 1) := by decide +kernel
theorem dX8_step_26 : decode cX8_step 26 = .ok (.getfield 9, 3) := by decide +kernel
theorem dX8_step_29 : decode cX8_step 29 = .ok (.aload_n 0, 1) := by decide +kernel
theorem dX8_step_30 : decode cX8_step 30 = .ok (.getfield 25, 3) := by decide +kernel
theorem dX8_step_33 : decode cX8_step 33 = .ok (.baload, 1) := by decide +kernel
theorem dX8_step_34 : decode cX8_step 34 = .ok (.bipush 32, 2) := by decide +kernel
theorem dX8_step_36 : decode cX8_step 36 = .ok (.if_icmp .ne 16, 3) := by decide +kernel
theorem dX8_step_39 : decode cX8_step 39 = .ok (.aload_n 0, 1) := by decide +kernel
theorem dX8_step_40 : decode cX8_step 40 = .ok (.dup, 1) := by decide +kernel
theorem dX8_step_41 : decode cX8_step 41 = .ok (.getfield 25, 3) := by decide +kernel
theorem dX8_step_44 : decode cX8_step 44 = .ok (.iconst 1, 1) := by decide +kernel
theorem dX8_step_45 : decode cX8_step 45 = .ok (.iadd, 1) := by decide +kernel
theorem dX8_step_46 : decode cX8_step 46 = .ok (.putfield 25, 3) := by decide +kernel
theorem dX8_step_49 : decode cX8_step 49 = .ok (.goto (-49), 3) := by decide +kernel
theorem dX8_step_52 : decode cX8_step 52 = .ok (.aload_n 0, 1) := by decide +kernel
theorem dX8_step_53 : decode cX8_step 53 = .ok (.aload_n 0, 1) := by decide +kernel
theorem dX8_step_54 : decode cX8_step 54 = .ok (.getfield 25, 3) := by decide +kernel
theorem dX8_step_57 : decode cX8_step 57 = .ok (.putfield 34, 3) := by decide +kernel
theorem dX8_step_60 : decode cX8_step 60 = .ok (.aload_n 0, 1) := by decide +kernel
theorem dX8_step_61 : decode cX8_step 61 = .ok (.lconst 0, 1) := by decide +kernel
theorem dX8_step_62 : decode cX8_step 62 = .ok (.putfield 41, 3) := by decide +kernel
theorem dX8_step_65 : decode cX8_step 65 = .ok (.aload_n 0, 1) := by decide +kernel
theorem dX8_step_66 : decode cX8_step 66 = .ok (.getfield 25, 3) := by decide +kernel
theorem dX8_step_69 : decode cX8_step 69 = .ok (.aload_n 0, 1) := by decide +kernel
theorem dX8_step_70 : decode cX8_step 70 = .ok (.getfield 21, 3) := by decide +kernel
theorem dX8_step_73 : decode cX8_step 73 = .ok (.if_icmp .lt 11, 3) := by decide +kernel
theorem dX8_step_76 : decode cX8_step 76 = .ok (.aload_n 0, 1) := by decide +kernel
theorem dX8_step_77 : decode cX8_step 77 = .ok (.iconst 0, 1) := by decide +kernel
theorem dX8_step_78 : decode cX8_step 78 = .ok (.putfield 45, 3) := by decide +kernel
theorem dX8_step_81 : decode cX8_step 81 = .ok (.goto 121, 3) := by decide +kernel
theorem dX8_step_84 : decode cX8_step 84 = .ok (.aload_n 0, 1) := by decide +kernel
theorem dX8_step_85 : decode cX8_step 85 = .ok (.getfield 9, 3) := by decide +kernel
theorem dX8_step_88 : decode cX8_step 88 = .ok (.aload_n 0, 1) := by decide +kernel
theorem dX8_step_89 : decode cX8_step 89 = .ok (.getfield 25, 3) := by decide +kernel
theorem dX8_step_92 : decode cX8_step 92 = .ok (.baload, 1) := by decide +kernel
theorem dX8_step_93 : decode cX8_step 93 = .ok (.bipush 97, 2) := by decide +kernel
theorem dX8_step_95 : decode cX8_step 95 = .ok (.if_icmp .lt 24, 3) := by decide +kernel
theorem dX8_step_98 : decode cX8_step 98 = .ok (.aload_n 0, 1) := by decide +kernel
theorem dX8_step_99 : decode cX8_step 99 = .ok (.getfield 9, 3) := by decide +kernel
theorem dX8_step_102 : decode cX8_step 102 = .ok (.aload_n 0, 1) := by decide +kernel
theorem dX8_step_103 : decode cX8_step 103 = .ok (.getfield 25, 3) := by decide +kernel
theorem dX8_step_106 : decode cX8_step 106 = .ok (.baload, 1) := by decide +kernel
theorem dX8_step_107 : decode cX8_step 107 = .ok (.bipush 122, 2) := by decide +kernel
theorem dX8_step_109 : decode cX8_step 109 = .ok (.if_icmp .gt 10, 3) := by decide +kernel
theorem dX8_step_112 : decode cX8_step 112 = .ok (.aload_n 0, 1) := by decide +kernel
theorem dX8_step_113 : decode cX8_step 113 = .ok (.invokevirtual 48, 3) := by decide +kernel
theorem dX8_step_116 : decode cX8_step 116 = .ok (.goto 86, 3) := by decide +kernel
theorem dX8_step_119 : decode cX8_step 119 = .ok (.aload_n 0, 1) := by decide +kernel
theorem dX8_step_120 : decode cX8_step 120 = .ok (.getfield 9, 3) := by decide +kernel
theorem dX8_step_123 : decode cX8_step 123 = .ok (.aload_n 0, 1) := by decide +kernel
theorem dX8_step_124 : decode cX8_step 124 = .ok (.getfield 25, 3) := by decide +kernel
theorem dX8_step_127 : decode cX8_step 127 = .ok (.baload, 1) := by decide +kernel
theorem dX8_step_128 : decode cX8_step 128 = .ok (.bipush 48, 2) := by decide +kernel
theorem dX8_step_130 : decode cX8_step 130 = .ok (.if_icmp .lt 24, 3) := by decide +kernel
theorem dX8_step_133 : decode cX8_step 133 = .ok (.aload_n 0, 1) := by decide +kernel
theorem dX8_step_134 : decode cX8_step 134 = .ok (.getfield 9, 3) := by decide +kernel
theorem dX8_step_137 : decode cX8_step 137 = .ok (.aload_n 0, 1) := by decide +kernel
theorem dX8_step_138 : decode cX8_step 138 = .ok (.getfield 25, 3) := by decide +kernel
theorem dX8_step_141 : decode cX8_step 141 = .ok (.baload, 1) := by decide +kernel
theorem dX8_step_142 : decode cX8_step 142 = .ok (.bipush 57, 2) := by decide +kernel
theorem dX8_step_144 : decode cX8_step 144 = .ok (.if_icmp .gt 10, 3) := by decide +kernel
theorem dX8_step_147 : decode cX8_step 147 = .ok (.aload_n 0, 1) := by decide +kernel
theorem dX8_step_148 : decode cX8_step 148 = .ok (.invokevirtual 51, 3) := by decide +kernel
theorem dX8_step_151 : decode cX8_step 151 = .ok (.goto 51, 3) := by decide +kernel
theorem dX8_step_154 : decode cX8_step 154 = .ok (.aload_n 0, 1) := by decide +kernel
theorem dX8_step_155 : decode cX8_step 155 = .ok (.aload_n 0, 1) := by decide +kernel
theorem dX8_step_156 : decode cX8_step 156 = .ok (.getfield 9, 3) := by decide +kernel
theorem dX8_step_159 : decode cX8_step 159 = .ok (.aload_n 0, 1) := by decide +kernel
theorem dX8_step_160 : decode cX8_step 160 = .ok (.getfield 25, 3) := by decide +kernel
theorem dX8_step_163 : decode cX8_step 163 = .ok (.baload, 1) := by decide +kernel
theorem dX8_step_164 : decode cX8_step 164 = .ok (.i2l, 1) := by decide +kernel
theorem dX8_step_165 : decode cX8_step 165 = .ok (.putfield 41, 3) := by decide +kernel
theorem dX8_step_168 : decode cX8_step 168 = .ok (.aload_n 0, 1) := by decide +kernel
theorem dX8_step_169 : decode cX8_step 169 = .ok (.aload_n 0, 1) := by decide +kernel
theorem dX8_step_170 : decode cX8_step 170 = .ok (.getfield 9, 3) := by decide +kernel
theorem dX8_step_173 : decode cX8_step 173 = .ok (.aload_n 0, 1) := by decide +kernel
theorem dX8_step_174 : decode cX8_step 174 = .ok (.getfield 25, 3) := by decide +kernel
theorem dX8_step_177 : decode cX8_step 177 = .ok (.baload, 1) := by decide +kernel
theorem dX8_step_178 : decode cX8_step 178 = .ok (.invokestatic 54, 3) := by decide +kernel
theorem dX8_step_181 : decode cX8_step 181 = .ok (.ifCond .eq 7, 3) := by decide +kernel
theorem dX8_step_184 : decode cX8_step 184 = .ok (.iconst 3, 1) := by decide +kernel
theorem dX8_step_185 : decode cX8_step 185 = .ok (.goto 4, 3) := by decide +kernel
theorem dX8_step_188 : decode cX8_step 188 = .ok (.iconst 4, 1) := by decide +kernel
theorem dX8_step_189 : decode cX8_step 189 = .ok (.putfield 45, 3) := by decide +kernel
theorem dX8_step_192 : decode cX8_step 192 = .ok (.aload_n 0, 1) := by decide +kernel
theorem dX8_step_193 : decode cX8_step 193 = .ok (.dup, 1) := by decide +kernel
theorem dX8_step_194 : decode cX8_step 194 = .ok (.getfield 25, 3) := by decide +kernel
theorem dX8_step_197 : decode cX8_step 197 = .ok (.iconst 1, 1) := by decide +kernel
theorem dX8_step_198 : decode cX8_step 198 = .ok (.iadd, 1) := by decide +kernel
theorem dX8_step_199 : decode cX8_step 199 = .ok (.putfield 25, 3) := by decide +kernel
theorem dX8_step_202 : decode cX8_step 202 = .ok (.return_, 1) := by decide +kernel
theorem dX8_readWord_0 : decode cX8_readWord 0 = .ok (.aload_n 0, 1) := by decide +kernel
theorem dX8_readWord_1 : decode cX8_readWord 1 = .ok (.getfield 25, 3) := by decide +kernel
theorem dX8_readWord_4 : decode cX8_readWord 4 = .ok (.aload_n 0, 1) := by decide +kernel
theorem dX8_readWord_5 : decode cX8_readWord 5 = .ok (.getfield 21, 3) := by decide +kernel
theorem dX8_readWord_8 : decode cX8_readWord 8 = .ok (.if_icmp .ge 66, 3) := by decide +kernel
theorem dX8_readWord_11 : decode cX8_readWord 11 = .ok (.aload_n 0, 1) := by decide +kernel
theorem dX8_readWord_12 : decode cX8_readWord 12 = .ok (.getfield 9, 3) := by decide +kernel
theorem dX8_readWord_15 : decode cX8_readWord 15 = .ok (.aload_n 0, 1) := by decide +kernel
theorem dX8_readWord_16 : decode cX8_readWord 16 = .ok (.getfield 25, 3) := by decide +kernel
theorem dX8_readWord_19 : decode cX8_readWord 19 = .ok (.baload, 1) := by decide +kernel
theorem dX8_readWord_20 : decode cX8_readWord 20 = .ok (.bipush 97, 2) := by decide +kernel
theorem dX8_readWord_22 : decode cX8_readWord 22 = .ok (.if_icmp .lt 52, 3) := by decide +kernel
theorem dX8_readWord_25 : decode cX8_readWord 25 = .ok (.aload_n 0, 1) := by decide +kernel
theorem dX8_readWord_26 : decode cX8_readWord 26 = .ok (.getfield 9, 3) := by decide +kernel
theorem dX8_readWord_29 : decode cX8_readWord 29 = .ok (.aload_n 0, 1) := by decide +kernel
theorem dX8_readWord_30 : decode cX8_readWord 30 = .ok (.getfield 25, 3) := by decide +kernel
theorem dX8_readWord_33 : decode cX8_readWord 33 = .ok (.baload, 1) := by decide +kernel
theorem dX8_readWord_34 : decode cX8_readWord 34 = .ok (.bipush 122, 2) := by decide +kernel
theorem dX8_readWord_36 : decode cX8_readWord 36 = .ok (.if_icmp .gt 38, 3) := by decide +kernel
theorem dX8_readWord_39 : decode cX8_readWord 39 = .ok (.aload_n 0, 1) := by decide +kernel
theorem dX8_readWord_40 : decode cX8_readWord 40 = .ok (.aload_n 0, 1) := by decide +kernel
theorem dX8_readWord_41 : decode cX8_readWord 41 = .ok (.getfield 41, 3) := by decide +kernel
theorem dX8_readWord_44 : decode cX8_readWord 44 = .ok (.bipush 8, 2) := by decide +kernel
theorem dX8_readWord_46 : decode cX8_readWord 46 = .ok (.lshl, 1) := by decide +kernel
theorem dX8_readWord_47 : decode cX8_readWord 47 = .ok (.aload_n 0, 1) := by decide +kernel
theorem dX8_readWord_48 : decode cX8_readWord 48 = .ok (.getfield 9, 3) := by decide +kernel
theorem dX8_readWord_51 : decode cX8_readWord 51 = .ok (.aload_n 0, 1) := by decide +kernel
theorem dX8_readWord_52 : decode cX8_readWord 52 = .ok (.getfield 25, 3) := by decide +kernel
theorem dX8_readWord_55 : decode cX8_readWord 55 = .ok (.baload, 1) := by decide +kernel
theorem dX8_readWord_56 : decode cX8_readWord 56 = .ok (.i2l, 1) := by decide +kernel
theorem dX8_readWord_57 : decode cX8_readWord 57 = .ok (.lor, 1) := by decide +kernel
theorem dX8_readWord_58 : decode cX8_readWord 58 = .ok (.putfield 41, 3) := by decide +kernel
theorem dX8_readWord_61 : decode cX8_readWord 61 = .ok (.aload_n 0, 1) := by decide +kernel
theorem dX8_readWord_62 : decode cX8_readWord 62 = .ok (.dup, 1) := by decide +kernel
theorem dX8_readWord_63 : decode cX8_readWord 63 = .ok (.getfield 25, 3) := by decide +kernel
theorem dX8_readWord_66 : decode cX8_readWord 66 = .ok (.iconst 1, 1) := by decide +kernel
theorem dX8_readWord_67 : decode cX8_readWord 67 = .ok (.iadd, 1) := by decide +kernel
theorem dX8_readWord_68 : decode cX8_readWord 68 = .ok (.putfield 25, 3) := by decide +kernel
theorem dX8_readWord_71 : decode cX8_readWord 71 = .ok (.goto (-71), 3) := by decide +kernel
theorem dX8_readWord_74 : decode cX8_readWord 74 = .ok (.aload_n 0, 1) := by decide +kernel
theorem dX8_readWord_75 : decode cX8_readWord 75 = .ok (.aload_n 0, 1) := by decide +kernel
theorem dX8_readWord_76 : decode cX8_readWord 76 = .ok (.getfield 25, 3) := by decide +kernel
theorem dX8_readWord_79 : decode cX8_readWord 79 = .ok (.aload_n 0, 1) := by decide +kernel
theorem dX8_readWord_80 : decode cX8_readWord 80 = .ok (.getfield 34, 3) := by decide +kernel
theorem dX8_readWord_83 : decode cX8_readWord 83 = .ok (.isub, 1) := by decide +kernel
theorem dX8_readWord_84 : decode cX8_readWord 84 = .ok (.bipush 8, 2) := by decide +kernel
theorem dX8_readWord_86 : decode cX8_readWord 86 = .ok (.if_icmp .gt 7, 3) := by decide +kernel
theorem dX8_readWord_89 : decode cX8_readWord 89 = .ok (.iconst 1, 1) := by decide +kernel
theorem dX8_readWord_90 : decode cX8_readWord 90 = .ok (.goto 4, 3) := by decide +kernel
theorem dX8_readWord_93 : decode cX8_readWord 93 = .ok (.iconst 4, 1) := by decide +kernel
theorem dX8_readWord_94 : decode cX8_readWord 94 = .ok (.putfield 45, 3) := by decide +kernel
theorem dX8_readWord_97 : decode cX8_readWord 97 = .ok (.return_, 1) := by decide +kernel
theorem dX8_readNumber_0 : decode cX8_readNumber 0 = .ok (.aload_n 0, 1) := by decide +kernel
theorem dX8_readNumber_1 : decode cX8_readNumber 1 = .ok (.getfield 25, 3) := by decide +kernel
theorem dX8_readNumber_4 : decode cX8_readNumber 4 = .ok (.aload_n 0, 1) := by decide +kernel
theorem dX8_readNumber_5 : decode cX8_readNumber 5 = .ok (.getfield 21, 3) := by decide +kernel
theorem dX8_readNumber_8 : decode cX8_readNumber 8 = .ok (.if_icmp .ge 70, 3) := by decide +kernel
theorem dX8_readNumber_11 : decode cX8_readNumber 11 = .ok (.aload_n 0, 1) := by decide +kernel
theorem dX8_readNumber_12 : decode cX8_readNumber 12 = .ok (.getfield 9, 3) := by decide +kernel
theorem dX8_readNumber_15 : decode cX8_readNumber 15 = .ok (.aload_n 0, 1) := by decide +kernel
theorem dX8_readNumber_16 : decode cX8_readNumber 16 = .ok (.getfield 25, 3) := by decide +kernel
theorem dX8_readNumber_19 : decode cX8_readNumber 19 = .ok (.baload, 1) := by decide +kernel
theorem dX8_readNumber_20 : decode cX8_readNumber 20 = .ok (.bipush 48, 2) := by decide +kernel
theorem dX8_readNumber_22 : decode cX8_readNumber 22 = .ok (.if_icmp .lt 56, 3) := by decide +kernel
theorem dX8_readNumber_25 : decode cX8_readNumber 25 = .ok (.aload_n 0, 1) := by decide +kernel
theorem dX8_readNumber_26 : decode cX8_readNumber 26 = .ok (.getfield 9, 3) := by decide +kernel
theorem dX8_readNumber_29 : decode cX8_readNumber 29 = .ok (.aload_n 0, 1) := by decide +kernel
theorem dX8_readNumber_30 : decode cX8_readNumber 30 = .ok (.getfield 25, 3) := by decide +kernel
theorem dX8_readNumber_33 : decode cX8_readNumber 33 = .ok (.baload, 1) := by decide +kernel
theorem dX8_readNumber_34 : decode cX8_readNumber 34 = .ok (.bipush 57, 2) := by decide +kernel
theorem dX8_readNumber_36 : decode cX8_readNumber 36 = .ok (.if_icmp .gt 42, 3) := by decide +kernel
theorem dX8_readNumber_39 : decode cX8_readNumber 39 = .ok (.aload_n 0, 1) := by decide +kernel
theorem dX8_readNumber_40 : decode cX8_readNumber 40 = .ok (.aload_n 0, 1) := by decide +kernel
theorem dX8_readNumber_41 : decode cX8_readNumber 41 = .ok (.getfield 41, 3) := by decide +kernel
theorem dX8_readNumber_44 : decode cX8_readNumber 44 = .ok (.ldc2_w 58, 3) := by decide +kernel
theorem dX8_readNumber_47 : decode cX8_readNumber 47 = .ok (.lmul, 1) := by decide +kernel
theorem dX8_readNumber_48 : decode cX8_readNumber 48 = .ok (.aload_n 0, 1) := by decide +kernel
theorem dX8_readNumber_49 : decode cX8_readNumber 49 = .ok (.getfield 9, 3) := by decide +kernel
theorem dX8_readNumber_52 : decode cX8_readNumber 52 = .ok (.aload_n 0, 1) := by decide +kernel
theorem dX8_readNumber_53 : decode cX8_readNumber 53 = .ok (.getfield 25, 3) := by decide +kernel
theorem dX8_readNumber_56 : decode cX8_readNumber 56 = .ok (.baload, 1) := by decide +kernel
theorem dX8_readNumber_57 : decode cX8_readNumber 57 = .ok (.bipush 48, 2) := by decide +kernel
theorem dX8_readNumber_59 : decode cX8_readNumber 59 = .ok (.isub, 1) := by decide +kernel
theorem dX8_readNumber_60 : decode cX8_readNumber 60 = .ok (.i2l, 1) := by decide +kernel
theorem dX8_readNumber_61 : decode cX8_readNumber 61 = .ok (.ladd, 1) := by decide +kernel
theorem dX8_readNumber_62 : decode cX8_readNumber 62 = .ok (.putfield 41, 3) := by decide +kernel
theorem dX8_readNumber_65 : decode cX8_readNumber 65 = .ok (.aload_n 0, 1) := by decide +kernel
theorem dX8_readNumber_66 : decode cX8_readNumber 66 = .ok (.dup, 1) := by decide +kernel
theorem dX8_readNumber_67 : decode cX8_readNumber 67 = .ok (.getfield 25, 3) := by decide +kernel
theorem dX8_readNumber_70 : decode cX8_readNumber 70 = .ok (.iconst 1, 1) := by decide +kernel
theorem dX8_readNumber_71 : decode cX8_readNumber 71 = .ok (.iadd, 1) := by decide +kernel
theorem dX8_readNumber_72 : decode cX8_readNumber 72 = .ok (.putfield 25, 3) := by decide +kernel
theorem dX8_readNumber_75 : decode cX8_readNumber 75 = .ok (.goto (-75), 3) := by decide +kernel
theorem dX8_readNumber_78 : decode cX8_readNumber 78 = .ok (.aload_n 0, 1) := by decide +kernel
theorem dX8_readNumber_79 : decode cX8_readNumber 79 = .ok (.aload_n 0, 1) := by decide +kernel
theorem dX8_readNumber_80 : decode cX8_readNumber 80 = .ok (.getfield 25, 3) := by decide +kernel
theorem dX8_readNumber_83 : decode cX8_readNumber 83 = .ok (.aload_n 0, 1) := by decide +kernel
theorem dX8_readNumber_84 : decode cX8_readNumber 84 = .ok (.getfield 34, 3) := by decide +kernel
theorem dX8_readNumber_87 : decode cX8_readNumber 87 = .ok (.isub, 1) := by decide +kernel
theorem dX8_readNumber_88 : decode cX8_readNumber 88 = .ok (.iconst 4, 1) := by decide +kernel
theorem dX8_readNumber_89 : decode cX8_readNumber 89 = .ok (.if_icmp .gt 7, 3) := by decide +kernel
theorem dX8_readNumber_92 : decode cX8_readNumber 92 = .ok (.iconst 2, 1) := by decide +kernel
theorem dX8_readNumber_93 : decode cX8_readNumber 93 = .ok (.goto 4, 3) := by decide +kernel
theorem dX8_readNumber_96 : decode cX8_readNumber 96 = .ok (.iconst 4, 1) := by decide +kernel
theorem dX8_readNumber_97 : decode cX8_readNumber 97 = .ok (.putfield 45, 3) := by decide +kernel
theorem dX8_readNumber_100 : decode cX8_readNumber 100 = .ok (.return_, 1) := by decide +kernel
theorem dX8_isSign_0 : decode cX8_isSign 0 = .ok (.iload_n 0, 1) := by decide +kernel
theorem dX8_isSign_1 : decode cX8_isSign 1 = .ok (.bipush 40, 2) := by decide +kernel
theorem dX8_isSign_3 : decode cX8_isSign 3 = .ok (.if_icmp .eq 45, 3) := by decide +kernel
theorem dX8_isSign_6 : decode cX8_isSign 6 = .ok (.iload_n 0, 1) := by decide +kernel
theorem dX8_isSign_7 : decode cX8_isSign 7 = .ok (.bipush 41, 2) := by decide +kernel
theorem dX8_isSign_9 : decode cX8_isSign 9 = .ok (.if_icmp .eq 39, 3) := by decide +kernel
theorem dX8_isSign_12 : decode cX8_isSign 12 = .ok (.iload_n 0, 1) := by decide +kernel
theorem dX8_isSign_13 : decode cX8_isSign 13 = .ok (.bipush 60, 2) := by decide +kernel
theorem dX8_isSign_15 : decode cX8_isSign 15 = .ok (.if_icmp .eq 33, 3) := by decide +kernel
theorem dX8_isSign_18 : decode cX8_isSign 18 = .ok (.iload_n 0, 1) := by decide +kernel
theorem dX8_isSign_19 : decode cX8_isSign 19 = .ok (.bipush 61, 2) := by decide +kernel
theorem dX8_isSign_21 : decode cX8_isSign 21 = .ok (.if_icmp .eq 27, 3) := by decide +kernel
theorem dX8_isSign_24 : decode cX8_isSign 24 = .ok (.iload_n 0, 1) := by decide +kernel
theorem dX8_isSign_25 : decode cX8_isSign 25 = .ok (.bipush 43, 2) := by decide +kernel
theorem dX8_isSign_27 : decode cX8_isSign 27 = .ok (.if_icmp .eq 21, 3) := by decide +kernel
theorem dX8_isSign_30 : decode cX8_isSign 30 = .ok (.iload_n 0, 1) := by decide +kernel
theorem dX8_isSign_31 : decode cX8_isSign 31 = .ok (.bipush 45, 2) := by decide +kernel
theorem dX8_isSign_33 : decode cX8_isSign 33 = .ok (.if_icmp .eq 15, 3) := by decide +kernel
theorem dX8_isSign_36 : decode cX8_isSign 36 = .ok (.iload_n 0, 1) := by decide +kernel
theorem dX8_isSign_37 : decode cX8_isSign 37 = .ok (.bipush 42, 2) := by decide +kernel
theorem dX8_isSign_39 : decode cX8_isSign 39 = .ok (.if_icmp .eq 9, 3) := by decide +kernel
theorem dX8_isSign_42 : decode cX8_isSign 42 = .ok (.iload_n 0, 1) := by decide +kernel
theorem dX8_isSign_43 : decode cX8_isSign 43 = .ok (.bipush 59, 2) := by decide +kernel
theorem dX8_isSign_45 : decode cX8_isSign 45 = .ok (.if_icmp .ne 7, 3) := by decide +kernel
theorem dX8_isSign_48 : decode cX8_isSign 48 = .ok (.iconst 1, 1) := by decide +kernel
theorem dX8_isSign_49 : decode cX8_isSign 49 = .ok (.goto 4, 3) := by decide +kernel
theorem dX8_isSign_52 : decode cX8_isSign 52 = .ok (.iconst 0, 1) := by decide +kernel
theorem dX8_isSign_53 : decode cX8_isSign 53 = .ok (.ireturn, 1) := by decide +kernel
theorem dX8_atWord_0 : decode cX8_atWord 0 = .ok (.aload_n 0, 1) := by decide +kernel
theorem dX8_atWord_1 : decode cX8_atWord 1 = .ok (.getfield 28, 3) := by decide +kernel
theorem dX8_atWord_4 : decode cX8_atWord 4 = .ok (.ifCond .ne 24, 3) := by decide +kernel
theorem dX8_atWord_7 : decode cX8_atWord 7 = .ok (.aload_n 0, 1) := by decide +kernel
theorem dX8_atWord_8 : decode cX8_atWord 8 = .ok (.getfield 45, 3) := by decide +kernel
theorem dX8_atWord_11 : decode cX8_atWord 11 = .ok (.iconst 1, 1) := by decide +kernel
theorem dX8_atWord_12 : decode cX8_atWord 12 = .ok (.if_icmp .ne 16, 3) := by decide +kernel
theorem dX8_atWord_15 : decode cX8_atWord 15 = .ok (.aload_n 0, 1) := by decide +kernel
theorem dX8_atWord_16 : decode cX8_atWord 16 = .ok (.getfield 41, 3) := by decide +kernel
theorem dX8_atWord_19 : decode cX8_atWord 19 = .ok (.lload_n 1, 1) := by decide +kernel
theorem dX8_atWord_20 : decode cX8_atWord 20 = .ok (.lcmp, 1) := by decide +kernel
theorem dX8_atWord_21 : decode cX8_atWord 21 = .ok (.ifCond .ne 7, 3) := by decide +kernel
theorem dX8_atWord_24 : decode cX8_atWord 24 = .ok (.iconst 1, 1) := by decide +kernel
theorem dX8_atWord_25 : decode cX8_atWord 25 = .ok (.goto 4, 3) := by decide +kernel
theorem dX8_atWord_28 : decode cX8_atWord 28 = .ok (.iconst 0, 1) := by decide +kernel
theorem dX8_atWord_29 : decode cX8_atWord 29 = .ok (.ireturn, 1) := by decide +kernel
theorem dX8_atSign_0 : decode cX8_atSign 0 = .ok (.aload_n 0, 1) := by decide +kernel
theorem dX8_atSign_1 : decode cX8_atSign 1 = .ok (.getfield 28, 3) := by decide +kernel
theorem dX8_atSign_4 : decode cX8_atSign 4 = .ok (.ifCond .ne 25, 3) := by decide +kernel
theorem dX8_atSign_7 : decode cX8_atSign 7 = .ok (.aload_n 0, 1) := by decide +kernel
theorem dX8_atSign_8 : decode cX8_atSign 8 = .ok (.getfield 45, 3) := by decide +kernel
theorem dX8_atSign_11 : decode cX8_atSign 11 = .ok (.iconst 3, 1) := by decide +kernel
theorem dX8_atSign_12 : decode cX8_atSign 12 = .ok (.if_icmp .ne 17, 3) := by decide +kernel
theorem dX8_atSign_15 : decode cX8_atSign 15 = .ok (.aload_n 0, 1) := by decide +kernel
theorem dX8_atSign_16 : decode cX8_atSign 16 = .ok (.getfield 41, 3) := by decide +kernel
theorem dX8_atSign_19 : decode cX8_atSign 19 = .ok (.iload_n 1, 1) := by decide +kernel
theorem dX8_atSign_20 : decode cX8_atSign 20 = .ok (.i2l, 1) := by decide +kernel
theorem dX8_atSign_21 : decode cX8_atSign 21 = .ok (.lcmp, 1) := by decide +kernel
theorem dX8_atSign_22 : decode cX8_atSign 22 = .ok (.ifCond .ne 7, 3) := by decide +kernel
theorem dX8_atSign_25 : decode cX8_atSign 25 = .ok (.iconst 1, 1) := by decide +kernel
theorem dX8_atSign_26 : decode cX8_atSign 26 = .ok (.goto 4, 3) := by decide +kernel
theorem dX8_atSign_29 : decode cX8_atSign 29 = .ok (.iconst 0, 1) := by decide +kernel
theorem dX8_atSign_30 : decode cX8_atSign 30 = .ok (.ireturn, 1) := by decide +kernel
theorem dX8_atNumber_0 : decode cX8_atNumber 0 = .ok (.aload_n 0, 1) := by decide +kernel
theorem dX8_atNumber_1 : decode cX8_atNumber 1 = .ok (.getfield 28, 3) := by decide +kernel
theorem dX8_atNumber_4 : decode cX8_atNumber 4 = .ok (.ifCond .ne 15, 3) := by decide +kernel
theorem dX8_atNumber_7 : decode cX8_atNumber 7 = .ok (.aload_n 0, 1) := by decide +kernel
theorem dX8_atNumber_8 : decode cX8_atNumber 8 = .ok (.getfield 45, 3) := by decide +kernel
theorem dX8_atNumber_11 : decode cX8_atNumber 11 = .ok (.iconst 2, 1) := by decide +kernel
theorem dX8_atNumber_12 : decode cX8_atNumber 12 = .ok (.if_icmp .ne 7, 3) := by decide +kernel
theorem dX8_atNumber_15 : decode cX8_atNumber 15 = .ok (.iconst 1, 1) := by decide +kernel
theorem dX8_atNumber_16 : decode cX8_atNumber 16 = .ok (.goto 4, 3) := by decide +kernel
theorem dX8_atNumber_19 : decode cX8_atNumber 19 = .ok (.iconst 0, 1) := by decide +kernel
theorem dX8_atNumber_20 : decode cX8_atNumber 20 = .ok (.ireturn, 1) := by decide +kernel
theorem dX8_atName_0 : decode cX8_atName 0 = .ok (.aload_n 0, 1) := by decide +kernel
theorem dX8_atName_1 : decode cX8_atName 1 = .ok (.getfield 28, 3) := by decide +kernel
theorem dX8_atName_4 : decode cX8_atName 4 = .ok (.ifCond .eq 5, 3) := by decide +kernel
theorem dX8_atName_7 : decode cX8_atName 7 = .ok (.iconst 0, 1) := by decide +kernel
theorem dX8_atName_8 : decode cX8_atName 8 = .ok (.ireturn, 1) := by decide +kernel
theorem dX8_atName_9 : decode cX8_atName 9 = .ok (.aload_n 0, 1) := by decide +kernel
theorem dX8_atName_10 : decode cX8_atName 10 = .ok (.getfield 45, 3) := by decide +kernel
theorem dX8_atName_13 : decode cX8_atName 13 = .ok (.iconst 1, 1) := by decide +kernel
theorem dX8_atName_14 : decode cX8_atName 14 = .ok (.if_icmp .ne 13, 3) := by decide +kernel
theorem dX8_atName_17 : decode cX8_atName 17 = .ok (.aload_n 0, 1) := by decide +kernel
theorem dX8_atName_18 : decode cX8_atName 18 = .ok (.getfield 41, 3) := by decide +kernel
theorem dX8_atName_21 : decode cX8_atName 21 = .ok (.invokestatic 60, 3) := by decide +kernel
theorem dX8_atName_24 : decode cX8_atName 24 = .ok (.ifCond .eq 10, 3) := by decide +kernel
theorem dX8_atName_27 : decode cX8_atName 27 = .ok (.aload_n 0, 1) := by decide +kernel
theorem dX8_atName_28 : decode cX8_atName 28 = .ok (.iconst 1, 1) := by decide +kernel
theorem dX8_atName_29 : decode cX8_atName 29 = .ok (.invokevirtual 64, 3) := by decide +kernel
theorem dX8_atName_32 : decode cX8_atName 32 = .ok (.iconst 0, 1) := by decide +kernel
theorem dX8_atName_33 : decode cX8_atName 33 = .ok (.ireturn, 1) := by decide +kernel
theorem dX8_atName_34 : decode cX8_atName 34 = .ok (.iconst 1, 1) := by decide +kernel
theorem dX8_atName_35 : decode cX8_atName 35 = .ok (.ireturn, 1) := by decide +kernel
theorem dX8_isKept_0 : decode cX8_isKept 0 = .ok (.iconst 0, 1) := by decide +kernel
theorem dX8_isKept_1 : decode cX8_isKept 1 = .ok (.istore_n 2, 1) := by decide +kernel
theorem dX8_isKept_2 : decode cX8_isKept 2 = .ok (.iload_n 2, 1) := by decide +kernel
theorem dX8_isKept_3 : decode cX8_isKept 3 = .ok (.getstatic 68, 3) := by decide +kernel
theorem dX8_isKept_6 : decode cX8_isKept 6 = .ok (.arraylength, 1) := by decide +kernel
theorem dX8_isKept_7 : decode cX8_isKept 7 = .ok (.if_icmp .ge 21, 3) := by decide +kernel
theorem dX8_isKept_10 : decode cX8_isKept 10 = .ok (.getstatic 68, 3) := by decide +kernel
theorem dX8_isKept_13 : decode cX8_isKept 13 = .ok (.iload_n 2, 1) := by decide +kernel
theorem dX8_isKept_14 : decode cX8_isKept 14 = .ok (.laload, 1) := by decide +kernel
theorem dX8_isKept_15 : decode cX8_isKept 15 = .ok (.lload_n 0, 1) := by decide +kernel
theorem dX8_isKept_16 : decode cX8_isKept 16 = .ok (.lcmp, 1) := by decide +kernel
theorem dX8_isKept_17 : decode cX8_isKept 17 = .ok (.ifCond .ne 5, 3) := by decide +kernel
theorem dX8_isKept_20 : decode cX8_isKept 20 = .ok (.iconst 1, 1) := by decide +kernel
theorem dX8_isKept_21 : decode cX8_isKept 21 = .ok (.ireturn, 1) := by decide +kernel
theorem dX8_isKept_22 : decode cX8_isKept 22 = .ok (.iinc 2 1, 3) := by decide +kernel
theorem dX8_isKept_25 : decode cX8_isKept 25 = .ok (.goto (-23), 3) := by decide +kernel
theorem dX8_isKept_28 : decode cX8_isKept 28 = .ok (.iconst 0, 1) := by decide +kernel
theorem dX8_isKept_29 : decode cX8_isKept 29 = .ok (.ireturn, 1) := by decide +kernel
theorem dX8_passWord_0 : decode cX8_passWord 0 = .ok (.aload_n 0, 1) := by decide +kernel
theorem dX8_passWord_1 : decode cX8_passWord 1 = .ok (.lload_n 1, 1) := by decide +kernel
theorem dX8_passWord_2 : decode cX8_passWord 2 = .ok (.invokevirtual 72, 3) := by decide +kernel
theorem dX8_passWord_5 : decode cX8_passWord 5 = .ok (.ifCond .eq 10, 3) := by decide +kernel
theorem dX8_passWord_8 : decode cX8_passWord 8 = .ok (.aload_n 0, 1) := by decide +kernel
theorem dX8_passWord_9 : decode cX8_passWord 9 = .ok (.invokevirtual 31, 3) := by decide +kernel
theorem dX8_passWord_12 : decode cX8_passWord 12 = .ok (.goto 8, 3) := by decide +kernel
theorem dX8_passWord_15 : decode cX8_passWord 15 = .ok (.aload_n 0, 1) := by decide +kernel
theorem dX8_passWord_16 : decode cX8_passWord 16 = .ok (.iconst 1, 1) := by decide +kernel
theorem dX8_passWord_17 : decode cX8_passWord 17 = .ok (.invokevirtual 64, 3) := by decide +kernel
theorem dX8_passWord_20 : decode cX8_passWord 20 = .ok (.return_, 1) := by decide +kernel
theorem dX8_passSign_0 : decode cX8_passSign 0 = .ok (.aload_n 0, 1) := by decide +kernel
theorem dX8_passSign_1 : decode cX8_passSign 1 = .ok (.iload_n 1, 1) := by decide +kernel
theorem dX8_passSign_2 : decode cX8_passSign 2 = .ok (.invokevirtual 75, 3) := by decide +kernel
theorem dX8_passSign_5 : decode cX8_passSign 5 = .ok (.ifCond .eq 10, 3) := by decide +kernel
theorem dX8_passSign_8 : decode cX8_passSign 8 = .ok (.aload_n 0, 1) := by decide +kernel
theorem dX8_passSign_9 : decode cX8_passSign 9 = .ok (.invokevirtual 31, 3) := by decide +kernel
theorem dX8_passSign_12 : decode cX8_passSign 12 = .ok (.goto 8, 3) := by decide +kernel
theorem dX8_passSign_15 : decode cX8_passSign 15 = .ok (.aload_n 0, 1) := by decide +kernel
theorem dX8_passSign_16 : decode cX8_passSign 16 = .ok (.iconst 1, 1) := by decide +kernel
theorem dX8_passSign_17 : decode cX8_passSign 17 = .ok (.invokevirtual 64, 3) := by decide +kernel
theorem dX8_passSign_20 : decode cX8_passSign 20 = .ok (.return_, 1) := by decide +kernel
theorem dX8_passNumber_0 : decode cX8_passNumber 0 = .ok (.aload_n 0, 1) := by decide +kernel
theorem dX8_passNumber_1 : decode cX8_passNumber 1 = .ok (.invokevirtual 79, 3) := by decide +kernel
theorem dX8_passNumber_4 : decode cX8_passNumber 4 = .ok (.ifCond .ne 10, 3) := by decide +kernel
theorem dX8_passNumber_7 : decode cX8_passNumber 7 = .ok (.aload_n 0, 1) := by decide +kernel
theorem dX8_passNumber_8 : decode cX8_passNumber 8 = .ok (.iconst 1, 1) := by decide +kernel
theorem dX8_passNumber_9 : decode cX8_passNumber 9 = .ok (.invokevirtual 64, 3) := by decide +kernel
theorem dX8_passNumber_12 : decode cX8_passNumber 12 = .ok (.iload_n 1, 1) := by decide +kernel
theorem dX8_passNumber_13 : decode cX8_passNumber 13 = .ok (.ireturn, 1) := by decide +kernel
theorem dX8_passNumber_14 : decode cX8_passNumber 14 = .ok (.aload_n 0, 1) := by decide +kernel
theorem dX8_passNumber_15 : decode cX8_passNumber 15 = .ok (.getfield 41, 3) := by decide +kernel
theorem dX8_passNumber_18 : decode cX8_passNumber 18 = .ok (.iload_n 1, 1) := by decide +kernel
theorem dX8_passNumber_19 : decode cX8_passNumber 19 = .ok (.i2l, 1) := by decide +kernel
theorem dX8_passNumber_20 : decode cX8_passNumber 20 = .ok (.lcmp, 1) := by decide +kernel
theorem dX8_passNumber_21 : decode cX8_passNumber 21 = .ok (.ifCond .lt 13, 3) := by decide +kernel
theorem dX8_passNumber_24 : decode cX8_passNumber 24 = .ok (.aload_n 0, 1) := by decide +kernel
theorem dX8_passNumber_25 : decode cX8_passNumber 25 = .ok (.getfield 41, 3) := by decide +kernel
theorem dX8_passNumber_28 : decode cX8_passNumber 28 = .ok (.iload_n 2, 1) := by decide +kernel
theorem dX8_passNumber_29 : decode cX8_passNumber 29 = .ok (.i2l, 1) := by decide +kernel
theorem dX8_passNumber_30 : decode cX8_passNumber 30 = .ok (.lcmp, 1) := by decide +kernel
theorem dX8_passNumber_31 : decode cX8_passNumber 31 = .ok (.ifCond .le 10, 3) := by decide +kernel
theorem dX8_passNumber_34 : decode cX8_passNumber 34 = .ok (.aload_n 0, 1) := by decide +kernel
theorem dX8_passNumber_35 : decode cX8_passNumber 35 = .ok (.iconst 4, 1) := by decide +kernel
theorem dX8_passNumber_36 : decode cX8_passNumber 36 = .ok (.invokevirtual 64, 3) := by decide +kernel
theorem dX8_passNumber_39 : decode cX8_passNumber 39 = .ok (.iload_n 1, 1) := by decide +kernel
theorem dX8_passNumber_40 : decode cX8_passNumber 40 = .ok (.ireturn, 1) := by decide +kernel
theorem dX8_passNumber_41 : decode cX8_passNumber 41 = .ok (.aload_n 0, 1) := by decide +kernel
theorem dX8_passNumber_42 : decode cX8_passNumber 42 = .ok (.getfield 41, 3) := by decide +kernel
theorem dX8_passNumber_45 : decode cX8_passNumber 45 = .ok (.l2i, 1) := by decide +kernel
theorem dX8_passNumber_46 : decode cX8_passNumber 46 = .ok (.istore_n 3, 1) := by decide +kernel
theorem dX8_passNumber_47 : decode cX8_passNumber 47 = .ok (.aload_n 0, 1) := by decide +kernel
theorem dX8_passNumber_48 : decode cX8_passNumber 48 = .ok (.invokevirtual 31, 3) := by decide +kernel
theorem dX8_passNumber_51 : decode cX8_passNumber 51 = .ok (.iload_n 3, 1) := by decide +kernel
theorem dX8_passNumber_52 : decode cX8_passNumber 52 = .ok (.ireturn, 1) := by decide +kernel
theorem dX8_passTold_0 : decode cX8_passTold 0 = .ok (.aload_n 0, 1) := by decide +kernel
theorem dX8_passTold_1 : decode cX8_passTold 1 = .ok (.invokevirtual 83, 3) := by decide +kernel
theorem dX8_passTold_4 : decode cX8_passTold 4 = .ok (.ifCond .ne 5, 3) := by decide +kernel
theorem dX8_passTold_7 : decode cX8_passTold 7 = .ok (.iconst (-1), 1) := by decide +kernel
theorem dX8_passTold_8 : decode cX8_passTold 8 = .ok (.ireturn, 1) := by decide +kernel
theorem dX8_passTold_9 : decode cX8_passTold 9 = .ok (.aload_n 1, 1) := by decide +kernel
theorem dX8_passTold_10 : decode cX8_passTold 10 = .ok (.aload_n 0, 1) := by decide +kernel
theorem dX8_passTold_11 : decode cX8_passTold 11 = .ok (.getfield 41, 3) := by decide +kernel
theorem dX8_passTold_14 : decode cX8_passTold 14 = .ok (.invokevirtual 86, 3) := by decide +kernel
theorem dX8_passTold_17 : decode cX8_passTold 17 = .ok (.istore_n 2, 1) := by decide +kernel
theorem dX8_passTold_18 : decode cX8_passTold 18 = .ok (.iload_n 2, 1) := by decide +kernel
theorem dX8_passTold_19 : decode cX8_passTold 19 = .ok (.iconst (-1), 1) := by decide +kernel
theorem dX8_passTold_20 : decode cX8_passTold 20 = .ok (.if_icmp .ne 10, 3) := by decide +kernel
theorem dX8_passTold_23 : decode cX8_passTold 23 = .ok (.aload_n 0, 1) := by decide +kernel
theorem dX8_passTold_24 : decode cX8_passTold 24 = .ok (.iconst 2, 1) := by decide +kernel
theorem dX8_passTold_25 : decode cX8_passTold 25 = .ok (.invokevirtual 64, 3) := by decide +kernel
theorem dX8_passTold_28 : decode cX8_passTold 28 = .ok (.iconst (-1), 1) := by decide +kernel
theorem dX8_passTold_29 : decode cX8_passTold 29 = .ok (.ireturn, 1) := by decide +kernel
theorem dX8_passTold_30 : decode cX8_passTold 30 = .ok (.aload_n 0, 1) := by decide +kernel
theorem dX8_passTold_31 : decode cX8_passTold 31 = .ok (.invokevirtual 31, 3) := by decide +kernel
theorem dX8_passTold_34 : decode cX8_passTold 34 = .ok (.iload_n 2, 1) := by decide +kernel
theorem dX8_passTold_35 : decode cX8_passTold 35 = .ok (.ireturn, 1) := by decide +kernel
theorem dX9_init_0 : decode cX9_init 0 = .ok (.aload_n 0, 1) := by decide +kernel
theorem dX9_init_1 : decode cX9_init 1 = .ok (.invokespecial 1, 3) := by decide +kernel
theorem dX9_init_4 : decode cX9_init 4 = .ok (.aload_n 0, 1) := by decide +kernel
theorem dX9_init_5 : decode cX9_init 5 = .ok (.new 7, 3) := by decide +kernel
theorem dX9_init_8 : decode cX9_init 8 = .ok (.dup, 1) := by decide +kernel
theorem dX9_init_9 : decode cX9_init 9 = .ok (.invokespecial 9, 3) := by decide +kernel
theorem dX9_init_12 : decode cX9_init 12 = .ok (.putfield 10, 3) := by decide +kernel
theorem dX9_init_15 : decode cX9_init 15 = .ok (.aload_n 0, 1) := by decide +kernel
theorem dX9_init_16 : decode cX9_init 16 = .ok (.new 16, 3) := by decide +kernel
theorem dX9_init_19 : decode cX9_init 19 = .ok (.dup, 1) := by decide +kernel
theorem dX9_init_20 : decode cX9_init 20 = .ok (.invokespecial 18, 3) := by decide +kernel
theorem dX9_init_23 : decode cX9_init 23 = .ok (.putfield 19, 3) := by decide +kernel
theorem dX9_init_26 : decode cX9_init 26 = .ok (.aload_n 0, 1) := by decide +kernel
theorem dX9_init_27 : decode cX9_init 27 = .ok (.new 16, 3) := by decide +kernel
theorem dX9_init_30 : decode cX9_init 30 = .ok (.dup, 1) := by decide +kernel
theorem dX9_init_31 : decode cX9_init 31 = .ok (.invokespecial 18, 3) := by decide +kernel
theorem dX9_init_34 : decode cX9_init 34 = .ok (.putfield 23, 3) := by decide +kernel
theorem dX9_init_37 : decode cX9_init 37 = .ok (.aload_n 0, 1) := by decide +kernel
theorem dX9_init_38 : decode cX9_init 38 = .ok (.new 26, 3) := by decide +kernel
theorem dX9_init_41 : decode cX9_init 41 = .ok (.dup, 1) := by decide +kernel
theorem dX9_init_42 : decode cX9_init 42 = .ok (.invokespecial 28, 3) := by decide +kernel
theorem dX9_init_45 : decode cX9_init 45 = .ok (.putfield 29, 3) := by decide +kernel
theorem dX9_init_48 : decode cX9_init 48 = .ok (.aload_n 0, 1) := by decide +kernel
theorem dX9_init_49 : decode cX9_init 49 = .ok (.new 26, 3) := by decide +kernel
theorem dX9_init_52 : decode cX9_init 52 = .ok (.dup, 1) := by decide +kernel
theorem dX9_init_53 : decode cX9_init 53 = .ok (.invokespecial 28, 3) := by decide +kernel
theorem dX9_init_56 : decode cX9_init 56 = .ok (.putfield 33, 3) := by decide +kernel
theorem dX9_init_59 : decode cX9_init 59 = .ok (.aload_n 0, 1) := by decide +kernel
theorem dX9_init_60 : decode cX9_init 60 = .ok (.new 36, 3) := by decide +kernel
theorem dX9_init_63 : decode cX9_init 63 = .ok (.dup, 1) := by decide +kernel
theorem dX9_init_64 : decode cX9_init 64 = .ok (.invokespecial 38, 3) := by decide +kernel
theorem dX9_init_67 : decode cX9_init 67 = .ok (.putfield 39, 3) := by decide +kernel
theorem dX9_init_70 : decode cX9_init 70 = .ok (.aload_n 0, 1) := by decide +kernel
theorem dX9_init_71 : decode cX9_init 71 = .ok (.new 36, 3) := by decide +kernel
theorem dX9_init_74 : decode cX9_init 74 = .ok (.dup, 1) := by decide +kernel
theorem dX9_init_75 : decode cX9_init 75 = .ok (.invokespecial 38, 3) := by decide +kernel
theorem dX9_init_78 : decode cX9_init 78 = .ok (.putfield 43, 3) := by decide +kernel
theorem dX9_init_81 : decode cX9_init 81 = .ok (.aload_n 0, 1) := by decide +kernel
theorem dX9_init_82 : decode cX9_init 82 = .ok (.new 46, 3) := by decide +kernel
theorem dX9_init_85 : decode cX9_init 85 = .ok (.dup, 1) := by decide +kernel
theorem dX9_init_86 : decode cX9_init 86 = .ok (.invokespecial 48, 3) := by decide +kernel
theorem dX9_init_89 : decode cX9_init 89 = .ok (.putfield 49, 3) := by decide +kernel
theorem dX9_init_92 : decode cX9_init 92 = .ok (.aload_n 0, 1) := by decide +kernel
theorem dX9_init_93 : decode cX9_init 93 = .ok (.new 53, 3) := by decide +kernel
theorem dX9_init_96 : decode cX9_init 96 = .ok (.dup, 1) := by decide +kernel
theorem dX9_init_97 : decode cX9_init 97 = .ok (.invokespecial 55, 3) := by decide +kernel
theorem dX9_init_100 : decode cX9_init 100 = .ok (.putfield 56, 3) := by decide +kernel
theorem dX9_init_103 : decode cX9_init 103 = .ok (.aload_n 0, 1) := by decide +kernel
theorem dX9_init_104 : decode cX9_init 104 = .ok (.bipush 16, 2) := by decide +kernel
theorem dX9_init_106 : decode cX9_init 106 = .ok (.anewarray 36, 3) := by decide +kernel
theorem dX9_init_109 : decode cX9_init 109 = .ok (.putfield 60, 3) := by decide +kernel
theorem dX9_init_112 : decode cX9_init 112 = .ok (.aload_n 0, 1) := by decide +kernel
theorem dX9_init_113 : decode cX9_init 113 = .ok (.iconst 4, 1) := by decide +kernel
theorem dX9_init_114 : decode cX9_init 114 = .ok (.anewarray 64, 3) := by decide +kernel
theorem dX9_init_117 : decode cX9_init 117 = .ok (.putfield 66, 3) := by decide +kernel
theorem dX9_init_120 : decode cX9_init 120 = .ok (.aload_n 0, 1) := by decide +kernel
theorem dX9_init_121 : decode cX9_init 121 = .ok (.bipush 10, 2) := by decide +kernel
theorem dX9_init_123 : decode cX9_init 123 = .ok (.newarray .int, 2) := by decide +kernel
theorem dX9_init_125 : decode cX9_init 125 = .ok (.putfield 70, 3) := by decide +kernel
theorem dX9_init_128 : decode cX9_init 128 = .ok (.iconst 0, 1) := by decide +kernel
theorem dX9_init_129 : decode cX9_init 129 = .ok (.istore_n 1, 1) := by decide +kernel
theorem dX9_init_130 : decode cX9_init 130 = .ok (.iload_n 1, 1) := by decide +kernel
theorem dX9_init_131 : decode cX9_init 131 = .ok (.bipush 16, 2) := by decide +kernel
theorem dX9_init_133 : decode cX9_init 133 = .ok (.if_icmp .ge 22, 3) := by decide +kernel
theorem dX9_init_136 : decode cX9_init 136 = .ok (.aload_n 0, 1) := by decide +kernel
theorem dX9_init_137 : decode cX9_init 137 = .ok (.getfield 60, 3) := by decide +kernel
theorem dX9_init_140 : decode cX9_init 140 = .ok (.iload_n 1, 1) := by decide +kernel
theorem dX9_init_141 : decode cX9_init 141 = .ok (.new 36, 3) := by decide +kernel
theorem dX9_init_144 : decode cX9_init 144 = .ok (.dup, 1) := by decide +kernel
theorem dX9_init_145 : decode cX9_init 145 = .ok (.invokespecial 38, 3) := by decide +kernel
theorem dX9_init_148 : decode cX9_init 148 = .ok (.aastore, 1) := by decide +kernel
theorem dX9_init_149 : decode cX9_init 149 = .ok (.iinc 1 1, 3) := by decide +kernel
theorem dX9_init_152 : decode cX9_init 152 = .ok (.goto (-22), 3) := by decide +kernel
theorem dX9_init_155 : decode cX9_init 155 = .ok (.iconst 0, 1) := by decide +kernel
theorem dX9_init_156 : decode cX9_init 156 = .ok (.istore_n 1, 1) := by decide +kernel
theorem dX9_init_157 : decode cX9_init 157 = .ok (.iload_n 1, 1) := by decide +kernel
theorem dX9_init_158 : decode cX9_init 158 = .ok (.iconst 4, 1) := by decide +kernel
theorem dX9_init_159 : decode cX9_init 159 = .ok (.if_icmp .ge 22, 3) := by decide +kernel
theorem dX9_init_162 : decode cX9_init 162 = .ok (.aload_n 0, 1) := by decide +kernel
theorem dX9_init_163 : decode cX9_init 163 = .ok (.getfield 66, 3) := by decide +kernel
theorem dX9_init_166 : decode cX9_init 166 = .ok (.iload_n 1, 1) := by decide +kernel
theorem dX9_init_167 : decode cX9_init 167 = .ok (.new 64, 3) := by decide +kernel
theorem dX9_init_170 : decode cX9_init 170 = .ok (.dup, 1) := by decide +kernel
theorem dX9_init_171 : decode cX9_init 171 = .ok (.invokespecial 74, 3) := by decide +kernel
theorem dX9_init_174 : decode cX9_init 174 = .ok (.aastore, 1) := by decide +kernel
theorem dX9_init_175 : decode cX9_init 175 = .ok (.iinc 1 1, 3) := by decide +kernel
theorem dX9_init_178 : decode cX9_init 178 = .ok (.goto (-21), 3) := by decide +kernel
theorem dX9_init_181 : decode cX9_init 181 = .ok (.aload_n 0, 1) := by decide +kernel
theorem dX9_init_182 : decode cX9_init 182 = .ok (.getfield 39, 3) := by decide +kernel
theorem dX9_init_185 : decode cX9_init 185 = .ok (.aload_n 0, 1) := by decide +kernel
theorem dX9_init_186 : decode cX9_init 186 = .ok (.getfield 19, 3) := by decide +kernel
theorem dX9_init_189 : decode cX9_init 189 = .ok (.invokevirtual 75, 3) := by decide +kernel
theorem dX9_init_192 : decode cX9_init 192 = .ok (.return_, 1) := by decide +kernel
theorem dX9_feed_0 : decode cX9_feed 0 = .ok (.aload_n 0, 1) := by decide +kernel
theorem dX9_feed_1 : decode cX9_feed 1 = .ok (.getfield 10, 3) := by decide +kernel
theorem dX9_feed_4 : decode cX9_feed 4 = .ok (.lload_n 1, 1) := by decide +kernel
theorem dX9_feed_5 : decode cX9_feed 5 = .ok (.invokevirtual 79, 3) := by decide +kernel
theorem dX9_feed_8 : decode cX9_feed 8 = .ok (.aload_n 0, 1) := by decide +kernel
theorem dX9_feed_9 : decode cX9_feed 9 = .ok (.getfield 10, 3) := by decide +kernel
theorem dX9_feed_12 : decode cX9_feed 12 = .ok (.lload_n 3, 1) := by decide +kernel
theorem dX9_feed_13 : decode cX9_feed 13 = .ok (.invokevirtual 79, 3) := by decide +kernel
theorem dX9_feed_16 : decode cX9_feed 16 = .ok (.aload_n 0, 1) := by decide +kernel
theorem dX9_feed_17 : decode cX9_feed 17 = .ok (.getfield 10, 3) := by decide +kernel
theorem dX9_feed_20 : decode cX9_feed 20 = .ok (.lload 5, 2) := by decide +kernel
theorem dX9_feed_22 : decode cX9_feed 22 = .ok (.invokevirtual 79, 3) := by decide +kernel
theorem dX9_feed_25 : decode cX9_feed 25 = .ok (.aload_n 0, 1) := by decide +kernel
theorem dX9_feed_26 : decode cX9_feed 26 = .ok (.getfield 10, 3) := by decide +kernel
theorem dX9_feed_29 : decode cX9_feed 29 = .ok (.getfield 83, 3) := by decide +kernel
theorem dX9_feed_32 : decode cX9_feed 32 = .ok (.ireturn, 1) := by decide +kernel
theorem dX9_county_0 : decode cX9_county 0 = .ok (.aload_n 0, 1) := by decide +kernel
theorem dX9_county_1 : decode cX9_county 1 = .ok (.getfield 23, 3) := by decide +kernel
theorem dX9_county_4 : decode cX9_county 4 = .ok (.aload_n 0, 1) := by decide +kernel
theorem dX9_county_5 : decode cX9_county 5 = .ok (.getfield 10, 3) := by decide +kernel
theorem dX9_county_8 : decode cX9_county 8 = .ok (.invokevirtual 87, 3) := by decide +kernel
theorem dX9_county_11 : decode cX9_county 11 = .ok (.aload_n 0, 1) := by decide +kernel
theorem dX9_county_12 : decode cX9_county 12 = .ok (.getfield 10, 3) := by decide +kernel
theorem dX9_county_15 : decode cX9_county 15 = .ok (.invokevirtual 91, 3) := by decide +kernel
theorem dX9_county_18 : decode cX9_county 18 = .ok (.istore_n 1, 1) := by decide +kernel
theorem dX9_county_19 : decode cX9_county 19 = .ok (.iload_n 1, 1) := by decide +kernel
theorem dX9_county_20 : decode cX9_county 20 = .ok (.ifCond .ne 25, 3) := by decide +kernel
theorem dX9_county_23 : decode cX9_county 23 = .ok (.aload_n 0, 1) := by decide +kernel
theorem dX9_county_24 : decode cX9_county 24 = .ok (.getfield 19, 3) := by decide +kernel
theorem dX9_county_27 : decode cX9_county 27 = .ok (.astore_n 2, 1) := by decide +kernel
theorem dX9_county_28 : decode cX9_county 28 = .ok (.aload_n 0, 1) := by decide +kernel
theorem dX9_county_29 : decode cX9_county 29 = .ok (.aload_n 0, 1) := by decide +kernel
theorem dX9_county_30 : decode cX9_county 30 = .ok (.getfield 23, 3) := by decide +kernel
theorem dX9_county_33 : decode cX9_county 33 = .ok (.putfield 19, 3) := by decide +kernel
theorem dX9_county_36 : decode cX9_county 36 = .ok (.aload_n 0, 1) := by decide +kernel
theorem dX9_county_37 : decode cX9_county 37 = .ok (.aload_n 2, 1) := by decide +kernel
theorem dX9_county_38 : decode cX9_county 38 = .ok (.putfield 23, 3) := by decide +kernel
theorem dX9_county_41 : decode cX9_county 41 = .ok (.aload_n 0, 1) := by decide +kernel
theorem dX9_county_42 : decode cX9_county 42 = .ok (.invokevirtual 95, 3) := by decide +kernel
theorem dX9_county_45 : decode cX9_county 45 = .ok (.iload_n 1, 1) := by decide +kernel
theorem dX9_county_46 : decode cX9_county 46 = .ok (.ireturn, 1) := by decide +kernel
theorem dX9_startAnew_0 : decode cX9_startAnew 0 = .ok (.aload_n 0, 1) := by decide +kernel
theorem dX9_startAnew_1 : decode cX9_startAnew 1 = .ok (.getfield 39, 3) := by decide +kernel
theorem dX9_startAnew_4 : decode cX9_startAnew 4 = .ok (.aload_n 0, 1) := by decide +kernel
theorem dX9_startAnew_5 : decode cX9_startAnew 5 = .ok (.getfield 19, 3) := by decide +kernel
theorem dX9_startAnew_8 : decode cX9_startAnew 8 = .ok (.invokevirtual 75, 3) := by decide +kernel
theorem dX9_startAnew_11 : decode cX9_startAnew 11 = .ok (.aload_n 0, 1) := by decide +kernel
theorem dX9_startAnew_12 : decode cX9_startAnew 12 = .ok (.getfield 29, 3) := by decide +kernel
theorem dX9_startAnew_15 : decode cX9_startAnew 15 = .ok (.iconst 0, 1) := by decide +kernel
theorem dX9_startAnew_16 : decode cX9_startAnew 16 = .ok (.putfield 98, 3) := by decide +kernel
theorem dX9_startAnew_19 : decode cX9_startAnew 19 = .ok (.aload_n 0, 1) := by decide +kernel
theorem dX9_startAnew_20 : decode cX9_startAnew 20 = .ok (.getfield 49, 3) := by decide +kernel
theorem dX9_startAnew_23 : decode cX9_startAnew 23 = .ok (.iconst 0, 1) := by decide +kernel
theorem dX9_startAnew_24 : decode cX9_startAnew 24 = .ok (.putfield 101, 3) := by decide +kernel
theorem dX9_startAnew_27 : decode cX9_startAnew 27 = .ok (.iconst 0, 1) := by decide +kernel
theorem dX9_startAnew_28 : decode cX9_startAnew 28 = .ok (.istore_n 1, 1) := by decide +kernel
theorem dX9_startAnew_29 : decode cX9_startAnew 29 = .ok (.iload_n 1, 1) := by decide +kernel
theorem dX9_startAnew_30 : decode cX9_startAnew 30 = .ok (.iconst 4, 1) := by decide +kernel
theorem dX9_startAnew_31 : decode cX9_startAnew 31 = .ok (.if_icmp .ge 19, 3) := by decide +kernel
theorem dX9_startAnew_34 : decode cX9_startAnew 34 = .ok (.aload_n 0, 1) := by decide +kernel
theorem dX9_startAnew_35 : decode cX9_startAnew 35 = .ok (.getfield 66, 3) := by decide +kernel
theorem dX9_startAnew_38 : decode cX9_startAnew 38 = .ok (.iload_n 1, 1) := by decide +kernel
theorem dX9_startAnew_39 : decode cX9_startAnew 39 = .ok (.aaload, 1) := by decide +kernel
theorem dX9_startAnew_40 : decode cX9_startAnew 40 = .ok (.iconst 0, 1) := by decide +kernel
theorem dX9_startAnew_41 : decode cX9_startAnew 41 = .ok (.putfield 102, 3) := by decide +kernel
theorem dX9_startAnew_44 : decode cX9_startAnew 44 = .ok (.iinc 1 1, 3) := by decide +kernel
theorem dX9_startAnew_47 : decode cX9_startAnew 47 = .ok (.goto (-18), 3) := by decide +kernel
theorem dX9_startAnew_50 : decode cX9_startAnew 50 = .ok (.aload_n 0, 1) := by decide +kernel
theorem dX9_startAnew_51 : decode cX9_startAnew 51 = .ok (.invokevirtual 106, 3) := by decide +kernel
theorem dX9_startAnew_54 : decode cX9_startAnew 54 = .ok (.aload_n 0, 1) := by decide +kernel
theorem dX9_startAnew_55 : decode cX9_startAnew 55 = .ok (.getfield 56, 3) := by decide +kernel
theorem dX9_startAnew_58 : decode cX9_startAnew 58 = .ok (.invokevirtual 109, 3) := by decide +kernel
theorem dX9_startAnew_61 : decode cX9_startAnew 61 = .ok (.return_, 1) := by decide +kernel
theorem dX9_session_0 : decode cX9_session 0 = .ok (.aload_n 0, 1) := by decide +kernel
theorem dX9_session_1 : decode cX9_session 1 = .ok (.getfield 33, 3) := by decide +kernel
theorem dX9_session_4 : decode cX9_session 4 = .ok (.aload_n 0, 1) := by decide +kernel
theorem dX9_session_5 : decode cX9_session 5 = .ok (.getfield 10, 3) := by decide +kernel
theorem dX9_session_8 : decode cX9_session 8 = .ok (.aload_n 0, 1) := by decide +kernel
theorem dX9_session_9 : decode cX9_session 9 = .ok (.getfield 19, 3) := by decide +kernel
theorem dX9_session_12 : decode cX9_session 12 = .ok (.invokevirtual 112, 3) := by decide +kernel
theorem dX9_session_15 : decode cX9_session 15 = .ok (.aload_n 0, 1) := by decide +kernel
theorem dX9_session_16 : decode cX9_session 16 = .ok (.getfield 10, 3) := by decide +kernel
theorem dX9_session_19 : decode cX9_session 19 = .ok (.invokevirtual 91, 3) := by decide +kernel
theorem dX9_session_22 : decode cX9_session 22 = .ok (.istore_n 1, 1) := by decide +kernel
theorem dX9_session_23 : decode cX9_session 23 = .ok (.iload_n 1, 1) := by decide +kernel
theorem dX9_session_24 : decode cX9_session 24 = .ok (.ifCond .ne 21, 3) := by decide +kernel
theorem dX9_session_27 : decode cX9_session 27 = .ok (.aload_n 0, 1) := by decide +kernel
theorem dX9_session_28 : decode cX9_session 28 = .ok (.getfield 29, 3) := by decide +kernel
theorem dX9_session_31 : decode cX9_session 31 = .ok (.astore_n 2, 1) := by decide +kernel
theorem dX9_session_32 : decode cX9_session 32 = .ok (.aload_n 0, 1) := by decide +kernel
theorem dX9_session_33 : decode cX9_session 33 = .ok (.aload_n 0, 1) := by decide +kernel
theorem dX9_session_34 : decode cX9_session 34 = .ok (.getfield 33, 3) := by decide +kernel
theorem dX9_session_37 : decode cX9_session 37 = .ok (.putfield 29, 3) := by decide +kernel
theorem dX9_session_40 : decode cX9_session 40 = .ok (.aload_n 0, 1) := by decide +kernel
theorem dX9_session_41 : decode cX9_session 41 = .ok (.aload_n 2, 1) := by decide +kernel
theorem dX9_session_42 : decode cX9_session 42 = .ok (.putfield 33, 3) := by decide +kernel
theorem dX9_session_45 : decode cX9_session 45 = .ok (.iload_n 1, 1) := by decide +kernel
theorem dX9_session_46 : decode cX9_session 46 = .ok (.ireturn, 1) := by decide +kernel
theorem dX9_isPlace_0 : decode cX9_isPlace 0 = .ok (.iload_n 1, 1) := by decide +kernel
theorem dX9_isPlace_1 : decode cX9_isPlace 1 = .ok (.ifCond .lt 21, 3) := by decide +kernel
theorem dX9_isPlace_4 : decode cX9_isPlace 4 = .ok (.iload_n 1, 1) := by decide +kernel
theorem dX9_isPlace_5 : decode cX9_isPlace 5 = .ok (.aload_n 0, 1) := by decide +kernel
theorem dX9_isPlace_6 : decode cX9_isPlace 6 = .ok (.getfield 19, 3) := by decide +kernel
theorem dX9_isPlace_9 : decode cX9_isPlace 9 = .ok (.getfield 115, 3) := by decide +kernel
theorem dX9_isPlace_12 : decode cX9_isPlace 12 = .ok (.getfield 119, 3) := by decide +kernel
theorem dX9_isPlace_15 : decode cX9_isPlace 15 = .ok (.if_icmp .ge 7, 3) := by decide +kernel
theorem dX9_isPlace_18 : decode cX9_isPlace 18 = .ok (.iconst 1, 1) := by decide +kernel
theorem dX9_isPlace_19 : decode cX9_isPlace 19 = .ok (.goto 4, 3) := by decide +kernel
theorem dX9_isPlace_22 : decode cX9_isPlace 22 = .ok (.iconst 0, 1) := by decide +kernel
theorem dX9_isPlace_23 : decode cX9_isPlace 23 = .ok (.ireturn, 1) := by decide +kernel
theorem dX9_isPerson_0 : decode cX9_isPerson 0 = .ok (.iload_n 1, 1) := by decide +kernel
theorem dX9_isPerson_1 : decode cX9_isPerson 1 = .ok (.ifCond .lt 21, 3) := by decide +kernel
theorem dX9_isPerson_4 : decode cX9_isPerson 4 = .ok (.iload_n 1, 1) := by decide +kernel
theorem dX9_isPerson_5 : decode cX9_isPerson 5 = .ok (.aload_n 0, 1) := by decide +kernel
theorem dX9_isPerson_6 : decode cX9_isPerson 6 = .ok (.getfield 19, 3) := by decide +kernel
theorem dX9_isPerson_9 : decode cX9_isPerson 9 = .ok (.getfield 122, 3) := by decide +kernel
theorem dX9_isPerson_12 : decode cX9_isPerson 12 = .ok (.getfield 119, 3) := by decide +kernel
theorem dX9_isPerson_15 : decode cX9_isPerson 15 = .ok (.if_icmp .ge 7, 3) := by decide +kernel
theorem dX9_isPerson_18 : decode cX9_isPerson 18 = .ok (.iconst 1, 1) := by decide +kernel
theorem dX9_isPerson_19 : decode cX9_isPerson 19 = .ok (.goto 4, 3) := by decide +kernel
theorem dX9_isPerson_22 : decode cX9_isPerson 22 = .ok (.iconst 0, 1) := by decide +kernel
theorem dX9_isPerson_23 : decode cX9_isPerson 23 = .ok (.ireturn, 1) := by decide +kernel
theorem dX9_isOtter_0 : decode cX9_isOtter 0 = .ok (.iload_n 1, 1) := by decide +kernel
theorem dX9_isOtter_1 : decode cX9_isOtter 1 = .ok (.ifCond .lt 21, 3) := by decide +kernel
theorem dX9_isOtter_4 : decode cX9_isOtter 4 = .ok (.iload_n 1, 1) := by decide +kernel
theorem dX9_isOtter_5 : decode cX9_isOtter 5 = .ok (.aload_n 0, 1) := by decide +kernel
theorem dX9_isOtter_6 : decode cX9_isOtter 6 = .ok (.getfield 19, 3) := by decide +kernel
theorem dX9_isOtter_9 : decode cX9_isOtter 9 = .ok (.getfield 125, 3) := by decide +kernel
theorem dX9_isOtter_12 : decode cX9_isOtter 12 = .ok (.getfield 119, 3) := by decide +kernel
theorem dX9_isOtter_15 : decode cX9_isOtter 15 = .ok (.if_icmp .ge 7, 3) := by decide +kernel
theorem dX9_isOtter_18 : decode cX9_isOtter 18 = .ok (.iconst 1, 1) := by decide +kernel
theorem dX9_isOtter_19 : decode cX9_isOtter 19 = .ok (.goto 4, 3) := by decide +kernel
theorem dX9_isOtter_22 : decode cX9_isOtter 22 = .ok (.iconst 0, 1) := by decide +kernel
theorem dX9_isOtter_23 : decode cX9_isOtter 23 = .ok (.ireturn, 1) := by decide +kernel
theorem dX9_isWrit_0 : decode cX9_isWrit 0 = .ok (.iload_n 1, 1) := by decide +kernel
theorem dX9_isWrit_1 : decode cX9_isWrit 1 = .ok (.ifCond .lt 21, 3) := by decide +kernel
theorem dX9_isWrit_4 : decode cX9_isWrit 4 = .ok (.iload_n 1, 1) := by decide +kernel
theorem dX9_isWrit_5 : decode cX9_isWrit 5 = .ok (.aload_n 0, 1) := by decide +kernel
theorem dX9_isWrit_6 : decode cX9_isWrit 6 = .ok (.getfield 19, 3) := by decide +kernel
theorem dX9_isWrit_9 : decode cX9_isWrit 9 = .ok (.getfield 128, 3) := by decide +kernel
theorem dX9_isWrit_12 : decode cX9_isWrit 12 = .ok (.getfield 119, 3) := by decide +kernel
theorem dX9_isWrit_15 : decode cX9_isWrit 15 = .ok (.if_icmp .ge 7, 3) := by decide +kernel
theorem dX9_isWrit_18 : decode cX9_isWrit 18 = .ok (.iconst 1, 1) := by decide +kernel
theorem dX9_isWrit_19 : decode cX9_isWrit 19 = .ok (.goto 4, 3) := by decide +kernel
theorem dX9_isWrit_22 : decode cX9_isWrit 22 = .ok (.iconst 0, 1) := by decide +kernel
theorem dX9_isWrit_23 : decode cX9_isWrit 23 = .ok (.ireturn, 1) := by decide +kernel
theorem dX9_within_0 : decode cX9_within 0 = .ok (.iload_n 0, 1) := by decide +kernel
theorem dX9_within_1 : decode cX9_within 1 = .ok (.iload_n 1, 1) := by decide +kernel
theorem dX9_within_2 : decode cX9_within 2 = .ok (.if_icmp .lt 12, 3) := by decide +kernel
theorem dX9_within_5 : decode cX9_within 5 = .ok (.iload_n 0, 1) := by decide +kernel
theorem dX9_within_6 : decode cX9_within 6 = .ok (.iload_n 2, 1) := by decide +kernel
theorem dX9_within_7 : decode cX9_within 7 = .ok (.if_icmp .gt 7, 3) := by decide +kernel
theorem dX9_within_10 : decode cX9_within 10 = .ok (.iconst 1, 1) := by decide +kernel
theorem dX9_within_11 : decode cX9_within 11 = .ok (.goto 4, 3) := by decide +kernel
theorem dX9_within_14 : decode cX9_within 14 = .ok (.iconst 0, 1) := by decide +kernel
theorem dX9_within_15 : decode cX9_within 15 = .ok (.ireturn, 1) := by decide +kernel
theorem dX9_place_0 : decode cX9_place 0 = .ok (.aload_n 0, 1) := by decide +kernel
theorem dX9_place_1 : decode cX9_place 1 = .ok (.iload_n 1, 1) := by decide +kernel
theorem dX9_place_2 : decode cX9_place 2 = .ok (.invokevirtual 131, 3) := by decide +kernel
theorem dX9_place_5 : decode cX9_place 5 = .ok (.ifCond .ne 5, 3) := by decide +kernel
theorem dX9_place_8 : decode cX9_place 8 = .ok (.iconst (-1), 1) := by decide +kernel
theorem dX9_place_9 : decode cX9_place 9 = .ok (.ireturn, 1) := by decide +kernel
theorem dX9_place_10 : decode cX9_place 10 = .ok (.iload_n 2, 1) := by decide +kernel
theorem dX9_place_11 : decode cX9_place 11 = .ok (.tableswitch 93 0 3 #[29, 39, 49, 71], 29) := by decide +kernel
theorem dX9_place_40 : decode cX9_place 40 = .ok (.aload_n 0, 1) := by decide +kernel
theorem dX9_place_41 : decode cX9_place 41 = .ok (.getfield 39, 3) := by decide +kernel
theorem dX9_place_44 : decode cX9_place 44 = .ok (.getfield 135, 3) := by decide +kernel
theorem dX9_place_47 : decode cX9_place 47 = .ok (.iload_n 1, 1) := by decide +kernel
theorem dX9_place_48 : decode cX9_place 48 = .ok (.iaload, 1) := by decide +kernel
theorem dX9_place_49 : decode cX9_place 49 = .ok (.ireturn, 1) := by decide +kernel
theorem dX9_place_50 : decode cX9_place 50 = .ok (.aload_n 0, 1) := by decide +kernel
theorem dX9_place_51 : decode cX9_place 51 = .ok (.getfield 19, 3) := by decide +kernel
theorem dX9_place_54 : decode cX9_place 54 = .ok (.getfield 138, 3) := by decide +kernel
theorem dX9_place_57 : decode cX9_place 57 = .ok (.iload_n 1, 1) := by decide +kernel
theorem dX9_place_58 : decode cX9_place 58 = .ok (.iaload, 1) := by decide +kernel
theorem dX9_place_59 : decode cX9_place 59 = .ok (.ireturn, 1) := by decide +kernel
theorem dX9_place_60 : decode cX9_place 60 = .ok (.aload_n 0, 1) := by decide +kernel
theorem dX9_place_61 : decode cX9_place 61 = .ok (.getfield 39, 3) := by decide +kernel
theorem dX9_place_64 : decode cX9_place 64 = .ok (.getfield 141, 3) := by decide +kernel
theorem dX9_place_67 : decode cX9_place 67 = .ok (.aload_n 0, 1) := by decide +kernel
theorem dX9_place_68 : decode cX9_place 68 = .ok (.getfield 19, 3) := by decide +kernel
theorem dX9_place_71 : decode cX9_place 71 = .ok (.getfield 122, 3) := by decide +kernel
theorem dX9_place_74 : decode cX9_place 74 = .ok (.getfield 119, 3) := by decide +kernel
theorem dX9_place_77 : decode cX9_place 77 = .ok (.iload_n 1, 1) := by decide +kernel
theorem dX9_place_78 : decode cX9_place 78 = .ok (.invokestatic 144, 3) := by decide +kernel
theorem dX9_place_81 : decode cX9_place 81 = .ok (.ireturn, 1) := by decide +kernel
theorem dX9_place_82 : decode cX9_place 82 = .ok (.aload_n 0, 1) := by decide +kernel
theorem dX9_place_83 : decode cX9_place 83 = .ok (.getfield 39, 3) := by decide +kernel
theorem dX9_place_86 : decode cX9_place 86 = .ok (.getfield 148, 3) := by decide +kernel
theorem dX9_place_89 : decode cX9_place 89 = .ok (.aload_n 0, 1) := by decide +kernel
theorem dX9_place_90 : decode cX9_place 90 = .ok (.getfield 19, 3) := by decide +kernel
theorem dX9_place_93 : decode cX9_place 93 = .ok (.getfield 125, 3) := by decide +kernel
theorem dX9_place_96 : decode cX9_place 96 = .ok (.getfield 119, 3) := by decide +kernel
theorem dX9_place_99 : decode cX9_place 99 = .ok (.iload_n 1, 1) := by decide +kernel
theorem dX9_place_100 : decode cX9_place 100 = .ok (.invokestatic 144, 3) := by decide +kernel
theorem dX9_place_103 : decode cX9_place 103 = .ok (.ireturn, 1) := by decide +kernel
theorem dX9_place_104 : decode cX9_place 104 = .ok (.iconst (-1), 1) := by decide +kernel
theorem dX9_place_105 : decode cX9_place 105 = .ok (.ireturn, 1) := by decide +kernel
theorem dX9_bitsOf_0 : decode cX9_bitsOf 0 = .ok (.iconst 0, 1) := by decide +kernel
theorem dX9_bitsOf_1 : decode cX9_bitsOf 1 = .ok (.istore_n 3, 1) := by decide +kernel
theorem dX9_bitsOf_2 : decode cX9_bitsOf 2 = .ok (.iconst 0, 1) := by decide +kernel
theorem dX9_bitsOf_3 : decode cX9_bitsOf 3 = .ok (.istore 4, 2) := by decide +kernel
theorem dX9_bitsOf_5 : decode cX9_bitsOf 5 = .ok (.iload 4, 2) := by decide +kernel
theorem dX9_bitsOf_7 : decode cX9_bitsOf 7 = .ok (.iload_n 1, 1) := by decide +kernel
theorem dX9_bitsOf_8 : decode cX9_bitsOf 8 = .ok (.if_icmp .ge 31, 3) := by decide +kernel
theorem dX9_bitsOf_11 : decode cX9_bitsOf 11 = .ok (.iload 4, 2) := by decide +kernel
theorem dX9_bitsOf_13 : decode cX9_bitsOf 13 = .ok (.aload_n 0, 1) := by decide +kernel
theorem dX9_bitsOf_14 : decode cX9_bitsOf 14 = .ok (.arraylength, 1) := by decide +kernel
theorem dX9_bitsOf_15 : decode cX9_bitsOf 15 = .ok (.if_icmp .ge 24, 3) := by decide +kernel
theorem dX9_bitsOf_18 : decode cX9_bitsOf 18 = .ok (.aload_n 0, 1) := by decide +kernel
theorem dX9_bitsOf_19 : decode cX9_bitsOf 19 = .ok (.iload 4, 2) := by decide +kernel
theorem dX9_bitsOf_21 : decode cX9_bitsOf 21 = .ok (.iaload, 1) := by decide +kernel
theorem dX9_bitsOf_22 : decode cX9_bitsOf 22 = .ok (.iload_n 2, 1) := by decide +kernel
theorem dX9_bitsOf_23 : decode cX9_bitsOf 23 = .ok (.if_icmp .ne 10, 3) := by decide +kernel
theorem dX9_bitsOf_26 : decode cX9_bitsOf 26 = .ok (.iload_n 3, 1) := by decide +kernel
theorem dX9_bitsOf_27 : decode cX9_bitsOf 27 = .ok (.iconst 1, 1) := by decide +kernel
theorem dX9_bitsOf_28 : decode cX9_bitsOf 28 = .ok (.iload 4, 2) := by decide +kernel
theorem dX9_bitsOf_30 : decode cX9_bitsOf 30 = .ok (.ishl, 1) := by decide +kernel
theorem dX9_bitsOf_31 : decode cX9_bitsOf 31 = .ok (.ior, 1) := by decide +kernel
theorem dX9_bitsOf_32 : decode cX9_bitsOf 32 = .ok (.istore_n 3, 1) := by decide +kernel
theorem dX9_bitsOf_33 : decode cX9_bitsOf 33 = .ok (.iinc 4 1, 3) := by decide +kernel
theorem dX9_bitsOf_36 : decode cX9_bitsOf 36 = .ok (.goto (-31), 3) := by decide +kernel
theorem dX9_bitsOf_39 : decode cX9_bitsOf 39 = .ok (.iload_n 3, 1) := by decide +kernel
theorem dX9_bitsOf_40 : decode cX9_bitsOf 40 = .ok (.ireturn, 1) := by decide +kernel
theorem dX9_person_0 : decode cX9_person 0 = .ok (.aload_n 0, 1) := by decide +kernel
theorem dX9_person_1 : decode cX9_person 1 = .ok (.iload_n 1, 1) := by decide +kernel
theorem dX9_person_2 : decode cX9_person 2 = .ok (.invokevirtual 151, 3) := by decide +kernel
theorem dX9_person_5 : decode cX9_person 5 = .ok (.ifCond .ne 5, 3) := by decide +kernel
theorem dX9_person_8 : decode cX9_person 8 = .ok (.iconst (-1), 1) := by decide +kernel
theorem dX9_person_9 : decode cX9_person 9 = .ok (.ireturn, 1) := by decide +kernel
theorem dX9_person_10 : decode cX9_person 10 = .ok (.iload_n 2, 1) := by decide +kernel
theorem dX9_person_11 : decode cX9_person 11 = .ok (.lookupswitch 45 #[(0, 25), (1, 35)], 25) := by decide +kernel
theorem dX9_person_36 : decode cX9_person 36 = .ok (.aload_n 0, 1) := by decide +kernel
theorem dX9_person_37 : decode cX9_person 37 = .ok (.getfield 19, 3) := by decide +kernel
theorem dX9_person_40 : decode cX9_person 40 = .ok (.getfield 154, 3) := by decide +kernel
theorem dX9_person_43 : decode cX9_person 43 = .ok (.iload_n 1, 1) := by decide +kernel
theorem dX9_person_44 : decode cX9_person 44 = .ok (.iaload, 1) := by decide +kernel
theorem dX9_person_45 : decode cX9_person 45 = .ok (.ireturn, 1) := by decide +kernel
theorem dX9_person_46 : decode cX9_person 46 = .ok (.aload_n 0, 1) := by decide +kernel
theorem dX9_person_47 : decode cX9_person 47 = .ok (.getfield 39, 3) := by decide +kernel
theorem dX9_person_50 : decode cX9_person 50 = .ok (.getfield 141, 3) := by decide +kernel
theorem dX9_person_53 : decode cX9_person 53 = .ok (.iload_n 1, 1) := by decide +kernel
theorem dX9_person_54 : decode cX9_person 54 = .ok (.iaload, 1) := by decide +kernel
theorem dX9_person_55 : decode cX9_person 55 = .ok (.ireturn, 1) := by decide +kernel
theorem dX9_person_56 : decode cX9_person 56 = .ok (.iconst (-1), 1) := by decide +kernel
theorem dX9_person_57 : decode cX9_person 57 = .ok (.ireturn, 1) := by decide +kernel
theorem dX9_otter_0 : decode cX9_otter 0 = .ok (.aload_n 0, 1) := by decide +kernel
theorem dX9_otter_1 : decode cX9_otter 1 = .ok (.iload_n 1, 1) := by decide +kernel
theorem dX9_otter_2 : decode cX9_otter 2 = .ok (.invokevirtual 157, 3) := by decide +kernel
theorem dX9_otter_5 : decode cX9_otter 5 = .ok (.ifCond .ne 5, 3) := by decide +kernel
theorem dX9_otter_8 : decode cX9_otter 8 = .ok (.iconst (-1), 1) := by decide +kernel
theorem dX9_otter_9 : decode cX9_otter 9 = .ok (.ireturn, 1) := by decide +kernel
theorem dX9_otter_10 : decode cX9_otter 10 = .ok (.iload_n 2, 1) := by decide +kernel
theorem dX9_otter_11 : decode cX9_otter 11 = .ok (.tableswitch 81 0 3 #[29, 39, 49, 59], 29) := by decide +kernel
theorem dX9_otter_40 : decode cX9_otter 40 = .ok (.aload_n 0, 1) := by decide +kernel
theorem dX9_otter_41 : decode cX9_otter 41 = .ok (.getfield 19, 3) := by decide +kernel
theorem dX9_otter_44 : decode cX9_otter 44 = .ok (.getfield 160, 3) := by decide +kernel
theorem dX9_otter_47 : decode cX9_otter 47 = .ok (.iload_n 1, 1) := by decide +kernel
theorem dX9_otter_48 : decode cX9_otter 48 = .ok (.iaload, 1) := by decide +kernel
theorem dX9_otter_49 : decode cX9_otter 49 = .ok (.ireturn, 1) := by decide +kernel
theorem dX9_otter_50 : decode cX9_otter 50 = .ok (.aload_n 0, 1) := by decide +kernel
theorem dX9_otter_51 : decode cX9_otter 51 = .ok (.getfield 39, 3) := by decide +kernel
theorem dX9_otter_54 : decode cX9_otter 54 = .ok (.getfield 148, 3) := by decide +kernel
theorem dX9_otter_57 : decode cX9_otter 57 = .ok (.iload_n 1, 1) := by decide +kernel
theorem dX9_otter_58 : decode cX9_otter 58 = .ok (.iaload, 1) := by decide +kernel
theorem dX9_otter_59 : decode cX9_otter 59 = .ok (.ireturn, 1) := by decide +kernel
theorem dX9_otter_60 : decode cX9_otter 60 = .ok (.aload_n 0, 1) := by decide +kernel
theorem dX9_otter_61 : decode cX9_otter 61 = .ok (.getfield 39, 3) := by decide +kernel
theorem dX9_otter_64 : decode cX9_otter 64 = .ok (.getfield 163, 3) := by decide +kernel
theorem dX9_otter_67 : decode cX9_otter 67 = .ok (.iload_n 1, 1) := by decide +kernel
theorem dX9_otter_68 : decode cX9_otter 68 = .ok (.iaload, 1) := by decide +kernel
theorem dX9_otter_69 : decode cX9_otter 69 = .ok (.ireturn, 1) := by decide +kernel
theorem dX9_otter_70 : decode cX9_otter 70 = .ok (.aload_n 0, 1) := by decide +kernel
theorem dX9_otter_71 : decode cX9_otter 71 = .ok (.getfield 39, 3) := by decide +kernel
theorem dX9_otter_74 : decode cX9_otter 74 = .ok (.getfield 166, 3) := by decide +kernel
theorem dX9_otter_77 : decode cX9_otter 77 = .ok (.aload_n 0, 1) := by decide +kernel
theorem dX9_otter_78 : decode cX9_otter 78 = .ok (.getfield 19, 3) := by decide +kernel
theorem dX9_otter_81 : decode cX9_otter 81 = .ok (.getfield 128, 3) := by decide +kernel
theorem dX9_otter_84 : decode cX9_otter 84 = .ok (.getfield 119, 3) := by decide +kernel
theorem dX9_otter_87 : decode cX9_otter 87 = .ok (.iload_n 1, 1) := by decide +kernel
theorem dX9_otter_88 : decode cX9_otter 88 = .ok (.invokestatic 144, 3) := by decide +kernel
theorem dX9_otter_91 : decode cX9_otter 91 = .ok (.ireturn, 1) := by decide +kernel
theorem dX9_otter_92 : decode cX9_otter 92 = .ok (.iconst (-1), 1) := by decide +kernel
theorem dX9_otter_93 : decode cX9_otter 93 = .ok (.ireturn, 1) := by decide +kernel
theorem dX9_writ_0 : decode cX9_writ 0 = .ok (.aload_n 0, 1) := by decide +kernel
theorem dX9_writ_1 : decode cX9_writ 1 = .ok (.iload_n 1, 1) := by decide +kernel
theorem dX9_writ_2 : decode cX9_writ 2 = .ok (.invokevirtual 169, 3) := by decide +kernel
theorem dX9_writ_5 : decode cX9_writ 5 = .ok (.ifCond .ne 6, 3) := by decide +kernel
theorem dX9_writ_8 : decode cX9_writ 8 = .ok (.bipush (-2), 2) := by decide +kernel
theorem dX9_writ_10 : decode cX9_writ 10 = .ok (.ireturn, 1) := by decide +kernel
theorem dX9_writ_11 : decode cX9_writ 11 = .ok (.iload_n 2, 1) := by decide +kernel
theorem dX9_writ_12 : decode cX9_writ 12 = .ok (.tableswitch 58 0 2 #[28, 38, 48], 28) := by decide +kernel
theorem dX9_writ_40 : decode cX9_writ 40 = .ok (.aload_n 0, 1) := by decide +kernel
theorem dX9_writ_41 : decode cX9_writ 41 = .ok (.getfield 19, 3) := by decide +kernel
theorem dX9_writ_44 : decode cX9_writ 44 = .ok (.getfield 172, 3) := by decide +kernel
theorem dX9_writ_47 : decode cX9_writ 47 = .ok (.iload_n 1, 1) := by decide +kernel
theorem dX9_writ_48 : decode cX9_writ 48 = .ok (.iaload, 1) := by decide +kernel
theorem dX9_writ_49 : decode cX9_writ 49 = .ok (.ireturn, 1) := by decide +kernel
theorem dX9_writ_50 : decode cX9_writ 50 = .ok (.aload_n 0, 1) := by decide +kernel
theorem dX9_writ_51 : decode cX9_writ 51 = .ok (.getfield 19, 3) := by decide +kernel
theorem dX9_writ_54 : decode cX9_writ 54 = .ok (.getfield 175, 3) := by decide +kernel
theorem dX9_writ_57 : decode cX9_writ 57 = .ok (.iload_n 1, 1) := by decide +kernel
theorem dX9_writ_58 : decode cX9_writ 58 = .ok (.iaload, 1) := by decide +kernel
theorem dX9_writ_59 : decode cX9_writ 59 = .ok (.ireturn, 1) := by decide +kernel
theorem dX9_writ_60 : decode cX9_writ 60 = .ok (.aload_n 0, 1) := by decide +kernel
theorem dX9_writ_61 : decode cX9_writ 61 = .ok (.getfield 39, 3) := by decide +kernel
theorem dX9_writ_64 : decode cX9_writ 64 = .ok (.getfield 166, 3) := by decide +kernel
theorem dX9_writ_67 : decode cX9_writ 67 = .ok (.iload_n 1, 1) := by decide +kernel
theorem dX9_writ_68 : decode cX9_writ 68 = .ok (.iaload, 1) := by decide +kernel
theorem dX9_writ_69 : decode cX9_writ 69 = .ok (.ireturn, 1) := by decide +kernel
theorem dX9_writ_70 : decode cX9_writ 70 = .ok (.bipush (-2), 2) := by decide +kernel
theorem dX9_writ_72 : decode cX9_writ 72 = .ok (.ireturn, 1) := by decide +kernel
theorem dX9_count_0 : decode cX9_count 0 = .ok (.iload_n 1, 1) := by decide +kernel
theorem dX9_count_1 : decode cX9_count 1 = .ok (.tableswitch 205 0 12 #[67, 78, 86, 97, 108, 119, 127, 142, 154, 176, 184, 192, 197], 67) := by decide +kernel
theorem dX9_count_68 : decode cX9_count 68 = .ok (.aload_n 0, 1) := by decide +kernel
theorem dX9_count_69 : decode cX9_count 69 = .ok (.getfield 19, 3) := by decide +kernel
theorem dX9_count_72 : decode cX9_count 72 = .ok (.getfield 115, 3) := by decide +kernel
theorem dX9_count_75 : decode cX9_count 75 = .ok (.getfield 119, 3) := by decide +kernel
theorem dX9_count_78 : decode cX9_count 78 = .ok (.ireturn, 1) := by decide +kernel
theorem dX9_count_79 : decode cX9_count 79 = .ok (.aload_n 0, 1) := by decide +kernel
theorem dX9_count_80 : decode cX9_count 80 = .ok (.getfield 19, 3) := by decide +kernel
theorem dX9_count_83 : decode cX9_count 83 = .ok (.getfield 178, 3) := by decide +kernel
theorem dX9_count_86 : decode cX9_count 86 = .ok (.ireturn, 1) := by decide +kernel
theorem dX9_count_87 : decode cX9_count 87 = .ok (.aload_n 0, 1) := by decide +kernel
theorem dX9_count_88 : decode cX9_count 88 = .ok (.getfield 19, 3) := by decide +kernel
theorem dX9_count_91 : decode cX9_count 91 = .ok (.getfield 122, 3) := by decide +kernel
theorem dX9_count_94 : decode cX9_count 94 = .ok (.getfield 119, 3) := by decide +kernel
theorem dX9_count_97 : decode cX9_count 97 = .ok (.ireturn, 1) := by decide +kernel
theorem dX9_count_98 : decode cX9_count 98 = .ok (.aload_n 0, 1) := by decide +kernel
theorem dX9_count_99 : decode cX9_count 99 = .ok (.getfield 19, 3) := by decide +kernel
theorem dX9_count_102 : decode cX9_count 102 = .ok (.getfield 125, 3) := by decide +kernel
theorem dX9_count_105 : decode cX9_count 105 = .ok (.getfield 119, 3) := by decide +kernel
theorem dX9_count_108 : decode cX9_count 108 = .ok (.ireturn, 1) := by decide +kernel
theorem dX9_count_109 : decode cX9_count 109 = .ok (.aload_n 0, 1) := by decide +kernel
theorem dX9_count_110 : decode cX9_count 110 = .ok (.getfield 19, 3) := by decide +kernel
theorem dX9_count_113 : decode cX9_count 113 = .ok (.getfield 128, 3) := by decide +kernel
theorem dX9_count_116 : decode cX9_count 116 = .ok (.getfield 119, 3) := by decide +kernel
theorem dX9_count_119 : decode cX9_count 119 = .ok (.ireturn, 1) := by decide +kernel
theorem dX9_count_120 : decode cX9_count 120 = .ok (.aload_n 0, 1) := by decide +kernel
theorem dX9_count_121 : decode cX9_count 121 = .ok (.getfield 39, 3) := by decide +kernel
theorem dX9_count_124 : decode cX9_count 124 = .ok (.getfield 181, 3) := by decide +kernel
theorem dX9_count_127 : decode cX9_count 127 = .ok (.ireturn, 1) := by decide +kernel
theorem dX9_count_128 : decode cX9_count 128 = .ok (.aload_n 0, 1) := by decide +kernel
theorem dX9_count_129 : decode cX9_count 129 = .ok (.getfield 19, 3) := by decide +kernel
theorem dX9_count_132 : decode cX9_count 132 = .ok (.aload_n 0, 1) := by decide +kernel
theorem dX9_count_133 : decode cX9_count 133 = .ok (.getfield 39, 3) := by decide +kernel
theorem dX9_count_136 : decode cX9_count 136 = .ok (.getfield 181, 3) := by decide +kernel
theorem dX9_count_139 : decode cX9_count 139 = .ok (.invokevirtual 184, 3) := by decide +kernel
theorem dX9_count_142 : decode cX9_count 142 = .ok (.ireturn, 1) := by decide +kernel
theorem dX9_count_143 : decode cX9_count 143 = .ok (.aload_n 0, 1) := by decide +kernel
theorem dX9_count_144 : decode cX9_count 144 = .ok (.getfield 39, 3) := by decide +kernel
theorem dX9_count_147 : decode cX9_count 147 = .ok (.aload_n 0, 1) := by decide +kernel
theorem dX9_count_148 : decode cX9_count 148 = .ok (.getfield 19, 3) := by decide +kernel
theorem dX9_count_151 : decode cX9_count 151 = .ok (.invokevirtual 188, 3) := by decide +kernel
theorem dX9_count_154 : decode cX9_count 154 = .ok (.ireturn, 1) := by decide +kernel
theorem dX9_count_155 : decode cX9_count 155 = .ok (.aload_n 0, 1) := by decide +kernel
theorem dX9_count_156 : decode cX9_count 156 = .ok (.getfield 39, 3) := by decide +kernel
theorem dX9_count_159 : decode cX9_count 159 = .ok (.getfield 166, 3) := by decide +kernel
theorem dX9_count_162 : decode cX9_count 162 = .ok (.aload_n 0, 1) := by decide +kernel
theorem dX9_count_163 : decode cX9_count 163 = .ok (.getfield 19, 3) := by decide +kernel
theorem dX9_count_166 : decode cX9_count 166 = .ok (.getfield 128, 3) := by decide +kernel
theorem dX9_count_169 : decode cX9_count 169 = .ok (.getfield 119, 3) := by decide +kernel
theorem dX9_count_172 : decode cX9_count 172 = .ok (.iconst 3, 1) := by decide +kernel
theorem dX9_count_173 : decode cX9_count 173 = .ok (.invokestatic 144, 3) := by decide +kernel
theorem dX9_count_176 : decode cX9_count 176 = .ok (.ireturn, 1) := by decide +kernel
theorem dX9_count_177 : decode cX9_count 177 = .ok (.aload_n 0, 1) := by decide +kernel
theorem dX9_count_178 : decode cX9_count 178 = .ok (.getfield 29, 3) := by decide +kernel
theorem dX9_count_181 : decode cX9_count 181 = .ok (.getfield 98, 3) := by decide +kernel
theorem dX9_count_184 : decode cX9_count 184 = .ok (.ireturn, 1) := by decide +kernel
theorem dX9_count_185 : decode cX9_count 185 = .ok (.aload_n 0, 1) := by decide +kernel
theorem dX9_count_186 : decode cX9_count 186 = .ok (.getfield 49, 3) := by decide +kernel
theorem dX9_count_189 : decode cX9_count 189 = .ok (.getfield 101, 3) := by decide +kernel
theorem dX9_count_192 : decode cX9_count 192 = .ok (.ireturn, 1) := by decide +kernel
theorem dX9_count_193 : decode cX9_count 193 = .ok (.aload_n 0, 1) := by decide +kernel
theorem dX9_count_194 : decode cX9_count 194 = .ok (.getfield 192, 3) := by decide +kernel
theorem dX9_count_197 : decode cX9_count 197 = .ok (.ireturn, 1) := by decide +kernel
theorem dX9_count_198 : decode cX9_count 198 = .ok (.aload_n 0, 1) := by decide +kernel
theorem dX9_count_199 : decode cX9_count 199 = .ok (.getfield 10, 3) := by decide +kernel
theorem dX9_count_202 : decode cX9_count 202 = .ok (.getfield 83, 3) := by decide +kernel
theorem dX9_count_205 : decode cX9_count 205 = .ok (.ireturn, 1) := by decide +kernel
theorem dX9_count_206 : decode cX9_count 206 = .ok (.iconst (-1), 1) := by decide +kernel
theorem dX9_count_207 : decode cX9_count 207 = .ok (.ireturn, 1) := by decide +kernel
theorem dX9_take_0 : decode cX9_take 0 = .ok (.aload_n 0, 1) := by decide +kernel
theorem dX9_take_1 : decode cX9_take 1 = .ok (.getfield 39, 3) := by decide +kernel
theorem dX9_take_4 : decode cX9_take 4 = .ok (.aload_n 0, 1) := by decide +kernel
theorem dX9_take_5 : decode cX9_take 5 = .ok (.getfield 19, 3) := by decide +kernel
theorem dX9_take_8 : decode cX9_take 8 = .ok (.iload_n 1, 1) := by decide +kernel
theorem dX9_take_9 : decode cX9_take 9 = .ok (.iload_n 2, 1) := by decide +kernel
theorem dX9_take_10 : decode cX9_take 10 = .ok (.invokevirtual 195, 3) := by decide +kernel
theorem dX9_take_13 : decode cX9_take 13 = .ok (.ifCond .ne 5, 3) := by decide +kernel
theorem dX9_take_16 : decode cX9_take 16 = .ok (.iconst 0, 1) := by decide +kernel
theorem dX9_take_17 : decode cX9_take 17 = .ok (.ireturn, 1) := by decide +kernel
theorem dX9_take_18 : decode cX9_take 18 = .ok (.aload_n 0, 1) := by decide +kernel
theorem dX9_take_19 : decode cX9_take 19 = .ok (.invokevirtual 199, 3) := by decide +kernel
theorem dX9_take_22 : decode cX9_take 22 = .ok (.aload_n 0, 1) := by decide +kernel
theorem dX9_take_23 : decode cX9_take 23 = .ok (.getfield 39, 3) := by decide +kernel
theorem dX9_take_26 : decode cX9_take 26 = .ok (.getfield 166, 3) := by decide +kernel
theorem dX9_take_29 : decode cX9_take 29 = .ok (.iload_n 2, 1) := by decide +kernel
theorem dX9_take_30 : decode cX9_take 30 = .ok (.iload_n 1, 1) := by decide +kernel
theorem dX9_take_31 : decode cX9_take 31 = .ok (.iastore, 1) := by decide +kernel
theorem dX9_take_32 : decode cX9_take 32 = .ok (.iconst 1, 1) := by decide +kernel
theorem dX9_take_33 : decode cX9_take 33 = .ok (.ireturn, 1) := by decide +kernel
theorem dX9_swim_0 : decode cX9_swim 0 = .ok (.aload_n 0, 1) := by decide +kernel
theorem dX9_swim_1 : decode cX9_swim 1 = .ok (.getfield 39, 3) := by decide +kernel
theorem dX9_swim_4 : decode cX9_swim 4 = .ok (.aload_n 0, 1) := by decide +kernel
theorem dX9_swim_5 : decode cX9_swim 5 = .ok (.getfield 19, 3) := by decide +kernel
theorem dX9_swim_8 : decode cX9_swim 8 = .ok (.iload_n 1, 1) := by decide +kernel
theorem dX9_swim_9 : decode cX9_swim 9 = .ok (.iload_n 2, 1) := by decide +kernel
theorem dX9_swim_10 : decode cX9_swim 10 = .ok (.invokevirtual 202, 3) := by decide +kernel
theorem dX9_swim_13 : decode cX9_swim 13 = .ok (.ifCond .ne 5, 3) := by decide +kernel
theorem dX9_swim_16 : decode cX9_swim 16 = .ok (.iconst (-1), 1) := by decide +kernel
theorem dX9_swim_17 : decode cX9_swim 17 = .ok (.ireturn, 1) := by decide +kernel
theorem dX9_swim_18 : decode cX9_swim 18 = .ok (.aload_n 0, 1) := by decide +kernel
theorem dX9_swim_19 : decode cX9_swim 19 = .ok (.invokevirtual 199, 3) := by decide +kernel
theorem dX9_swim_22 : decode cX9_swim 22 = .ok (.aload_n 0, 1) := by decide +kernel
theorem dX9_swim_23 : decode cX9_swim 23 = .ok (.getfield 39, 3) := by decide +kernel
theorem dX9_swim_26 : decode cX9_swim 26 = .ok (.iload_n 1, 1) := by decide +kernel
theorem dX9_swim_27 : decode cX9_swim 27 = .ok (.iload_n 2, 1) := by decide +kernel
theorem dX9_swim_28 : decode cX9_swim 28 = .ok (.invokevirtual 205, 3) := by decide +kernel
theorem dX9_swim_31 : decode cX9_swim 31 = .ok (.aload_n 0, 1) := by decide +kernel
theorem dX9_swim_32 : decode cX9_swim 32 = .ok (.getfield 39, 3) := by decide +kernel
theorem dX9_swim_35 : decode cX9_swim 35 = .ok (.getfield 163, 3) := by decide +kernel
theorem dX9_swim_38 : decode cX9_swim 38 = .ok (.iload_n 1, 1) := by decide +kernel
theorem dX9_swim_39 : decode cX9_swim 39 = .ok (.iaload, 1) := by decide +kernel
theorem dX9_swim_40 : decode cX9_swim 40 = .ok (.ireturn, 1) := by decide +kernel
theorem dX9_serve_0 : decode cX9_serve 0 = .ok (.aload_n 0, 1) := by decide +kernel
theorem dX9_serve_1 : decode cX9_serve 1 = .ok (.getfield 39, 3) := by decide +kernel
theorem dX9_serve_4 : decode cX9_serve 4 = .ok (.aload_n 0, 1) := by decide +kernel
theorem dX9_serve_5 : decode cX9_serve 5 = .ok (.getfield 19, 3) := by decide +kernel
theorem dX9_serve_8 : decode cX9_serve 8 = .ok (.iload_n 1, 1) := by decide +kernel
theorem dX9_serve_9 : decode cX9_serve 9 = .ok (.invokevirtual 209, 3) := by decide +kernel
theorem dX9_serve_12 : decode cX9_serve 12 = .ok (.ifCond .ne 5, 3) := by decide +kernel
theorem dX9_serve_15 : decode cX9_serve 15 = .ok (.iconst (-1), 1) := by decide +kernel
theorem dX9_serve_16 : decode cX9_serve 16 = .ok (.ireturn, 1) := by decide +kernel
theorem dX9_serve_17 : decode cX9_serve 17 = .ok (.aload_n 0, 1) := by decide +kernel
theorem dX9_serve_18 : decode cX9_serve 18 = .ok (.invokevirtual 199, 3) := by decide +kernel
theorem dX9_serve_21 : decode cX9_serve 21 = .ok (.aload_n 0, 1) := by decide +kernel
theorem dX9_serve_22 : decode cX9_serve 22 = .ok (.getfield 39, 3) := by decide +kernel
theorem dX9_serve_25 : decode cX9_serve 25 = .ok (.getfield 166, 3) := by decide +kernel
theorem dX9_serve_28 : decode cX9_serve 28 = .ok (.iload_n 1, 1) := by decide +kernel
theorem dX9_serve_29 : decode cX9_serve 29 = .ok (.iaload, 1) := by decide +kernel
theorem dX9_serve_30 : decode cX9_serve 30 = .ok (.istore_n 2, 1) := by decide +kernel
theorem dX9_serve_31 : decode cX9_serve 31 = .ok (.aload_n 0, 1) := by decide +kernel
theorem dX9_serve_32 : decode cX9_serve 32 = .ok (.getfield 39, 3) := by decide +kernel
theorem dX9_serve_35 : decode cX9_serve 35 = .ok (.getfield 166, 3) := by decide +kernel
theorem dX9_serve_38 : decode cX9_serve 38 = .ok (.iload_n 1, 1) := by decide +kernel
theorem dX9_serve_39 : decode cX9_serve 39 = .ok (.iconst 3, 1) := by decide +kernel
theorem dX9_serve_40 : decode cX9_serve 40 = .ok (.iastore, 1) := by decide +kernel
theorem dX9_serve_41 : decode cX9_serve 41 = .ok (.iload_n 2, 1) := by decide +kernel
theorem dX9_serve_42 : decode cX9_serve 42 = .ok (.ireturn, 1) := by decide +kernel
theorem dX9_day_0 : decode cX9_day 0 = .ok (.aload_n 0, 1) := by decide +kernel
theorem dX9_day_1 : decode cX9_day 1 = .ok (.invokevirtual 199, 3) := by decide +kernel
theorem dX9_day_4 : decode cX9_day 4 = .ok (.aload_n 0, 1) := by decide +kernel
theorem dX9_day_5 : decode cX9_day 5 = .ok (.getfield 39, 3) := by decide +kernel
theorem dX9_day_8 : decode cX9_day 8 = .ok (.aload_n 0, 1) := by decide +kernel
theorem dX9_day_9 : decode cX9_day 9 = .ok (.getfield 19, 3) := by decide +kernel
theorem dX9_day_12 : decode cX9_day 12 = .ok (.invokevirtual 213, 3) := by decide +kernel
theorem dX9_day_15 : decode cX9_day 15 = .ok (.aload_n 0, 1) := by decide +kernel
theorem dX9_day_16 : decode cX9_day 16 = .ok (.getfield 56, 3) := by decide +kernel
theorem dX9_day_19 : decode cX9_day 19 = .ok (.invokevirtual 109, 3) := by decide +kernel
theorem dX9_day_22 : decode cX9_day 22 = .ok (.aload_n 0, 1) := by decide +kernel
theorem dX9_day_23 : decode cX9_day 23 = .ok (.getfield 39, 3) := by decide +kernel
theorem dX9_day_26 : decode cX9_day 26 = .ok (.aload_n 0, 1) := by decide +kernel
theorem dX9_day_27 : decode cX9_day 27 = .ok (.getfield 19, 3) := by decide +kernel
theorem dX9_day_30 : decode cX9_day 30 = .ok (.invokevirtual 188, 3) := by decide +kernel
theorem dX9_day_33 : decode cX9_day 33 = .ok (.ireturn, 1) := by decide +kernel
theorem dX9_undo_0 : decode cX9_undo 0 = .ok (.aload_n 0, 1) := by decide +kernel
theorem dX9_undo_1 : decode cX9_undo 1 = .ok (.getfield 192, 3) := by decide +kernel
theorem dX9_undo_4 : decode cX9_undo 4 = .ok (.ifCond .ne 5, 3) := by decide +kernel
theorem dX9_undo_7 : decode cX9_undo 7 = .ok (.iconst 0, 1) := by decide +kernel
theorem dX9_undo_8 : decode cX9_undo 8 = .ok (.ireturn, 1) := by decide +kernel
theorem dX9_undo_9 : decode cX9_undo 9 = .ok (.aload_n 0, 1) := by decide +kernel
theorem dX9_undo_10 : decode cX9_undo 10 = .ok (.dup, 1) := by decide +kernel
theorem dX9_undo_11 : decode cX9_undo 11 = .ok (.getfield 192, 3) := by decide +kernel
theorem dX9_undo_14 : decode cX9_undo 14 = .ok (.iconst 1, 1) := by decide +kernel
theorem dX9_undo_15 : decode cX9_undo 15 = .ok (.isub, 1) := by decide +kernel
theorem dX9_undo_16 : decode cX9_undo 16 = .ok (.putfield 192, 3) := by decide +kernel
theorem dX9_undo_19 : decode cX9_undo 19 = .ok (.aload_n 0, 1) := by decide +kernel
theorem dX9_undo_20 : decode cX9_undo 20 = .ok (.aload_n 0, 1) := by decide +kernel
theorem dX9_undo_21 : decode cX9_undo 21 = .ok (.getfield 216, 3) := by decide +kernel
theorem dX9_undo_24 : decode cX9_undo 24 = .ok (.bipush 16, 2) := by decide +kernel
theorem dX9_undo_26 : decode cX9_undo 26 = .ok (.iadd, 1) := by decide +kernel
theorem dX9_undo_27 : decode cX9_undo 27 = .ok (.iconst 1, 1) := by decide +kernel
theorem dX9_undo_28 : decode cX9_undo 28 = .ok (.isub, 1) := by decide +kernel
theorem dX9_undo_29 : decode cX9_undo 29 = .ok (.bipush 16, 2) := by decide +kernel
theorem dX9_undo_31 : decode cX9_undo 31 = .ok (.irem, 1) := by decide +kernel
theorem dX9_undo_32 : decode cX9_undo 32 = .ok (.putfield 216, 3) := by decide +kernel
theorem dX9_undo_35 : decode cX9_undo 35 = .ok (.aload_n 0, 1) := by decide +kernel
theorem dX9_undo_36 : decode cX9_undo 36 = .ok (.getfield 39, 3) := by decide +kernel
theorem dX9_undo_39 : decode cX9_undo 39 = .ok (.aload_n 0, 1) := by decide +kernel
theorem dX9_undo_40 : decode cX9_undo 40 = .ok (.getfield 60, 3) := by decide +kernel
theorem dX9_undo_43 : decode cX9_undo 43 = .ok (.aload_n 0, 1) := by decide +kernel
theorem dX9_undo_44 : decode cX9_undo 44 = .ok (.getfield 216, 3) := by decide +kernel
theorem dX9_undo_47 : decode cX9_undo 47 = .ok (.aaload, 1) := by decide +kernel
theorem dX9_undo_48 : decode cX9_undo 48 = .ok (.invokevirtual 219, 3) := by decide +kernel
theorem dX9_undo_51 : decode cX9_undo 51 = .ok (.aload_n 0, 1) := by decide +kernel
theorem dX9_undo_52 : decode cX9_undo 52 = .ok (.getfield 56, 3) := by decide +kernel
theorem dX9_undo_55 : decode cX9_undo 55 = .ok (.invokevirtual 109, 3) := by decide +kernel
theorem dX9_undo_58 : decode cX9_undo 58 = .ok (.iconst 1, 1) := by decide +kernel
theorem dX9_undo_59 : decode cX9_undo 59 = .ok (.ireturn, 1) := by decide +kernel
theorem dX9_keepPast_0 : decode cX9_keepPast 0 = .ok (.aload_n 0, 1) := by decide +kernel
theorem dX9_keepPast_1 : decode cX9_keepPast 1 = .ok (.getfield 60, 3) := by decide +kernel
theorem dX9_keepPast_4 : decode cX9_keepPast 4 = .ok (.aload_n 0, 1) := by decide +kernel
theorem dX9_keepPast_5 : decode cX9_keepPast 5 = .ok (.getfield 216, 3) := by decide +kernel
theorem dX9_keepPast_8 : decode cX9_keepPast 8 = .ok (.aaload, 1) := by decide +kernel
theorem dX9_keepPast_9 : decode cX9_keepPast 9 = .ok (.aload_n 0, 1) := by decide +kernel
theorem dX9_keepPast_10 : decode cX9_keepPast 10 = .ok (.getfield 39, 3) := by decide +kernel
theorem dX9_keepPast_13 : decode cX9_keepPast 13 = .ok (.invokevirtual 219, 3) := by decide +kernel
theorem dX9_keepPast_16 : decode cX9_keepPast 16 = .ok (.aload_n 0, 1) := by decide +kernel
theorem dX9_keepPast_17 : decode cX9_keepPast 17 = .ok (.aload_n 0, 1) := by decide +kernel
theorem dX9_keepPast_18 : decode cX9_keepPast 18 = .ok (.getfield 216, 3) := by decide +kernel
theorem dX9_keepPast_21 : decode cX9_keepPast 21 = .ok (.iconst 1, 1) := by decide +kernel
theorem dX9_keepPast_22 : decode cX9_keepPast 22 = .ok (.iadd, 1) := by decide +kernel
theorem dX9_keepPast_23 : decode cX9_keepPast 23 = .ok (.bipush 16, 2) := by decide +kernel
theorem dX9_keepPast_25 : decode cX9_keepPast 25 = .ok (.irem, 1) := by decide +kernel
theorem dX9_keepPast_26 : decode cX9_keepPast 26 = .ok (.putfield 216, 3) := by decide +kernel
theorem dX9_keepPast_29 : decode cX9_keepPast 29 = .ok (.aload_n 0, 1) := by decide +kernel
theorem dX9_keepPast_30 : decode cX9_keepPast 30 = .ok (.aload_n 0, 1) := by decide +kernel
theorem dX9_keepPast_31 : decode cX9_keepPast 31 = .ok (.getfield 192, 3) := by decide +kernel
theorem dX9_keepPast_34 : decode cX9_keepPast 34 = .ok (.iconst 1, 1) := by decide +kernel
theorem dX9_keepPast_35 : decode cX9_keepPast 35 = .ok (.iadd, 1) := by decide +kernel
theorem dX9_keepPast_36 : decode cX9_keepPast 36 = .ok (.bipush 16, 2) := by decide +kernel
theorem dX9_keepPast_38 : decode cX9_keepPast 38 = .ok (.invokestatic 223, 3) := by decide +kernel
theorem dX9_keepPast_41 : decode cX9_keepPast 41 = .ok (.putfield 192, 3) := by decide +kernel
theorem dX9_keepPast_44 : decode cX9_keepPast 44 = .ok (.return_, 1) := by decide +kernel
theorem dX9_forgetPast_0 : decode cX9_forgetPast 0 = .ok (.aload_n 0, 1) := by decide +kernel
theorem dX9_forgetPast_1 : decode cX9_forgetPast 1 = .ok (.iconst 0, 1) := by decide +kernel
theorem dX9_forgetPast_2 : decode cX9_forgetPast 2 = .ok (.putfield 192, 3) := by decide +kernel
theorem dX9_forgetPast_5 : decode cX9_forgetPast 5 = .ok (.aload_n 0, 1) := by decide +kernel
theorem dX9_forgetPast_6 : decode cX9_forgetPast 6 = .ok (.iconst 0, 1) := by decide +kernel
theorem dX9_forgetPast_7 : decode cX9_forgetPast 7 = .ok (.putfield 216, 3) := by decide +kernel
theorem dX9_forgetPast_10 : decode cX9_forgetPast 10 = .ok (.return_, 1) := by decide +kernel
theorem dX9_mark_0 : decode cX9_mark 0 = .ok (.iload_n 1, 1) := by decide +kernel
theorem dX9_mark_1 : decode cX9_mark 1 = .ok (.iconst 0, 1) := by decide +kernel
theorem dX9_mark_2 : decode cX9_mark 2 = .ok (.iconst 3, 1) := by decide +kernel
theorem dX9_mark_3 : decode cX9_mark 3 = .ok (.invokestatic 229, 3) := by decide +kernel
theorem dX9_mark_6 : decode cX9_mark 6 = .ok (.ifCond .ne 5, 3) := by decide +kernel
theorem dX9_mark_9 : decode cX9_mark 9 = .ok (.iconst 0, 1) := by decide +kernel
theorem dX9_mark_10 : decode cX9_mark 10 = .ok (.ireturn, 1) := by decide +kernel
theorem dX9_mark_11 : decode cX9_mark 11 = .ok (.aload_n 0, 1) := by decide +kernel
theorem dX9_mark_12 : decode cX9_mark 12 = .ok (.getfield 66, 3) := by decide +kernel
theorem dX9_mark_15 : decode cX9_mark 15 = .ok (.iload_n 1, 1) := by decide +kernel
theorem dX9_mark_16 : decode cX9_mark 16 = .ok (.aaload, 1) := by decide +kernel
theorem dX9_mark_17 : decode cX9_mark 17 = .ok (.astore_n 3, 1) := by decide +kernel
theorem dX9_mark_18 : decode cX9_mark 18 = .ok (.iload_n 2, 1) := by decide +kernel
theorem dX9_mark_19 : decode cX9_mark 19 = .ok (.ifCond .ne 21, 3) := by decide +kernel
theorem dX9_mark_22 : decode cX9_mark 22 = .ok (.aload_n 3, 1) := by decide +kernel
theorem dX9_mark_23 : decode cX9_mark 23 = .ok (.aload_n 0, 1) := by decide +kernel
theorem dX9_mark_24 : decode cX9_mark 24 = .ok (.getfield 39, 3) := by decide +kernel
theorem dX9_mark_27 : decode cX9_mark 27 = .ok (.aload_n 0, 1) := by decide +kernel
theorem dX9_mark_28 : decode cX9_mark 28 = .ok (.getfield 29, 3) := by decide +kernel
theorem dX9_mark_31 : decode cX9_mark 31 = .ok (.aload_n 0, 1) := by decide +kernel
theorem dX9_mark_32 : decode cX9_mark 32 = .ok (.getfield 49, 3) := by decide +kernel
theorem dX9_mark_35 : decode cX9_mark 35 = .ok (.invokevirtual 233, 3) := by decide +kernel
theorem dX9_mark_38 : decode cX9_mark 38 = .ok (.iconst 1, 1) := by decide +kernel
theorem dX9_mark_39 : decode cX9_mark 39 = .ok (.ireturn, 1) := by decide +kernel
theorem dX9_mark_40 : decode cX9_mark 40 = .ok (.aload_n 3, 1) := by decide +kernel
theorem dX9_mark_41 : decode cX9_mark 41 = .ok (.getfield 102, 3) := by decide +kernel
theorem dX9_mark_44 : decode cX9_mark 44 = .ok (.ifCond .ne 5, 3) := by decide +kernel
theorem dX9_mark_47 : decode cX9_mark 47 = .ok (.iconst 0, 1) := by decide +kernel
theorem dX9_mark_48 : decode cX9_mark 48 = .ok (.ireturn, 1) := by decide +kernel
theorem dX9_mark_49 : decode cX9_mark 49 = .ok (.aload_n 0, 1) := by decide +kernel
theorem dX9_mark_50 : decode cX9_mark 50 = .ok (.getfield 39, 3) := by decide +kernel
theorem dX9_mark_53 : decode cX9_mark 53 = .ok (.aload_n 3, 1) := by decide +kernel
theorem dX9_mark_54 : decode cX9_mark 54 = .ok (.getfield 237, 3) := by decide +kernel
theorem dX9_mark_57 : decode cX9_mark 57 = .ok (.invokevirtual 219, 3) := by decide +kernel
theorem dX9_mark_60 : decode cX9_mark 60 = .ok (.aload_n 0, 1) := by decide +kernel
theorem dX9_mark_61 : decode cX9_mark 61 = .ok (.getfield 29, 3) := by decide +kernel
theorem dX9_mark_64 : decode cX9_mark 64 = .ok (.aload_n 3, 1) := by decide +kernel
theorem dX9_mark_65 : decode cX9_mark 65 = .ok (.getfield 240, 3) := by decide +kernel
theorem dX9_mark_68 : decode cX9_mark 68 = .ok (.invokevirtual 241, 3) := by decide +kernel
theorem dX9_mark_71 : decode cX9_mark 71 = .ok (.aload_n 0, 1) := by decide +kernel
theorem dX9_mark_72 : decode cX9_mark 72 = .ok (.getfield 49, 3) := by decide +kernel
theorem dX9_mark_75 : decode cX9_mark 75 = .ok (.aload_n 3, 1) := by decide +kernel
theorem dX9_mark_76 : decode cX9_mark 76 = .ok (.getfield 244, 3) := by decide +kernel
theorem dX9_mark_79 : decode cX9_mark 79 = .ok (.invokevirtual 245, 3) := by decide +kernel
theorem dX9_mark_82 : decode cX9_mark 82 = .ok (.aload_n 0, 1) := by decide +kernel
theorem dX9_mark_83 : decode cX9_mark 83 = .ok (.invokevirtual 106, 3) := by decide +kernel
theorem dX9_mark_86 : decode cX9_mark 86 = .ok (.aload_n 0, 1) := by decide +kernel
theorem dX9_mark_87 : decode cX9_mark 87 = .ok (.getfield 56, 3) := by decide +kernel
theorem dX9_mark_90 : decode cX9_mark 90 = .ok (.invokevirtual 109, 3) := by decide +kernel
theorem dX9_mark_93 : decode cX9_mark 93 = .ok (.iconst 1, 1) := by decide +kernel
theorem dX9_mark_94 : decode cX9_mark 94 = .ok (.ireturn, 1) := by decide +kernel
theorem dX9_judged_0 : decode cX9_judged 0 = .ok (.iload_n 1, 1) := by decide +kernel
theorem dX9_judged_1 : decode cX9_judged 1 = .ok (.iconst 0, 1) := by decide +kernel
theorem dX9_judged_2 : decode cX9_judged 2 = .ok (.iconst 2, 1) := by decide +kernel
theorem dX9_judged_3 : decode cX9_judged 3 = .ok (.invokestatic 229, 3) := by decide +kernel
theorem dX9_judged_6 : decode cX9_judged 6 = .ok (.ifCond .ne 6, 3) := by decide +kernel
theorem dX9_judged_9 : decode cX9_judged 9 = .ok (.bipush (-2), 2) := by decide +kernel
theorem dX9_judged_11 : decode cX9_judged 11 = .ok (.ireturn, 1) := by decide +kernel
theorem dX9_judged_12 : decode cX9_judged 12 = .ok (.iconst (-1), 1) := by decide +kernel
theorem dX9_judged_13 : decode cX9_judged 13 = .ok (.istore_n 2, 1) := by decide +kernel
theorem dX9_judged_14 : decode cX9_judged 14 = .ok (.iconst (-1), 1) := by decide +kernel
theorem dX9_judged_15 : decode cX9_judged 15 = .ok (.istore_n 3, 1) := by decide +kernel
theorem dX9_judged_16 : decode cX9_judged 16 = .ok (.iconst 0, 1) := by decide +kernel
theorem dX9_judged_17 : decode cX9_judged 17 = .ok (.istore 4, 2) := by decide +kernel
theorem dX9_judged_19 : decode cX9_judged 19 = .ok (.aload_n 0, 1) := by decide +kernel
theorem dX9_judged_20 : decode cX9_judged 20 = .ok (.getfield 43, 3) := by decide +kernel
theorem dX9_judged_23 : decode cX9_judged 23 = .ok (.aload_n 0, 1) := by decide +kernel
theorem dX9_judged_24 : decode cX9_judged 24 = .ok (.getfield 19, 3) := by decide +kernel
theorem dX9_judged_27 : decode cX9_judged 27 = .ok (.invokevirtual 75, 3) := by decide +kernel
theorem dX9_judged_30 : decode cX9_judged 30 = .ok (.iconst 0, 1) := by decide +kernel
theorem dX9_judged_31 : decode cX9_judged 31 = .ok (.istore 5, 2) := by decide +kernel
theorem dX9_judged_33 : decode cX9_judged 33 = .ok (.iload 5, 2) := by decide +kernel
theorem dX9_judged_35 : decode cX9_judged 35 = .ok (.aload_n 0, 1) := by decide +kernel
theorem dX9_judged_36 : decode cX9_judged 36 = .ok (.getfield 29, 3) := by decide +kernel
theorem dX9_judged_39 : decode cX9_judged 39 = .ok (.getfield 98, 3) := by decide +kernel
theorem dX9_judged_42 : decode cX9_judged 42 = .ok (.if_icmp .ge 99, 3) := by decide +kernel
theorem dX9_judged_45 : decode cX9_judged 45 = .ok (.aload_n 0, 1) := by decide +kernel
theorem dX9_judged_46 : decode cX9_judged 46 = .ok (.getfield 43, 3) := by decide +kernel
theorem dX9_judged_49 : decode cX9_judged 49 = .ok (.aload_n 0, 1) := by decide +kernel
theorem dX9_judged_50 : decode cX9_judged 50 = .ok (.getfield 19, 3) := by decide +kernel
theorem dX9_judged_53 : decode cX9_judged 53 = .ok (.aload_n 0, 1) := by decide +kernel
theorem dX9_judged_54 : decode cX9_judged 54 = .ok (.getfield 29, 3) := by decide +kernel
theorem dX9_judged_57 : decode cX9_judged 57 = .ok (.getfield 248, 3) := by decide +kernel
theorem dX9_judged_60 : decode cX9_judged 60 = .ok (.iload 5, 2) := by decide +kernel
theorem dX9_judged_62 : decode cX9_judged 62 = .ok (.iaload, 1) := by decide +kernel
theorem dX9_judged_63 : decode cX9_judged 63 = .ok (.aload_n 0, 1) := by decide +kernel
theorem dX9_judged_64 : decode cX9_judged 64 = .ok (.getfield 29, 3) := by decide +kernel
theorem dX9_judged_67 : decode cX9_judged 67 = .ok (.getfield 251, 3) := by decide +kernel
theorem dX9_judged_70 : decode cX9_judged 70 = .ok (.iload 5, 2) := by decide +kernel
theorem dX9_judged_72 : decode cX9_judged 72 = .ok (.iaload, 1) := by decide +kernel
theorem dX9_judged_73 : decode cX9_judged 73 = .ok (.aload_n 0, 1) := by decide +kernel
theorem dX9_judged_74 : decode cX9_judged 74 = .ok (.getfield 29, 3) := by decide +kernel
theorem dX9_judged_77 : decode cX9_judged 77 = .ok (.getfield 254, 3) := by decide +kernel
theorem dX9_judged_80 : decode cX9_judged 80 = .ok (.iload 5, 2) := by decide +kernel
theorem dX9_judged_82 : decode cX9_judged 82 = .ok (.iaload, 1) := by decide +kernel
theorem dX9_judged_83 : decode cX9_judged 83 = .ok (.invokevirtual 257, 3) := by decide +kernel
theorem dX9_judged_86 : decode cX9_judged 86 = .ok (.istore 6, 2) := by decide +kernel
theorem dX9_judged_88 : decode cX9_judged 88 = .ok (.iload 6, 2) := by decide +kernel
theorem dX9_judged_90 : decode cX9_judged 90 = .ok (.ifCond .ne 11, 3) := by decide +kernel
theorem dX9_judged_93 : decode cX9_judged 93 = .ok (.iload_n 2, 1) := by decide +kernel
theorem dX9_judged_94 : decode cX9_judged 94 = .ok (.iconst (-1), 1) := by decide +kernel
theorem dX9_judged_95 : decode cX9_judged 95 = .ok (.if_icmp .ne 6, 3) := by decide +kernel
theorem dX9_judged_98 : decode cX9_judged 98 = .ok (.iload 5, 2) := by decide +kernel
theorem dX9_judged_100 : decode cX9_judged 100 = .ok (.istore_n 2, 1) := by decide +kernel
theorem dX9_judged_101 : decode cX9_judged 101 = .ok (.iload 6, 2) := by decide +kernel
theorem dX9_judged_103 : decode cX9_judged 103 = .ok (.ifCond .eq 32, 3) := by decide +kernel
theorem dX9_judged_106 : decode cX9_judged 106 = .ok (.aload_n 0, 1) := by decide +kernel
theorem dX9_judged_107 : decode cX9_judged 107 = .ok (.getfield 29, 3) := by decide +kernel
theorem dX9_judged_110 : decode cX9_judged 110 = .ok (.getfield 248, 3) := by decide +kernel
theorem dX9_judged_113 : decode cX9_judged 113 = .ok (.iload 5, 2) := by decide +kernel
theorem dX9_judged_115 : decode cX9_judged 115 = .ok (.iaload, 1) := by decide +kernel
theorem dX9_judged_116 : decode cX9_judged 116 = .ok (.iconst 3, 1) := by decide +kernel
theorem dX9_judged_117 : decode cX9_judged 117 = .ok (.if_icmp .ne 18, 3) := by decide +kernel
theorem dX9_judged_120 : decode cX9_judged 120 = .ok (.iinc 4 1, 3) := by decide +kernel
theorem dX9_judged_123 : decode cX9_judged 123 = .ok (.iload_n 3, 1) := by decide +kernel
theorem dX9_judged_124 : decode cX9_judged 124 = .ok (.iconst (-1), 1) := by decide +kernel
theorem dX9_judged_125 : decode cX9_judged 125 = .ok (.if_icmp .ne 8, 3) := by decide +kernel
theorem dX9_judged_128 : decode cX9_judged 128 = .ok (.iload 5, 2) := by decide +kernel
theorem dX9_judged_130 : decode cX9_judged 130 = .ok (.goto 4, 3) := by decide +kernel
theorem dX9_judged_133 : decode cX9_judged 133 = .ok (.iload_n 3, 1) := by decide +kernel
theorem dX9_judged_134 : decode cX9_judged 134 = .ok (.istore_n 3, 1) := by decide +kernel
theorem dX9_judged_135 : decode cX9_judged 135 = .ok (.iinc 5 1, 3) := by decide +kernel
theorem dX9_judged_138 : decode cX9_judged 138 = .ok (.goto (-105), 3) := by decide +kernel
theorem dX9_judged_141 : decode cX9_judged 141 = .ok (.iload_n 1, 1) := by decide +kernel
theorem dX9_judged_142 : decode cX9_judged 142 = .ok (.ifCond .ne 7, 3) := by decide +kernel
theorem dX9_judged_145 : decode cX9_judged 145 = .ok (.iload_n 2, 1) := by decide +kernel
theorem dX9_judged_146 : decode cX9_judged 146 = .ok (.goto 14, 3) := by decide +kernel
theorem dX9_judged_149 : decode cX9_judged 149 = .ok (.iload_n 1, 1) := by decide +kernel
theorem dX9_judged_150 : decode cX9_judged 150 = .ok (.iconst 1, 1) := by decide +kernel
theorem dX9_judged_151 : decode cX9_judged 151 = .ok (.if_icmp .ne 7, 3) := by decide +kernel
theorem dX9_judged_154 : decode cX9_judged 154 = .ok (.iload_n 3, 1) := by decide +kernel
theorem dX9_judged_155 : decode cX9_judged 155 = .ok (.goto 5, 3) := by decide +kernel
theorem dX9_judged_158 : decode cX9_judged 158 = .ok (.iload 4, 2) := by decide +kernel
theorem dX9_judged_160 : decode cX9_judged 160 = .ok (.ireturn, 1) := by decide +kernel
theorem dX9_later_0 : decode cX9_later 0 = .ok (.aload_n 0, 1) := by decide +kernel
theorem dX9_later_1 : decode cX9_later 1 = .ok (.iload_n 1, 1) := by decide +kernel
theorem dX9_later_2 : decode cX9_later 2 = .ok (.invokevirtual 131, 3) := by decide +kernel
theorem dX9_later_5 : decode cX9_later 5 = .ok (.ifCond .eq 13, 3) := by decide +kernel
theorem dX9_later_8 : decode cX9_later 8 = .ok (.iload_n 2, 1) := by decide +kernel
theorem dX9_later_9 : decode cX9_later 9 = .ok (.iconst 0, 1) := by decide +kernel
theorem dX9_later_10 : decode cX9_later 10 = .ok (.bipush 60, 2) := by decide +kernel
theorem dX9_later_12 : decode cX9_later 12 = .ok (.invokestatic 229, 3) := by decide +kernel
theorem dX9_later_15 : decode cX9_later 15 = .ok (.ifCond .ne 5, 3) := by decide +kernel
theorem dX9_later_18 : decode cX9_later 18 = .ok (.iconst (-1), 1) := by decide +kernel
theorem dX9_later_19 : decode cX9_later 19 = .ok (.ireturn, 1) := by decide +kernel
theorem dX9_later_20 : decode cX9_later 20 = .ok (.aload_n 0, 1) := by decide +kernel
theorem dX9_later_21 : decode cX9_later 21 = .ok (.getfield 56, 3) := by decide +kernel
theorem dX9_later_24 : decode cX9_later 24 = .ok (.aload_n 0, 1) := by decide +kernel
theorem dX9_later_25 : decode cX9_later 25 = .ok (.getfield 19, 3) := by decide +kernel
theorem dX9_later_28 : decode cX9_later 28 = .ok (.aload_n 0, 1) := by decide +kernel
theorem dX9_later_29 : decode cX9_later 29 = .ok (.getfield 39, 3) := by decide +kernel
theorem dX9_later_32 : decode cX9_later 32 = .ok (.iload_n 2, 1) := by decide +kernel
theorem dX9_later_33 : decode cX9_later 33 = .ok (.invokevirtual 261, 3) := by decide +kernel
theorem dX9_later_36 : decode cX9_later 36 = .ok (.aload_n 0, 1) := by decide +kernel
theorem dX9_later_37 : decode cX9_later 37 = .ok (.getfield 56, 3) := by decide +kernel
theorem dX9_later_40 : decode cX9_later 40 = .ok (.iload_n 2, 1) := by decide +kernel
theorem dX9_later_41 : decode cX9_later 41 = .ok (.iload_n 1, 1) := by decide +kernel
theorem dX9_later_42 : decode cX9_later 42 = .ok (.invokevirtual 265, 3) := by decide +kernel
theorem dX9_later_45 : decode cX9_later 45 = .ok (.ireturn, 1) := by decide +kernel
theorem dX9_where_0 : decode cX9_where 0 = .ok (.aload_n 0, 1) := by decide +kernel
theorem dX9_where_1 : decode cX9_where 1 = .ok (.iload_n 1, 1) := by decide +kernel
theorem dX9_where_2 : decode cX9_where 2 = .ok (.invokevirtual 151, 3) := by decide +kernel
theorem dX9_where_5 : decode cX9_where 5 = .ok (.ifCond .eq 13, 3) := by decide +kernel
theorem dX9_where_8 : decode cX9_where 8 = .ok (.iload_n 2, 1) := by decide +kernel
theorem dX9_where_9 : decode cX9_where 9 = .ok (.iconst 0, 1) := by decide +kernel
theorem dX9_where_10 : decode cX9_where 10 = .ok (.bipush 60, 2) := by decide +kernel
theorem dX9_where_12 : decode cX9_where 12 = .ok (.invokestatic 229, 3) := by decide +kernel
theorem dX9_where_15 : decode cX9_where 15 = .ok (.ifCond .ne 5, 3) := by decide +kernel
theorem dX9_where_18 : decode cX9_where 18 = .ok (.iconst (-1), 1) := by decide +kernel
theorem dX9_where_19 : decode cX9_where 19 = .ok (.ireturn, 1) := by decide +kernel
theorem dX9_where_20 : decode cX9_where 20 = .ok (.aload_n 0, 1) := by decide +kernel
theorem dX9_where_21 : decode cX9_where 21 = .ok (.getfield 56, 3) := by decide +kernel
theorem dX9_where_24 : decode cX9_where 24 = .ok (.aload_n 0, 1) := by decide +kernel
theorem dX9_where_25 : decode cX9_where 25 = .ok (.getfield 19, 3) := by decide +kernel
theorem dX9_where_28 : decode cX9_where 28 = .ok (.aload_n 0, 1) := by decide +kernel
theorem dX9_where_29 : decode cX9_where 29 = .ok (.getfield 39, 3) := by decide +kernel
theorem dX9_where_32 : decode cX9_where 32 = .ok (.iload_n 2, 1) := by decide +kernel
theorem dX9_where_33 : decode cX9_where 33 = .ok (.invokevirtual 261, 3) := by decide +kernel
theorem dX9_where_36 : decode cX9_where 36 = .ok (.aload_n 0, 1) := by decide +kernel
theorem dX9_where_37 : decode cX9_where 37 = .ok (.getfield 56, 3) := by decide +kernel
theorem dX9_where_40 : decode cX9_where 40 = .ok (.iload_n 2, 1) := by decide +kernel
theorem dX9_where_41 : decode cX9_where 41 = .ok (.iload_n 1, 1) := by decide +kernel
theorem dX9_where_42 : decode cX9_where 42 = .ok (.invokevirtual 268, 3) := by decide +kernel
theorem dX9_where_45 : decode cX9_where 45 = .ok (.ireturn, 1) := by decide +kernel
theorem dX9_dry_0 : decode cX9_dry 0 = .ok (.aload_n 0, 1) := by decide +kernel
theorem dX9_dry_1 : decode cX9_dry 1 = .ok (.iload_n 1, 1) := by decide +kernel
theorem dX9_dry_2 : decode cX9_dry 2 = .ok (.invokevirtual 131, 3) := by decide +kernel
theorem dX9_dry_5 : decode cX9_dry 5 = .ok (.ifCond .eq 14, 3) := by decide +kernel
theorem dX9_dry_8 : decode cX9_dry 8 = .ok (.aload_n 0, 1) := by decide +kernel
theorem dX9_dry_9 : decode cX9_dry 9 = .ok (.iconst 1, 1) := by decide +kernel
theorem dX9_dry_10 : decode cX9_dry 10 = .ok (.iload_n 1, 1) := by decide +kernel
theorem dX9_dry_11 : decode cX9_dry 11 = .ok (.ishl, 1) := by decide +kernel
theorem dX9_dry_12 : decode cX9_dry 12 = .ok (.iconst 0, 1) := by decide +kernel
theorem dX9_dry_13 : decode cX9_dry 13 = .ok (.invokevirtual 271, 3) := by decide +kernel
theorem dX9_dry_16 : decode cX9_dry 16 = .ok (.goto 4, 3) := by decide +kernel
theorem dX9_dry_19 : decode cX9_dry 19 = .ok (.iconst (-1), 1) := by decide +kernel
theorem dX9_dry_20 : decode cX9_dry 20 = .ok (.ireturn, 1) := by decide +kernel
theorem dX9_wet_0 : decode cX9_wet 0 = .ok (.aload_n 0, 1) := by decide +kernel
theorem dX9_wet_1 : decode cX9_wet 1 = .ok (.iload_n 1, 1) := by decide +kernel
theorem dX9_wet_2 : decode cX9_wet 2 = .ok (.invokevirtual 131, 3) := by decide +kernel
theorem dX9_wet_5 : decode cX9_wet 5 = .ok (.ifCond .eq 16, 3) := by decide +kernel
theorem dX9_wet_8 : decode cX9_wet 8 = .ok (.aload_n 0, 1) := by decide +kernel
theorem dX9_wet_9 : decode cX9_wet 9 = .ok (.iconst 1, 1) := by decide +kernel
theorem dX9_wet_10 : decode cX9_wet 10 = .ok (.iload_n 1, 1) := by decide +kernel
theorem dX9_wet_11 : decode cX9_wet 11 = .ok (.ishl, 1) := by decide +kernel
theorem dX9_wet_12 : decode cX9_wet 12 = .ok (.iconst 1, 1) := by decide +kernel
theorem dX9_wet_13 : decode cX9_wet 13 = .ok (.iload_n 1, 1) := by decide +kernel
theorem dX9_wet_14 : decode cX9_wet 14 = .ok (.ishl, 1) := by decide +kernel
theorem dX9_wet_15 : decode cX9_wet 15 = .ok (.invokevirtual 271, 3) := by decide +kernel
theorem dX9_wet_18 : decode cX9_wet 18 = .ok (.goto 4, 3) := by decide +kernel
theorem dX9_wet_21 : decode cX9_wet 21 = .ok (.iconst (-1), 1) := by decide +kernel
theorem dX9_wet_22 : decode cX9_wet 22 = .ok (.ireturn, 1) := by decide +kernel
theorem dX9_flood_0 : decode cX9_flood 0 = .ok (.aload_n 0, 1) := by decide +kernel
theorem dX9_flood_1 : decode cX9_flood 1 = .ok (.aload_n 0, 1) := by decide +kernel
theorem dX9_flood_2 : decode cX9_flood 2 = .ok (.getfield 19, 3) := by decide +kernel
theorem dX9_flood_5 : decode cX9_flood 5 = .ok (.invokevirtual 274, 3) := by decide +kernel
theorem dX9_flood_8 : decode cX9_flood 8 = .ok (.aload_n 0, 1) := by decide +kernel
theorem dX9_flood_9 : decode cX9_flood 9 = .ok (.getfield 19, 3) := by decide +kernel
theorem dX9_flood_12 : decode cX9_flood 12 = .ok (.invokevirtual 274, 3) := by decide +kernel
theorem dX9_flood_15 : decode cX9_flood 15 = .ok (.invokevirtual 271, 3) := by decide +kernel
theorem dX9_flood_18 : decode cX9_flood 18 = .ok (.ireturn, 1) := by decide +kernel
theorem dX9_firstDay_0 : decode cX9_firstDay 0 = .ok (.iconst 0, 1) := by decide +kernel
theorem dX9_firstDay_1 : decode cX9_firstDay 1 = .ok (.istore_n 3, 1) := by decide +kernel
theorem dX9_firstDay_2 : decode cX9_firstDay 2 = .ok (.iload_n 3, 1) := by decide +kernel
theorem dX9_firstDay_3 : decode cX9_firstDay 3 = .ok (.bipush 60, 2) := by decide +kernel
theorem dX9_firstDay_5 : decode cX9_firstDay 5 = .ok (.if_icmp .gt 41, 3) := by decide +kernel
theorem dX9_firstDay_8 : decode cX9_firstDay 8 = .ok (.aload_n 0, 1) := by decide +kernel
theorem dX9_firstDay_9 : decode cX9_firstDay 9 = .ok (.getfield 56, 3) := by decide +kernel
theorem dX9_firstDay_12 : decode cX9_firstDay 12 = .ok (.aload_n 0, 1) := by decide +kernel
theorem dX9_firstDay_13 : decode cX9_firstDay 13 = .ok (.getfield 19, 3) := by decide +kernel
theorem dX9_firstDay_16 : decode cX9_firstDay 16 = .ok (.aload_n 0, 1) := by decide +kernel
theorem dX9_firstDay_17 : decode cX9_firstDay 17 = .ok (.getfield 39, 3) := by decide +kernel
theorem dX9_firstDay_20 : decode cX9_firstDay 20 = .ok (.iload_n 3, 1) := by decide +kernel
theorem dX9_firstDay_21 : decode cX9_firstDay 21 = .ok (.invokevirtual 261, 3) := by decide +kernel
theorem dX9_firstDay_24 : decode cX9_firstDay 24 = .ok (.aload_n 0, 1) := by decide +kernel
theorem dX9_firstDay_25 : decode cX9_firstDay 25 = .ok (.getfield 56, 3) := by decide +kernel
theorem dX9_firstDay_28 : decode cX9_firstDay 28 = .ok (.iload_n 3, 1) := by decide +kernel
theorem dX9_firstDay_29 : decode cX9_firstDay 29 = .ok (.invokevirtual 277, 3) := by decide +kernel
theorem dX9_firstDay_32 : decode cX9_firstDay 32 = .ok (.iload_n 1, 1) := by decide +kernel
theorem dX9_firstDay_33 : decode cX9_firstDay 33 = .ok (.iand, 1) := by decide +kernel
theorem dX9_firstDay_34 : decode cX9_firstDay 34 = .ok (.iload_n 2, 1) := by decide +kernel
theorem dX9_firstDay_35 : decode cX9_firstDay 35 = .ok (.if_icmp .ne 5, 3) := by decide +kernel
theorem dX9_firstDay_38 : decode cX9_firstDay 38 = .ok (.iload_n 3, 1) := by decide +kernel
theorem dX9_firstDay_39 : decode cX9_firstDay 39 = .ok (.ireturn, 1) := by decide +kernel
theorem dX9_firstDay_40 : decode cX9_firstDay 40 = .ok (.iinc 3 1, 3) := by decide +kernel
theorem dX9_firstDay_43 : decode cX9_firstDay 43 = .ok (.goto (-41), 3) := by decide +kernel
theorem dX9_firstDay_46 : decode cX9_firstDay 46 = .ok (.iconst (-1), 1) := by decide +kernel
theorem dX9_firstDay_47 : decode cX9_firstDay 47 = .ok (.ireturn, 1) := by decide +kernel
theorem dX9_crest_0 : decode cX9_crest 0 = .ok (.aload_n 0, 1) := by decide +kernel
theorem dX9_crest_1 : decode cX9_crest 1 = .ok (.iload_n 1, 1) := by decide +kernel
theorem dX9_crest_2 : decode cX9_crest 2 = .ok (.invokevirtual 131, 3) := by decide +kernel
theorem dX9_crest_5 : decode cX9_crest 5 = .ok (.ifCond .ne 5, 3) := by decide +kernel
theorem dX9_crest_8 : decode cX9_crest 8 = .ok (.iconst (-1), 1) := by decide +kernel
theorem dX9_crest_9 : decode cX9_crest 9 = .ok (.ireturn, 1) := by decide +kernel
theorem dX9_crest_10 : decode cX9_crest 10 = .ok (.aload_n 0, 1) := by decide +kernel
theorem dX9_crest_11 : decode cX9_crest 11 = .ok (.getfield 56, 3) := by decide +kernel
theorem dX9_crest_14 : decode cX9_crest 14 = .ok (.aload_n 0, 1) := by decide +kernel
theorem dX9_crest_15 : decode cX9_crest 15 = .ok (.getfield 19, 3) := by decide +kernel
theorem dX9_crest_18 : decode cX9_crest 18 = .ok (.aload_n 0, 1) := by decide +kernel
theorem dX9_crest_19 : decode cX9_crest 19 = .ok (.getfield 39, 3) := by decide +kernel
theorem dX9_crest_22 : decode cX9_crest 22 = .ok (.bipush 60, 2) := by decide +kernel
theorem dX9_crest_24 : decode cX9_crest 24 = .ok (.invokevirtual 261, 3) := by decide +kernel
theorem dX9_crest_27 : decode cX9_crest 27 = .ok (.iconst 0, 1) := by decide +kernel
theorem dX9_crest_28 : decode cX9_crest 28 = .ok (.istore_n 2, 1) := by decide +kernel
theorem dX9_crest_29 : decode cX9_crest 29 = .ok (.iconst 1, 1) := by decide +kernel
theorem dX9_crest_30 : decode cX9_crest 30 = .ok (.istore_n 3, 1) := by decide +kernel
theorem dX9_crest_31 : decode cX9_crest 31 = .ok (.iload_n 3, 1) := by decide +kernel
theorem dX9_crest_32 : decode cX9_crest 32 = .ok (.bipush 60, 2) := by decide +kernel
theorem dX9_crest_34 : decode cX9_crest 34 = .ok (.if_icmp .gt 32, 3) := by decide +kernel
theorem dX9_crest_37 : decode cX9_crest 37 = .ok (.aload_n 0, 1) := by decide +kernel
theorem dX9_crest_38 : decode cX9_crest 38 = .ok (.getfield 56, 3) := by decide +kernel
theorem dX9_crest_41 : decode cX9_crest 41 = .ok (.iload_n 3, 1) := by decide +kernel
theorem dX9_crest_42 : decode cX9_crest 42 = .ok (.iload_n 1, 1) := by decide +kernel
theorem dX9_crest_43 : decode cX9_crest 43 = .ok (.invokevirtual 265, 3) := by decide +kernel
theorem dX9_crest_46 : decode cX9_crest 46 = .ok (.aload_n 0, 1) := by decide +kernel
theorem dX9_crest_47 : decode cX9_crest 47 = .ok (.getfield 56, 3) := by decide +kernel
theorem dX9_crest_50 : decode cX9_crest 50 = .ok (.iload_n 2, 1) := by decide +kernel
theorem dX9_crest_51 : decode cX9_crest 51 = .ok (.iload_n 1, 1) := by decide +kernel
theorem dX9_crest_52 : decode cX9_crest 52 = .ok (.invokevirtual 265, 3) := by decide +kernel
theorem dX9_crest_55 : decode cX9_crest 55 = .ok (.if_icmp .le 5, 3) := by decide +kernel
theorem dX9_crest_58 : decode cX9_crest 58 = .ok (.iload_n 3, 1) := by decide +kernel
theorem dX9_crest_59 : decode cX9_crest 59 = .ok (.istore_n 2, 1) := by decide +kernel
theorem dX9_crest_60 : decode cX9_crest 60 = .ok (.iinc 3 1, 3) := by decide +kernel
theorem dX9_crest_63 : decode cX9_crest 63 = .ok (.goto (-32), 3) := by decide +kernel
theorem dX9_crest_66 : decode cX9_crest 66 = .ok (.iload_n 2, 1) := by decide +kernel
theorem dX9_crest_67 : decode cX9_crest 67 = .ok (.ireturn, 1) := by decide +kernel
theorem dX9_safe_0 : decode cX9_safe 0 = .ok (.aload_n 0, 1) := by decide +kernel
theorem dX9_safe_1 : decode cX9_safe 1 = .ok (.iload_n 1, 1) := by decide +kernel
theorem dX9_safe_2 : decode cX9_safe 2 = .ok (.invokevirtual 151, 3) := by decide +kernel
theorem dX9_safe_5 : decode cX9_safe 5 = .ok (.ifCond .eq 13, 3) := by decide +kernel
theorem dX9_safe_8 : decode cX9_safe 8 = .ok (.iload_n 2, 1) := by decide +kernel
theorem dX9_safe_9 : decode cX9_safe 9 = .ok (.iconst 1, 1) := by decide +kernel
theorem dX9_safe_10 : decode cX9_safe 10 = .ok (.bipush 60, 2) := by decide +kernel
theorem dX9_safe_12 : decode cX9_safe 12 = .ok (.invokestatic 229, 3) := by decide +kernel
theorem dX9_safe_15 : decode cX9_safe 15 = .ok (.ifCond .ne 5, 3) := by decide +kernel
theorem dX9_safe_18 : decode cX9_safe 18 = .ok (.iconst (-1), 1) := by decide +kernel
theorem dX9_safe_19 : decode cX9_safe 19 = .ok (.ireturn, 1) := by decide +kernel
theorem dX9_safe_20 : decode cX9_safe 20 = .ok (.aload_n 0, 1) := by decide +kernel
theorem dX9_safe_21 : decode cX9_safe 21 = .ok (.getfield 56, 3) := by decide +kernel
theorem dX9_safe_24 : decode cX9_safe 24 = .ok (.aload_n 0, 1) := by decide +kernel
theorem dX9_safe_25 : decode cX9_safe 25 = .ok (.getfield 19, 3) := by decide +kernel
theorem dX9_safe_28 : decode cX9_safe 28 = .ok (.aload_n 0, 1) := by decide +kernel
theorem dX9_safe_29 : decode cX9_safe 29 = .ok (.getfield 39, 3) := by decide +kernel
theorem dX9_safe_32 : decode cX9_safe 32 = .ok (.iload_n 2, 1) := by decide +kernel
theorem dX9_safe_33 : decode cX9_safe 33 = .ok (.invokevirtual 261, 3) := by decide +kernel
theorem dX9_safe_36 : decode cX9_safe 36 = .ok (.iconst 0, 1) := by decide +kernel
theorem dX9_safe_37 : decode cX9_safe 37 = .ok (.istore_n 3, 1) := by decide +kernel
theorem dX9_safe_38 : decode cX9_safe 38 = .ok (.iconst 0, 1) := by decide +kernel
theorem dX9_safe_39 : decode cX9_safe 39 = .ok (.istore 4, 2) := by decide +kernel
theorem dX9_safe_41 : decode cX9_safe 41 = .ok (.iload 4, 2) := by decide +kernel
theorem dX9_safe_43 : decode cX9_safe 43 = .ok (.aload_n 0, 1) := by decide +kernel
theorem dX9_safe_44 : decode cX9_safe 44 = .ok (.getfield 19, 3) := by decide +kernel
theorem dX9_safe_47 : decode cX9_safe 47 = .ok (.getfield 115, 3) := by decide +kernel
theorem dX9_safe_50 : decode cX9_safe 50 = .ok (.getfield 119, 3) := by decide +kernel
theorem dX9_safe_53 : decode cX9_safe 53 = .ok (.if_icmp .ge 35, 3) := by decide +kernel
theorem dX9_safe_56 : decode cX9_safe 56 = .ok (.aload_n 0, 1) := by decide +kernel
theorem dX9_safe_57 : decode cX9_safe 57 = .ok (.aload_n 0, 1) := by decide +kernel
theorem dX9_safe_58 : decode cX9_safe 58 = .ok (.getfield 19, 3) := by decide +kernel
theorem dX9_safe_61 : decode cX9_safe 61 = .ok (.getfield 154, 3) := by decide +kernel
theorem dX9_safe_64 : decode cX9_safe 64 = .ok (.iload_n 1, 1) := by decide +kernel
theorem dX9_safe_65 : decode cX9_safe 65 = .ok (.iaload, 1) := by decide +kernel
theorem dX9_safe_66 : decode cX9_safe 66 = .ok (.iload 4, 2) := by decide +kernel
theorem dX9_safe_68 : decode cX9_safe 68 = .ok (.iload_n 2, 1) := by decide +kernel
theorem dX9_safe_69 : decode cX9_safe 69 = .ok (.invokevirtual 280, 3) := by decide +kernel
theorem dX9_safe_72 : decode cX9_safe 72 = .ok (.ifCond .eq 10, 3) := by decide +kernel
theorem dX9_safe_75 : decode cX9_safe 75 = .ok (.iload_n 3, 1) := by decide +kernel
theorem dX9_safe_76 : decode cX9_safe 76 = .ok (.iconst 1, 1) := by decide +kernel
theorem dX9_safe_77 : decode cX9_safe 77 = .ok (.iload 4, 2) := by decide +kernel
theorem dX9_safe_79 : decode cX9_safe 79 = .ok (.ishl, 1) := by decide +kernel
theorem dX9_safe_80 : decode cX9_safe 80 = .ok (.ior, 1) := by decide +kernel
theorem dX9_safe_81 : decode cX9_safe 81 = .ok (.istore_n 3, 1) := by decide +kernel
theorem dX9_safe_82 : decode cX9_safe 82 = .ok (.iinc 4 1, 3) := by decide +kernel
theorem dX9_safe_85 : decode cX9_safe 85 = .ok (.goto (-44), 3) := by decide +kernel
theorem dX9_safe_88 : decode cX9_safe 88 = .ok (.iload_n 3, 1) := by decide +kernel
theorem dX9_safe_89 : decode cX9_safe 89 = .ok (.ireturn, 1) := by decide +kernel
theorem dX9_isSafe_0 : decode cX9_isSafe 0 = .ok (.iconst 0, 1) := by decide +kernel
theorem dX9_isSafe_1 : decode cX9_isSafe 1 = .ok (.istore 4, 2) := by decide +kernel
theorem dX9_isSafe_3 : decode cX9_isSafe 3 = .ok (.iload 4, 2) := by decide +kernel
theorem dX9_isSafe_5 : decode cX9_isSafe 5 = .ok (.iload_n 3, 1) := by decide +kernel
theorem dX9_isSafe_6 : decode cX9_isSafe 6 = .ok (.if_icmp .gt 28, 3) := by decide +kernel
theorem dX9_isSafe_9 : decode cX9_isSafe 9 = .ok (.iload_n 1, 1) := by decide +kernel
theorem dX9_isSafe_10 : decode cX9_isSafe 10 = .ok (.aload_n 0, 1) := by decide +kernel
theorem dX9_isSafe_11 : decode cX9_isSafe 11 = .ok (.getfield 56, 3) := by decide +kernel
theorem dX9_isSafe_14 : decode cX9_isSafe 14 = .ok (.iload 4, 2) := by decide +kernel
theorem dX9_isSafe_16 : decode cX9_isSafe 16 = .ok (.iload_n 2, 1) := by decide +kernel
theorem dX9_isSafe_17 : decode cX9_isSafe 17 = .ok (.invokevirtual 265, 3) := by decide +kernel
theorem dX9_isSafe_20 : decode cX9_isSafe 20 = .ok (.invokestatic 283, 3) := by decide +kernel
theorem dX9_isSafe_23 : decode cX9_isSafe 23 = .ok (.ifCond .eq 5, 3) := by decide +kernel
theorem dX9_isSafe_26 : decode cX9_isSafe 26 = .ok (.iconst 0, 1) := by decide +kernel
theorem dX9_isSafe_27 : decode cX9_isSafe 27 = .ok (.ireturn, 1) := by decide +kernel
theorem dX9_isSafe_28 : decode cX9_isSafe 28 = .ok (.iinc 4 1, 3) := by decide +kernel
theorem dX9_isSafe_31 : decode cX9_isSafe 31 = .ok (.goto (-28), 3) := by decide +kernel
theorem dX9_isSafe_34 : decode cX9_isSafe 34 = .ok (.iconst 1, 1) := by decide +kernel
theorem dX9_isSafe_35 : decode cX9_isSafe 35 = .ok (.ireturn, 1) := by decide +kernel
theorem dX9_soon_0 : decode cX9_soon 0 = .ok (.aload_n 0, 1) := by decide +kernel
theorem dX9_soon_1 : decode cX9_soon 1 = .ok (.iload_n 1, 1) := by decide +kernel
theorem dX9_soon_2 : decode cX9_soon 2 = .ok (.invokevirtual 157, 3) := by decide +kernel
theorem dX9_soon_5 : decode cX9_soon 5 = .ok (.ifCond .eq 11, 3) := by decide +kernel
theorem dX9_soon_8 : decode cX9_soon 8 = .ok (.aload_n 0, 1) := by decide +kernel
theorem dX9_soon_9 : decode cX9_soon 9 = .ok (.iload_n 2, 1) := by decide +kernel
theorem dX9_soon_10 : decode cX9_soon 10 = .ok (.invokevirtual 131, 3) := by decide +kernel
theorem dX9_soon_13 : decode cX9_soon 13 = .ok (.ifCond .ne 5, 3) := by decide +kernel
theorem dX9_soon_16 : decode cX9_soon 16 = .ok (.iconst (-1), 1) := by decide +kernel
theorem dX9_soon_17 : decode cX9_soon 17 = .ok (.ireturn, 1) := by decide +kernel
theorem dX9_soon_18 : decode cX9_soon 18 = .ok (.aload_n 0, 1) := by decide +kernel
theorem dX9_soon_19 : decode cX9_soon 19 = .ok (.getfield 56, 3) := by decide +kernel
theorem dX9_soon_22 : decode cX9_soon 22 = .ok (.aload_n 0, 1) := by decide +kernel
theorem dX9_soon_23 : decode cX9_soon 23 = .ok (.getfield 19, 3) := by decide +kernel
theorem dX9_soon_26 : decode cX9_soon 26 = .ok (.aload_n 0, 1) := by decide +kernel
theorem dX9_soon_27 : decode cX9_soon 27 = .ok (.getfield 39, 3) := by decide +kernel
theorem dX9_soon_30 : decode cX9_soon 30 = .ok (.bipush 60, 2) := by decide +kernel
theorem dX9_soon_32 : decode cX9_soon 32 = .ok (.invokevirtual 261, 3) := by decide +kernel
theorem dX9_soon_35 : decode cX9_soon 35 = .ok (.aload_n 0, 1) := by decide +kernel
theorem dX9_soon_36 : decode cX9_soon 36 = .ok (.getfield 56, 3) := by decide +kernel
theorem dX9_soon_39 : decode cX9_soon 39 = .ok (.aload_n 0, 1) := by decide +kernel
theorem dX9_soon_40 : decode cX9_soon 40 = .ok (.getfield 19, 3) := by decide +kernel
theorem dX9_soon_43 : decode cX9_soon 43 = .ok (.aload_n 0, 1) := by decide +kernel
theorem dX9_soon_44 : decode cX9_soon 44 = .ok (.getfield 39, 3) := by decide +kernel
theorem dX9_soon_47 : decode cX9_soon 47 = .ok (.iload_n 1, 1) := by decide +kernel
theorem dX9_soon_48 : decode cX9_soon 48 = .ok (.iload_n 2, 1) := by decide +kernel
theorem dX9_soon_49 : decode cX9_soon 49 = .ok (.invokevirtual 287, 3) := by decide +kernel
theorem dX9_soon_52 : decode cX9_soon 52 = .ok (.ireturn, 1) := by decide +kernel
theorem dX9_serves_0 : decode cX9_serves 0 = .ok (.aload_n 0, 1) := by decide +kernel
theorem dX9_serves_1 : decode cX9_serves 1 = .ok (.iload_n 1, 1) := by decide +kernel
theorem dX9_serves_2 : decode cX9_serves 2 = .ok (.invokevirtual 169, 3) := by decide +kernel
theorem dX9_serves_5 : decode cX9_serves 5 = .ok (.ifCond .eq 11, 3) := by decide +kernel
theorem dX9_serves_8 : decode cX9_serves 8 = .ok (.aload_n 0, 1) := by decide +kernel
theorem dX9_serves_9 : decode cX9_serves 9 = .ok (.iload_n 2, 1) := by decide +kernel
theorem dX9_serves_10 : decode cX9_serves 10 = .ok (.invokevirtual 157, 3) := by decide +kernel
theorem dX9_serves_13 : decode cX9_serves 13 = .ok (.ifCond .ne 5, 3) := by decide +kernel
theorem dX9_serves_16 : decode cX9_serves 16 = .ok (.iconst (-1), 1) := by decide +kernel
theorem dX9_serves_17 : decode cX9_serves 17 = .ok (.ireturn, 1) := by decide +kernel
theorem dX9_serves_18 : decode cX9_serves 18 = .ok (.aload_n 0, 1) := by decide +kernel
theorem dX9_serves_19 : decode cX9_serves 19 = .ok (.getfield 56, 3) := by decide +kernel
theorem dX9_serves_22 : decode cX9_serves 22 = .ok (.aload_n 0, 1) := by decide +kernel
theorem dX9_serves_23 : decode cX9_serves 23 = .ok (.getfield 19, 3) := by decide +kernel
theorem dX9_serves_26 : decode cX9_serves 26 = .ok (.aload_n 0, 1) := by decide +kernel
theorem dX9_serves_27 : decode cX9_serves 27 = .ok (.getfield 39, 3) := by decide +kernel
theorem dX9_serves_30 : decode cX9_serves 30 = .ok (.bipush 60, 2) := by decide +kernel
theorem dX9_serves_32 : decode cX9_serves 32 = .ok (.invokevirtual 261, 3) := by decide +kernel
theorem dX9_serves_35 : decode cX9_serves 35 = .ok (.aload_n 0, 1) := by decide +kernel
theorem dX9_serves_36 : decode cX9_serves 36 = .ok (.getfield 56, 3) := by decide +kernel
theorem dX9_serves_39 : decode cX9_serves 39 = .ok (.aload_n 0, 1) := by decide +kernel
theorem dX9_serves_40 : decode cX9_serves 40 = .ok (.getfield 19, 3) := by decide +kernel
theorem dX9_serves_43 : decode cX9_serves 43 = .ok (.aload_n 0, 1) := by decide +kernel
theorem dX9_serves_44 : decode cX9_serves 44 = .ok (.getfield 39, 3) := by decide +kernel
theorem dX9_serves_47 : decode cX9_serves 47 = .ok (.iload_n 1, 1) := by decide +kernel
theorem dX9_serves_48 : decode cX9_serves 48 = .ok (.iload_n 2, 1) := by decide +kernel
theorem dX9_serves_49 : decode cX9_serves 49 = .ok (.invokevirtual 291, 3) := by decide +kernel
theorem dX9_serves_52 : decode cX9_serves 52 = .ok (.ireturn, 1) := by decide +kernel
theorem dX9_intime_0 : decode cX9_intime 0 = .ok (.aload_n 0, 1) := by decide +kernel
theorem dX9_intime_1 : decode cX9_intime 1 = .ok (.iload_n 1, 1) := by decide +kernel
theorem dX9_intime_2 : decode cX9_intime 2 = .ok (.invokevirtual 169, 3) := by decide +kernel
theorem dX9_intime_5 : decode cX9_intime 5 = .ok (.ifCond .ne 5, 3) := by decide +kernel
theorem dX9_intime_8 : decode cX9_intime 8 = .ok (.iconst (-1), 1) := by decide +kernel
theorem dX9_intime_9 : decode cX9_intime 9 = .ok (.ireturn, 1) := by decide +kernel
theorem dX9_intime_10 : decode cX9_intime 10 = .ok (.aload_n 0, 1) := by decide +kernel
theorem dX9_intime_11 : decode cX9_intime 11 = .ok (.getfield 56, 3) := by decide +kernel
theorem dX9_intime_14 : decode cX9_intime 14 = .ok (.aload_n 0, 1) := by decide +kernel
theorem dX9_intime_15 : decode cX9_intime 15 = .ok (.getfield 19, 3) := by decide +kernel
theorem dX9_intime_18 : decode cX9_intime 18 = .ok (.aload_n 0, 1) := by decide +kernel
theorem dX9_intime_19 : decode cX9_intime 19 = .ok (.getfield 39, 3) := by decide +kernel
theorem dX9_intime_22 : decode cX9_intime 22 = .ok (.bipush 60, 2) := by decide +kernel
theorem dX9_intime_24 : decode cX9_intime 24 = .ok (.invokevirtual 261, 3) := by decide +kernel
theorem dX9_intime_27 : decode cX9_intime 27 = .ok (.iconst 0, 1) := by decide +kernel
theorem dX9_intime_28 : decode cX9_intime 28 = .ok (.istore_n 2, 1) := by decide +kernel
theorem dX9_intime_29 : decode cX9_intime 29 = .ok (.iconst 0, 1) := by decide +kernel
theorem dX9_intime_30 : decode cX9_intime 30 = .ok (.istore_n 3, 1) := by decide +kernel
theorem dX9_intime_31 : decode cX9_intime 31 = .ok (.iload_n 3, 1) := by decide +kernel
theorem dX9_intime_32 : decode cX9_intime 32 = .ok (.aload_n 0, 1) := by decide +kernel
theorem dX9_intime_33 : decode cX9_intime 33 = .ok (.getfield 19, 3) := by decide +kernel
theorem dX9_intime_36 : decode cX9_intime 36 = .ok (.getfield 125, 3) := by decide +kernel
theorem dX9_intime_39 : decode cX9_intime 39 = .ok (.getfield 119, 3) := by decide +kernel
theorem dX9_intime_42 : decode cX9_intime 42 = .ok (.if_icmp .ge 62, 3) := by decide +kernel
theorem dX9_intime_45 : decode cX9_intime 45 = .ok (.aload_n 0, 1) := by decide +kernel
theorem dX9_intime_46 : decode cX9_intime 46 = .ok (.getfield 56, 3) := by decide +kernel
theorem dX9_intime_49 : decode cX9_intime 49 = .ok (.aload_n 0, 1) := by decide +kernel
theorem dX9_intime_50 : decode cX9_intime 50 = .ok (.getfield 19, 3) := by decide +kernel
theorem dX9_intime_53 : decode cX9_intime 53 = .ok (.aload_n 0, 1) := by decide +kernel
theorem dX9_intime_54 : decode cX9_intime 54 = .ok (.getfield 39, 3) := by decide +kernel
theorem dX9_intime_57 : decode cX9_intime 57 = .ok (.iload_n 1, 1) := by decide +kernel
theorem dX9_intime_58 : decode cX9_intime 58 = .ok (.iload_n 3, 1) := by decide +kernel
theorem dX9_intime_59 : decode cX9_intime 59 = .ok (.invokevirtual 291, 3) := by decide +kernel
theorem dX9_intime_62 : decode cX9_intime 62 = .ok (.istore 4, 2) := by decide +kernel
theorem dX9_intime_64 : decode cX9_intime 64 = .ok (.iload 4, 2) := by decide +kernel
theorem dX9_intime_66 : decode cX9_intime 66 = .ok (.iconst (-1), 1) := by decide +kernel
theorem dX9_intime_67 : decode cX9_intime 67 = .ok (.if_icmp .eq 31, 3) := by decide +kernel
theorem dX9_intime_70 : decode cX9_intime 70 = .ok (.aload_n 0, 1) := by decide +kernel
theorem dX9_intime_71 : decode cX9_intime 71 = .ok (.getfield 39, 3) := by decide +kernel
theorem dX9_intime_74 : decode cX9_intime 74 = .ok (.getfield 181, 3) := by decide +kernel
theorem dX9_intime_77 : decode cX9_intime 77 = .ok (.iload 4, 2) := by decide +kernel
theorem dX9_intime_79 : decode cX9_intime 79 = .ok (.iadd, 1) := by decide +kernel
theorem dX9_intime_80 : decode cX9_intime 80 = .ok (.aload_n 0, 1) := by decide +kernel
theorem dX9_intime_81 : decode cX9_intime 81 = .ok (.getfield 19, 3) := by decide +kernel
theorem dX9_intime_84 : decode cX9_intime 84 = .ok (.getfield 175, 3) := by decide +kernel
theorem dX9_intime_87 : decode cX9_intime 87 = .ok (.iload_n 1, 1) := by decide +kernel
theorem dX9_intime_88 : decode cX9_intime 88 = .ok (.iaload, 1) := by decide +kernel
theorem dX9_intime_89 : decode cX9_intime 89 = .ok (.if_icmp .gt 9, 3) := by decide +kernel
theorem dX9_intime_92 : decode cX9_intime 92 = .ok (.iload_n 2, 1) := by decide +kernel
theorem dX9_intime_93 : decode cX9_intime 93 = .ok (.iconst 1, 1) := by decide +kernel
theorem dX9_intime_94 : decode cX9_intime 94 = .ok (.iload_n 3, 1) := by decide +kernel
theorem dX9_intime_95 : decode cX9_intime 95 = .ok (.ishl, 1) := by decide +kernel
theorem dX9_intime_96 : decode cX9_intime 96 = .ok (.ior, 1) := by decide +kernel
theorem dX9_intime_97 : decode cX9_intime 97 = .ok (.istore_n 2, 1) := by decide +kernel
theorem dX9_intime_98 : decode cX9_intime 98 = .ok (.iinc 3 1, 3) := by decide +kernel
theorem dX9_intime_101 : decode cX9_intime 101 = .ok (.goto (-70), 3) := by decide +kernel
theorem dX9_intime_104 : decode cX9_intime 104 = .ok (.iload_n 2, 1) := by decide +kernel
theorem dX9_intime_105 : decode cX9_intime 105 = .ok (.ireturn, 1) := by decide +kernel
theorem dX9_share_0 : decode cX9_share 0 = .ok (.iload_n 1, 1) := by decide +kernel
theorem dX9_share_1 : decode cX9_share 1 = .ok (.bipush (-2), 2) := by decide +kernel
theorem dX9_share_3 : decode cX9_share 3 = .ok (.aload_n 0, 1) := by decide +kernel
theorem dX9_share_4 : decode cX9_share 4 = .ok (.getfield 19, 3) := by decide +kernel
theorem dX9_share_7 : decode cX9_share 7 = .ok (.getfield 125, 3) := by decide +kernel
theorem dX9_share_10 : decode cX9_share 10 = .ok (.getfield 119, 3) := by decide +kernel
theorem dX9_share_13 : decode cX9_share 13 = .ok (.iconst 1, 1) := by decide +kernel
theorem dX9_share_14 : decode cX9_share 14 = .ok (.isub, 1) := by decide +kernel
theorem dX9_share_15 : decode cX9_share 15 = .ok (.invokestatic 229, 3) := by decide +kernel
theorem dX9_share_18 : decode cX9_share 18 = .ok (.ifCond .ne 6, 3) := by decide +kernel
theorem dX9_share_21 : decode cX9_share 21 = .ok (.bipush (-3), 2) := by decide +kernel
theorem dX9_share_23 : decode cX9_share 23 = .ok (.ireturn, 1) := by decide +kernel
theorem dX9_share_24 : decode cX9_share 24 = .ok (.aload_n 0, 1) := by decide +kernel
theorem dX9_share_25 : decode cX9_share 25 = .ok (.getfield 56, 3) := by decide +kernel
theorem dX9_share_28 : decode cX9_share 28 = .ok (.aload_n 0, 1) := by decide +kernel
theorem dX9_share_29 : decode cX9_share 29 = .ok (.getfield 19, 3) := by decide +kernel
theorem dX9_share_32 : decode cX9_share 32 = .ok (.aload_n 0, 1) := by decide +kernel
theorem dX9_share_33 : decode cX9_share 33 = .ok (.getfield 39, 3) := by decide +kernel
theorem dX9_share_36 : decode cX9_share 36 = .ok (.bipush 60, 2) := by decide +kernel
theorem dX9_share_38 : decode cX9_share 38 = .ok (.invokevirtual 261, 3) := by decide +kernel
theorem dX9_share_41 : decode cX9_share 41 = .ok (.aload_n 0, 1) := by decide +kernel
theorem dX9_share_42 : decode cX9_share 42 = .ok (.getfield 56, 3) := by decide +kernel
theorem dX9_share_45 : decode cX9_share 45 = .ok (.aload_n 0, 1) := by decide +kernel
theorem dX9_share_46 : decode cX9_share 46 = .ok (.getfield 19, 3) := by decide +kernel
theorem dX9_share_49 : decode cX9_share 49 = .ok (.aload_n 0, 1) := by decide +kernel
theorem dX9_share_50 : decode cX9_share 50 = .ok (.getfield 39, 3) := by decide +kernel
theorem dX9_share_53 : decode cX9_share 53 = .ok (.invokevirtual 294, 3) := by decide +kernel
theorem dX9_share_56 : decode cX9_share 56 = .ok (.iload_n 1, 1) := by decide +kernel
theorem dX9_share_57 : decode cX9_share 57 = .ok (.iconst (-1), 1) := by decide +kernel
theorem dX9_share_58 : decode cX9_share 58 = .ok (.if_icmp .ne 11, 3) := by decide +kernel
theorem dX9_share_61 : decode cX9_share 61 = .ok (.aload_n 0, 1) := by decide +kernel
theorem dX9_share_62 : decode cX9_share 62 = .ok (.getfield 56, 3) := by decide +kernel
theorem dX9_share_65 : decode cX9_share 65 = .ok (.getfield 298, 3) := by decide +kernel
theorem dX9_share_68 : decode cX9_share 68 = .ok (.ireturn, 1) := by decide +kernel
theorem dX9_share_69 : decode cX9_share 69 = .ok (.iload_n 1, 1) := by decide +kernel
theorem dX9_share_70 : decode cX9_share 70 = .ok (.bipush (-2), 2) := by decide +kernel
theorem dX9_share_72 : decode cX9_share 72 = .ok (.if_icmp .ne 13, 3) := by decide +kernel
theorem dX9_share_75 : decode cX9_share 75 = .ok (.aload_n 0, 1) := by decide +kernel
theorem dX9_share_76 : decode cX9_share 76 = .ok (.getfield 56, 3) := by decide +kernel
theorem dX9_share_79 : decode cX9_share 79 = .ok (.getfield 301, 3) := by decide +kernel
theorem dX9_share_82 : decode cX9_share 82 = .ok (.goto 12, 3) := by decide +kernel
theorem dX9_share_85 : decode cX9_share 85 = .ok (.aload_n 0, 1) := by decide +kernel
theorem dX9_share_86 : decode cX9_share 86 = .ok (.getfield 56, 3) := by decide +kernel
theorem dX9_share_89 : decode cX9_share 89 = .ok (.getfield 304, 3) := by decide +kernel
theorem dX9_share_92 : decode cX9_share 92 = .ok (.iload_n 1, 1) := by decide +kernel
theorem dX9_share_93 : decode cX9_share 93 = .ok (.iaload, 1) := by decide +kernel
theorem dX9_share_94 : decode cX9_share 94 = .ok (.ireturn, 1) := by decide +kernel
theorem dX9_late_0 : decode cX9_late 0 = .ok (.iconst 0, 1) := by decide +kernel
theorem dX9_late_1 : decode cX9_late 1 = .ok (.istore_n 1, 1) := by decide +kernel
theorem dX9_late_2 : decode cX9_late 2 = .ok (.iconst 0, 1) := by decide +kernel
theorem dX9_late_3 : decode cX9_late 3 = .ok (.istore_n 2, 1) := by decide +kernel
theorem dX9_late_4 : decode cX9_late 4 = .ok (.iload_n 2, 1) := by decide +kernel
theorem dX9_late_5 : decode cX9_late 5 = .ok (.aload_n 0, 1) := by decide +kernel
theorem dX9_late_6 : decode cX9_late 6 = .ok (.getfield 19, 3) := by decide +kernel
theorem dX9_late_9 : decode cX9_late 9 = .ok (.getfield 128, 3) := by decide +kernel
theorem dX9_late_12 : decode cX9_late 12 = .ok (.getfield 119, 3) := by decide +kernel
theorem dX9_late_15 : decode cX9_late 15 = .ok (.if_icmp .ge 47, 3) := by decide +kernel
theorem dX9_late_18 : decode cX9_late 18 = .ok (.aload_n 0, 1) := by decide +kernel
theorem dX9_late_19 : decode cX9_late 19 = .ok (.getfield 39, 3) := by decide +kernel
theorem dX9_late_22 : decode cX9_late 22 = .ok (.getfield 166, 3) := by decide +kernel
theorem dX9_late_25 : decode cX9_late 25 = .ok (.iload_n 2, 1) := by decide +kernel
theorem dX9_late_26 : decode cX9_late 26 = .ok (.iaload, 1) := by decide +kernel
theorem dX9_late_27 : decode cX9_late 27 = .ok (.iconst 3, 1) := by decide +kernel
theorem dX9_late_28 : decode cX9_late 28 = .ok (.if_icmp .eq 28, 3) := by decide +kernel
theorem dX9_late_31 : decode cX9_late 31 = .ok (.aload_n 0, 1) := by decide +kernel
theorem dX9_late_32 : decode cX9_late 32 = .ok (.getfield 39, 3) := by decide +kernel
theorem dX9_late_35 : decode cX9_late 35 = .ok (.getfield 181, 3) := by decide +kernel
theorem dX9_late_38 : decode cX9_late 38 = .ok (.aload_n 0, 1) := by decide +kernel
theorem dX9_late_39 : decode cX9_late 39 = .ok (.getfield 19, 3) := by decide +kernel
theorem dX9_late_42 : decode cX9_late 42 = .ok (.getfield 175, 3) := by decide +kernel
theorem dX9_late_45 : decode cX9_late 45 = .ok (.iload_n 2, 1) := by decide +kernel
theorem dX9_late_46 : decode cX9_late 46 = .ok (.iaload, 1) := by decide +kernel
theorem dX9_late_47 : decode cX9_late 47 = .ok (.if_icmp .le 9, 3) := by decide +kernel
theorem dX9_late_50 : decode cX9_late 50 = .ok (.iload_n 1, 1) := by decide +kernel
theorem dX9_late_51 : decode cX9_late 51 = .ok (.iconst 1, 1) := by decide +kernel
theorem dX9_late_52 : decode cX9_late 52 = .ok (.iload_n 2, 1) := by decide +kernel
theorem dX9_late_53 : decode cX9_late 53 = .ok (.ishl, 1) := by decide +kernel
theorem dX9_late_54 : decode cX9_late 54 = .ok (.ior, 1) := by decide +kernel
theorem dX9_late_55 : decode cX9_late 55 = .ok (.istore_n 1, 1) := by decide +kernel
theorem dX9_late_56 : decode cX9_late 56 = .ok (.iinc 2 1, 3) := by decide +kernel
theorem dX9_late_59 : decode cX9_late 59 = .ok (.goto (-55), 3) := by decide +kernel
theorem dX9_late_62 : decode cX9_late 62 = .ok (.iload_n 1, 1) := by decide +kernel
theorem dX9_late_63 : decode cX9_late 63 = .ok (.ireturn, 1) := by decide +kernel
theorem dX9_may_0 : decode cX9_may 0 = .ok (.aload_n 0, 1) := by decide +kernel
theorem dX9_may_1 : decode cX9_may 1 = .ok (.getfield 39, 3) := by decide +kernel
theorem dX9_may_4 : decode cX9_may 4 = .ok (.aload_n 0, 1) := by decide +kernel
theorem dX9_may_5 : decode cX9_may 5 = .ok (.getfield 19, 3) := by decide +kernel
theorem dX9_may_8 : decode cX9_may 8 = .ok (.iload_n 1, 1) := by decide +kernel
theorem dX9_may_9 : decode cX9_may 9 = .ok (.invokevirtual 209, 3) := by decide +kernel
theorem dX9_may_12 : decode cX9_may 12 = .ok (.ireturn, 1) := by decide +kernel
theorem dX9_can_0 : decode cX9_can 0 = .ok (.aload_n 0, 1) := by decide +kernel
theorem dX9_can_1 : decode cX9_can 1 = .ok (.iload_n 1, 1) := by decide +kernel
theorem dX9_can_2 : decode cX9_can 2 = .ok (.invokevirtual 157, 3) := by decide +kernel
theorem dX9_can_5 : decode cX9_can 5 = .ok (.ifCond .ne 5, 3) := by decide +kernel
theorem dX9_can_8 : decode cX9_can 8 = .ok (.iconst (-1), 1) := by decide +kernel
theorem dX9_can_9 : decode cX9_can 9 = .ok (.ireturn, 1) := by decide +kernel
theorem dX9_can_10 : decode cX9_can 10 = .ok (.iconst 0, 1) := by decide +kernel
theorem dX9_can_11 : decode cX9_can 11 = .ok (.istore_n 2, 1) := by decide +kernel
theorem dX9_can_12 : decode cX9_can 12 = .ok (.iconst 0, 1) := by decide +kernel
theorem dX9_can_13 : decode cX9_can 13 = .ok (.istore_n 3, 1) := by decide +kernel
theorem dX9_can_14 : decode cX9_can 14 = .ok (.iload_n 3, 1) := by decide +kernel
theorem dX9_can_15 : decode cX9_can 15 = .ok (.aload_n 0, 1) := by decide +kernel
theorem dX9_can_16 : decode cX9_can 16 = .ok (.getfield 19, 3) := by decide +kernel
theorem dX9_can_19 : decode cX9_can 19 = .ok (.getfield 115, 3) := by decide +kernel
theorem dX9_can_22 : decode cX9_can 22 = .ok (.getfield 119, 3) := by decide +kernel
theorem dX9_can_25 : decode cX9_can 25 = .ok (.if_icmp .ge 31, 3) := by decide +kernel
theorem dX9_can_28 : decode cX9_can 28 = .ok (.aload_n 0, 1) := by decide +kernel
theorem dX9_can_29 : decode cX9_can 29 = .ok (.getfield 39, 3) := by decide +kernel
theorem dX9_can_32 : decode cX9_can 32 = .ok (.aload_n 0, 1) := by decide +kernel
theorem dX9_can_33 : decode cX9_can 33 = .ok (.getfield 19, 3) := by decide +kernel
theorem dX9_can_36 : decode cX9_can 36 = .ok (.iload_n 1, 1) := by decide +kernel
theorem dX9_can_37 : decode cX9_can 37 = .ok (.iload_n 3, 1) := by decide +kernel
theorem dX9_can_38 : decode cX9_can 38 = .ok (.invokevirtual 202, 3) := by decide +kernel
theorem dX9_can_41 : decode cX9_can 41 = .ok (.ifCond .eq 9, 3) := by decide +kernel
theorem dX9_can_44 : decode cX9_can 44 = .ok (.iload_n 2, 1) := by decide +kernel
theorem dX9_can_45 : decode cX9_can 45 = .ok (.iconst 1, 1) := by decide +kernel
theorem dX9_can_46 : decode cX9_can 46 = .ok (.iload_n 3, 1) := by decide +kernel
theorem dX9_can_47 : decode cX9_can 47 = .ok (.ishl, 1) := by decide +kernel
theorem dX9_can_48 : decode cX9_can 48 = .ok (.ior, 1) := by decide +kernel
theorem dX9_can_49 : decode cX9_can 49 = .ok (.istore_n 2, 1) := by decide +kernel
theorem dX9_can_50 : decode cX9_can 50 = .ok (.iinc 3 1, 3) := by decide +kernel
theorem dX9_can_53 : decode cX9_can 53 = .ok (.goto (-39), 3) := by decide +kernel
theorem dX9_can_56 : decode cX9_can 56 = .ok (.iload_n 2, 1) := by decide +kernel
theorem dX9_can_57 : decode cX9_can 57 = .ok (.ireturn, 1) := by decide +kernel
theorem dX9_warm_0 : decode cX9_warm 0 = .ok (.iconst (-1), 1) := by decide +kernel
theorem dX9_warm_1 : decode cX9_warm 1 = .ok (.istore_n 1, 1) := by decide +kernel
theorem dX9_warm_2 : decode cX9_warm 2 = .ok (.iconst 0, 1) := by decide +kernel
theorem dX9_warm_3 : decode cX9_warm 3 = .ok (.istore_n 2, 1) := by decide +kernel
theorem dX9_warm_4 : decode cX9_warm 4 = .ok (.iconst 0, 1) := by decide +kernel
theorem dX9_warm_5 : decode cX9_warm 5 = .ok (.istore_n 3, 1) := by decide +kernel
theorem dX9_warm_6 : decode cX9_warm 6 = .ok (.iload_n 3, 1) := by decide +kernel
theorem dX9_warm_7 : decode cX9_warm 7 = .ok (.aload_n 0, 1) := by decide +kernel
theorem dX9_warm_8 : decode cX9_warm 8 = .ok (.getfield 19, 3) := by decide +kernel
theorem dX9_warm_11 : decode cX9_warm 11 = .ok (.getfield 115, 3) := by decide +kernel
theorem dX9_warm_14 : decode cX9_warm 14 = .ok (.getfield 119, 3) := by decide +kernel
theorem dX9_warm_17 : decode cX9_warm 17 = .ok (.if_icmp .ge 46, 3) := by decide +kernel
theorem dX9_warm_20 : decode cX9_warm 20 = .ok (.aload_n 0, 1) := by decide +kernel
theorem dX9_warm_21 : decode cX9_warm 21 = .ok (.getfield 39, 3) := by decide +kernel
theorem dX9_warm_24 : decode cX9_warm 24 = .ok (.getfield 141, 3) := by decide +kernel
theorem dX9_warm_27 : decode cX9_warm 27 = .ok (.aload_n 0, 1) := by decide +kernel
theorem dX9_warm_28 : decode cX9_warm 28 = .ok (.getfield 19, 3) := by decide +kernel
theorem dX9_warm_31 : decode cX9_warm 31 = .ok (.getfield 122, 3) := by decide +kernel
theorem dX9_warm_34 : decode cX9_warm 34 = .ok (.getfield 119, 3) := by decide +kernel
theorem dX9_warm_37 : decode cX9_warm 37 = .ok (.iload_n 3, 1) := by decide +kernel
theorem dX9_warm_38 : decode cX9_warm 38 = .ok (.invokestatic 144, 3) := by decide +kernel
theorem dX9_warm_41 : decode cX9_warm 41 = .ok (.invokestatic 307, 3) := by decide +kernel
theorem dX9_warm_44 : decode cX9_warm 44 = .ok (.istore 4, 2) := by decide +kernel
theorem dX9_warm_46 : decode cX9_warm 46 = .ok (.iload 4, 2) := by decide +kernel
theorem dX9_warm_48 : decode cX9_warm 48 = .ok (.iload_n 2, 1) := by decide +kernel
theorem dX9_warm_49 : decode cX9_warm 49 = .ok (.if_icmp .le 8, 3) := by decide +kernel
theorem dX9_warm_52 : decode cX9_warm 52 = .ok (.iload 4, 2) := by decide +kernel
theorem dX9_warm_54 : decode cX9_warm 54 = .ok (.istore_n 2, 1) := by decide +kernel
theorem dX9_warm_55 : decode cX9_warm 55 = .ok (.iload_n 3, 1) := by decide +kernel
theorem dX9_warm_56 : decode cX9_warm 56 = .ok (.istore_n 1, 1) := by decide +kernel
theorem dX9_warm_57 : decode cX9_warm 57 = .ok (.iinc 3 1, 3) := by decide +kernel
theorem dX9_warm_60 : decode cX9_warm 60 = .ok (.goto (-54), 3) := by decide +kernel
theorem dX9_warm_63 : decode cX9_warm 63 = .ok (.iload_n 1, 1) := by decide +kernel
theorem dX9_warm_64 : decode cX9_warm 64 = .ok (.ireturn, 1) := by decide +kernel
theorem dX9_hunted_0 : decode cX9_hunted 0 = .ok (.iconst (-1), 1) := by decide +kernel
theorem dX9_hunted_1 : decode cX9_hunted 1 = .ok (.istore_n 1, 1) := by decide +kernel
theorem dX9_hunted_2 : decode cX9_hunted 2 = .ok (.iconst 0, 1) := by decide +kernel
theorem dX9_hunted_3 : decode cX9_hunted 3 = .ok (.istore_n 2, 1) := by decide +kernel
theorem dX9_hunted_4 : decode cX9_hunted 4 = .ok (.aload_n 0, 1) := by decide +kernel
theorem dX9_hunted_5 : decode cX9_hunted 5 = .ok (.getfield 19, 3) := by decide +kernel
theorem dX9_hunted_8 : decode cX9_hunted 8 = .ok (.invokevirtual 312, 3) := by decide +kernel
theorem dX9_hunted_11 : decode cX9_hunted 11 = .ok (.aload_n 0, 1) := by decide +kernel
theorem dX9_hunted_12 : decode cX9_hunted 12 = .ok (.getfield 39, 3) := by decide +kernel
theorem dX9_hunted_15 : decode cX9_hunted 15 = .ok (.getfield 166, 3) := by decide +kernel
theorem dX9_hunted_18 : decode cX9_hunted 18 = .ok (.aload_n 0, 1) := by decide +kernel
theorem dX9_hunted_19 : decode cX9_hunted 19 = .ok (.getfield 19, 3) := by decide +kernel
theorem dX9_hunted_22 : decode cX9_hunted 22 = .ok (.getfield 128, 3) := by decide +kernel
theorem dX9_hunted_25 : decode cX9_hunted 25 = .ok (.getfield 119, 3) := by decide +kernel
theorem dX9_hunted_28 : decode cX9_hunted 28 = .ok (.iconst 3, 1) := by decide +kernel
theorem dX9_hunted_29 : decode cX9_hunted 29 = .ok (.invokestatic 144, 3) := by decide +kernel
theorem dX9_hunted_32 : decode cX9_hunted 32 = .ok (.iconst (-1), 1) := by decide +kernel
theorem dX9_hunted_33 : decode cX9_hunted 33 = .ok (.ixor, 1) := by decide +kernel
theorem dX9_hunted_34 : decode cX9_hunted 34 = .ok (.iand, 1) := by decide +kernel
theorem dX9_hunted_35 : decode cX9_hunted 35 = .ok (.istore_n 3, 1) := by decide +kernel
theorem dX9_hunted_36 : decode cX9_hunted 36 = .ok (.iconst 0, 1) := by decide +kernel
theorem dX9_hunted_37 : decode cX9_hunted 37 = .ok (.istore 4, 2) := by decide +kernel
theorem dX9_hunted_39 : decode cX9_hunted 39 = .ok (.iload 4, 2) := by decide +kernel
theorem dX9_hunted_41 : decode cX9_hunted 41 = .ok (.aload_n 0, 1) := by decide +kernel
theorem dX9_hunted_42 : decode cX9_hunted 42 = .ok (.getfield 19, 3) := by decide +kernel
theorem dX9_hunted_45 : decode cX9_hunted 45 = .ok (.getfield 122, 3) := by decide +kernel
theorem dX9_hunted_48 : decode cX9_hunted 48 = .ok (.getfield 119, 3) := by decide +kernel
theorem dX9_hunted_51 : decode cX9_hunted 51 = .ok (.if_icmp .ge 50, 3) := by decide +kernel
theorem dX9_hunted_54 : decode cX9_hunted 54 = .ok (.iload_n 3, 1) := by decide +kernel
theorem dX9_hunted_55 : decode cX9_hunted 55 = .ok (.aload_n 0, 1) := by decide +kernel
theorem dX9_hunted_56 : decode cX9_hunted 56 = .ok (.getfield 19, 3) := by decide +kernel
theorem dX9_hunted_59 : decode cX9_hunted 59 = .ok (.getfield 172, 3) := by decide +kernel
theorem dX9_hunted_62 : decode cX9_hunted 62 = .ok (.aload_n 0, 1) := by decide +kernel
theorem dX9_hunted_63 : decode cX9_hunted 63 = .ok (.getfield 19, 3) := by decide +kernel
theorem dX9_hunted_66 : decode cX9_hunted 66 = .ok (.getfield 128, 3) := by decide +kernel
theorem dX9_hunted_69 : decode cX9_hunted 69 = .ok (.getfield 119, 3) := by decide +kernel
theorem dX9_hunted_72 : decode cX9_hunted 72 = .ok (.iload 4, 2) := by decide +kernel
theorem dX9_hunted_74 : decode cX9_hunted 74 = .ok (.invokestatic 144, 3) := by decide +kernel
theorem dX9_hunted_77 : decode cX9_hunted 77 = .ok (.iand, 1) := by decide +kernel
theorem dX9_hunted_78 : decode cX9_hunted 78 = .ok (.invokestatic 307, 3) := by decide +kernel
theorem dX9_hunted_81 : decode cX9_hunted 81 = .ok (.istore 5, 2) := by decide +kernel
theorem dX9_hunted_83 : decode cX9_hunted 83 = .ok (.iload 5, 2) := by decide +kernel
theorem dX9_hunted_85 : decode cX9_hunted 85 = .ok (.iload_n 2, 1) := by decide +kernel
theorem dX9_hunted_86 : decode cX9_hunted 86 = .ok (.if_icmp .le 9, 3) := by decide +kernel
theorem dX9_hunted_89 : decode cX9_hunted 89 = .ok (.iload 5, 2) := by decide +kernel
theorem dX9_hunted_91 : decode cX9_hunted 91 = .ok (.istore_n 2, 1) := by decide +kernel
theorem dX9_hunted_92 : decode cX9_hunted 92 = .ok (.iload 4, 2) := by decide +kernel
theorem dX9_hunted_94 : decode cX9_hunted 94 = .ok (.istore_n 1, 1) := by decide +kernel
theorem dX9_hunted_95 : decode cX9_hunted 95 = .ok (.iinc 4 1, 3) := by decide +kernel
theorem dX9_hunted_98 : decode cX9_hunted 98 = .ok (.goto (-59), 3) := by decide +kernel
theorem dX9_hunted_101 : decode cX9_hunted 101 = .ok (.iload_n 1, 1) := by decide +kernel
theorem dX9_hunted_102 : decode cX9_hunted 102 = .ok (.ireturn, 1) := by decide +kernel
theorem dX9_reach_0 : decode cX9_reach 0 = .ok (.aload_n 0, 1) := by decide +kernel
theorem dX9_reach_1 : decode cX9_reach 1 = .ok (.iload_n 1, 1) := by decide +kernel
theorem dX9_reach_2 : decode cX9_reach 2 = .ok (.invokevirtual 131, 3) := by decide +kernel
theorem dX9_reach_5 : decode cX9_reach 5 = .ok (.ifCond .eq 23, 3) := by decide +kernel
theorem dX9_reach_8 : decode cX9_reach 8 = .ok (.aload_n 0, 1) := by decide +kernel
theorem dX9_reach_9 : decode cX9_reach 9 = .ok (.getfield 19, 3) := by decide +kernel
theorem dX9_reach_12 : decode cX9_reach 12 = .ok (.iconst 1, 1) := by decide +kernel
theorem dX9_reach_13 : decode cX9_reach 13 = .ok (.iload_n 1, 1) := by decide +kernel
theorem dX9_reach_14 : decode cX9_reach 14 = .ok (.ishl, 1) := by decide +kernel
theorem dX9_reach_15 : decode cX9_reach 15 = .ok (.aload_n 0, 1) := by decide +kernel
theorem dX9_reach_16 : decode cX9_reach 16 = .ok (.getfield 19, 3) := by decide +kernel
theorem dX9_reach_19 : decode cX9_reach 19 = .ok (.invokevirtual 274, 3) := by decide +kernel
theorem dX9_reach_22 : decode cX9_reach 22 = .ok (.invokevirtual 315, 3) := by decide +kernel
theorem dX9_reach_25 : decode cX9_reach 25 = .ok (.goto 4, 3) := by decide +kernel
theorem dX9_reach_28 : decode cX9_reach 28 = .ok (.iconst (-1), 1) := by decide +kernel
theorem dX9_reach_29 : decode cX9_reach 29 = .ok (.ireturn, 1) := by decide +kernel
theorem dX9_pool_0 : decode cX9_pool 0 = .ok (.aload_n 0, 1) := by decide +kernel
theorem dX9_pool_1 : decode cX9_pool 1 = .ok (.iload_n 1, 1) := by decide +kernel
theorem dX9_pool_2 : decode cX9_pool 2 = .ok (.invokevirtual 131, 3) := by decide +kernel
theorem dX9_pool_5 : decode cX9_pool 5 = .ok (.ifCond .eq 22, 3) := by decide +kernel
theorem dX9_pool_8 : decode cX9_pool 8 = .ok (.aload_n 0, 1) := by decide +kernel
theorem dX9_pool_9 : decode cX9_pool 9 = .ok (.iload_n 1, 1) := by decide +kernel
theorem dX9_pool_10 : decode cX9_pool 10 = .ok (.aload_n 0, 1) := by decide +kernel
theorem dX9_pool_11 : decode cX9_pool 11 = .ok (.getfield 39, 3) := by decide +kernel
theorem dX9_pool_14 : decode cX9_pool 14 = .ok (.aload_n 0, 1) := by decide +kernel
theorem dX9_pool_15 : decode cX9_pool 15 = .ok (.getfield 19, 3) := by decide +kernel
theorem dX9_pool_18 : decode cX9_pool 18 = .ok (.invokevirtual 188, 3) := by decide +kernel
theorem dX9_pool_21 : decode cX9_pool 21 = .ok (.invokevirtual 318, 3) := by decide +kernel
theorem dX9_pool_24 : decode cX9_pool 24 = .ok (.goto 4, 3) := by decide +kernel
theorem dX9_pool_27 : decode cX9_pool 27 = .ok (.iconst (-1), 1) := by decide +kernel
theorem dX9_pool_28 : decode cX9_pool 28 = .ok (.ireturn, 1) := by decide +kernel
theorem dX9_poolOf_0 : decode cX9_poolOf 0 = .ok (.iload_n 2, 1) := by decide +kernel
theorem dX9_poolOf_1 : decode cX9_poolOf 1 = .ok (.iconst 1, 1) := by decide +kernel
theorem dX9_poolOf_2 : decode cX9_poolOf 2 = .ok (.iload_n 1, 1) := by decide +kernel
theorem dX9_poolOf_3 : decode cX9_poolOf 3 = .ok (.ishl, 1) := by decide +kernel
theorem dX9_poolOf_4 : decode cX9_poolOf 4 = .ok (.iand, 1) := by decide +kernel
theorem dX9_poolOf_5 : decode cX9_poolOf 5 = .ok (.istore_n 3, 1) := by decide +kernel
theorem dX9_poolOf_6 : decode cX9_poolOf 6 = .ok (.iload_n 3, 1) := by decide +kernel
theorem dX9_poolOf_7 : decode cX9_poolOf 7 = .ok (.ifCond .ne 7, 3) := by decide +kernel
theorem dX9_poolOf_10 : decode cX9_poolOf 10 = .ok (.iconst 0, 1) := by decide +kernel
theorem dX9_poolOf_11 : decode cX9_poolOf 11 = .ok (.goto 12, 3) := by decide +kernel
theorem dX9_poolOf_14 : decode cX9_poolOf 14 = .ok (.aload_n 0, 1) := by decide +kernel
theorem dX9_poolOf_15 : decode cX9_poolOf 15 = .ok (.getfield 19, 3) := by decide +kernel
theorem dX9_poolOf_18 : decode cX9_poolOf 18 = .ok (.iload_n 3, 1) := by decide +kernel
theorem dX9_poolOf_19 : decode cX9_poolOf 19 = .ok (.iload_n 2, 1) := by decide +kernel
theorem dX9_poolOf_20 : decode cX9_poolOf 20 = .ok (.invokevirtual 315, 3) := by decide +kernel
theorem dX9_poolOf_23 : decode cX9_poolOf 23 = .ok (.ireturn, 1) := by decide +kernel
theorem dX9_far_0 : decode cX9_far 0 = .ok (.aload_n 0, 1) := by decide +kernel
theorem dX9_far_1 : decode cX9_far 1 = .ok (.iload_n 1, 1) := by decide +kernel
theorem dX9_far_2 : decode cX9_far 2 = .ok (.invokevirtual 131, 3) := by decide +kernel
theorem dX9_far_5 : decode cX9_far 5 = .ok (.ifCond .eq 11, 3) := by decide +kernel
theorem dX9_far_8 : decode cX9_far 8 = .ok (.aload_n 0, 1) := by decide +kernel
theorem dX9_far_9 : decode cX9_far 9 = .ok (.iload_n 2, 1) := by decide +kernel
theorem dX9_far_10 : decode cX9_far 10 = .ok (.invokevirtual 131, 3) := by decide +kernel
theorem dX9_far_13 : decode cX9_far 13 = .ok (.ifCond .ne 5, 3) := by decide +kernel
theorem dX9_far_16 : decode cX9_far 16 = .ok (.iconst (-1), 1) := by decide +kernel
theorem dX9_far_17 : decode cX9_far 17 = .ok (.ireturn, 1) := by decide +kernel
theorem dX9_far_18 : decode cX9_far 18 = .ok (.iconst 1, 1) := by decide +kernel
theorem dX9_far_19 : decode cX9_far 19 = .ok (.iload_n 1, 1) := by decide +kernel
theorem dX9_far_20 : decode cX9_far 20 = .ok (.ishl, 1) := by decide +kernel
theorem dX9_far_21 : decode cX9_far 21 = .ok (.istore_n 3, 1) := by decide +kernel
theorem dX9_far_22 : decode cX9_far 22 = .ok (.iconst 0, 1) := by decide +kernel
theorem dX9_far_23 : decode cX9_far 23 = .ok (.istore 4, 2) := by decide +kernel
theorem dX9_far_25 : decode cX9_far 25 = .ok (.iload 4, 2) := by decide +kernel
theorem dX9_far_27 : decode cX9_far 27 = .ok (.bipush 7, 2) := by decide +kernel
theorem dX9_far_29 : decode cX9_far 29 = .ok (.if_icmp .ge 36, 3) := by decide +kernel
theorem dX9_far_32 : decode cX9_far 32 = .ok (.iload_n 3, 1) := by decide +kernel
theorem dX9_far_33 : decode cX9_far 33 = .ok (.iload_n 2, 1) := by decide +kernel
theorem dX9_far_34 : decode cX9_far 34 = .ok (.ishr, 1) := by decide +kernel
theorem dX9_far_35 : decode cX9_far 35 = .ok (.iconst 1, 1) := by decide +kernel
theorem dX9_far_36 : decode cX9_far 36 = .ok (.iand, 1) := by decide +kernel
theorem dX9_far_37 : decode cX9_far 37 = .ok (.ifCond .eq 6, 3) := by decide +kernel
theorem dX9_far_40 : decode cX9_far 40 = .ok (.iload 4, 2) := by decide +kernel
theorem dX9_far_42 : decode cX9_far 42 = .ok (.ireturn, 1) := by decide +kernel
theorem dX9_far_43 : decode cX9_far 43 = .ok (.aload_n 0, 1) := by decide +kernel
theorem dX9_far_44 : decode cX9_far 44 = .ok (.getfield 19, 3) := by decide +kernel
theorem dX9_far_47 : decode cX9_far 47 = .ok (.iload_n 3, 1) := by decide +kernel
theorem dX9_far_48 : decode cX9_far 48 = .ok (.aload_n 0, 1) := by decide +kernel
theorem dX9_far_49 : decode cX9_far 49 = .ok (.getfield 19, 3) := by decide +kernel
theorem dX9_far_52 : decode cX9_far 52 = .ok (.invokevirtual 274, 3) := by decide +kernel
theorem dX9_far_55 : decode cX9_far 55 = .ok (.invokevirtual 321, 3) := by decide +kernel
theorem dX9_far_58 : decode cX9_far 58 = .ok (.istore_n 3, 1) := by decide +kernel
theorem dX9_far_59 : decode cX9_far 59 = .ok (.iinc 4 1, 3) := by decide +kernel
theorem dX9_far_62 : decode cX9_far 62 = .ok (.goto (-37), 3) := by decide +kernel
theorem dX9_far_65 : decode cX9_far 65 = .ok (.iconst (-1), 1) := by decide +kernel
theorem dX9_far_66 : decode cX9_far 66 = .ok (.ireturn, 1) := by decide +kernel
theorem dX9_pools_0 : decode cX9_pools 0 = .ok (.aload_n 0, 1) := by decide +kernel
theorem dX9_pools_1 : decode cX9_pools 1 = .ok (.getfield 39, 3) := by decide +kernel
theorem dX9_pools_4 : decode cX9_pools 4 = .ok (.aload_n 0, 1) := by decide +kernel
theorem dX9_pools_5 : decode cX9_pools 5 = .ok (.getfield 19, 3) := by decide +kernel
theorem dX9_pools_8 : decode cX9_pools 8 = .ok (.invokevirtual 188, 3) := by decide +kernel
theorem dX9_pools_11 : decode cX9_pools 11 = .ok (.istore_n 1, 1) := by decide +kernel
theorem dX9_pools_12 : decode cX9_pools 12 = .ok (.iconst 0, 1) := by decide +kernel
theorem dX9_pools_13 : decode cX9_pools 13 = .ok (.istore_n 2, 1) := by decide +kernel
theorem dX9_pools_14 : decode cX9_pools 14 = .ok (.iconst 0, 1) := by decide +kernel
theorem dX9_pools_15 : decode cX9_pools 15 = .ok (.istore_n 3, 1) := by decide +kernel
theorem dX9_pools_16 : decode cX9_pools 16 = .ok (.iconst 0, 1) := by decide +kernel
theorem dX9_pools_17 : decode cX9_pools 17 = .ok (.istore 4, 2) := by decide +kernel
theorem dX9_pools_19 : decode cX9_pools 19 = .ok (.iload 4, 2) := by decide +kernel
theorem dX9_pools_21 : decode cX9_pools 21 = .ok (.aload_n 0, 1) := by decide +kernel
theorem dX9_pools_22 : decode cX9_pools 22 = .ok (.getfield 19, 3) := by decide +kernel
theorem dX9_pools_25 : decode cX9_pools 25 = .ok (.getfield 115, 3) := by decide +kernel
theorem dX9_pools_28 : decode cX9_pools 28 = .ok (.getfield 119, 3) := by decide +kernel
theorem dX9_pools_31 : decode cX9_pools 31 = .ok (.if_icmp .ge 35, 3) := by decide +kernel
theorem dX9_pools_34 : decode cX9_pools 34 = .ok (.iload_n 1, 1) := by decide +kernel
theorem dX9_pools_35 : decode cX9_pools 35 = .ok (.iload_n 2, 1) := by decide +kernel
theorem dX9_pools_36 : decode cX9_pools 36 = .ok (.iconst (-1), 1) := by decide +kernel
theorem dX9_pools_37 : decode cX9_pools 37 = .ok (.ixor, 1) := by decide +kernel
theorem dX9_pools_38 : decode cX9_pools 38 = .ok (.iand, 1) := by decide +kernel
theorem dX9_pools_39 : decode cX9_pools 39 = .ok (.iconst 1, 1) := by decide +kernel
theorem dX9_pools_40 : decode cX9_pools 40 = .ok (.iload 4, 2) := by decide +kernel
theorem dX9_pools_42 : decode cX9_pools 42 = .ok (.ishl, 1) := by decide +kernel
theorem dX9_pools_43 : decode cX9_pools 43 = .ok (.iand, 1) := by decide +kernel
theorem dX9_pools_44 : decode cX9_pools 44 = .ok (.ifCond .eq 16, 3) := by decide +kernel
theorem dX9_pools_47 : decode cX9_pools 47 = .ok (.iload_n 2, 1) := by decide +kernel
theorem dX9_pools_48 : decode cX9_pools 48 = .ok (.aload_n 0, 1) := by decide +kernel
theorem dX9_pools_49 : decode cX9_pools 49 = .ok (.iload 4, 2) := by decide +kernel
theorem dX9_pools_51 : decode cX9_pools 51 = .ok (.iload_n 1, 1) := by decide +kernel
theorem dX9_pools_52 : decode cX9_pools 52 = .ok (.invokevirtual 318, 3) := by decide +kernel
theorem dX9_pools_55 : decode cX9_pools 55 = .ok (.ior, 1) := by decide +kernel
theorem dX9_pools_56 : decode cX9_pools 56 = .ok (.istore_n 2, 1) := by decide +kernel
theorem dX9_pools_57 : decode cX9_pools 57 = .ok (.iinc 3 1, 3) := by decide +kernel
theorem dX9_pools_60 : decode cX9_pools 60 = .ok (.iinc 4 1, 3) := by decide +kernel
theorem dX9_pools_63 : decode cX9_pools 63 = .ok (.goto (-44), 3) := by decide +kernel
theorem dX9_pools_66 : decode cX9_pools 66 = .ok (.iload_n 3, 1) := by decide +kernel
theorem dX9_pools_67 : decode cX9_pools 67 = .ok (.ireturn, 1) := by decide +kernel
theorem dX9_bridges_0 : decode cX9_bridges 0 = .ok (.iconst 0, 1) := by decide +kernel
theorem dX9_bridges_1 : decode cX9_bridges 1 = .ok (.istore_n 1, 1) := by decide +kernel
theorem dX9_bridges_2 : decode cX9_bridges 2 = .ok (.iconst 0, 1) := by decide +kernel
theorem dX9_bridges_3 : decode cX9_bridges 3 = .ok (.istore_n 2, 1) := by decide +kernel
theorem dX9_bridges_4 : decode cX9_bridges 4 = .ok (.iload_n 2, 1) := by decide +kernel
theorem dX9_bridges_5 : decode cX9_bridges 5 = .ok (.aload_n 0, 1) := by decide +kernel
theorem dX9_bridges_6 : decode cX9_bridges 6 = .ok (.getfield 19, 3) := by decide +kernel
theorem dX9_bridges_9 : decode cX9_bridges 9 = .ok (.getfield 115, 3) := by decide +kernel
theorem dX9_bridges_12 : decode cX9_bridges 12 = .ok (.getfield 119, 3) := by decide +kernel
theorem dX9_bridges_15 : decode cX9_bridges 15 = .ok (.if_icmp .ge 57, 3) := by decide +kernel
theorem dX9_bridges_18 : decode cX9_bridges 18 = .ok (.iload_n 2, 1) := by decide +kernel
theorem dX9_bridges_19 : decode cX9_bridges 19 = .ok (.iconst 1, 1) := by decide +kernel
theorem dX9_bridges_20 : decode cX9_bridges 20 = .ok (.iadd, 1) := by decide +kernel
theorem dX9_bridges_21 : decode cX9_bridges 21 = .ok (.istore_n 3, 1) := by decide +kernel
theorem dX9_bridges_22 : decode cX9_bridges 22 = .ok (.iload_n 3, 1) := by decide +kernel
theorem dX9_bridges_23 : decode cX9_bridges 23 = .ok (.aload_n 0, 1) := by decide +kernel
theorem dX9_bridges_24 : decode cX9_bridges 24 = .ok (.getfield 19, 3) := by decide +kernel
theorem dX9_bridges_27 : decode cX9_bridges 27 = .ok (.getfield 115, 3) := by decide +kernel
theorem dX9_bridges_30 : decode cX9_bridges 30 = .ok (.getfield 119, 3) := by decide +kernel
theorem dX9_bridges_33 : decode cX9_bridges 33 = .ok (.if_icmp .ge 33, 3) := by decide +kernel
theorem dX9_bridges_36 : decode cX9_bridges 36 = .ok (.aload_n 0, 1) := by decide +kernel
theorem dX9_bridges_37 : decode cX9_bridges 37 = .ok (.getfield 19, 3) := by decide +kernel
theorem dX9_bridges_40 : decode cX9_bridges 40 = .ok (.iload_n 2, 1) := by decide +kernel
theorem dX9_bridges_41 : decode cX9_bridges 41 = .ok (.iload_n 3, 1) := by decide +kernel
theorem dX9_bridges_42 : decode cX9_bridges 42 = .ok (.invokevirtual 324, 3) := by decide +kernel
theorem dX9_bridges_45 : decode cX9_bridges 45 = .ok (.ifCond .eq 15, 3) := by decide +kernel
theorem dX9_bridges_48 : decode cX9_bridges 48 = .ok (.aload_n 0, 1) := by decide +kernel
theorem dX9_bridges_49 : decode cX9_bridges 49 = .ok (.iload_n 2, 1) := by decide +kernel
theorem dX9_bridges_50 : decode cX9_bridges 50 = .ok (.iload_n 3, 1) := by decide +kernel
theorem dX9_bridges_51 : decode cX9_bridges 51 = .ok (.invokevirtual 327, 3) := by decide +kernel
theorem dX9_bridges_54 : decode cX9_bridges 54 = .ok (.ifCond .eq 6, 3) := by decide +kernel
theorem dX9_bridges_57 : decode cX9_bridges 57 = .ok (.iinc 1 1, 3) := by decide +kernel
theorem dX9_bridges_60 : decode cX9_bridges 60 = .ok (.iinc 3 1, 3) := by decide +kernel
theorem dX9_bridges_63 : decode cX9_bridges 63 = .ok (.goto (-41), 3) := by decide +kernel
theorem dX9_bridges_66 : decode cX9_bridges 66 = .ok (.iinc 2 1, 3) := by decide +kernel
theorem dX9_bridges_69 : decode cX9_bridges 69 = .ok (.goto (-65), 3) := by decide +kernel
theorem dX9_bridges_72 : decode cX9_bridges 72 = .ok (.iload_n 1, 1) := by decide +kernel
theorem dX9_bridges_73 : decode cX9_bridges 73 = .ok (.ireturn, 1) := by decide +kernel
theorem dX9_isBridge_0 : decode cX9_isBridge 0 = .ok (.aload_n 0, 1) := by decide +kernel
theorem dX9_isBridge_1 : decode cX9_isBridge 1 = .ok (.getfield 19, 3) := by decide +kernel
theorem dX9_isBridge_4 : decode cX9_isBridge 4 = .ok (.iload_n 1, 1) := by decide +kernel
theorem dX9_isBridge_5 : decode cX9_isBridge 5 = .ok (.iload_n 2, 1) := by decide +kernel
theorem dX9_isBridge_6 : decode cX9_isBridge 6 = .ok (.invokevirtual 330, 3) := by decide +kernel
theorem dX9_isBridge_9 : decode cX9_isBridge 9 = .ok (.aload_n 0, 1) := by decide +kernel
theorem dX9_isBridge_10 : decode cX9_isBridge 10 = .ok (.getfield 19, 3) := by decide +kernel
theorem dX9_isBridge_13 : decode cX9_isBridge 13 = .ok (.iconst 1, 1) := by decide +kernel
theorem dX9_isBridge_14 : decode cX9_isBridge 14 = .ok (.iload_n 1, 1) := by decide +kernel
theorem dX9_isBridge_15 : decode cX9_isBridge 15 = .ok (.ishl, 1) := by decide +kernel
theorem dX9_isBridge_16 : decode cX9_isBridge 16 = .ok (.aload_n 0, 1) := by decide +kernel
theorem dX9_isBridge_17 : decode cX9_isBridge 17 = .ok (.getfield 19, 3) := by decide +kernel
theorem dX9_isBridge_20 : decode cX9_isBridge 20 = .ok (.invokevirtual 274, 3) := by decide +kernel
theorem dX9_isBridge_23 : decode cX9_isBridge 23 = .ok (.invokevirtual 315, 3) := by decide +kernel
theorem dX9_isBridge_26 : decode cX9_isBridge 26 = .ok (.istore_n 3, 1) := by decide +kernel
theorem dX9_isBridge_27 : decode cX9_isBridge 27 = .ok (.aload_n 0, 1) := by decide +kernel
theorem dX9_isBridge_28 : decode cX9_isBridge 28 = .ok (.getfield 19, 3) := by decide +kernel
theorem dX9_isBridge_31 : decode cX9_isBridge 31 = .ok (.iload_n 1, 1) := by decide +kernel
theorem dX9_isBridge_32 : decode cX9_isBridge 32 = .ok (.iload_n 2, 1) := by decide +kernel
theorem dX9_isBridge_33 : decode cX9_isBridge 33 = .ok (.invokevirtual 330, 3) := by decide +kernel
theorem dX9_isBridge_36 : decode cX9_isBridge 36 = .ok (.iload_n 3, 1) := by decide +kernel
theorem dX9_isBridge_37 : decode cX9_isBridge 37 = .ok (.iload_n 2, 1) := by decide +kernel
theorem dX9_isBridge_38 : decode cX9_isBridge 38 = .ok (.ishr, 1) := by decide +kernel
theorem dX9_isBridge_39 : decode cX9_isBridge 39 = .ok (.iconst 1, 1) := by decide +kernel
theorem dX9_isBridge_40 : decode cX9_isBridge 40 = .ok (.iand, 1) := by decide +kernel
theorem dX9_isBridge_41 : decode cX9_isBridge 41 = .ok (.ifCond .ne 7, 3) := by decide +kernel
theorem dX9_isBridge_44 : decode cX9_isBridge 44 = .ok (.iconst 1, 1) := by decide +kernel
theorem dX9_isBridge_45 : decode cX9_isBridge 45 = .ok (.goto 4, 3) := by decide +kernel
theorem dX9_isBridge_48 : decode cX9_isBridge 48 = .ok (.iconst 0, 1) := by decide +kernel
theorem dX9_isBridge_49 : decode cX9_isBridge 49 = .ok (.ireturn, 1) := by decide +kernel
theorem dX9_see_0 : decode cX9_see 0 = .ok (.aload_n 0, 1) := by decide +kernel
theorem dX9_see_1 : decode cX9_see 1 = .ok (.iload_n 1, 1) := by decide +kernel
theorem dX9_see_2 : decode cX9_see 2 = .ok (.invokevirtual 131, 3) := by decide +kernel
theorem dX9_see_5 : decode cX9_see 5 = .ok (.ifCond .eq 13, 3) := by decide +kernel
theorem dX9_see_8 : decode cX9_see 8 = .ok (.iload_n 2, 1) := by decide +kernel
theorem dX9_see_9 : decode cX9_see 9 = .ok (.iconst 0, 1) := by decide +kernel
theorem dX9_see_10 : decode cX9_see 10 = .ok (.bipush 9, 2) := by decide +kernel
theorem dX9_see_12 : decode cX9_see 12 = .ok (.invokestatic 229, 3) := by decide +kernel
theorem dX9_see_15 : decode cX9_see 15 = .ok (.ifCond .ne 5, 3) := by decide +kernel
theorem dX9_see_18 : decode cX9_see 18 = .ok (.iconst 0, 1) := by decide +kernel
theorem dX9_see_19 : decode cX9_see 19 = .ok (.ireturn, 1) := by decide +kernel
theorem dX9_see_20 : decode cX9_see 20 = .ok (.aload_n 0, 1) := by decide +kernel
theorem dX9_see_21 : decode cX9_see 21 = .ok (.getfield 49, 3) := by decide +kernel
theorem dX9_see_24 : decode cX9_see 24 = .ok (.iload_n 1, 1) := by decide +kernel
theorem dX9_see_25 : decode cX9_see 25 = .ok (.iload_n 2, 1) := by decide +kernel
theorem dX9_see_26 : decode cX9_see 26 = .ok (.iload_n 3, 1) := by decide +kernel
theorem dX9_see_27 : decode cX9_see 27 = .ok (.invokevirtual 333, 3) := by decide +kernel
theorem dX9_see_30 : decode cX9_see 30 = .ok (.ireturn, 1) := by decide +kernel
theorem dX9_rains_0 : decode cX9_rains 0 = .ok (.iconst 0, 1) := by decide +kernel
theorem dX9_rains_1 : decode cX9_rains 1 = .ok (.istore_n 1, 1) := by decide +kernel
theorem dX9_rains_2 : decode cX9_rains 2 = .ok (.iconst 0, 1) := by decide +kernel
theorem dX9_rains_3 : decode cX9_rains 3 = .ok (.istore_n 2, 1) := by decide +kernel
theorem dX9_rains_4 : decode cX9_rains 4 = .ok (.iload_n 2, 1) := by decide +kernel
theorem dX9_rains_5 : decode cX9_rains 5 = .ok (.bipush 9, 2) := by decide +kernel
theorem dX9_rains_7 : decode cX9_rains 7 = .ok (.if_icmp .gt 23, 3) := by decide +kernel
theorem dX9_rains_10 : decode cX9_rains 10 = .ok (.aload_n 0, 1) := by decide +kernel
theorem dX9_rains_11 : decode cX9_rains 11 = .ok (.iload_n 2, 1) := by decide +kernel
theorem dX9_rains_12 : decode cX9_rains 12 = .ok (.invokevirtual 337, 3) := by decide +kernel
theorem dX9_rains_15 : decode cX9_rains 15 = .ok (.ifCond .eq 9, 3) := by decide +kernel
theorem dX9_rains_18 : decode cX9_rains 18 = .ok (.iload_n 1, 1) := by decide +kernel
theorem dX9_rains_19 : decode cX9_rains 19 = .ok (.iconst 1, 1) := by decide +kernel
theorem dX9_rains_20 : decode cX9_rains 20 = .ok (.iload_n 2, 1) := by decide +kernel
theorem dX9_rains_21 : decode cX9_rains 21 = .ok (.ishl, 1) := by decide +kernel
theorem dX9_rains_22 : decode cX9_rains 22 = .ok (.ior, 1) := by decide +kernel
theorem dX9_rains_23 : decode cX9_rains 23 = .ok (.istore_n 1, 1) := by decide +kernel
theorem dX9_rains_24 : decode cX9_rains 24 = .ok (.iinc 2 1, 3) := by decide +kernel
theorem dX9_rains_27 : decode cX9_rains 27 = .ok (.goto (-23), 3) := by decide +kernel
theorem dX9_rains_30 : decode cX9_rains 30 = .ok (.iload_n 1, 1) := by decide +kernel
theorem dX9_rains_31 : decode cX9_rains 31 = .ok (.ireturn, 1) := by decide +kernel
theorem dX9_isAsSeen_0 : decode cX9_isAsSeen 0 = .ok (.iconst 0, 1) := by decide +kernel
theorem dX9_isAsSeen_1 : decode cX9_isAsSeen 1 = .ok (.istore_n 2, 1) := by decide +kernel
theorem dX9_isAsSeen_2 : decode cX9_isAsSeen 2 = .ok (.iload_n 2, 1) := by decide +kernel
theorem dX9_isAsSeen_3 : decode cX9_isAsSeen 3 = .ok (.aload_n 0, 1) := by decide +kernel
theorem dX9_isAsSeen_4 : decode cX9_isAsSeen 4 = .ok (.getfield 49, 3) := by decide +kernel
theorem dX9_isAsSeen_7 : decode cX9_isAsSeen 7 = .ok (.getfield 101, 3) := by decide +kernel
theorem dX9_isAsSeen_10 : decode cX9_isAsSeen 10 = .ok (.if_icmp .ge 79, 3) := by decide +kernel
theorem dX9_isAsSeen_13 : decode cX9_isAsSeen 13 = .ok (.aload_n 0, 1) := by decide +kernel
theorem dX9_isAsSeen_14 : decode cX9_isAsSeen 14 = .ok (.getfield 49, 3) := by decide +kernel
theorem dX9_isAsSeen_17 : decode cX9_isAsSeen 17 = .ok (.getfield 340, 3) := by decide +kernel
theorem dX9_isAsSeen_20 : decode cX9_isAsSeen 20 = .ok (.iload_n 2, 1) := by decide +kernel
theorem dX9_isAsSeen_21 : decode cX9_isAsSeen 21 = .ok (.iaload, 1) := by decide +kernel
theorem dX9_isAsSeen_22 : decode cX9_isAsSeen 22 = .ok (.istore_n 3, 1) := by decide +kernel
theorem dX9_isAsSeen_23 : decode cX9_isAsSeen 23 = .ok (.aload_n 0, 1) := by decide +kernel
theorem dX9_isAsSeen_24 : decode cX9_isAsSeen 24 = .ok (.getfield 19, 3) := by decide +kernel
theorem dX9_isAsSeen_27 : decode cX9_isAsSeen 27 = .ok (.iload_n 3, 1) := by decide +kernel
theorem dX9_isAsSeen_28 : decode cX9_isAsSeen 28 = .ok (.aload_n 0, 1) := by decide +kernel
theorem dX9_isAsSeen_29 : decode cX9_isAsSeen 29 = .ok (.getfield 39, 3) := by decide +kernel
theorem dX9_isAsSeen_32 : decode cX9_isAsSeen 32 = .ok (.getfield 135, 3) := by decide +kernel
theorem dX9_isAsSeen_35 : decode cX9_isAsSeen 35 = .ok (.iload_n 3, 1) := by decide +kernel
theorem dX9_isAsSeen_36 : decode cX9_isAsSeen 36 = .ok (.iaload, 1) := by decide +kernel
theorem dX9_isAsSeen_37 : decode cX9_isAsSeen 37 = .ok (.iload_n 1, 1) := by decide +kernel
theorem dX9_isAsSeen_38 : decode cX9_isAsSeen 38 = .ok (.aload_n 0, 1) := by decide +kernel
theorem dX9_isAsSeen_39 : decode cX9_isAsSeen 39 = .ok (.getfield 39, 3) := by decide +kernel
theorem dX9_isAsSeen_42 : decode cX9_isAsSeen 42 = .ok (.getfield 181, 3) := by decide +kernel
theorem dX9_isAsSeen_45 : decode cX9_isAsSeen 45 = .ok (.invokevirtual 343, 3) := by decide +kernel
theorem dX9_isAsSeen_48 : decode cX9_isAsSeen 48 = .ok (.istore 4, 2) := by decide +kernel
theorem dX9_isAsSeen_50 : decode cX9_isAsSeen 50 = .ok (.iload 4, 2) := by decide +kernel
theorem dX9_isAsSeen_52 : decode cX9_isAsSeen 52 = .ok (.aload_n 0, 1) := by decide +kernel
theorem dX9_isAsSeen_53 : decode cX9_isAsSeen 53 = .ok (.getfield 49, 3) := by decide +kernel
theorem dX9_isAsSeen_56 : decode cX9_isAsSeen 56 = .ok (.getfield 347, 3) := by decide +kernel
theorem dX9_isAsSeen_59 : decode cX9_isAsSeen 59 = .ok (.iload_n 2, 1) := by decide +kernel
theorem dX9_isAsSeen_60 : decode cX9_isAsSeen 60 = .ok (.iaload, 1) := by decide +kernel
theorem dX9_isAsSeen_61 : decode cX9_isAsSeen 61 = .ok (.if_icmp .lt 7, 3) := by decide +kernel
theorem dX9_isAsSeen_64 : decode cX9_isAsSeen 64 = .ok (.iconst 1, 1) := by decide +kernel
theorem dX9_isAsSeen_65 : decode cX9_isAsSeen 65 = .ok (.goto 4, 3) := by decide +kernel
theorem dX9_isAsSeen_68 : decode cX9_isAsSeen 68 = .ok (.iconst 0, 1) := by decide +kernel
theorem dX9_isAsSeen_69 : decode cX9_isAsSeen 69 = .ok (.aload_n 0, 1) := by decide +kernel
theorem dX9_isAsSeen_70 : decode cX9_isAsSeen 70 = .ok (.getfield 49, 3) := by decide +kernel
theorem dX9_isAsSeen_73 : decode cX9_isAsSeen 73 = .ok (.getfield 348, 3) := by decide +kernel
theorem dX9_isAsSeen_76 : decode cX9_isAsSeen 76 = .ok (.iload_n 2, 1) := by decide +kernel
theorem dX9_isAsSeen_77 : decode cX9_isAsSeen 77 = .ok (.baload, 1) := by decide +kernel
theorem dX9_isAsSeen_78 : decode cX9_isAsSeen 78 = .ok (.if_icmp .eq 5, 3) := by decide +kernel
theorem dX9_isAsSeen_81 : decode cX9_isAsSeen 81 = .ok (.iconst 0, 1) := by decide +kernel
theorem dX9_isAsSeen_82 : decode cX9_isAsSeen 82 = .ok (.ireturn, 1) := by decide +kernel
theorem dX9_isAsSeen_83 : decode cX9_isAsSeen 83 = .ok (.iinc 2 1, 3) := by decide +kernel
theorem dX9_isAsSeen_86 : decode cX9_isAsSeen 86 = .ok (.goto (-84), 3) := by decide +kernel
theorem dX9_isAsSeen_89 : decode cX9_isAsSeen 89 = .ok (.iconst 1, 1) := by decide +kernel
theorem dX9_isAsSeen_90 : decode cX9_isAsSeen 90 = .ok (.ireturn, 1) := by decide +kernel
theorem dX9_look_0 : decode cX9_look 0 = .ok (.aload_n 0, 1) := by decide +kernel
theorem dX9_look_1 : decode cX9_look 1 = .ok (.invokevirtual 352, 3) := by decide +kernel
theorem dX9_look_4 : decode cX9_look 4 = .ok (.istore_n 1, 1) := by decide +kernel
theorem dX9_look_5 : decode cX9_look 5 = .ok (.iload_n 1, 1) := by decide +kernel
theorem dX9_look_6 : decode cX9_look 6 = .ok (.invokestatic 307, 3) := by decide +kernel
theorem dX9_look_9 : decode cX9_look 9 = .ok (.istore_n 2, 1) := by decide +kernel
theorem dX9_look_10 : decode cX9_look 10 = .ok (.iload_n 2, 1) := by decide +kernel
theorem dX9_look_11 : decode cX9_look 11 = .ok (.istore_n 3, 1) := by decide +kernel
theorem dX9_look_12 : decode cX9_look 12 = .ok (.iconst (-1), 1) := by decide +kernel
theorem dX9_look_13 : decode cX9_look 13 = .ok (.istore 4, 2) := by decide +kernel
theorem dX9_look_15 : decode cX9_look 15 = .ok (.iconst 0, 1) := by decide +kernel
theorem dX9_look_16 : decode cX9_look 16 = .ok (.istore 5, 2) := by decide +kernel
theorem dX9_look_18 : decode cX9_look 18 = .ok (.iload 5, 2) := by decide +kernel
theorem dX9_look_20 : decode cX9_look 20 = .ok (.aload_n 0, 1) := by decide +kernel
theorem dX9_look_21 : decode cX9_look 21 = .ok (.getfield 19, 3) := by decide +kernel
theorem dX9_look_24 : decode cX9_look 24 = .ok (.getfield 115, 3) := by decide +kernel
theorem dX9_look_27 : decode cX9_look 27 = .ok (.getfield 119, 3) := by decide +kernel
theorem dX9_look_30 : decode cX9_look 30 = .ok (.if_icmp .ge 70, 3) := by decide +kernel
theorem dX9_look_33 : decode cX9_look 33 = .ok (.aload_n 0, 1) := by decide +kernel
theorem dX9_look_34 : decode cX9_look 34 = .ok (.iload 5, 2) := by decide +kernel
theorem dX9_look_36 : decode cX9_look 36 = .ok (.invokevirtual 355, 3) := by decide +kernel
theorem dX9_look_39 : decode cX9_look 39 = .ok (.iconst 1, 1) := by decide +kernel
theorem dX9_look_40 : decode cX9_look 40 = .ok (.istore 6, 2) := by decide +kernel
theorem dX9_look_42 : decode cX9_look 42 = .ok (.iload 6, 2) := by decide +kernel
theorem dX9_look_44 : decode cX9_look 44 = .ok (.bipush 9, 2) := by decide +kernel
theorem dX9_look_46 : decode cX9_look 46 = .ok (.if_icmp .gt 48, 3) := by decide +kernel
theorem dX9_look_49 : decode cX9_look 49 = .ok (.aload_n 0, 1) := by decide +kernel
theorem dX9_look_50 : decode cX9_look 50 = .ok (.iload 6, 2) := by decide +kernel
theorem dX9_look_52 : decode cX9_look 52 = .ok (.iload_n 1, 1) := by decide +kernel
theorem dX9_look_53 : decode cX9_look 53 = .ok (.invokevirtual 359, 3) := by decide +kernel
theorem dX9_look_56 : decode cX9_look 56 = .ok (.istore 7, 2) := by decide +kernel
theorem dX9_look_58 : decode cX9_look 58 = .ok (.iload 7, 2) := by decide +kernel
theorem dX9_look_60 : decode cX9_look 60 = .ok (.iload_n 2, 1) := by decide +kernel
theorem dX9_look_61 : decode cX9_look 61 = .ok (.iload 7, 2) := by decide +kernel
theorem dX9_look_63 : decode cX9_look 63 = .ok (.isub, 1) := by decide +kernel
theorem dX9_look_64 : decode cX9_look 64 = .ok (.invokestatic 362, 3) := by decide +kernel
theorem dX9_look_67 : decode cX9_look 67 = .ok (.istore 8, 2) := by decide +kernel
theorem dX9_look_69 : decode cX9_look 69 = .ok (.iload 8, 2) := by decide +kernel
theorem dX9_look_71 : decode cX9_look 71 = .ok (.iload_n 3, 1) := by decide +kernel
theorem dX9_look_72 : decode cX9_look 72 = .ok (.if_icmp .ge 16, 3) := by decide +kernel
theorem dX9_look_75 : decode cX9_look 75 = .ok (.iload 8, 2) := by decide +kernel
theorem dX9_look_77 : decode cX9_look 77 = .ok (.istore_n 3, 1) := by decide +kernel
theorem dX9_look_78 : decode cX9_look 78 = .ok (.bipush 10, 2) := by decide +kernel
theorem dX9_look_80 : decode cX9_look 80 = .ok (.iload 5, 2) := by decide +kernel
theorem dX9_look_82 : decode cX9_look 82 = .ok (.imul, 1) := by decide +kernel
theorem dX9_look_83 : decode cX9_look 83 = .ok (.iload 6, 2) := by decide +kernel
theorem dX9_look_85 : decode cX9_look 85 = .ok (.iadd, 1) := by decide +kernel
theorem dX9_look_86 : decode cX9_look 86 = .ok (.istore 4, 2) := by decide +kernel
theorem dX9_look_88 : decode cX9_look 88 = .ok (.iinc 6 1, 3) := by decide +kernel
theorem dX9_look_91 : decode cX9_look 91 = .ok (.goto (-49), 3) := by decide +kernel
theorem dX9_look_94 : decode cX9_look 94 = .ok (.iinc 5 1, 3) := by decide +kernel
theorem dX9_look_97 : decode cX9_look 97 = .ok (.goto (-79), 3) := by decide +kernel
theorem dX9_look_100 : decode cX9_look 100 = .ok (.iload 4, 2) := by decide +kernel
theorem dX9_look_102 : decode cX9_look 102 = .ok (.ireturn, 1) := by decide +kernel
theorem dX9_fillTomorrow_0 : decode cX9_fillTomorrow 0 = .ok (.iconst 0, 1) := by decide +kernel
theorem dX9_fillTomorrow_1 : decode cX9_fillTomorrow 1 = .ok (.istore_n 2, 1) := by decide +kernel
theorem dX9_fillTomorrow_2 : decode cX9_fillTomorrow 2 = .ok (.iload_n 2, 1) := by decide +kernel
theorem dX9_fillTomorrow_3 : decode cX9_fillTomorrow 3 = .ok (.bipush 9, 2) := by decide +kernel
theorem dX9_fillTomorrow_5 : decode cX9_fillTomorrow 5 = .ok (.if_icmp .gt 40, 3) := by decide +kernel
theorem dX9_fillTomorrow_8 : decode cX9_fillTomorrow 8 = .ok (.aload_n 0, 1) := by decide +kernel
theorem dX9_fillTomorrow_9 : decode cX9_fillTomorrow 9 = .ok (.getfield 70, 3) := by decide +kernel
theorem dX9_fillTomorrow_12 : decode cX9_fillTomorrow 12 = .ok (.iload_n 2, 1) := by decide +kernel
theorem dX9_fillTomorrow_13 : decode cX9_fillTomorrow 13 = .ok (.aload_n 0, 1) := by decide +kernel
theorem dX9_fillTomorrow_14 : decode cX9_fillTomorrow 14 = .ok (.getfield 19, 3) := by decide +kernel
theorem dX9_fillTomorrow_17 : decode cX9_fillTomorrow 17 = .ok (.iload_n 1, 1) := by decide +kernel
theorem dX9_fillTomorrow_18 : decode cX9_fillTomorrow 18 = .ok (.aload_n 0, 1) := by decide +kernel
theorem dX9_fillTomorrow_19 : decode cX9_fillTomorrow 19 = .ok (.getfield 39, 3) := by decide +kernel
theorem dX9_fillTomorrow_22 : decode cX9_fillTomorrow 22 = .ok (.getfield 135, 3) := by decide +kernel
theorem dX9_fillTomorrow_25 : decode cX9_fillTomorrow 25 = .ok (.iload_n 1, 1) := by decide +kernel
theorem dX9_fillTomorrow_26 : decode cX9_fillTomorrow 26 = .ok (.iaload, 1) := by decide +kernel
theorem dX9_fillTomorrow_27 : decode cX9_fillTomorrow 27 = .ok (.iload_n 2, 1) := by decide +kernel
theorem dX9_fillTomorrow_28 : decode cX9_fillTomorrow 28 = .ok (.aload_n 0, 1) := by decide +kernel
theorem dX9_fillTomorrow_29 : decode cX9_fillTomorrow 29 = .ok (.getfield 39, 3) := by decide +kernel
theorem dX9_fillTomorrow_32 : decode cX9_fillTomorrow 32 = .ok (.getfield 181, 3) := by decide +kernel
theorem dX9_fillTomorrow_35 : decode cX9_fillTomorrow 35 = .ok (.invokevirtual 343, 3) := by decide +kernel
theorem dX9_fillTomorrow_38 : decode cX9_fillTomorrow 38 = .ok (.iastore, 1) := by decide +kernel
theorem dX9_fillTomorrow_39 : decode cX9_fillTomorrow 39 = .ok (.iinc 2 1, 3) := by decide +kernel
theorem dX9_fillTomorrow_42 : decode cX9_fillTomorrow 42 = .ok (.goto (-40), 3) := by decide +kernel
theorem dX9_fillTomorrow_45 : decode cX9_fillTomorrow 45 = .ok (.return_, 1) := by decide +kernel
theorem dX9_rainsWithSoMuch_0 : decode cX9_rainsWithSoMuch 0 = .ok (.iconst 0, 1) := by decide +kernel
theorem dX9_rainsWithSoMuch_1 : decode cX9_rainsWithSoMuch 1 = .ok (.istore_n 3, 1) := by decide +kernel
theorem dX9_rainsWithSoMuch_2 : decode cX9_rainsWithSoMuch 2 = .ok (.iconst 0, 1) := by decide +kernel
theorem dX9_rainsWithSoMuch_3 : decode cX9_rainsWithSoMuch 3 = .ok (.istore 4, 2) := by decide +kernel
theorem dX9_rainsWithSoMuch_5 : decode cX9_rainsWithSoMuch 5 = .ok (.iload 4, 2) := by decide +kernel
theorem dX9_rainsWithSoMuch_7 : decode cX9_rainsWithSoMuch 7 = .ok (.bipush 9, 2) := by decide +kernel
theorem dX9_rainsWithSoMuch_9 : decode cX9_rainsWithSoMuch 9 = .ok (.if_icmp .gt 32, 3) := by decide +kernel
theorem dX9_rainsWithSoMuch_12 : decode cX9_rainsWithSoMuch 12 = .ok (.iload_n 2, 1) := by decide +kernel
theorem dX9_rainsWithSoMuch_13 : decode cX9_rainsWithSoMuch 13 = .ok (.iload 4, 2) := by decide +kernel
theorem dX9_rainsWithSoMuch_15 : decode cX9_rainsWithSoMuch 15 = .ok (.ishr, 1) := by decide +kernel
theorem dX9_rainsWithSoMuch_16 : decode cX9_rainsWithSoMuch 16 = .ok (.iconst 1, 1) := by decide +kernel
theorem dX9_rainsWithSoMuch_17 : decode cX9_rainsWithSoMuch 17 = .ok (.iand, 1) := by decide +kernel
theorem dX9_rainsWithSoMuch_18 : decode cX9_rainsWithSoMuch 18 = .ok (.ifCond .eq 17, 3) := by decide +kernel
theorem dX9_rainsWithSoMuch_21 : decode cX9_rainsWithSoMuch 21 = .ok (.aload_n 0, 1) := by decide +kernel
theorem dX9_rainsWithSoMuch_22 : decode cX9_rainsWithSoMuch 22 = .ok (.getfield 70, 3) := by decide +kernel
theorem dX9_rainsWithSoMuch_25 : decode cX9_rainsWithSoMuch 25 = .ok (.iload 4, 2) := by decide +kernel
theorem dX9_rainsWithSoMuch_27 : decode cX9_rainsWithSoMuch 27 = .ok (.iaload, 1) := by decide +kernel
theorem dX9_rainsWithSoMuch_28 : decode cX9_rainsWithSoMuch 28 = .ok (.iload_n 1, 1) := by decide +kernel
theorem dX9_rainsWithSoMuch_29 : decode cX9_rainsWithSoMuch 29 = .ok (.if_icmp .lt 6, 3) := by decide +kernel
theorem dX9_rainsWithSoMuch_32 : decode cX9_rainsWithSoMuch 32 = .ok (.iinc 3 1, 3) := by decide +kernel
theorem dX9_rainsWithSoMuch_35 : decode cX9_rainsWithSoMuch 35 = .ok (.iinc 4 1, 3) := by decide +kernel
theorem dX9_rainsWithSoMuch_38 : decode cX9_rainsWithSoMuch 38 = .ok (.goto (-33), 3) := by decide +kernel
theorem dX9_rainsWithSoMuch_41 : decode cX9_rainsWithSoMuch 41 = .ok (.iload_n 3, 1) := by decide +kernel
theorem dX9_rainsWithSoMuch_42 : decode cX9_rainsWithSoMuch 42 = .ok (.ireturn, 1) := by decide +kernel
theorem dX9_chance_0 : decode cX9_chance 0 = .ok (.aload_n 0, 1) := by decide +kernel
theorem dX9_chance_1 : decode cX9_chance 1 = .ok (.iload_n 1, 1) := by decide +kernel
theorem dX9_chance_2 : decode cX9_chance 2 = .ok (.invokevirtual 131, 3) := by decide +kernel
theorem dX9_chance_5 : decode cX9_chance 5 = .ok (.ifCond .eq 23, 3) := by decide +kernel
theorem dX9_chance_8 : decode cX9_chance 8 = .ok (.iload_n 2, 1) := by decide +kernel
theorem dX9_chance_9 : decode cX9_chance 9 = .ok (.iconst 1, 1) := by decide +kernel
theorem dX9_chance_10 : decode cX9_chance 10 = .ok (.bipush 6, 2) := by decide +kernel
theorem dX9_chance_12 : decode cX9_chance 12 = .ok (.invokestatic 229, 3) := by decide +kernel
theorem dX9_chance_15 : decode cX9_chance 15 = .ok (.ifCond .eq 13, 3) := by decide +kernel
theorem dX9_chance_18 : decode cX9_chance 18 = .ok (.iload_n 3, 1) := by decide +kernel
theorem dX9_chance_19 : decode cX9_chance 19 = .ok (.iconst 0, 1) := by decide +kernel
theorem dX9_chance_20 : decode cX9_chance 20 = .ok (.bipush 10, 2) := by decide +kernel
theorem dX9_chance_22 : decode cX9_chance 22 = .ok (.invokestatic 229, 3) := by decide +kernel
theorem dX9_chance_25 : decode cX9_chance 25 = .ok (.ifCond .ne 5, 3) := by decide +kernel
theorem dX9_chance_28 : decode cX9_chance 28 = .ok (.iconst (-1), 1) := by decide +kernel
theorem dX9_chance_29 : decode cX9_chance 29 = .ok (.ireturn, 1) := by decide +kernel
theorem dX9_chance_30 : decode cX9_chance 30 = .ok (.aload_n 0, 1) := by decide +kernel
theorem dX9_chance_31 : decode cX9_chance 31 = .ok (.getfield 19, 3) := by decide +kernel
theorem dX9_chance_34 : decode cX9_chance 34 = .ok (.iload_n 1, 1) := by decide +kernel
theorem dX9_chance_35 : decode cX9_chance 35 = .ok (.aload_n 0, 1) := by decide +kernel
theorem dX9_chance_36 : decode cX9_chance 36 = .ok (.getfield 39, 3) := by decide +kernel
theorem dX9_chance_39 : decode cX9_chance 39 = .ok (.getfield 135, 3) := by decide +kernel
theorem dX9_chance_42 : decode cX9_chance 42 = .ok (.iload_n 1, 1) := by decide +kernel
theorem dX9_chance_43 : decode cX9_chance 43 = .ok (.iaload, 1) := by decide +kernel
theorem dX9_chance_44 : decode cX9_chance 44 = .ok (.aload_n 0, 1) := by decide +kernel
theorem dX9_chance_45 : decode cX9_chance 45 = .ok (.getfield 39, 3) := by decide +kernel
theorem dX9_chance_48 : decode cX9_chance 48 = .ok (.getfield 181, 3) := by decide +kernel
theorem dX9_chance_51 : decode cX9_chance 51 = .ok (.iload_n 2, 1) := by decide +kernel
theorem dX9_chance_52 : decode cX9_chance 52 = .ok (.iload_n 3, 1) := by decide +kernel
theorem dX9_chance_53 : decode cX9_chance 53 = .ok (.invokestatic 365, 3) := by decide +kernel
theorem dX9_chance_56 : decode cX9_chance 56 = .ok (.istore 4, 2) := by decide +kernel
theorem dX9_chance_58 : decode cX9_chance 58 = .ok (.iload_n 2, 1) := by decide +kernel
theorem dX9_chance_59 : decode cX9_chance 59 = .ok (.istore 5, 2) := by decide +kernel
theorem dX9_chance_61 : decode cX9_chance 61 = .ok (.iload 5, 2) := by decide +kernel
theorem dX9_chance_63 : decode cX9_chance 63 = .ok (.bipush 6, 2) := by decide +kernel
theorem dX9_chance_65 : decode cX9_chance 65 = .ok (.if_icmp .ge 16, 3) := by decide +kernel
theorem dX9_chance_68 : decode cX9_chance 68 = .ok (.iload 4, 2) := by decide +kernel
theorem dX9_chance_70 : decode cX9_chance 70 = .ok (.bipush 10, 2) := by decide +kernel
theorem dX9_chance_72 : decode cX9_chance 72 = .ok (.imul, 1) := by decide +kernel
theorem dX9_chance_73 : decode cX9_chance 73 = .ok (.istore 4, 2) := by decide +kernel
theorem dX9_chance_75 : decode cX9_chance 75 = .ok (.iinc 5 1, 3) := by decide +kernel
theorem dX9_chance_78 : decode cX9_chance 78 = .ok (.goto (-17), 3) := by decide +kernel
theorem dX9_chance_81 : decode cX9_chance 81 = .ok (.iload 4, 2) := by decide +kernel
theorem dX9_chance_83 : decode cX9_chance 83 = .ok (.ireturn, 1) := by decide +kernel
theorem dX9_weighWet_0 : decode cX9_weighWet 0 = .ok (.iload 4, 2) := by decide +kernel
theorem dX9_weighWet_2 : decode cX9_weighWet 2 = .ok (.ifCond .gt 14, 3) := by decide +kernel
theorem dX9_weighWet_5 : decode cX9_weighWet 5 = .ok (.iload_n 2, 1) := by decide +kernel
theorem dX9_weighWet_6 : decode cX9_weighWet 6 = .ok (.iconst 1, 1) := by decide +kernel
theorem dX9_weighWet_7 : decode cX9_weighWet 7 = .ok (.if_icmp .lt 7, 3) := by decide +kernel
theorem dX9_weighWet_10 : decode cX9_weighWet 10 = .ok (.iconst 1, 1) := by decide +kernel
theorem dX9_weighWet_11 : decode cX9_weighWet 11 = .ok (.goto 4, 3) := by decide +kernel
theorem dX9_weighWet_14 : decode cX9_weighWet 14 = .ok (.iconst 0, 1) := by decide +kernel
theorem dX9_weighWet_15 : decode cX9_weighWet 15 = .ok (.ireturn, 1) := by decide +kernel
theorem dX9_weighWet_16 : decode cX9_weighWet 16 = .ok (.aload_n 0, 1) := by decide +kernel
theorem dX9_weighWet_17 : decode cX9_weighWet 17 = .ok (.iload_n 1, 1) := by decide +kernel
theorem dX9_weighWet_18 : decode cX9_weighWet 18 = .ok (.iload_n 2, 1) := by decide +kernel
theorem dX9_weighWet_19 : decode cX9_weighWet 19 = .ok (.bipush 9, 2) := by decide +kernel
theorem dX9_weighWet_21 : decode cX9_weighWet 21 = .ok (.iload_n 3, 1) := by decide +kernel
theorem dX9_weighWet_22 : decode cX9_weighWet 22 = .ok (.invokevirtual 343, 3) := by decide +kernel
theorem dX9_weighWet_25 : decode cX9_weighWet 25 = .ok (.istore 6, 2) := by decide +kernel
theorem dX9_weighWet_27 : decode cX9_weighWet 27 = .ok (.aload_n 0, 1) := by decide +kernel
theorem dX9_weighWet_28 : decode cX9_weighWet 28 = .ok (.iload_n 1, 1) := by decide +kernel
theorem dX9_weighWet_29 : decode cX9_weighWet 29 = .ok (.iload_n 2, 1) := by decide +kernel
theorem dX9_weighWet_30 : decode cX9_weighWet 30 = .ok (.iconst 0, 1) := by decide +kernel
theorem dX9_weighWet_31 : decode cX9_weighWet 31 = .ok (.iload_n 3, 1) := by decide +kernel
theorem dX9_weighWet_32 : decode cX9_weighWet 32 = .ok (.invokevirtual 343, 3) := by decide +kernel
theorem dX9_weighWet_35 : decode cX9_weighWet 35 = .ok (.istore 7, 2) := by decide +kernel
theorem dX9_weighWet_37 : decode cX9_weighWet 37 = .ok (.iload 5, 2) := by decide +kernel
theorem dX9_weighWet_39 : decode cX9_weighWet 39 = .ok (.aload_n 0, 1) := by decide +kernel
theorem dX9_weighWet_40 : decode cX9_weighWet 40 = .ok (.iload_n 1, 1) := by decide +kernel
theorem dX9_weighWet_41 : decode cX9_weighWet 41 = .ok (.iload 6, 2) := by decide +kernel
theorem dX9_weighWet_43 : decode cX9_weighWet 43 = .ok (.iload_n 3, 1) := by decide +kernel
theorem dX9_weighWet_44 : decode cX9_weighWet 44 = .ok (.iconst 1, 1) := by decide +kernel
theorem dX9_weighWet_45 : decode cX9_weighWet 45 = .ok (.iadd, 1) := by decide +kernel
theorem dX9_weighWet_46 : decode cX9_weighWet 46 = .ok (.iload 4, 2) := by decide +kernel
theorem dX9_weighWet_48 : decode cX9_weighWet 48 = .ok (.iconst 1, 1) := by decide +kernel
theorem dX9_weighWet_49 : decode cX9_weighWet 49 = .ok (.isub, 1) := by decide +kernel
theorem dX9_weighWet_50 : decode cX9_weighWet 50 = .ok (.iload 5, 2) := by decide +kernel
theorem dX9_weighWet_52 : decode cX9_weighWet 52 = .ok (.invokestatic 365, 3) := by decide +kernel
theorem dX9_weighWet_55 : decode cX9_weighWet 55 = .ok (.imul, 1) := by decide +kernel
theorem dX9_weighWet_56 : decode cX9_weighWet 56 = .ok (.bipush 10, 2) := by decide +kernel
theorem dX9_weighWet_58 : decode cX9_weighWet 58 = .ok (.iload 5, 2) := by decide +kernel
theorem dX9_weighWet_60 : decode cX9_weighWet 60 = .ok (.isub, 1) := by decide +kernel
theorem dX9_weighWet_61 : decode cX9_weighWet 61 = .ok (.aload_n 0, 1) := by decide +kernel
theorem dX9_weighWet_62 : decode cX9_weighWet 62 = .ok (.iload_n 1, 1) := by decide +kernel
theorem dX9_weighWet_63 : decode cX9_weighWet 63 = .ok (.iload 7, 2) := by decide +kernel
theorem dX9_weighWet_65 : decode cX9_weighWet 65 = .ok (.iload_n 3, 1) := by decide +kernel
theorem dX9_weighWet_66 : decode cX9_weighWet 66 = .ok (.iconst 1, 1) := by decide +kernel
theorem dX9_weighWet_67 : decode cX9_weighWet 67 = .ok (.iadd, 1) := by decide +kernel
theorem dX9_weighWet_68 : decode cX9_weighWet 68 = .ok (.iload 4, 2) := by decide +kernel
theorem dX9_weighWet_70 : decode cX9_weighWet 70 = .ok (.iconst 1, 1) := by decide +kernel
theorem dX9_weighWet_71 : decode cX9_weighWet 71 = .ok (.isub, 1) := by decide +kernel
theorem dX9_weighWet_72 : decode cX9_weighWet 72 = .ok (.iload 5, 2) := by decide +kernel
theorem dX9_weighWet_74 : decode cX9_weighWet 74 = .ok (.invokestatic 365, 3) := by decide +kernel
theorem dX9_weighWet_77 : decode cX9_weighWet 77 = .ok (.imul, 1) := by decide +kernel
theorem dX9_weighWet_78 : decode cX9_weighWet 78 = .ok (.iadd, 1) := by decide +kernel
theorem dX9_weighWet_79 : decode cX9_weighWet 79 = .ok (.ireturn, 1) := by decide +kernel
theorem dX9_rests_0 : decode cX9_rests 0 = .ok (.iload_n 1, 1) := by decide +kernel
theorem dX9_rests_1 : decode cX9_rests 1 = .ok (.iconst 0, 1) := by decide +kernel
theorem dX9_rests_2 : decode cX9_rests 2 = .ok (.bipush 9, 2) := by decide +kernel
theorem dX9_rests_4 : decode cX9_rests 4 = .ok (.invokestatic 229, 3) := by decide +kernel
theorem dX9_rests_7 : decode cX9_rests 7 = .ok (.ifCond .eq 29, 3) := by decide +kernel
theorem dX9_rests_10 : decode cX9_rests 10 = .ok (.iload_n 2, 1) := by decide +kernel
theorem dX9_rests_11 : decode cX9_rests 11 = .ok (.iconst 0, 1) := by decide +kernel
theorem dX9_rests_12 : decode cX9_rests 12 = .ok (.bipush 9, 2) := by decide +kernel
theorem dX9_rests_14 : decode cX9_rests 14 = .ok (.invokestatic 229, 3) := by decide +kernel
theorem dX9_rests_17 : decode cX9_rests 17 = .ok (.ifCond .eq 19, 3) := by decide +kernel
theorem dX9_rests_20 : decode cX9_rests 20 = .ok (.iload_n 3, 1) := by decide +kernel
theorem dX9_rests_21 : decode cX9_rests 21 = .ok (.iconst 0, 1) := by decide +kernel
theorem dX9_rests_22 : decode cX9_rests 22 = .ok (.bipush 9, 2) := by decide +kernel
theorem dX9_rests_24 : decode cX9_rests 24 = .ok (.invokestatic 229, 3) := by decide +kernel
theorem dX9_rests_27 : decode cX9_rests 27 = .ok (.ifCond .eq 9, 3) := by decide +kernel
theorem dX9_rests_30 : decode cX9_rests 30 = .ok (.iload 4, 2) := by decide +kernel
theorem dX9_rests_32 : decode cX9_rests 32 = .ok (.iconst (-1), 1) := by decide +kernel
theorem dX9_rests_33 : decode cX9_rests 33 = .ok (.if_icmp .ge 14, 3) := by decide +kernel
theorem dX9_rests_36 : decode cX9_rests 36 = .ok (.new 369, 3) := by decide +kernel
theorem dX9_rests_39 : decode cX9_rests 39 = .ok (.dup, 1) := by decide +kernel
theorem dX9_rests_40 : decode cX9_rests 40 = .ok (.ldc_w 371, 3) := by decide +kernel
theorem dX9_rests_43 : decode cX9_rests 43 = .ok (.invokespecial 373, 3) := by decide +kernel
theorem dX9_rests_46 : decode cX9_rests 46 = .ok (.athrow, 1) := by decide +kernel
theorem dX9_rests_47 : decode cX9_rests 47 = .ok (.iconst 0, 1) := by decide +kernel
theorem dX9_rests_48 : decode cX9_rests 48 = .ok (.istore 5, 2) := by decide +kernel
theorem dX9_rests_50 : decode cX9_rests 50 = .ok (.iconst 0, 1) := by decide +kernel
theorem dX9_rests_51 : decode cX9_rests 51 = .ok (.istore 6, 2) := by decide +kernel
theorem dX9_rests_53 : decode cX9_rests 53 = .ok (.iload 6, 2) := by decide +kernel
theorem dX9_rests_55 : decode cX9_rests 55 = .ok (.iconst 4, 1) := by decide +kernel
theorem dX9_rests_56 : decode cX9_rests 56 = .ok (.if_icmp .ge 33, 3) := by decide +kernel
theorem dX9_rests_59 : decode cX9_rests 59 = .ok (.iload_n 1, 1) := by decide +kernel
theorem dX9_rests_60 : decode cX9_rests 60 = .ok (.iload_n 2, 1) := by decide +kernel
theorem dX9_rests_61 : decode cX9_rests 61 = .ok (.iload_n 3, 1) := by decide +kernel
theorem dX9_rests_62 : decode cX9_rests 62 = .ok (.iload 6, 2) := by decide +kernel
theorem dX9_rests_64 : decode cX9_rests 64 = .ok (.invokestatic 376, 3) := by decide +kernel
theorem dX9_rests_67 : decode cX9_rests 67 = .ok (.ifCond .eq 16, 3) := by decide +kernel
theorem dX9_rests_70 : decode cX9_rests 70 = .ok (.iload 5, 2) := by decide +kernel
theorem dX9_rests_72 : decode cX9_rests 72 = .ok (.iload 4, 2) := by decide +kernel
theorem dX9_rests_74 : decode cX9_rests 74 = .ok (.if_icmp .ne 6, 3) := by decide +kernel
theorem dX9_rests_77 : decode cX9_rests 77 = .ok (.iload 6, 2) := by decide +kernel
theorem dX9_rests_79 : decode cX9_rests 79 = .ok (.ireturn, 1) := by decide +kernel
theorem dX9_rests_80 : decode cX9_rests 80 = .ok (.iinc 5 1, 3) := by decide +kernel
theorem dX9_rests_83 : decode cX9_rests 83 = .ok (.iinc 6 1, 3) := by decide +kernel
theorem dX9_rests_86 : decode cX9_rests 86 = .ok (.goto (-33), 3) := by decide +kernel
theorem dX9_rests_89 : decode cX9_rests 89 = .ok (.iload 4, 2) := by decide +kernel
theorem dX9_rests_91 : decode cX9_rests 91 = .ok (.iconst (-1), 1) := by decide +kernel
theorem dX9_rests_92 : decode cX9_rests 92 = .ok (.if_icmp .eq 14, 3) := by decide +kernel
theorem dX9_rests_95 : decode cX9_rests 95 = .ok (.new 369, 3) := by decide +kernel
theorem dX9_rests_98 : decode cX9_rests 98 = .ok (.dup, 1) := by decide +kernel
theorem dX9_rests_99 : decode cX9_rests 99 = .ok (.ldc_w 380, 3) := by decide +kernel
theorem dX9_rests_102 : decode cX9_rests 102 = .ok (.invokespecial 373, 3) := by decide +kernel
theorem dX9_rests_105 : decode cX9_rests 105 = .ok (.athrow, 1) := by decide +kernel
theorem dX9_rests_106 : decode cX9_rests 106 = .ok (.iload 5, 2) := by decide +kernel
theorem dX9_rests_108 : decode cX9_rests 108 = .ok (.ireturn, 1) := by decide +kernel
theorem dX9_isRest_0 : decode cX9_isRest 0 = .ok (.iload_n 3, 1) := by decide +kernel
theorem dX9_isRest_1 : decode cX9_isRest 1 = .ok (.iconst 2, 1) := by decide +kernel
theorem dX9_isRest_2 : decode cX9_isRest 2 = .ok (.idiv, 1) := by decide +kernel
theorem dX9_isRest_3 : decode cX9_isRest 3 = .ok (.istore 4, 2) := by decide +kernel
theorem dX9_isRest_5 : decode cX9_isRest 5 = .ok (.iload_n 3, 1) := by decide +kernel
theorem dX9_isRest_6 : decode cX9_isRest 6 = .ok (.iconst 2, 1) := by decide +kernel
theorem dX9_isRest_7 : decode cX9_isRest 7 = .ok (.irem, 1) := by decide +kernel
theorem dX9_isRest_8 : decode cX9_isRest 8 = .ok (.istore 5, 2) := by decide +kernel
theorem dX9_isRest_10 : decode cX9_isRest 10 = .ok (.iload_n 0, 1) := by decide +kernel
theorem dX9_isRest_11 : decode cX9_isRest 11 = .ok (.iload_n 1, 1) := by decide +kernel
theorem dX9_isRest_12 : decode cX9_isRest 12 = .ok (.iload_n 2, 1) := by decide +kernel
theorem dX9_isRest_13 : decode cX9_isRest 13 = .ok (.iload 4, 2) := by decide +kernel
theorem dX9_isRest_15 : decode cX9_isRest 15 = .ok (.iload 5, 2) := by decide +kernel
theorem dX9_isRest_17 : decode cX9_isRest 17 = .ok (.invokestatic 382, 3) := by decide +kernel
theorem dX9_isRest_20 : decode cX9_isRest 20 = .ok (.iload_n 0, 1) := by decide +kernel
theorem dX9_isRest_21 : decode cX9_isRest 21 = .ok (.iload_n 1, 1) := by decide +kernel
theorem dX9_isRest_22 : decode cX9_isRest 22 = .ok (.iload_n 2, 1) := by decide +kernel
theorem dX9_isRest_23 : decode cX9_isRest 23 = .ok (.iconst 1, 1) := by decide +kernel
theorem dX9_isRest_24 : decode cX9_isRest 24 = .ok (.iload 4, 2) := by decide +kernel
theorem dX9_isRest_26 : decode cX9_isRest 26 = .ok (.isub, 1) := by decide +kernel
theorem dX9_isRest_27 : decode cX9_isRest 27 = .ok (.iload 5, 2) := by decide +kernel
theorem dX9_isRest_29 : decode cX9_isRest 29 = .ok (.invokestatic 382, 3) := by decide +kernel
theorem dX9_isRest_32 : decode cX9_isRest 32 = .ok (.if_icmp .lt 32, 3) := by decide +kernel
theorem dX9_isRest_35 : decode cX9_isRest 35 = .ok (.iload_n 0, 1) := by decide +kernel
theorem dX9_isRest_36 : decode cX9_isRest 36 = .ok (.iload_n 1, 1) := by decide +kernel
theorem dX9_isRest_37 : decode cX9_isRest 37 = .ok (.iload_n 2, 1) := by decide +kernel
theorem dX9_isRest_38 : decode cX9_isRest 38 = .ok (.iload 5, 2) := by decide +kernel
theorem dX9_isRest_40 : decode cX9_isRest 40 = .ok (.iload 4, 2) := by decide +kernel
theorem dX9_isRest_42 : decode cX9_isRest 42 = .ok (.invokestatic 382, 3) := by decide +kernel
theorem dX9_isRest_45 : decode cX9_isRest 45 = .ok (.iload_n 0, 1) := by decide +kernel
theorem dX9_isRest_46 : decode cX9_isRest 46 = .ok (.iload_n 1, 1) := by decide +kernel
theorem dX9_isRest_47 : decode cX9_isRest 47 = .ok (.iload_n 2, 1) := by decide +kernel
theorem dX9_isRest_48 : decode cX9_isRest 48 = .ok (.iconst 1, 1) := by decide +kernel
theorem dX9_isRest_49 : decode cX9_isRest 49 = .ok (.iload 5, 2) := by decide +kernel
theorem dX9_isRest_51 : decode cX9_isRest 51 = .ok (.isub, 1) := by decide +kernel
theorem dX9_isRest_52 : decode cX9_isRest 52 = .ok (.iload 4, 2) := by decide +kernel
theorem dX9_isRest_54 : decode cX9_isRest 54 = .ok (.invokestatic 382, 3) := by decide +kernel
theorem dX9_isRest_57 : decode cX9_isRest 57 = .ok (.if_icmp .lt 7, 3) := by decide +kernel
theorem dX9_isRest_60 : decode cX9_isRest 60 = .ok (.iconst 1, 1) := by decide +kernel
theorem dX9_isRest_61 : decode cX9_isRest 61 = .ok (.goto 4, 3) := by decide +kernel
theorem dX9_isRest_64 : decode cX9_isRest 64 = .ok (.iconst 0, 1) := by decide +kernel
theorem dX9_isRest_65 : decode cX9_isRest 65 = .ok (.ireturn, 1) := by decide +kernel
theorem dX9_pay_0 : decode cX9_pay 0 = .ok (.iload_n 3, 1) := by decide +kernel
theorem dX9_pay_1 : decode cX9_pay 1 = .ok (.iconst 1, 1) := by decide +kernel
theorem dX9_pay_2 : decode cX9_pay 2 = .ok (.if_icmp .ne 16, 3) := by decide +kernel
theorem dX9_pay_5 : decode cX9_pay 5 = .ok (.iload 4, 2) := by decide +kernel
theorem dX9_pay_7 : decode cX9_pay 7 = .ok (.iconst 1, 1) := by decide +kernel
theorem dX9_pay_8 : decode cX9_pay 8 = .ok (.if_icmp .ne 7, 3) := by decide +kernel
theorem dX9_pay_11 : decode cX9_pay 11 = .ok (.iload_n 0, 1) := by decide +kernel
theorem dX9_pay_12 : decode cX9_pay 12 = .ok (.goto 5, 3) := by decide +kernel
theorem dX9_pay_15 : decode cX9_pay 15 = .ok (.iload_n 1, 1) := by decide +kernel
theorem dX9_pay_16 : decode cX9_pay 16 = .ok (.ineg, 1) := by decide +kernel
theorem dX9_pay_17 : decode cX9_pay 17 = .ok (.ireturn, 1) := by decide +kernel
theorem dX9_pay_18 : decode cX9_pay 18 = .ok (.iload 4, 2) := by decide +kernel
theorem dX9_pay_20 : decode cX9_pay 20 = .ok (.iconst 1, 1) := by decide +kernel
theorem dX9_pay_21 : decode cX9_pay 21 = .ok (.if_icmp .ne 7, 3) := by decide +kernel
theorem dX9_pay_24 : decode cX9_pay 24 = .ok (.iload_n 2, 1) := by decide +kernel
theorem dX9_pay_25 : decode cX9_pay 25 = .ok (.goto 4, 3) := by decide +kernel
theorem dX9_pay_28 : decode cX9_pay 28 = .ok (.iconst 0, 1) := by decide +kernel
theorem dX9_pay_29 : decode cX9_pay 29 = .ok (.ireturn, 1) := by decide +kernel
theorem dX9_sessions_0 : decode cX9_sessions 0 = .ok (.iload_n 1, 1) := by decide +kernel
theorem dX9_sessions_1 : decode cX9_sessions 1 = .ok (.iconst 0, 1) := by decide +kernel
theorem dX9_sessions_2 : decode cX9_sessions 2 = .ok (.sipush 9999, 3) := by decide +kernel
theorem dX9_sessions_5 : decode cX9_sessions 5 = .ok (.invokestatic 229, 3) := by decide +kernel
theorem dX9_sessions_8 : decode cX9_sessions 8 = .ok (.ifCond .eq 22, 3) := by decide +kernel
theorem dX9_sessions_11 : decode cX9_sessions 11 = .ok (.iload_n 2, 1) := by decide +kernel
theorem dX9_sessions_12 : decode cX9_sessions 12 = .ok (.iconst 1, 1) := by decide +kernel
theorem dX9_sessions_13 : decode cX9_sessions 13 = .ok (.bipush 99, 2) := by decide +kernel
theorem dX9_sessions_15 : decode cX9_sessions 15 = .ok (.invokestatic 229, 3) := by decide +kernel
theorem dX9_sessions_18 : decode cX9_sessions 18 = .ok (.ifCond .eq 12, 3) := by decide +kernel
theorem dX9_sessions_21 : decode cX9_sessions 21 = .ok (.iload_n 3, 1) := by decide +kernel
theorem dX9_sessions_22 : decode cX9_sessions 22 = .ok (.iconst 0, 1) := by decide +kernel
theorem dX9_sessions_23 : decode cX9_sessions 23 = .ok (.iconst 2, 1) := by decide +kernel
theorem dX9_sessions_24 : decode cX9_sessions 24 = .ok (.invokestatic 229, 3) := by decide +kernel
theorem dX9_sessions_27 : decode cX9_sessions 27 = .ok (.ifCond .ne 5, 3) := by decide +kernel
theorem dX9_sessions_30 : decode cX9_sessions 30 = .ok (.iconst (-1), 1) := by decide +kernel
theorem dX9_sessions_31 : decode cX9_sessions 31 = .ok (.ireturn, 1) := by decide +kernel
theorem dX9_sessions_32 : decode cX9_sessions 32 = .ok (.aload_n 0, 1) := by decide +kernel
theorem dX9_sessions_33 : decode cX9_sessions 33 = .ok (.getfield 43, 3) := by decide +kernel
theorem dX9_sessions_36 : decode cX9_sessions 36 = .ok (.aload_n 0, 1) := by decide +kernel
theorem dX9_sessions_37 : decode cX9_sessions 37 = .ok (.getfield 39, 3) := by decide +kernel
theorem dX9_sessions_40 : decode cX9_sessions 40 = .ok (.invokevirtual 219, 3) := by decide +kernel
theorem dX9_sessions_43 : decode cX9_sessions 43 = .ok (.aload_n 0, 1) := by decide +kernel
theorem dX9_sessions_44 : decode cX9_sessions 44 = .ok (.iload_n 1, 1) := by decide +kernel
theorem dX9_sessions_45 : decode cX9_sessions 45 = .ok (.i2l, 1) := by decide +kernel
theorem dX9_sessions_46 : decode cX9_sessions 46 = .ok (.putfield 386, 3) := by decide +kernel
theorem dX9_sessions_49 : decode cX9_sessions 49 = .ok (.iconst 0, 1) := by decide +kernel
theorem dX9_sessions_50 : decode cX9_sessions 50 = .ok (.istore 4, 2) := by decide +kernel
theorem dX9_sessions_52 : decode cX9_sessions 52 = .ok (.iconst 0, 1) := by decide +kernel
theorem dX9_sessions_53 : decode cX9_sessions 53 = .ok (.istore 5, 2) := by decide +kernel
theorem dX9_sessions_55 : decode cX9_sessions 55 = .ok (.iload 5, 2) := by decide +kernel
theorem dX9_sessions_57 : decode cX9_sessions 57 = .ok (.iload_n 2, 1) := by decide +kernel
theorem dX9_sessions_58 : decode cX9_sessions 58 = .ok (.if_icmp .ge 43, 3) := by decide +kernel
theorem dX9_sessions_61 : decode cX9_sessions 61 = .ok (.aload_n 0, 1) := by decide +kernel
theorem dX9_sessions_62 : decode cX9_sessions 62 = .ok (.getfield 19, 3) := by decide +kernel
theorem dX9_sessions_65 : decode cX9_sessions 65 = .ok (.getfield 125, 3) := by decide +kernel
theorem dX9_sessions_68 : decode cX9_sessions 68 = .ok (.getfield 119, 3) := by decide +kernel
theorem dX9_sessions_71 : decode cX9_sessions 71 = .ok (.ifCond .le 13, 3) := by decide +kernel
theorem dX9_sessions_74 : decode cX9_sessions 74 = .ok (.aload_n 0, 1) := by decide +kernel
theorem dX9_sessions_75 : decode cX9_sessions 75 = .ok (.invokevirtual 390, 3) := by decide +kernel
theorem dX9_sessions_78 : decode cX9_sessions 78 = .ok (.ifCond .eq 6, 3) := by decide +kernel
theorem dX9_sessions_81 : decode cX9_sessions 81 = .ok (.iinc 4 1, 3) := by decide +kernel
theorem dX9_sessions_84 : decode cX9_sessions 84 = .ok (.aload_n 0, 1) := by decide +kernel
theorem dX9_sessions_85 : decode cX9_sessions 85 = .ok (.getfield 43, 3) := by decide +kernel
theorem dX9_sessions_88 : decode cX9_sessions 88 = .ok (.aload_n 0, 1) := by decide +kernel
theorem dX9_sessions_89 : decode cX9_sessions 89 = .ok (.getfield 19, 3) := by decide +kernel
theorem dX9_sessions_92 : decode cX9_sessions 92 = .ok (.invokevirtual 213, 3) := by decide +kernel
theorem dX9_sessions_95 : decode cX9_sessions 95 = .ok (.iinc 5 1, 3) := by decide +kernel
theorem dX9_sessions_98 : decode cX9_sessions 98 = .ok (.goto (-43), 3) := by decide +kernel
theorem dX9_sessions_101 : decode cX9_sessions 101 = .ok (.iload_n 3, 1) := by decide +kernel
theorem dX9_sessions_102 : decode cX9_sessions 102 = .ok (.ifCond .ne 6, 3) := by decide +kernel
theorem dX9_sessions_105 : decode cX9_sessions 105 = .ok (.iload 4, 2) := by decide +kernel
theorem dX9_sessions_107 : decode cX9_sessions 107 = .ok (.ireturn, 1) := by decide +kernel
theorem dX9_sessions_108 : decode cX9_sessions 108 = .ok (.iload_n 3, 1) := by decide +kernel
theorem dX9_sessions_109 : decode cX9_sessions 109 = .ok (.iconst 1, 1) := by decide +kernel
theorem dX9_sessions_110 : decode cX9_sessions 110 = .ok (.if_icmp .ne 17, 3) := by decide +kernel
theorem dX9_sessions_113 : decode cX9_sessions 113 = .ok (.aload_n 0, 1) := by decide +kernel
theorem dX9_sessions_114 : decode cX9_sessions 114 = .ok (.getfield 43, 3) := by decide +kernel
theorem dX9_sessions_117 : decode cX9_sessions 117 = .ok (.aload_n 0, 1) := by decide +kernel
theorem dX9_sessions_118 : decode cX9_sessions 118 = .ok (.getfield 19, 3) := by decide +kernel
theorem dX9_sessions_121 : decode cX9_sessions 121 = .ok (.invokevirtual 394, 3) := by decide +kernel
theorem dX9_sessions_124 : decode cX9_sessions 124 = .ok (.goto 24, 3) := by decide +kernel
theorem dX9_sessions_127 : decode cX9_sessions 127 = .ok (.aload_n 0, 1) := by decide +kernel
theorem dX9_sessions_128 : decode cX9_sessions 128 = .ok (.getfield 43, 3) := by decide +kernel
theorem dX9_sessions_131 : decode cX9_sessions 131 = .ok (.getfield 141, 3) := by decide +kernel
theorem dX9_sessions_134 : decode cX9_sessions 134 = .ok (.aload_n 0, 1) := by decide +kernel
theorem dX9_sessions_135 : decode cX9_sessions 135 = .ok (.getfield 19, 3) := by decide +kernel
theorem dX9_sessions_138 : decode cX9_sessions 138 = .ok (.getfield 122, 3) := by decide +kernel
theorem dX9_sessions_141 : decode cX9_sessions 141 = .ok (.getfield 119, 3) := by decide +kernel
theorem dX9_sessions_144 : decode cX9_sessions 144 = .ok (.iconst 0, 1) := by decide +kernel
theorem dX9_sessions_145 : decode cX9_sessions 145 = .ok (.invokestatic 144, 3) := by decide +kernel
theorem dX9_sessions_148 : decode cX9_sessions 148 = .ok (.ireturn, 1) := by decide +kernel
theorem dX9_doDrawn_0 : decode cX9_doDrawn 0 = .ok (.aload_n 0, 1) := by decide +kernel
theorem dX9_doDrawn_1 : decode cX9_doDrawn 1 = .ok (.aload_n 0, 1) := by decide +kernel
theorem dX9_doDrawn_2 : decode cX9_doDrawn 2 = .ok (.getfield 19, 3) := by decide +kernel
theorem dX9_doDrawn_5 : decode cX9_doDrawn 5 = .ok (.getfield 125, 3) := by decide +kernel
theorem dX9_doDrawn_8 : decode cX9_doDrawn 8 = .ok (.getfield 119, 3) := by decide +kernel
theorem dX9_doDrawn_11 : decode cX9_doDrawn 11 = .ok (.invokevirtual 397, 3) := by decide +kernel
theorem dX9_doDrawn_14 : decode cX9_doDrawn 14 = .ok (.istore_n 1, 1) := by decide +kernel
theorem dX9_doDrawn_15 : decode cX9_doDrawn 15 = .ok (.aload_n 0, 1) := by decide +kernel
theorem dX9_doDrawn_16 : decode cX9_doDrawn 16 = .ok (.aload_n 0, 1) := by decide +kernel
theorem dX9_doDrawn_17 : decode cX9_doDrawn 17 = .ok (.getfield 19, 3) := by decide +kernel
theorem dX9_doDrawn_20 : decode cX9_doDrawn 20 = .ok (.getfield 115, 3) := by decide +kernel
theorem dX9_doDrawn_23 : decode cX9_doDrawn 23 = .ok (.getfield 119, 3) := by decide +kernel
theorem dX9_doDrawn_26 : decode cX9_doDrawn 26 = .ok (.invokevirtual 397, 3) := by decide +kernel
theorem dX9_doDrawn_29 : decode cX9_doDrawn 29 = .ok (.istore_n 2, 1) := by decide +kernel
theorem dX9_doDrawn_30 : decode cX9_doDrawn 30 = .ok (.aload_n 0, 1) := by decide +kernel
theorem dX9_doDrawn_31 : decode cX9_doDrawn 31 = .ok (.iconst 5, 1) := by decide +kernel
theorem dX9_doDrawn_32 : decode cX9_doDrawn 32 = .ok (.invokevirtual 397, 3) := by decide +kernel
theorem dX9_doDrawn_35 : decode cX9_doDrawn 35 = .ok (.istore_n 3, 1) := by decide +kernel
theorem dX9_doDrawn_36 : decode cX9_doDrawn 36 = .ok (.iload_n 3, 1) := by decide +kernel
theorem dX9_doDrawn_37 : decode cX9_doDrawn 37 = .ok (.iconst 3, 1) := by decide +kernel
theorem dX9_doDrawn_38 : decode cX9_doDrawn 38 = .ok (.if_icmp .ge 20, 3) := by decide +kernel
theorem dX9_doDrawn_41 : decode cX9_doDrawn 41 = .ok (.aload_n 0, 1) := by decide +kernel
theorem dX9_doDrawn_42 : decode cX9_doDrawn 42 = .ok (.getfield 43, 3) := by decide +kernel
theorem dX9_doDrawn_45 : decode cX9_doDrawn 45 = .ok (.aload_n 0, 1) := by decide +kernel
theorem dX9_doDrawn_46 : decode cX9_doDrawn 46 = .ok (.getfield 19, 3) := by decide +kernel
theorem dX9_doDrawn_49 : decode cX9_doDrawn 49 = .ok (.iconst 2, 1) := by decide +kernel
theorem dX9_doDrawn_50 : decode cX9_doDrawn 50 = .ok (.iload_n 1, 1) := by decide +kernel
theorem dX9_doDrawn_51 : decode cX9_doDrawn 51 = .ok (.iload_n 2, 1) := by decide +kernel
theorem dX9_doDrawn_52 : decode cX9_doDrawn 52 = .ok (.invokevirtual 257, 3) := by decide +kernel
theorem dX9_doDrawn_55 : decode cX9_doDrawn 55 = .ok (.pop, 1) := by decide +kernel
theorem dX9_doDrawn_56 : decode cX9_doDrawn 56 = .ok (.iconst 0, 1) := by decide +kernel
theorem dX9_doDrawn_57 : decode cX9_doDrawn 57 = .ok (.ireturn, 1) := by decide +kernel
theorem dX9_doDrawn_58 : decode cX9_doDrawn 58 = .ok (.aload_n 0, 1) := by decide +kernel
theorem dX9_doDrawn_59 : decode cX9_doDrawn 59 = .ok (.getfield 19, 3) := by decide +kernel
theorem dX9_doDrawn_62 : decode cX9_doDrawn 62 = .ok (.getfield 128, 3) := by decide +kernel
theorem dX9_doDrawn_65 : decode cX9_doDrawn 65 = .ok (.getfield 119, 3) := by decide +kernel
theorem dX9_doDrawn_68 : decode cX9_doDrawn 68 = .ok (.ifCond .ne 5, 3) := by decide +kernel
theorem dX9_doDrawn_71 : decode cX9_doDrawn 71 = .ok (.iconst 0, 1) := by decide +kernel
theorem dX9_doDrawn_72 : decode cX9_doDrawn 72 = .ok (.ireturn, 1) := by decide +kernel
theorem dX9_doDrawn_73 : decode cX9_doDrawn 73 = .ok (.aload_n 0, 1) := by decide +kernel
theorem dX9_doDrawn_74 : decode cX9_doDrawn 74 = .ok (.aload_n 0, 1) := by decide +kernel
theorem dX9_doDrawn_75 : decode cX9_doDrawn 75 = .ok (.getfield 19, 3) := by decide +kernel
theorem dX9_doDrawn_78 : decode cX9_doDrawn 78 = .ok (.getfield 128, 3) := by decide +kernel
theorem dX9_doDrawn_81 : decode cX9_doDrawn 81 = .ok (.getfield 119, 3) := by decide +kernel
theorem dX9_doDrawn_84 : decode cX9_doDrawn 84 = .ok (.invokevirtual 397, 3) := by decide +kernel
theorem dX9_doDrawn_87 : decode cX9_doDrawn 87 = .ok (.istore 4, 2) := by decide +kernel
theorem dX9_doDrawn_89 : decode cX9_doDrawn 89 = .ok (.iload_n 3, 1) := by decide +kernel
theorem dX9_doDrawn_90 : decode cX9_doDrawn 90 = .ok (.iconst 3, 1) := by decide +kernel
theorem dX9_doDrawn_91 : decode cX9_doDrawn 91 = .ok (.if_icmp .ne 21, 3) := by decide +kernel
theorem dX9_doDrawn_94 : decode cX9_doDrawn 94 = .ok (.aload_n 0, 1) := by decide +kernel
theorem dX9_doDrawn_95 : decode cX9_doDrawn 95 = .ok (.getfield 43, 3) := by decide +kernel
theorem dX9_doDrawn_98 : decode cX9_doDrawn 98 = .ok (.aload_n 0, 1) := by decide +kernel
theorem dX9_doDrawn_99 : decode cX9_doDrawn 99 = .ok (.getfield 19, 3) := by decide +kernel
theorem dX9_doDrawn_102 : decode cX9_doDrawn 102 = .ok (.iconst 1, 1) := by decide +kernel
theorem dX9_doDrawn_103 : decode cX9_doDrawn 103 = .ok (.iload_n 1, 1) := by decide +kernel
theorem dX9_doDrawn_104 : decode cX9_doDrawn 104 = .ok (.iload 4, 2) := by decide +kernel
theorem dX9_doDrawn_106 : decode cX9_doDrawn 106 = .ok (.invokevirtual 257, 3) := by decide +kernel
theorem dX9_doDrawn_109 : decode cX9_doDrawn 109 = .ok (.pop, 1) := by decide +kernel
theorem dX9_doDrawn_110 : decode cX9_doDrawn 110 = .ok (.iconst 0, 1) := by decide +kernel
theorem dX9_doDrawn_111 : decode cX9_doDrawn 111 = .ok (.ireturn, 1) := by decide +kernel
theorem dX9_doDrawn_112 : decode cX9_doDrawn 112 = .ok (.aload_n 0, 1) := by decide +kernel
theorem dX9_doDrawn_113 : decode cX9_doDrawn 113 = .ok (.getfield 43, 3) := by decide +kernel
theorem dX9_doDrawn_116 : decode cX9_doDrawn 116 = .ok (.aload_n 0, 1) := by decide +kernel
theorem dX9_doDrawn_117 : decode cX9_doDrawn 117 = .ok (.getfield 19, 3) := by decide +kernel
theorem dX9_doDrawn_120 : decode cX9_doDrawn 120 = .ok (.iconst 3, 1) := by decide +kernel
theorem dX9_doDrawn_121 : decode cX9_doDrawn 121 = .ok (.iload 4, 2) := by decide +kernel
theorem dX9_doDrawn_123 : decode cX9_doDrawn 123 = .ok (.iconst (-1), 1) := by decide +kernel
theorem dX9_doDrawn_124 : decode cX9_doDrawn 124 = .ok (.invokevirtual 257, 3) := by decide +kernel
theorem dX9_doDrawn_127 : decode cX9_doDrawn 127 = .ok (.ireturn, 1) := by decide +kernel
theorem dX9_draw_0 : decode cX9_draw 0 = .ok (.aload_n 0, 1) := by decide +kernel
theorem dX9_draw_1 : decode cX9_draw 1 = .ok (.aload_n 0, 1) := by decide +kernel
theorem dX9_draw_2 : decode cX9_draw 2 = .ok (.getfield 386, 3) := by decide +kernel
theorem dX9_draw_5 : decode cX9_draw 5 = .ok (.ldc2_w 400, 3) := by decide +kernel
theorem dX9_draw_8 : decode cX9_draw 8 = .ok (.lmul, 1) := by decide +kernel
theorem dX9_draw_9 : decode cX9_draw 9 = .ok (.ldc2_w 402, 3) := by decide +kernel
theorem dX9_draw_12 : decode cX9_draw 12 = .ok (.ladd, 1) := by decide +kernel
theorem dX9_draw_13 : decode cX9_draw 13 = .ok (.ldc2_w 404, 3) := by decide +kernel
theorem dX9_draw_16 : decode cX9_draw 16 = .ok (.lrem, 1) := by decide +kernel
theorem dX9_draw_17 : decode cX9_draw 17 = .ok (.putfield 386, 3) := by decide +kernel
theorem dX9_draw_20 : decode cX9_draw 20 = .ok (.iload_n 1, 1) := by decide +kernel
theorem dX9_draw_21 : decode cX9_draw 21 = .ok (.ifCond .le 18, 3) := by decide +kernel
theorem dX9_draw_24 : decode cX9_draw 24 = .ok (.aload_n 0, 1) := by decide +kernel
theorem dX9_draw_25 : decode cX9_draw 25 = .ok (.getfield 386, 3) := by decide +kernel
theorem dX9_draw_28 : decode cX9_draw 28 = .ok (.ldc2_w 406, 3) := by decide +kernel
theorem dX9_draw_31 : decode cX9_draw 31 = .ok (.ldiv, 1) := by decide +kernel
theorem dX9_draw_32 : decode cX9_draw 32 = .ok (.iload_n 1, 1) := by decide +kernel
theorem dX9_draw_33 : decode cX9_draw 33 = .ok (.i2l, 1) := by decide +kernel
theorem dX9_draw_34 : decode cX9_draw 34 = .ok (.lrem, 1) := by decide +kernel
theorem dX9_draw_35 : decode cX9_draw 35 = .ok (.l2i, 1) := by decide +kernel
theorem dX9_draw_36 : decode cX9_draw 36 = .ok (.goto 4, 3) := by decide +kernel
theorem dX9_draw_39 : decode cX9_draw 39 = .ok (.iconst 0, 1) := by decide +kernel
theorem dX9_draw_40 : decode cX9_draw 40 = .ok (.ireturn, 1) := by decide +kernel
theorem dJ6_bitCount_0f7a4_0 : decode cJ6_bitCount_0f7a4 0 = .ok (.iload_n 0, 1) := by decide +kernel
theorem dJ6_bitCount_0f7a4_1 : decode cJ6_bitCount_0f7a4 1 = .ok (.iload_n 0, 1) := by decide +kernel
theorem dJ6_bitCount_0f7a4_2 : decode cJ6_bitCount_0f7a4 2 = .ok (.iconst 1, 1) := by decide +kernel
theorem dJ6_bitCount_0f7a4_3 : decode cJ6_bitCount_0f7a4 3 = .ok (.iushr, 1) := by decide +kernel
theorem dJ6_bitCount_0f7a4_4 : decode cJ6_bitCount_0f7a4 4 = .ok (.ldc_w 265, 3) := by decide +kernel
theorem dJ6_bitCount_0f7a4_7 : decode cJ6_bitCount_0f7a4 7 = .ok (.iand, 1) := by decide +kernel
theorem dJ6_bitCount_0f7a4_8 : decode cJ6_bitCount_0f7a4 8 = .ok (.isub, 1) := by decide +kernel
theorem dJ6_bitCount_0f7a4_9 : decode cJ6_bitCount_0f7a4 9 = .ok (.istore_n 0, 1) := by decide +kernel
theorem dJ6_bitCount_0f7a4_10 : decode cJ6_bitCount_0f7a4 10 = .ok (.iload_n 0, 1) := by decide +kernel
theorem dJ6_bitCount_0f7a4_11 : decode cJ6_bitCount_0f7a4 11 = .ok (.ldc_w 266, 3) := by decide +kernel
theorem dJ6_bitCount_0f7a4_14 : decode cJ6_bitCount_0f7a4 14 = .ok (.iand, 1) := by decide +kernel
theorem dJ6_bitCount_0f7a4_15 : decode cJ6_bitCount_0f7a4 15 = .ok (.iload_n 0, 1) := by decide +kernel
theorem dJ6_bitCount_0f7a4_16 : decode cJ6_bitCount_0f7a4 16 = .ok (.iconst 2, 1) := by decide +kernel
theorem dJ6_bitCount_0f7a4_17 : decode cJ6_bitCount_0f7a4 17 = .ok (.iushr, 1) := by decide +kernel
theorem dJ6_bitCount_0f7a4_18 : decode cJ6_bitCount_0f7a4 18 = .ok (.ldc_w 266, 3) := by decide +kernel
theorem dJ6_bitCount_0f7a4_21 : decode cJ6_bitCount_0f7a4 21 = .ok (.iand, 1) := by decide +kernel
theorem dJ6_bitCount_0f7a4_22 : decode cJ6_bitCount_0f7a4 22 = .ok (.iadd, 1) := by decide +kernel
theorem dJ6_bitCount_0f7a4_23 : decode cJ6_bitCount_0f7a4 23 = .ok (.istore_n 0, 1) := by decide +kernel
theorem dJ6_bitCount_0f7a4_24 : decode cJ6_bitCount_0f7a4 24 = .ok (.iload_n 0, 1) := by decide +kernel
theorem dJ6_bitCount_0f7a4_25 : decode cJ6_bitCount_0f7a4 25 = .ok (.iload_n 0, 1) := by decide +kernel
theorem dJ6_bitCount_0f7a4_26 : decode cJ6_bitCount_0f7a4 26 = .ok (.iconst 4, 1) := by decide +kernel
theorem dJ6_bitCount_0f7a4_27 : decode cJ6_bitCount_0f7a4 27 = .ok (.iushr, 1) := by decide +kernel
theorem dJ6_bitCount_0f7a4_28 : decode cJ6_bitCount_0f7a4 28 = .ok (.iadd, 1) := by decide +kernel
theorem dJ6_bitCount_0f7a4_29 : decode cJ6_bitCount_0f7a4 29 = .ok (.ldc_w 267, 3) := by decide +kernel
theorem dJ6_bitCount_0f7a4_32 : decode cJ6_bitCount_0f7a4 32 = .ok (.iand, 1) := by decide +kernel
theorem dJ6_bitCount_0f7a4_33 : decode cJ6_bitCount_0f7a4 33 = .ok (.istore_n 0, 1) := by decide +kernel
theorem dJ6_bitCount_0f7a4_34 : decode cJ6_bitCount_0f7a4 34 = .ok (.iload_n 0, 1) := by decide +kernel
theorem dJ6_bitCount_0f7a4_35 : decode cJ6_bitCount_0f7a4 35 = .ok (.iload_n 0, 1) := by decide +kernel
theorem dJ6_bitCount_0f7a4_36 : decode cJ6_bitCount_0f7a4 36 = .ok (.bipush 8, 2) := by decide +kernel
theorem dJ6_bitCount_0f7a4_38 : decode cJ6_bitCount_0f7a4 38 = .ok (.iushr, 1) := by decide +kernel
theorem dJ6_bitCount_0f7a4_39 : decode cJ6_bitCount_0f7a4 39 = .ok (.iadd, 1) := by decide +kernel
theorem dJ6_bitCount_0f7a4_40 : decode cJ6_bitCount_0f7a4 40 = .ok (.istore_n 0, 1) := by decide +kernel
theorem dJ6_bitCount_0f7a4_41 : decode cJ6_bitCount_0f7a4 41 = .ok (.iload_n 0, 1) := by decide +kernel
theorem dJ6_bitCount_0f7a4_42 : decode cJ6_bitCount_0f7a4 42 = .ok (.iload_n 0, 1) := by decide +kernel
theorem dJ6_bitCount_0f7a4_43 : decode cJ6_bitCount_0f7a4 43 = .ok (.bipush 16, 2) := by decide +kernel
theorem dJ6_bitCount_0f7a4_45 : decode cJ6_bitCount_0f7a4 45 = .ok (.iushr, 1) := by decide +kernel
theorem dJ6_bitCount_0f7a4_46 : decode cJ6_bitCount_0f7a4 46 = .ok (.iadd, 1) := by decide +kernel
theorem dJ6_bitCount_0f7a4_47 : decode cJ6_bitCount_0f7a4 47 = .ok (.istore_n 0, 1) := by decide +kernel
theorem dJ6_bitCount_0f7a4_48 : decode cJ6_bitCount_0f7a4 48 = .ok (.iload_n 0, 1) := by decide +kernel
theorem dJ6_bitCount_0f7a4_49 : decode cJ6_bitCount_0f7a4 49 = .ok (.bipush 63, 2) := by decide +kernel
theorem dJ6_bitCount_0f7a4_51 : decode cJ6_bitCount_0f7a4 51 = .ok (.iand, 1) := by decide +kernel
theorem dJ6_bitCount_0f7a4_52 : decode cJ6_bitCount_0f7a4 52 = .ok (.ireturn, 1) := by decide +kernel
theorem dJ9_floorMod_7cf53_0 : decode cJ9_floorMod_7cf53 0 = .ok (.iload_n 0, 1) := by decide +kernel
theorem dJ9_floorMod_7cf53_1 : decode cJ9_floorMod_7cf53 1 = .ok (.iload_n 1, 1) := by decide +kernel
theorem dJ9_floorMod_7cf53_2 : decode cJ9_floorMod_7cf53 2 = .ok (.irem, 1) := by decide +kernel
theorem dJ9_floorMod_7cf53_3 : decode cJ9_floorMod_7cf53 3 = .ok (.istore_n 2, 1) := by decide +kernel
theorem dJ9_floorMod_7cf53_4 : decode cJ9_floorMod_7cf53 4 = .ok (.iload_n 0, 1) := by decide +kernel
theorem dJ9_floorMod_7cf53_5 : decode cJ9_floorMod_7cf53 5 = .ok (.iload_n 1, 1) := by decide +kernel
theorem dJ9_floorMod_7cf53_6 : decode cJ9_floorMod_7cf53 6 = .ok (.ixor, 1) := by decide +kernel
theorem dJ9_floorMod_7cf53_7 : decode cJ9_floorMod_7cf53 7 = .ok (.ifCond .ge 11, 3) := by decide +kernel
theorem dJ9_floorMod_7cf53_10 : decode cJ9_floorMod_7cf53 10 = .ok (.iload_n 2, 1) := by decide +kernel
theorem dJ9_floorMod_7cf53_11 : decode cJ9_floorMod_7cf53 11 = .ok (.ifCond .eq 7, 3) := by decide +kernel
theorem dJ9_floorMod_7cf53_14 : decode cJ9_floorMod_7cf53 14 = .ok (.iload_n 2, 1) := by decide +kernel
theorem dJ9_floorMod_7cf53_15 : decode cJ9_floorMod_7cf53 15 = .ok (.iload_n 1, 1) := by decide +kernel
theorem dJ9_floorMod_7cf53_16 : decode cJ9_floorMod_7cf53 16 = .ok (.iadd, 1) := by decide +kernel
theorem dJ9_floorMod_7cf53_17 : decode cJ9_floorMod_7cf53 17 = .ok (.ireturn, 1) := by decide +kernel
theorem dJ9_floorMod_7cf53_18 : decode cJ9_floorMod_7cf53 18 = .ok (.iload_n 2, 1) := by decide +kernel
theorem dJ9_floorMod_7cf53_19 : decode cJ9_floorMod_7cf53 19 = .ok (.ireturn, 1) := by decide +kernel
theorem dJ9_max_7cf53_0 : decode cJ9_max_7cf53 0 = .ok (.iload_n 0, 1) := by decide +kernel
theorem dJ9_max_7cf53_1 : decode cJ9_max_7cf53 1 = .ok (.iload_n 1, 1) := by decide +kernel
theorem dJ9_max_7cf53_2 : decode cJ9_max_7cf53 2 = .ok (.if_icmp .lt 7, 3) := by decide +kernel
theorem dJ9_max_7cf53_5 : decode cJ9_max_7cf53 5 = .ok (.iload_n 0, 1) := by decide +kernel
theorem dJ9_max_7cf53_6 : decode cJ9_max_7cf53 6 = .ok (.goto 4, 3) := by decide +kernel
theorem dJ9_max_7cf53_9 : decode cJ9_max_7cf53 9 = .ok (.iload_n 1, 1) := by decide +kernel
theorem dJ9_max_7cf53_10 : decode cJ9_max_7cf53 10 = .ok (.ireturn, 1) := by decide +kernel
theorem dJ9_min_7cf53_0 : decode cJ9_min_7cf53 0 = .ok (.iload_n 0, 1) := by decide +kernel
theorem dJ9_min_7cf53_1 : decode cJ9_min_7cf53 1 = .ok (.iload_n 1, 1) := by decide +kernel
theorem dJ9_min_7cf53_2 : decode cJ9_min_7cf53 2 = .ok (.if_icmp .gt 7, 3) := by decide +kernel
theorem dJ9_min_7cf53_5 : decode cJ9_min_7cf53 5 = .ok (.iload_n 0, 1) := by decide +kernel
theorem dJ9_min_7cf53_6 : decode cJ9_min_7cf53 6 = .ok (.goto 4, 3) := by decide +kernel
theorem dJ9_min_7cf53_9 : decode cJ9_min_7cf53 9 = .ok (.iload_n 1, 1) := by decide +kernel
theorem dJ9_min_7cf53_10 : decode cJ9_min_7cf53 10 = .ok (.ireturn, 1) := by decide +kernel
